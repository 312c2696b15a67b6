section XCL
variable {sc : Nat × (Nat → Int32)} {d : Nat} {K : List KD} {r q t a B m : Nat} {w : EW}
/-! the reader goes on -/
def ln (s : SG) : Nat := (s 43 6).toNatClampNeg
def en (s : SG) : Nat := (s 43 9).toNatClampNeg
def st (s : SG) : Nat := (s 43 8).toNatClampNeg
/-- where the reader stands -/
def RA (s : SG) : Prop := s 43 6 = nI (ln s) ∧ ln s ≤ 600 ∧ s 43 9 = nI (en s) ∧ en s ≤ ln s
def RS (s : SG) : Prop := RA s ∧ s 43 8 = nI (st s) ∧ st s ≤ en s
def tok (s : SG) (j : Nat) : Int32 := cl 600 (s 54) (nI j)
def skB (s : SG) : Nat → Nat → Nat
  | 0, j => j
  | n + 1, j => if isb_I (tok s j) = 0 then j else skB s n (j + 1)
def skL (s : SG) : Nat → Nat → Nat
  | 0, j => j
  | n + 1, j => if isl_I (tok s j) = 0 then j else skL s n (j + 1)
def skD (s : SG) : Nat → Nat → Nat
  | 0, j => j
  | n + 1, j => if isd_I (tok s j) = 0 then j else skD s n (j + 1)
theorem skB_le {s : SG} : ∀ (n j : Nat), j ≤ skB s n j ∧ skB s n j ≤ j + n := by
  intro n
  induction n with
  | zero => intro j; rw [skB]; omega
  | succ n ih =>
    intro j
    rw [skB]
    split
    · omega
    · have := ih (j + 1); omega
theorem skL_le {s : SG} : ∀ (n j : Nat), j ≤ skL s n j ∧ skL s n j ≤ j + n := by
  intro n
  induction n with
  | zero => intro j; rw [skL]; omega
  | succ n ih =>
    intro j
    rw [skL]
    split
    · omega
    · have := ih (j + 1); omega
theorem skD_le {s : SG} : ∀ (n j : Nat), j ≤ skD s n j ∧ skD s n j ≤ j + n := by
  intro n
  induction n with
  | zero => intro j; rw [skD]; omega
  | succ n ih =>
    intro j
    rw [skD]
    split
    · omega
    · have := ih (j + 1); omega
theorem up_up {s : SG} {k j : Nat} {x y : Int32} : up (up s k j x) k j y = up s k j y := by
  funext a
  by_cases e : a = k
  · subst e
    rw [up_s, up_s, up_s]
    funext i
    by_cases g : i = j
    · subst g; rw [pk_us, pk_us]
    · rw [pk_un g, pk_un g, pk_un g]
  · rw [up_n e, up_n e, up_n e]
theorem up_self {s : SG} {k j : Nat} {x : Int32} (h : s k j = x) : up s k j x = s := by
  funext a
  by_cases e : a = k
  · subst e
    rw [up_s]
    funext i
    by_cases g : i = j
    · subst g; rw [pk_us, h]
    · rw [pk_un g]
  · rw [up_n e]
theorem l_adv8 {s : SG} {L : Nat} (h : SH K) (hL : s 43 6 = nI L) (h6 : L ≤ 600) {i : Nat → List EV → EW → XR} (hi : i = xN sc (d + 1)) : ∀ (n j k : Nat), j + n = L → n ≤ k → ∃ k', k ≤ k' + n ∧ fW sc 1 0 false 1 i (ex sc 1 0 false 1 i kX1_advance_0 k) kX1_advance_8 8 [some (.inr (.inr (.inl (some 43))))] [] (wl K (up s 43 8 (nI j))) = fW sc 1 0 false 1 i (ex sc 1 0 false 1 i kX1_advance_0 k') kX1_advance_49 49 [some (.inr (.inr (.inl (some 43))))] [] (wl K (up s 43 8 (nI (skB s n j)))) := by
  subst hi
  intro n
  induction n with
  | zero =>
    intro j k hj hk
    refine ⟨k, by omega, ?_⟩
    simp (decide := true) only [uX1_advance_8, qX1_advance_8, jX1_advance_19_49, jX1_advance_36_49, jX1_advance_68_76, jX1_advance_76_257, jX1_advance_93_139, jX1_advance_109_257, jX1_advance_126_257, jX1_advance_156_222, jX1_advance_167_197, jX1_advance_184_197, jX1_advance_211_215, jX1_advance_215_216, jX1_advance_222_257, jX1_advance_239_243, jX1_advance_243_244, jX1_advance_0_8, jX1_advance_0_98, jX1_advance_0_156, c43_g8 h, c43_g6 h, bd_eq, up_a, up_b, hL, if_pos (k_ge hj)]
    rw [skB]
  | succ n ih =>
    intro j k hj hk
    obtain ⟨k, rfl⟩ : ∃ k', k = k' + 1 := ⟨k - 1, by omega⟩
    obtain ⟨k2, hk2, e⟩ := ih (j + 1) k (by omega) (by omega)
    rw [nI_succ] at e
    simp (decide := true) only [uX1_advance_8, qX1_advance_8, jX1_advance_19_49, jX1_advance_36_49, jX1_advance_68_76, jX1_advance_76_257, jX1_advance_93_139, jX1_advance_109_257, jX1_advance_126_257, jX1_advance_156_222, jX1_advance_167_197, jX1_advance_184_197, jX1_advance_211_215, jX1_advance_215_216, jX1_advance_222_257, jX1_advance_239_243, jX1_advance_243_244, jX1_advance_0_8, jX1_advance_0_98, jX1_advance_0_156, c43_g8 h, c43_g6 h, bd_eq, up_a, up_b, hL, if_neg (k_lt hj (show L < 2 ^ 31 by omega))]
    simp (decide := true) only [uX1_advance_19, qX1_advance_19, jX1_advance_19_49, jX1_advance_36_49, jX1_advance_68_76, jX1_advance_76_257, jX1_advance_93_139, jX1_advance_109_257, jX1_advance_126_257, jX1_advance_156_222, jX1_advance_167_197, jX1_advance_184_197, jX1_advance_211_215, jX1_advance_215_216, jX1_advance_222_257, jX1_advance_239_243, jX1_advance_243_244, jX1_advance_0_8, jX1_advance_0_98, jX1_advance_0_156, c43_g4 h, c43_g8 h, bd_eq, up_a, lc54 h, xci_eq, up_c, c_isBlank]
    rw [skB]
    unfold tok
    split
    · exact ⟨k + 1, by omega, rfl⟩
    · refine ⟨k2, by omega, ?_⟩
      simp (decide := true) only [uX1_advance_36, qX1_advance_36, jX1_advance_19_49, jX1_advance_36_49, jX1_advance_68_76, jX1_advance_76_257, jX1_advance_93_139, jX1_advance_109_257, jX1_advance_126_257, jX1_advance_156_222, jX1_advance_167_197, jX1_advance_184_197, jX1_advance_211_215, jX1_advance_215_216, jX1_advance_222_257, jX1_advance_239_243, jX1_advance_243_244, jX1_advance_0_8, jX1_advance_0_98, jX1_advance_0_156, c43_g8 h, c43_p8 h, bd_eq, up_a, up_up, eX_eq]
      exact e
theorem l_adv98 {s : SG} {L : Nat} (h : SH K) (hL : s 43 6 = nI L) (h6 : L ≤ 600) {i : Nat → List EV → EW → XR} (hi : i = xN sc (d + 1)) : ∀ (n j k : Nat), j + n = L → n ≤ k → fW sc 1 0 false 1 i (ex sc 1 0 false 1 i kX1_advance_0 k) kX1_advance_98 98 [some (.inr (.inr (.inl (some 43))))] [] (wl K (up s 43 9 (nI j))) = some (none, wl K (up s 43 9 (nI (skL s n j)))) := by
  subst hi
  intro n
  induction n with
  | zero =>
    intro j k hj hk
    simp (decide := true) only [uX1_advance_98, qX1_advance_98, jX1_advance_19_49, jX1_advance_36_49, jX1_advance_68_76, jX1_advance_76_257, jX1_advance_93_139, jX1_advance_109_257, jX1_advance_126_257, jX1_advance_156_222, jX1_advance_167_197, jX1_advance_184_197, jX1_advance_211_215, jX1_advance_215_216, jX1_advance_222_257, jX1_advance_239_243, jX1_advance_243_244, jX1_advance_0_8, jX1_advance_0_98, jX1_advance_0_156, c43_g9 h, c43_g6 h, bd_eq, up_a, up_b, hL, if_pos (k_ge hj)]
    simp (decide := true) only [uX1_advance_257, qX1_advance_257, jX1_advance_19_49, jX1_advance_36_49, jX1_advance_68_76, jX1_advance_76_257, jX1_advance_93_139, jX1_advance_109_257, jX1_advance_126_257, jX1_advance_156_222, jX1_advance_167_197, jX1_advance_184_197, jX1_advance_211_215, jX1_advance_215_216, jX1_advance_222_257, jX1_advance_239_243, jX1_advance_243_244, jX1_advance_0_8, jX1_advance_0_98, jX1_advance_0_156]
    rw [skL]
  | succ n ih =>
    intro j k hj hk
    obtain ⟨k, rfl⟩ : ∃ k', k = k' + 1 := ⟨k - 1, by omega⟩
    have e := ih (j + 1) k (by omega) (by omega)
    rw [nI_succ] at e
    simp (decide := true) only [uX1_advance_98, qX1_advance_98, jX1_advance_19_49, jX1_advance_36_49, jX1_advance_68_76, jX1_advance_76_257, jX1_advance_93_139, jX1_advance_109_257, jX1_advance_126_257, jX1_advance_156_222, jX1_advance_167_197, jX1_advance_184_197, jX1_advance_211_215, jX1_advance_215_216, jX1_advance_222_257, jX1_advance_239_243, jX1_advance_243_244, jX1_advance_0_8, jX1_advance_0_98, jX1_advance_0_156, c43_g9 h, c43_g6 h, bd_eq, up_a, up_b, hL, if_neg (k_lt hj (show L < 2 ^ 31 by omega))]
    simp (decide := true) only [uX1_advance_109, qX1_advance_109, jX1_advance_19_49, jX1_advance_36_49, jX1_advance_68_76, jX1_advance_76_257, jX1_advance_93_139, jX1_advance_109_257, jX1_advance_126_257, jX1_advance_156_222, jX1_advance_167_197, jX1_advance_184_197, jX1_advance_211_215, jX1_advance_215_216, jX1_advance_222_257, jX1_advance_239_243, jX1_advance_243_244, jX1_advance_0_8, jX1_advance_0_98, jX1_advance_0_156, c43_g4 h, c43_g9 h, bd_eq, up_a, lc54 h, xci_eq, up_c, c_isLetter]
    rw [skL]
    unfold tok
    split
    · simp (decide := true) only [uX1_advance_257, qX1_advance_257, jX1_advance_19_49, jX1_advance_36_49, jX1_advance_68_76, jX1_advance_76_257, jX1_advance_93_139, jX1_advance_109_257, jX1_advance_126_257, jX1_advance_156_222, jX1_advance_167_197, jX1_advance_184_197, jX1_advance_211_215, jX1_advance_215_216, jX1_advance_222_257, jX1_advance_239_243, jX1_advance_243_244, jX1_advance_0_8, jX1_advance_0_98, jX1_advance_0_156]
    · simp (decide := true) only [uX1_advance_126, qX1_advance_126, jX1_advance_19_49, jX1_advance_36_49, jX1_advance_68_76, jX1_advance_76_257, jX1_advance_93_139, jX1_advance_109_257, jX1_advance_126_257, jX1_advance_156_222, jX1_advance_167_197, jX1_advance_184_197, jX1_advance_211_215, jX1_advance_215_216, jX1_advance_222_257, jX1_advance_239_243, jX1_advance_243_244, jX1_advance_0_8, jX1_advance_0_98, jX1_advance_0_156, c43_g9 h, c43_p9 h, bd_eq, up_a, up_up, eX_eq]
      exact e
theorem l_adv156 {s : SG} {L : Nat} (h : SH K) (hL : s 43 6 = nI L) (h6 : L ≤ 600) {i : Nat → List EV → EW → XR} (hi : i = xN sc (d + 1)) : ∀ (n j k : Nat), j + n = L → n ≤ k → ∃ k', k ≤ k' + n ∧ fW sc 1 0 false 1 i (ex sc 1 0 false 1 i kX1_advance_0 k) kX1_advance_156 156 [some (.inr (.inr (.inl (some 43))))] [] (wl K (up s 43 9 (nI j))) = fW sc 1 0 false 1 i (ex sc 1 0 false 1 i kX1_advance_0 k') kX1_advance_197 197 [some (.inr (.inr (.inl (some 43))))] [] (wl K (up s 43 9 (nI (skD s n j)))) := by
  subst hi
  intro n
  induction n with
  | zero =>
    intro j k hj hk
    refine ⟨k, by omega, ?_⟩
    simp (decide := true) only [uX1_advance_156, qX1_advance_156, jX1_advance_19_49, jX1_advance_36_49, jX1_advance_68_76, jX1_advance_76_257, jX1_advance_93_139, jX1_advance_109_257, jX1_advance_126_257, jX1_advance_156_222, jX1_advance_167_197, jX1_advance_184_197, jX1_advance_211_215, jX1_advance_215_216, jX1_advance_222_257, jX1_advance_239_243, jX1_advance_243_244, jX1_advance_0_8, jX1_advance_0_98, jX1_advance_0_156, c43_g9 h, c43_g6 h, bd_eq, up_a, up_b, hL, if_pos (k_ge hj)]
    rw [skD]
  | succ n ih =>
    intro j k hj hk
    obtain ⟨k, rfl⟩ : ∃ k', k = k' + 1 := ⟨k - 1, by omega⟩
    obtain ⟨k2, hk2, e⟩ := ih (j + 1) k (by omega) (by omega)
    rw [nI_succ] at e
    simp (decide := true) only [uX1_advance_156, qX1_advance_156, jX1_advance_19_49, jX1_advance_36_49, jX1_advance_68_76, jX1_advance_76_257, jX1_advance_93_139, jX1_advance_109_257, jX1_advance_126_257, jX1_advance_156_222, jX1_advance_167_197, jX1_advance_184_197, jX1_advance_211_215, jX1_advance_215_216, jX1_advance_222_257, jX1_advance_239_243, jX1_advance_243_244, jX1_advance_0_8, jX1_advance_0_98, jX1_advance_0_156, c43_g9 h, c43_g6 h, bd_eq, up_a, up_b, hL, if_neg (k_lt hj (show L < 2 ^ 31 by omega))]
    simp (decide := true) only [uX1_advance_167, qX1_advance_167, jX1_advance_19_49, jX1_advance_36_49, jX1_advance_68_76, jX1_advance_76_257, jX1_advance_93_139, jX1_advance_109_257, jX1_advance_126_257, jX1_advance_156_222, jX1_advance_167_197, jX1_advance_184_197, jX1_advance_211_215, jX1_advance_215_216, jX1_advance_222_257, jX1_advance_239_243, jX1_advance_243_244, jX1_advance_0_8, jX1_advance_0_98, jX1_advance_0_156, c43_g4 h, c43_g9 h, bd_eq, up_a, lc54 h, xci_eq, up_c, c_isDigit]
    rw [skD]
    unfold tok
    split
    · exact ⟨k + 1, by omega, rfl⟩
    · refine ⟨k2, by omega, ?_⟩
      simp (decide := true) only [uX1_advance_184, qX1_advance_184, jX1_advance_19_49, jX1_advance_36_49, jX1_advance_68_76, jX1_advance_76_257, jX1_advance_93_139, jX1_advance_109_257, jX1_advance_126_257, jX1_advance_156_222, jX1_advance_167_197, jX1_advance_184_197, jX1_advance_211_215, jX1_advance_215_216, jX1_advance_222_257, jX1_advance_239_243, jX1_advance_243_244, jX1_advance_0_8, jX1_advance_0_98, jX1_advance_0_156, c43_g9 h, c43_p9 h, bd_eq, up_a, up_up, eX_eq]
      exact e
/-- where the next token begins -/
def bg (s : SG) : Nat := skB s (ln s - en s) (en s)
def adv1 (s : SG) : SG := up (up s 43 8 (nI (bg s))) 43 9 (nI (bg s))
def advS (s : SG) : SG := if nI (bg s) < nI (ln s) then (if isl_I (tok s (bg s)) = 0 then (if isd_I (tok s (bg s)) = 0 then up (up (adv1 s) 43 7 (if tok s (bg s) = 59 then 3 else 4)) 43 9 (nI (bg s) + 1)
      else up (up (adv1 s) 43 9 (nI (skD s (ln s - bg s) (bg s)))) 43 7 (if 2 < nI (skD s (ln s - bg s) (bg s)) - nI (bg s) then 4 else 2))
    else up (up (adv1 s) 43 7 1) 43 9 (nI (skL s (ln s - bg s) (bg s)))) else up (adv1 s) 43 7 0
theorem skL_c {s t : SG} (e : s 54 = t 54) : ∀ (n j : Nat), skL s n j = skL t n j := by
  intro n
  induction n with
  | zero => intro j; rfl
  | succ n ih => intro j; rw [skL, skL, ih]; unfold tok; rw [e]
theorem skD_c {s t : SG} (e : s 54 = t 54) : ∀ (n j : Nat), skD s n j = skD t n j := by
  intro n
  induction n with
  | zero => intro j; rfl
  | succ n ih => intro j; rw [skD, skD, ih]; unfold tok; rw [e]
theorem bg_le {s : SG} (ra : RA s) : en s ≤ bg s ∧ bg s ≤ ln s := by
  have := skB_le (s := s) (ln s - en s) (en s)
  have := ra.2.2.2
  unfold bg; omega
theorem c_advance {s : SG} (h : SH K) (ra : RA s) : xN sc (d + 2) 36 [.inr (.inr (.inl (some 43)))] (wl K s) = some (none, wl K (advS s)) := by
  have hb := bg_le ra
  have hF := xF_ge
  obtain ⟨h1, h2, h3, h4⟩ := ra
  rw [mX1_advance]
  simp (decide := true) only [uX1_advance_0, qX1_advance_0, jX1_advance_19_49, jX1_advance_36_49, jX1_advance_68_76, jX1_advance_76_257, jX1_advance_93_139, jX1_advance_109_257, jX1_advance_126_257, jX1_advance_156_222, jX1_advance_167_197, jX1_advance_184_197, jX1_advance_211_215, jX1_advance_215_216, jX1_advance_222_257, jX1_advance_239_243, jX1_advance_243_244, jX1_advance_0_8, jX1_advance_0_98, jX1_advance_0_156, c43_g9 h, c43_p8 h, bd_eq, h3]
  obtain ⟨k, hk, e⟩ := l_adv8 (sc := sc) (d := d) (s := s) h h1 h2 rfl (ln s - en s) (en s) xF (by omega) (by omega)
  rw [e]
  show fW sc 1 0 false 1 (xN sc (d + 1)) (ex sc 1 0 false 1 (xN sc (d + 1)) kX1_advance_0 k) kX1_advance_49 49 [some (.inr (.inr (.inl (some 43))))] [] (wl K (up s 43 8 (nI (bg s)))) = _
  simp (decide := true) only [uX1_advance_49, qX1_advance_49, jX1_advance_19_49, jX1_advance_36_49, jX1_advance_68_76, jX1_advance_76_257, jX1_advance_93_139, jX1_advance_109_257, jX1_advance_126_257, jX1_advance_156_222, jX1_advance_167_197, jX1_advance_184_197, jX1_advance_211_215, jX1_advance_215_216, jX1_advance_222_257, jX1_advance_239_243, jX1_advance_243_244, jX1_advance_0_8, jX1_advance_0_98, jX1_advance_0_156, c43_g8 h, c43_p9 h, c43_g6 h, bd_eq, up_a, up_b]
  rw [h1]
  unfold advS
  by_cases c1 : nI (bg s) < nI (ln s)
  · rw [if_pos c1, if_pos c1]
    simp (decide := true) only [uX1_advance_76, qX1_advance_76, jX1_advance_19_49, jX1_advance_36_49, jX1_advance_68_76, jX1_advance_76_257, jX1_advance_93_139, jX1_advance_109_257, jX1_advance_126_257, jX1_advance_156_222, jX1_advance_167_197, jX1_advance_184_197, jX1_advance_211_215, jX1_advance_215_216, jX1_advance_222_257, jX1_advance_239_243, jX1_advance_243_244, jX1_advance_0_8, jX1_advance_0_98, jX1_advance_0_156, c43_g4 h, c43_g8 h, bd_eq, up_a, up_b, up_c, lc54 h, xci_eq, c_isLetter]
    have t0 : cl 600 (s 54) (nI (bg s)) = tok s (bg s) := rfl
    rw [t0]
    by_cases c2 : isl_I (tok s (bg s)) = 0
    · rw [if_pos c2, if_pos c2]
      simp (decide := true) only [uX1_advance_139, qX1_advance_139, jX1_advance_19_49, jX1_advance_36_49, jX1_advance_68_76, jX1_advance_76_257, jX1_advance_93_139, jX1_advance_109_257, jX1_advance_126_257, jX1_advance_156_222, jX1_advance_167_197, jX1_advance_184_197, jX1_advance_211_215, jX1_advance_215_216, jX1_advance_222_257, jX1_advance_239_243, jX1_advance_243_244, jX1_advance_0_8, jX1_advance_0_98, jX1_advance_0_156, c43_g4 h, c43_g8 h, bd_eq, up_a, up_b, up_c, lc54 h, xci_eq, c_isDigit]
      rw [t0]
      by_cases c3 : isd_I (tok s (bg s)) = 0
      · rw [if_pos c3, if_pos c3]
        simp (decide := true) only [uX1_advance_222, qX1_advance_222, jX1_advance_19_49, jX1_advance_36_49, jX1_advance_68_76, jX1_advance_76_257, jX1_advance_93_139, jX1_advance_109_257, jX1_advance_126_257, jX1_advance_156_222, jX1_advance_167_197, jX1_advance_184_197, jX1_advance_211_215, jX1_advance_215_216, jX1_advance_222_257, jX1_advance_239_243, jX1_advance_243_244, jX1_advance_0_8, jX1_advance_0_98, jX1_advance_0_156, c43_g4 h, c43_g8 h, bd_eq, up_a, up_b, up_c, lc54 h, xci_eq]
        rw [t0]
        by_cases c4 : tok s (bg s) = 59
        · rw [if_pos c4, if_pos c4]
          simp (decide := true) only [uX1_advance_239, uX1_advance_243, uX1_advance_244, uX1_advance_257, qX1_advance_239, qX1_advance_243, qX1_advance_244, qX1_advance_257, jX1_advance_19_49, jX1_advance_36_49, jX1_advance_68_76, jX1_advance_76_257, jX1_advance_93_139, jX1_advance_109_257, jX1_advance_126_257, jX1_advance_156_222, jX1_advance_167_197, jX1_advance_184_197, jX1_advance_211_215, jX1_advance_215_216, jX1_advance_222_257, jX1_advance_239_243, jX1_advance_243_244, jX1_advance_0_8, jX1_advance_0_98, jX1_advance_0_156, c43_p7 h, c43_g9 h, c43_p9 h, bd_eq, up_a, up_b]
          rfl
        · rw [if_neg c4, if_neg c4]
          simp (decide := true) only [uX1_advance_239, uX1_advance_243, uX1_advance_244, uX1_advance_257, qX1_advance_239, qX1_advance_243, qX1_advance_244, qX1_advance_257, jX1_advance_19_49, jX1_advance_36_49, jX1_advance_68_76, jX1_advance_76_257, jX1_advance_93_139, jX1_advance_109_257, jX1_advance_126_257, jX1_advance_156_222, jX1_advance_167_197, jX1_advance_184_197, jX1_advance_211_215, jX1_advance_215_216, jX1_advance_222_257, jX1_advance_239_243, jX1_advance_243_244, jX1_advance_0_8, jX1_advance_0_98, jX1_advance_0_156, c43_p7 h, c43_g9 h, c43_p9 h, bd_eq, up_a, up_b]
          rfl
      · rw [if_neg c3, if_neg c3]
        have e2 : up (adv1 s) 43 9 (nI (bg s)) = adv1 s := up_self (by unfold adv1; rw [up_a])
        obtain ⟨k2, hk2, e3⟩ := l_adv156 (sc := sc) (d := d) (s := adv1 s) (L := ln s) h (by unfold adv1; rw [up_b (by decide), up_b (by decide), h1]) h2 rfl (ln s - bg s) (bg s) k (by omega) (by omega)
        rw [e2] at e3
        rw [show up (up s 43 8 (nI (bg s))) 43 9 (nI (bg s)) = adv1 s from rfl, e3]
        rw [skD_c (s := adv1 s) (t := s) (by unfold adv1; rw [up_c (by decide), up_c (by decide)])]
        have e8 : (up (adv1 s) 43 9 (nI (skD s (ln s - bg s) (bg s)))) 43 8 = nI (bg s) := by unfold adv1; rw [up_b (by decide), up_b (by decide), up_a]
        simp (decide := true) only [uX1_advance_197, qX1_advance_197, jX1_advance_19_49, jX1_advance_36_49, jX1_advance_68_76, jX1_advance_76_257, jX1_advance_93_139, jX1_advance_109_257, jX1_advance_126_257, jX1_advance_156_222, jX1_advance_167_197, jX1_advance_184_197, jX1_advance_211_215, jX1_advance_215_216, jX1_advance_222_257, jX1_advance_239_243, jX1_advance_243_244, jX1_advance_0_8, jX1_advance_0_98, jX1_advance_0_156, c43_g9 h, c43_g8 h, bd_eq, up_a, e8]
        by_cases c4 : 2 < nI (skD s (ln s - bg s) (bg s)) - nI (bg s)
        · rw [if_pos c4, if_pos c4]
          simp (decide := true) only [uX1_advance_211, uX1_advance_215, uX1_advance_216, uX1_advance_222, uX1_advance_239, uX1_advance_243, uX1_advance_244, uX1_advance_257, qX1_advance_211, qX1_advance_215, qX1_advance_216, qX1_advance_222, qX1_advance_239, qX1_advance_243, qX1_advance_244, qX1_advance_257, jX1_advance_19_49, jX1_advance_36_49, jX1_advance_68_76, jX1_advance_76_257, jX1_advance_93_139, jX1_advance_109_257, jX1_advance_126_257, jX1_advance_156_222, jX1_advance_167_197, jX1_advance_184_197, jX1_advance_211_215, jX1_advance_215_216, jX1_advance_222_257, jX1_advance_239_243, jX1_advance_243_244, jX1_advance_0_8, jX1_advance_0_98, jX1_advance_0_156, c43_p7 h, bd_eq]
        · rw [if_neg c4, if_neg c4]
          simp (decide := true) only [uX1_advance_211, uX1_advance_215, uX1_advance_216, uX1_advance_222, uX1_advance_239, uX1_advance_243, uX1_advance_244, uX1_advance_257, qX1_advance_211, qX1_advance_215, qX1_advance_216, qX1_advance_222, qX1_advance_239, qX1_advance_243, qX1_advance_244, qX1_advance_257, jX1_advance_19_49, jX1_advance_36_49, jX1_advance_68_76, jX1_advance_76_257, jX1_advance_93_139, jX1_advance_109_257, jX1_advance_126_257, jX1_advance_156_222, jX1_advance_167_197, jX1_advance_184_197, jX1_advance_211_215, jX1_advance_215_216, jX1_advance_222_257, jX1_advance_239_243, jX1_advance_243_244, jX1_advance_0_8, jX1_advance_0_98, jX1_advance_0_156, c43_p7 h, bd_eq]
    · rw [if_neg c2, if_neg c2]
      simp (decide := true) only [uX1_advance_93, qX1_advance_93, jX1_advance_19_49, jX1_advance_36_49, jX1_advance_68_76, jX1_advance_76_257, jX1_advance_93_139, jX1_advance_109_257, jX1_advance_126_257, jX1_advance_156_222, jX1_advance_167_197, jX1_advance_184_197, jX1_advance_211_215, jX1_advance_215_216, jX1_advance_222_257, jX1_advance_239_243, jX1_advance_243_244, jX1_advance_0_8, jX1_advance_0_98, jX1_advance_0_156, c43_p7 h, bd_eq]
      have e2 : up (up (adv1 s) 43 7 1) 43 9 (nI (bg s)) = up (adv1 s) 43 7 1 := up_self (by unfold adv1; rw [up_b (by decide), up_a])
      have e3 := l_adv98 (sc := sc) (d := d) (s := up (adv1 s) 43 7 1) (L := ln s) h (by unfold adv1; rw [up_b (by decide), up_b (by decide), up_b (by decide), h1]) h2 rfl (ln s - bg s) (bg s) k (by omega) (by omega)
      rw [e2] at e3
      rw [show up (up s 43 8 (nI (bg s))) 43 9 (nI (bg s)) = adv1 s from rfl, e3]
      rw [skL_c (s := up (adv1 s) 43 7 1) (t := s) (by unfold adv1; rw [up_c (by decide), up_c (by decide), up_c (by decide)])]
  · rw [if_neg c1, if_neg c1]
    simp (decide := true) only [uX1_advance_68, qX1_advance_68, jX1_advance_19_49, jX1_advance_36_49, jX1_advance_68_76, jX1_advance_76_257, jX1_advance_93_139, jX1_advance_109_257, jX1_advance_126_257, jX1_advance_156_222, jX1_advance_167_197, jX1_advance_184_197, jX1_advance_211_215, jX1_advance_215_216, jX1_advance_222_257, jX1_advance_239_243, jX1_advance_243_244, jX1_advance_0_8, jX1_advance_0_98, jX1_advance_0_156, uX1_advance_257, qX1_advance_257, jX1_advance_19_49, jX1_advance_36_49, jX1_advance_68_76, jX1_advance_76_257, jX1_advance_93_139, jX1_advance_109_257, jX1_advance_126_257, jX1_advance_156_222, jX1_advance_167_197, jX1_advance_184_197, jX1_advance_211_215, jX1_advance_215_216, jX1_advance_222_257, jX1_advance_239_243, jX1_advance_243_244, jX1_advance_0_8, jX1_advance_0_98, jX1_advance_0_156, c43_p7 h, bd_eq]
    rfl
theorem advS_n {s : SG} {c : Nat} (hc : c ≠ 43) : advS s c = s c := by
  unfold advS adv1
  repeat' split
  all_goals simp only [up_n hc]
theorem advS_lo {s : SG} {c : Nat} (ha : c < 42 ∨ 64 ≤ c) : advS s c = s c := advS_n (by omega)
/-- after a step: where the reader stands -/
theorem advS_at {s : SG} (ra : RA s) : ∃ b, advS s 43 6 = nI (ln s) ∧ advS s 43 8 = nI (bg s) ∧ advS s 43 9 = nI b ∧ bg s ≤ b ∧ b ≤ ln s ∧ (advS s 43 7 ≠ 0 → en s < b) ∧ (advS s 43 7 = 2 → b ≤ bg s + 2) := by
  have hb := bg_le ra
  obtain ⟨h1, h2, h3, h4⟩ := ra
  unfold advS
  by_cases c1 : nI (bg s) < nI (ln s)
  · have hlt : bg s < ln s := by
      rw [Int32.lt_iff_toInt_lt, nI_toInt (by omega), nI_toInt (by omega)] at c1; omega
    rw [if_pos c1]
    by_cases c2 : isl_I (tok s (bg s)) = 0
    · rw [if_pos c2]
      by_cases c3 : isd_I (tok s (bg s)) = 0
      · rw [if_pos c3]
        refine ⟨bg s + 1, ?_, ?_, ?_, by omega, by omega, fun _ => by omega, fun _ => by omega⟩
        · unfold adv1; simp (decide := true) only [up_a, up_b]; exact h1
        · unfold adv1; simp (decide := true) only [up_a, up_b]
        · rw [up_a, nI_succ]
      · rw [if_neg c3]
        have hs := skD_le (s := s) (ln s - bg s) (bg s)
        obtain ⟨n, hn⟩ : ∃ n, ln s - bg s = n + 1 := ⟨ln s - bg s - 1, by omega⟩
        have hs2 : bg s + 1 ≤ skD s (ln s - bg s) (bg s) := by
          rw [hn, skD, if_neg c3]
          exact (skD_le n (bg s + 1)).1
        refine ⟨skD s (ln s - bg s) (bg s), ?_, ?_, ?_, by omega, by omega, fun _ => by omega, ?_⟩
        · unfold adv1; simp (decide := true) only [up_a, up_b]; exact h1
        · unfold adv1; simp (decide := true) only [up_a, up_b]
        · simp (decide := true) only [up_a, up_b]
        · rw [up_a]
          intro q
          split at q
          · exact absurd q (by decide)
          · rename_i c5
            rw [Int32.not_lt] at c5
            generalize skD s (ln s - bg s) (bg s) = e at *
            have e5 : nI e - nI (bg s) = nI (e - bg s) := by
              have := nI_add (e - bg s) (bg s)
              rw [show e - bg s + bg s = e by omega] at this
              rw [← this, Int32.add_sub_cancel]
            rw [e5, Int32.le_iff_toInt_le, nI_toInt (by omega)] at c5
            have : (2 : Int32).toInt = 2 := by decide
            omega
    · rw [if_neg c2]
      have hs := skL_le (s := s) (ln s - bg s) (bg s)
      obtain ⟨n, hn⟩ : ∃ n, ln s - bg s = n + 1 := ⟨ln s - bg s - 1, by omega⟩
      have hs2 : bg s + 1 ≤ skL s (ln s - bg s) (bg s) := by
        rw [hn, skL, if_neg c2]
        exact (skL_le n (bg s + 1)).1
      refine ⟨skL s (ln s - bg s) (bg s), ?_, ?_, ?_, by omega, by omega, fun _ => by omega, ?_⟩
      · unfold adv1; simp (decide := true) only [up_a, up_b]; exact h1
      · unfold adv1; simp (decide := true) only [up_a, up_b]
      · rw [up_a]
      · unfold adv1
        intro q
        simp (decide := true) only [up_a, up_b] at q
  · rw [if_neg c1]
    refine ⟨bg s, ?_, ?_, ?_, by omega, by omega, ?_, ?_⟩
    · unfold adv1; simp (decide := true) only [up_a, up_b]; exact h1
    · unfold adv1; simp (decide := true) only [up_a, up_b]
    · unfold adv1; simp (decide := true) only [up_a, up_b]
    · intro q; rw [up_a] at q; exact absurd rfl q
    · intro q; rw [up_a] at q; exact absurd q (by decide)
theorem advS_RS {s : SG} (ra : RA s) : RS (advS s) := by
  obtain ⟨b, a6, a8, a9, b1, b2, b3, b4⟩ := advS_at ra
  have h2 := ra.2.1
  have e6 : ln (advS s) = ln s := by unfold ln; rw [a6, nI_clamp (by unfold ln at *; omega)]; rfl
  have e9 : en (advS s) = b := by unfold en; rw [a9, nI_clamp (by omega)]
  have e8 : st (advS s) = bg s := by unfold st; rw [a8, nI_clamp (by omega)]
  refine ⟨⟨?_, ?_, ?_, ?_⟩, ?_, ?_⟩
  · rw [e6]; exact a6
  · rw [e6]; exact h2
  · rw [e9]; exact a9
  · rw [e9, e6]; exact b2
  · rw [e8]; exact a8
  · rw [e8, e9]; exact b1
end XCL
