section XCQ
variable {sc : Nat × (Nat → Int32)} {d : Nat} {K : List KD} {r q t a B m : Nat} {w : EW}
/-! images: all that is told, copied -/
theorem RPB {B j : Nat} (h : TD K B) (hj : j < 2) : RP K (B + 5 + 8 * j) := by
  rcases (by omega : j = 0 ∨ j = 1) with e | e <;> subst e
  · exact cT_r5 h
  · exact cT_r13 h
theorem RWB {B j : Nat} (t : TD K B) (hj : j < 10) : RW K (B + 21 + 2 * j) := by
  rcases (by omega : j = 0 ∨ j = 1 ∨ j = 2 ∨ j = 3 ∨ j = 4 ∨ j = 5 ∨ j = 6 ∨ j = 7 ∨ j = 8 ∨ j = 9) with e | e | e | e | e | e | e | e | e | e <;> subst e
  · exact cT_w0 t
  · exact cT_w1 t
  · exact cT_w2 t
  · exact cT_w3 t
  · exact cT_w4 t
  · exact cT_w5 t
  · exact cT_w6 t
  · exact cT_w7 t
  · exact cT_w8 t
  · exact cT_w9 t
def cpT0 (s : SG) (B C : Nat) : SG := cpS 6 (up (up (up (cpS 600 s (C + 1) (B + 1)) B 1 (s C 1)) B 2 (s C 2)) B 3 (s C 3)) (C + 2) (B + 2)
def cpTr (s : SG) (B C : Nat) : Nat → SG
  | 0 => s
  | j + 1 => cprS (cpTr s B C j) (B + 5 + 8 * j) (C + 5 + 8 * j)
def cpTw (s : SG) (B C : Nat) : Nat → SG
  | 0 => s
  | j + 1 => cpwS (cpTw s B C j) (B + 21 + 2 * j) (C + 21 + 2 * j)
theorem l_copyToldR {s : SG} {B C : Nat} (hB : TD K B) (hC : TD K C) (hd : B + 41 ≤ C ∨ C + 41 ≤ B) : ∀ (n j k : Nat), j + n = 2 → n ≤ k → ∃ k', k ≤ k' + n ∧ fW sc 5 0 false 3 (xN sc (d + 2)) (ex sc 5 0 false 3 (xN sc (d + 2)) kX5_copyTold_0 k) kX5_copyTold_48 48 [some (.inr (.inr (.inl (some B)))), some (.inr (.inr (.inl (some C)))), some (.inl (nI j))] [] (wl K (cpTr s B C j)) = fW sc 5 0 false 3 (xN sc (d + 2)) (ex sc 5 0 false 3 (xN sc (d + 2)) kX5_copyTold_0 k') kX5_copyTold_105 105 [some (.inr (.inr (.inl (some B)))), some (.inr (.inr (.inl (some C)))), some (.inl (nI 2))] [] (wl K (cpTr s B C 2)) := by
  intro n
  induction n with
  | zero =>
    intro j k hj hk
    have e : j = 2 := by omega
    subst e
    refine ⟨k, by omega, ?_⟩
    simp only [uX5_copyTold_48, qX5_copyTold_48, jX5_copyTold_57_105, jX5_copyTold_66_105, jX5_copyTold_75_99, jX5_copyTold_84_99, jX5_copyTold_116_164, jX5_copyTold_125_164, jX5_copyTold_134_158, jX5_copyTold_143_158, jX5_copyTold_0_48, jX5_copyTold_0_107, cT_g5 hB, cT3_n hB, bd_eq, if_pos (Int32.le_refl (nI 2))]
  | succ n ih =>
    intro j k hj hk
    obtain ⟨k, rfl⟩ : ∃ k', k = k' + 1 := ⟨k - 1, by omega⟩
    obtain ⟨k2, hk2, e⟩ := ih (j + 1) k (by omega) (by omega)
    refine ⟨k2, by omega, ?_⟩
    rw [nI_succ, cpTr] at e
    have hx := k_lt hj (show 2 < 2 ^ 31 by decide)
    have xi : xvb (nI j) 2 = true := xvb_nI (by omega) (by decide)
    have gB : ∀ s : SG, xdq (wl K s) (nI j) (.inr (.inr (.inl (some (B + 3))))) = some (some (B + 5 + 8 * j)) := by
      intro s
      have g := cT3_d (s := s) hB xi
      rw [nI_clamp (by omega), if_pos (by omega)] at g; exact g
    have gC : ∀ s : SG, xdq (wl K s) (nI j) (.inr (.inr (.inl (some (C + 3))))) = some (some (C + 5 + 8 * j)) := by
      intro s
      have g := cT3_d (s := s) hC xi
      rw [nI_clamp (by omega), if_pos (by omega)] at g; exact g
    simp only [uX5_copyTold_48, qX5_copyTold_48, jX5_copyTold_57_105, jX5_copyTold_66_105, jX5_copyTold_75_99, jX5_copyTold_84_99, jX5_copyTold_116_164, jX5_copyTold_125_164, jX5_copyTold_134_158, jX5_copyTold_143_158, jX5_copyTold_0_48, jX5_copyTold_0_107, cT_g5 hB, cT3_n hB, bd_eq, if_neg hx]
    simp only [uX5_copyTold_57, uX5_copyTold_66, uX5_copyTold_75, uX5_copyTold_84, uX5_copyTold_99, qX5_copyTold_57, qX5_copyTold_66, qX5_copyTold_75, qX5_copyTold_84, qX5_copyTold_99, jX5_copyTold_57_105, jX5_copyTold_66_105, jX5_copyTold_75_99, jX5_copyTold_84_99, jX5_copyTold_116_164, jX5_copyTold_125_164, jX5_copyTold_134_158, jX5_copyTold_143_158, jX5_copyTold_0_48, jX5_copyTold_0_107, cT_g5 hB, cT_g5 hC, cT3_n hC, bd_eq, if_neg hx, gB, gC, Option.isNone_some, cond_false, cR_v (RPB hB (show j < 2 by omega)), cond_true, c_copyRepublic (RPB hB (show j < 2 by omega)) (RPB hC (show j < 2 by omega)) (by omega), xcv_eq, eX_eq]
    exact e
theorem l_copyToldW {s : SG} {B C : Nat} (hB : TD K B) (hC : TD K C) (hd : B + 41 ≤ C ∨ C + 41 ≤ B) : ∀ (n j k : Nat), j + n = 10 → n ≤ k → fW sc 5 0 false 3 (xN sc (d + 2)) (ex sc 5 0 false 3 (xN sc (d + 2)) kX5_copyTold_0 k) kX5_copyTold_107 107 [some (.inr (.inr (.inl (some B)))), some (.inr (.inr (.inl (some C)))), some (.inl (nI j))] [] (wl K (cpTw s B C j)) = some (none, wl K (cpTw s B C 10)) := by
  intro n
  induction n with
  | zero =>
    intro j k hj hk
    have e : j = 10 := by omega
    subst e
    simp only [uX5_copyTold_107, qX5_copyTold_107, jX5_copyTold_57_105, jX5_copyTold_66_105, jX5_copyTold_75_99, jX5_copyTold_84_99, jX5_copyTold_116_164, jX5_copyTold_125_164, jX5_copyTold_134_158, jX5_copyTold_143_158, jX5_copyTold_0_48, jX5_copyTold_0_107, cT_g6 hB, cT4_n hB, bd_eq, if_pos (Int32.le_refl (nI 10))]
    simp only [uX5_copyTold_164, qX5_copyTold_164, jX5_copyTold_57_105, jX5_copyTold_66_105, jX5_copyTold_75_99, jX5_copyTold_84_99, jX5_copyTold_116_164, jX5_copyTold_125_164, jX5_copyTold_134_158, jX5_copyTold_143_158, jX5_copyTold_0_48, jX5_copyTold_0_107]
  | succ n ih =>
    intro j k hj hk
    obtain ⟨k, rfl⟩ : ∃ k', k = k' + 1 := ⟨k - 1, by omega⟩
    have e := ih (j + 1) k (by omega) (by omega)
    rw [nI_succ, cpTw] at e
    have hx := k_lt hj (show 10 < 2 ^ 31 by decide)
    have xi : xvb (nI j) 10 = true := xvb_nI (by omega) (by decide)
    have gB : ∀ s : SG, xdq (wl K s) (nI j) (.inr (.inr (.inl (some (B + 4))))) = some (some (B + 21 + 2 * j)) := by
      intro s
      have g := cT4_d (s := s) hB xi
      rw [nI_clamp (by omega), if_pos (by omega)] at g; exact g
    have gC : ∀ s : SG, xdq (wl K s) (nI j) (.inr (.inr (.inl (some (C + 4))))) = some (some (C + 21 + 2 * j)) := by
      intro s
      have g := cT4_d (s := s) hC xi
      rw [nI_clamp (by omega), if_pos (by omega)] at g; exact g
    simp only [uX5_copyTold_107, qX5_copyTold_107, jX5_copyTold_57_105, jX5_copyTold_66_105, jX5_copyTold_75_99, jX5_copyTold_84_99, jX5_copyTold_116_164, jX5_copyTold_125_164, jX5_copyTold_134_158, jX5_copyTold_143_158, jX5_copyTold_0_48, jX5_copyTold_0_107, cT_g6 hB, cT4_n hB, bd_eq, if_neg hx]
    simp only [uX5_copyTold_116, uX5_copyTold_125, uX5_copyTold_134, uX5_copyTold_143, uX5_copyTold_158, qX5_copyTold_116, qX5_copyTold_125, qX5_copyTold_134, qX5_copyTold_143, qX5_copyTold_158, jX5_copyTold_57_105, jX5_copyTold_66_105, jX5_copyTold_75_99, jX5_copyTold_84_99, jX5_copyTold_116_164, jX5_copyTold_125_164, jX5_copyTold_134_158, jX5_copyTold_143_158, jX5_copyTold_0_48, jX5_copyTold_0_107, cT_g6 hB, cT_g6 hC, cT4_n hC, bd_eq, if_neg hx, gB, gC, Option.isNone_some, cond_false, cW_v (RWB hB (show j < 10 by omega)), cond_true, c_copyRows (RWB hB (show j < 10 by omega)) (RWB hC (show j < 10 by omega)) (by omega), xcv_eq, eX_eq]
    exact e
def cpTS (s : SG) (B C : Nat) : SG := cpTw (cpTr (cpT0 s B C) B C 2) B C 10
theorem c_copyTold {s : SG} {B C : Nat} (hB : TD K B) (hC : TD K C) (hd : B + 41 ≤ C ∨ C + 41 ≤ B) : xN sc (d + 3) 70 [.inr (.inr (.inl (some B))), .inr (.inr (.inl (some C)))] (wl K s) = some (none, wl K (cpTS s B C)) := by
  have hF := xF_ge
  rw [mX5_copyTold]
  simp (disch := omega) only [uX5_copyTold_0, qX5_copyTold_0, jX5_copyTold_57_105, jX5_copyTold_66_105, jX5_copyTold_75_99, jX5_copyTold_84_99, jX5_copyTold_116_164, jX5_copyTold_125_164, jX5_copyTold_134_158, jX5_copyTold_143_158, jX5_copyTold_0_48, jX5_copyTold_0_107, cT_g0 hB, cT_g0 hC, c_copy600 (hC 1 (by decide)) (hB 1 (by decide)), cT_g1 hC, cT_p1 hB, cT_g2 hC, cT_p2 hB, cT_g3 hC, cT_p3 hB, cT_g4 hC, cT_g4 hB, c_copy6 (hC 2 (by decide)) (hB 2 (by decide)), bd_eq, xcv_eq, up_n, cp_n]
  obtain ⟨k, hk, e⟩ := l_copyToldR (sc := sc) (d := d) (s := cpT0 s B C) hB hC hd 2 0 xF rfl (by omega)
  refine e.trans ?_
  simp only [uX5_copyTold_105, qX5_copyTold_105, jX5_copyTold_57_105, jX5_copyTold_66_105, jX5_copyTold_75_99, jX5_copyTold_84_99, jX5_copyTold_116_164, jX5_copyTold_125_164, jX5_copyTold_134_158, jX5_copyTold_143_158, jX5_copyTold_0_48, jX5_copyTold_0_107]
  exact l_copyToldW (sc := sc) (d := d) (s := cpTr (cpT0 s B C) B C 2) hB hC hd 10 0 k rfl (by omega)
theorem cpT0_n {s : SG} {B C c : Nat} (h : c < B ∨ B + 3 ≤ c) : cpT0 s B C c = s c := by
  unfold cpT0
  simp (disch := omega) only [up_n, cp_n]
theorem cpTr_n {s : SG} {B C c : Nat} : ∀ j, (c < B + 5 ∨ B + 5 + 8 * j ≤ c) → cpTr s B C j c = s c := by
  intro j
  induction j with
  | zero => intro _; rfl
  | succ j ih => intro h; rw [cpTr, cprS_n (by omega), ih (by omega)]
theorem cpTw_n {s : SG} {B C c : Nat} : ∀ j, (c < B + 21 ∨ B + 21 + 2 * j ≤ c) → cpTw s B C j c = s c := by
  intro j
  induction j with
  | zero => intro _; rfl
  | succ j ih => intro h; rw [cpTw, cpwS_n (by omega), ih (by omega)]
theorem cpTS_n {s : SG} {B C c : Nat} (h : c < B ∨ B + 41 ≤ c) : cpTS s B C c = s c := by
  unfold cpTS
  rw [cpTw_n 10 (by omega), cpTr_n 2 (by omega), cpT0_n (by omega)]
theorem cpTS_TB {s : SG} {B C : Nat} (hd : B + 41 ≤ C ∨ C + 41 ≤ B) (h : TB s C) : TB (cpTS s B C) B := by
  obtain ⟨h1, h2, h3, l, h4, h5⟩ := h
  refine ⟨?_, ?_, ?_, l, ?_, h5⟩
  · refine SZ_of (s := cpTr (cpT0 s B C) B C 2) (cpTw_n 10 (by omega)) ?_
    rw [cpTr, cpTr]
    refine SZ_of (cprS_n (by omega)) (cprS_SZ ?_)
    exact SZ_of (by show cpTr (cpT0 s B C) B C 0 _ = _; rw [cpTr, cpT0_n (by omega)]) h1
  · refine SZ_of (s := cpTr (cpT0 s B C) B C 2) (cpTw_n 10 (by omega)) ?_
    rw [cpTr]
    refine cprS_SZ ?_
    exact SZ_of (by rw [cpTr_n 1 (by omega), cpT0_n (by omega)]) h2
  · intro j hj
    have e : ∀ m, m ≤ 10 → j < m → RZ (cpTw (cpTr (cpT0 s B C) B C 2) B C m) (B + 21 + 2 * j) := by
      intro m
      induction m with
      | zero => intro _ h0; omega
      | succ m ih =>
        intro hm h0
        rw [cpTw]
        by_cases q : j = m
        · subst q
          refine cpwS_RZ ?_
          exact RZ_of (by rw [cpTw_n j (by omega), cpTr_n 2 (by omega), cpT0_n (by omega)]) (h3 j hj)
        · exact RZ_of (cpwS_n (by omega)) (ih (by omega) (by omega))
    exact e 10 (by omega) hj
  · unfold cpTS
    rw [cpTw_n 10 (by omega), cpTr_n 2 (by omega)]
    unfold cpT0
    rw [cp_n (by omega), up_bn (by decide), up_bn (by decide), up_a]
    exact h4
/-- a world with a cell's object changed -/
theorem wl_setQ {s : SG} {k : Nat} {t n : Nat} {f g : Nat → Option Nat} (h : K[k]? = some (kQ t n f)) : (wl K s).set k (cQ t n g) = wl (K.set k (kQ t n g)) s := by
  apply List.ext_getElem?
  intro a
  rw [List.getElem?_set]
  simp only [wl, List.getElem?_mapIdx, List.length_mapIdx, List.getElem?_set]
  by_cases e : k = a
  · subst e
    obtain ⟨hl, hh⟩ := List.getElem?_eq_some_iff.mp h
    rw [if_pos rfl, if_pos hl, if_pos rfl, if_pos hl]
    rfl
  · rw [if_neg e, if_neg e]
theorem xtq_wl {s : SG} {k q t n ci j : Nat} {f : Nat → Option Nat} {fs : List (Option EV)} (hk : K[k]? = some (kQ t n f)) (hq : K[q]? = some (kO ci fs)) (ht : (Nat.ble 2 t && Nat.ble t 4) = true) (hj : j < n) (hn : n < 2 ^ 31) (hc : Nat.beq ci (xco_of t) = true) : xtq (wl K s) (nI j) (.inr (.inr (.inl (some q)))) (.inr (.inr (.inl (some k)))) = some (wl (K.set k (kQ t n (va_up f j (some q)))) s) := by
  unfold xtq
  simp only [wl_get hk, wl_get hq, fc, xvb_nI hj hn, hc, ht, Bool.and_self, cond_true, Option.some.injEq]
  rw [nI_clamp (by omega)]
  exact wl_setQ hk
def nwS (s : SG) (n : Nat) : SG := fun a j => if a < n then s a j else if a = n then (if j = 3 then -1 else 0) else 0
theorem wl_new {s : SG} : wl K s ++ tld0 K.length = wl (K ++ KT K.length) (nwS s K.length) := by
  apply List.ext_getElem?
  intro a
  by_cases h : a < K.length
  · rw [List.getElem?_append_left (by rw [wl_len]; exact h)]
    simp only [wl, List.getElem?_mapIdx]
    rw [List.getElem?_append_left h]
    have e : nwS s K.length a = s a := by funext j; unfold nwS; rw [if_pos h]
    rw [e]
  · rw [List.getElem?_append_right (by rw [wl_len]; omega), wl_len]
    simp only [wl, List.getElem?_mapIdx]
    rw [List.getElem?_append_right (by omega)]
    obtain ⟨b, rfl⟩ : ∃ b, a = K.length + b := ⟨a - K.length, by omega⟩
    rw [Nat.add_sub_cancel_left]
    by_cases hb : b = 0
    · subst hb
      have e : nwS s K.length (K.length + 0) = fun j => if j = 3 then -1 else 0 := by
        funext j; unfold nwS; rw [if_neg (by omega), if_pos (by omega)]
      rw [e]; rfl
    · have e : nwS s K.length (K.length + b) = z0 := by
        funext j; unfold nwS; rw [if_neg (by omega), if_neg (by omega)]
      rw [e]
      by_cases h41 : b < 41
      · rcases (by omega : b = 1 ∨ b = 2 ∨ b = 3 ∨ b = 4 ∨ b = 5 ∨ b = 6 ∨ b = 7 ∨ b = 8 ∨ b = 9 ∨ b = 10 ∨ b = 11 ∨ b = 12 ∨ b = 13 ∨ b = 14 ∨ b = 15 ∨ b = 16 ∨ b = 17 ∨ b = 18 ∨ b = 19 ∨ b = 20 ∨ b = 21 ∨ b = 22 ∨ b = 23 ∨ b = 24 ∨ b = 25 ∨ b = 26 ∨ b = 27 ∨ b = 28 ∨ b = 29 ∨ b = 30 ∨ b = 31 ∨ b = 32 ∨ b = 33 ∨ b = 34 ∨ b = 35 ∨ b = 36 ∨ b = 37 ∨ b = 38 ∨ b = 39 ∨ b = 40) with q | q | q | q | q | q | q | q | q | q | q | q | q | q | q | q | q | q | q | q | q | q | q | q | q | q | q | q | q | q | q | q | q | q | q | q | q | q | q | q <;> subst q <;> rfl
      · rw [List.getElem?_eq_none (by show 41 ≤ b; omega)]
        rw [List.getElem?_eq_none (l := KT K.length) (by show 41 ≤ b; omega)]
        rfl
end XCQ
