section XTD
variable {sc : Nat × (Nat → Int32)} {d : Nat} {K : List KD} {r q t a B m : Nat} {w : EW}
/-! one token, on both sides -/
theorem pD_in {f : Nat → Int32} : ∀ (n j i : Nat), j ≤ i → i < pD f n j → ¬ isd_I (f i) = 0 := by
  intro n
  induction n with
  | zero => intro j i h1 h2; rw [pD] at h2; omega
  | succ n ih =>
    intro j i h1 h2
    rw [pD] at h2
    split at h2
    · omega
    · rename_i c
      by_cases e : i = j
      · subst e; exact c
      · exact ih (j + 1) i (by omega) h2
theorem pL_lt {f : Nat → Int32} {n j : Nat} (hn : 0 < n) (h : ¬ isl_I (f j) = 0) : j < pL f n j := by
  obtain ⟨n, rfl⟩ : ∃ n', n = n' + 1 := ⟨n - 1, by omega⟩
  rw [pL, if_neg h]
  have := pL_le (f := f) n (j + 1); omega
theorem pD_lt {f : Nat → Int32} {n j : Nat} (hn : 0 < n) (h : ¬ isd_I (f j) = 0) : j < pD f n j := by
  obtain ⟨n, rfl⟩ : ∃ n', n = n' + 1 := ⟨n - 1, by omega⟩
  rw [pD, if_neg h]
  have := pD_le (f := f) n (j + 1); omega
theorem digit_nI {x : Int32} (h : ¬ isd_I x = 0) : ∃ v, x = nI (48 + v) ∧ v ≤ 9 := by
  unfold isd_I at h
  by_cases c1 : x < 48
  · rw [if_pos c1] at h; exact absurd rfl h
  · by_cases c2 : 57 < x
    · rw [if_neg c1, if_pos c2] at h; exact absurd rfl h
    · have q1 := Int32.not_lt.mp c1
      have q2 := Int32.not_lt.mp c2
      rw [Int32.le_iff_toInt_le] at q1 q2
      have e1 : (48 : Int32).toInt = 48 := by decide
      have e2 : (57 : Int32).toInt = 57 := by decide
      rw [e1] at q1; rw [e2] at q2
      have hx : ¬ x < 0 := by
        rw [Int32.not_lt, Int32.le_iff_toInt_le]
        have : (0 : Int32).toInt = 0 := by decide
        omega
      have e := Int32.cast_toNatClampNeg x (Int32.not_lt.mp hx)
      refine ⟨x.toNatClampNeg - 48, ?_, by omega⟩
      rw [show 48 + (x.toNatClampNeg - 48) = x.toNatClampNeg by omega]
      exact (Int32.ofNat_toNatClampNeg x (Int32.not_lt.mp hx)).symm
theorem nuF_99 {f : Nat → Int32} {a k : Nat} (hk : k ≤ 2) (hd : ∀ i, a ≤ i → i < a + k → ¬ isd_I (f i) = 0) : NB (nuF f k a 0) 99 := by
  have step : ∀ (x v : Nat), 10 * nI x + nI (48 + v) - 48 = nI (10 * x + v) := by
    intro x v
    rw [show (10 : Int32) * nI x = nI (10 * x) from nI_mulx 10 x, nI_add, show (48 : Int32) = nI 48 from rfl, nI_subn (by omega), show 10 * x + (48 + v) - 48 = 10 * x + v by omega]
  rcases (by omega : k = 0 ∨ k = 1 ∨ k = 2) with rfl | rfl | rfl
  · exact ⟨0, rfl, by omega⟩
  · obtain ⟨v, ev, hv⟩ := digit_nI (hd a (by omega) (by omega))
    refine ⟨10 * 0 + v, ?_, by omega⟩
    rw [nuF_s, nuF, Nat.add_zero, ev]
    exact step 0 v
  · obtain ⟨v, ev, hv⟩ := digit_nI (hd a (by omega) (by omega))
    obtain ⟨v2, ev2, hv2⟩ := digit_nI (hd (a + 1) (by omega) (by omega))
    refine ⟨10 * (10 * 0 + v) + v2, ?_, by omega⟩
    have e1 : nuF f 1 a 0 = nI (10 * 0 + v) := by
      rw [nuF_s, nuF, Nat.add_zero, ev]
      exact step 0 v
    rw [nuF_s, e1, ev2]
    exact step _ v2
theorem numL_p {f : Nat → Int32} {L : Nat} {u : SG} (h : ∀ j, j < L → tok u j = f j) : ∀ (n j : Nat) (y : Int32), j + n ≤ L → numL u n j y = nuF f n j y := by
  intro n
  induction n with
  | zero => intro j y _; rfl
  | succ n ih => intro j y hj; rw [numL, nuF, h j (by omega), ih (j + 1) _ (by omega)]
/-- the word that lies there, as both say it -/
def TW (u v : SG) : Prop := (v 64 5 = 4 ∧ ∀ z ∈ ZS, choI u z = -1) ∨ ∃ c, c < 32 ∧ v 64 5 = 3 ∧ v 64 7 = nI (c + 1) ∧ ∀ z ∈ ZS, choI u z = tb z c
/-- the token from a to e of L bytes, as both say it -/
def TK (L a e : Nat) (u v : SG) : Prop := u 43 8 = nI a ∧ u 43 9 = nI e ∧ v 64 4 = nI a ∧ v 64 3 = nI e ∧ e ≤ L ∧ ((a = L ∧ e = L ∧ u 43 7 = 0 ∧ v 64 5 = 0) ∨ (a < e ∧ ((u 43 7 = 1 ∧ TW u v) ∨ (u 43 7 = 2 ∧ v 64 5 = 1 ∧ numL u (e - a) a 0 = v 64 6 ∧ NB (v 64 6) 99) ∨ (u 43 7 = 3 ∧ v 64 5 = 2) ∨ (u 43 7 = 4 ∧ v 64 5 = 4))))
theorem ZS_18 : ∀ z ∈ ZS, z < 18 := by decide
theorem WL_c {l : List Int32} (h : l ∈ WL) : ∃ c, c < 32 ∧ WL.getD c [] = l := by
  obtain ⟨c, hc, e⟩ := List.mem_iff_getElem.mp h
  refine ⟨c, hc, ?_⟩
  rw [List.getD_eq_getElem?_getD, List.getElem?_eq_getElem hc]
  exact e
theorem tok_2 {f : Nat → Int32} {L p : Nat} {t u v : SG} (hc : CB f L u) (hr : RTt f L t) (h1 : CT f L p u) (h2 : RTk f L p t v) : ∃ a e, p ≤ a ∧ TK L a e u v := by
  obtain ⟨e, he, hpe, h8, h9, kc⟩ := h1
  obtain ⟨e', he', hpe', h4, ax, kr⟩ := h2
  have hL := hr.2.1
  have hb := hc.2.2
  have lb := pB_le (f := f) (L - p) p
  have h3 := ax.1
  generalize pB f (L - p) p = a at *
  refine ⟨a, e, lb.1, h8, h9, h4, ?_⟩
  rcases kc with ⟨a1, a2, a3⟩ | ⟨a1, a2, a3, a4⟩ | ⟨a1, a2, a3, a4, a5⟩ | ⟨a1, a2, a3, a4, a5⟩ <;> rcases kr with ⟨b1, b2, b3⟩ | ⟨b1, b2, b3, b4, b5⟩ | ⟨b1, b2, b3, b4, b5, b6⟩ | ⟨b1, b2, b3, b4, b5⟩ <;> try omega
  all_goals try exact absurd a2 b2
  all_goals try exact absurd b2 a2
  all_goals try exact absurd a3 b3
  all_goals try exact absurd b3 a3
  · rw [← b2] at a2
    exact ⟨by rw [h3, a2], by omega, Or.inl ⟨a1, by omega, a3, b3⟩⟩
  · have ee : e' = e := b3.trans a3.symm
    subst ee
    have lt := pL_lt (n := L - a) (by omega) a2
    have li := pL_in (f := f) (L - a) a
    rw [← a3] at lt li
    refine ⟨h3, he, Or.inr ⟨lt, Or.inl ⟨a4, ?_⟩⟩⟩
    have ch : ∀ z ∈ ZS, choI u z = ixW (tkl f (e' - a) a) (Ws z) 0 := fun z hz => choI_e (ZS_18 z hz) a4 h8 h9 hL hb (by omega) he
    by_cases c : tkl f (e' - a) a ∈ WL
    · obtain ⟨c0, hc0, ec⟩ := WL_c c
      have l8 := WL_8 _ c
      rw [tkl_len] at l8
      have ecod : cod f a (e' - a) = nI (c0 + 1) := by
        unfold cod
        rw [if_pos l8, wordOf_e l8 (fun i hi => li (a + i) (by omega) (by omega)), ← ec, codT_c c0 hc0]
      have n99 : ¬ cod f a (e' - a) = 99 := by
        rw [ecod]
        intro q
        have := nI_inj (b := 99) (by omega) (by decide) q
        omega
      rw [if_neg n99] at b5
      exact Or.inr ⟨c0, hc0, b5, b4.trans ecod, fun z hz => by rw [ch z hz, ← ec]; rfl⟩
    · refine Or.inl ⟨?_, fun z hz => ?_⟩
      · have e99 : cod f a (e' - a) = 99 := by
          unfold cod
          split
          · rename_i l8
            rw [wordOf_e l8 (fun i hi => li (a + i) (by omega) (by omega)), codT_n c]
          · rfl
        rw [b5, if_pos e99]
      · rw [ch z hz]
        exact ixW_n _ _ (fun g hg e => c (e ▸ Ws_in z hz g hg))
  · have ee : e' = e := b4.trans a4.symm
    subst ee
    have lt := pD_lt (n := L - a) (by omega) a3
    have li := pD_in (f := f) (L - a) a
    rw [← a4] at lt li
    refine ⟨h3, he, Or.inr ⟨lt, ?_⟩⟩
    by_cases c : e' - a ≤ 2
    · rw [if_pos c] at b5
      rw [if_neg (by omega)] at a5
      refine Or.inr (Or.inl ⟨a5, b5, ?_, ?_⟩)
      · rw [b6 c]; exact numL_p hb _ _ _ (by omega)
      · rw [b6 c]; exact nuF_99 c (fun i h1 h2 => li i h1 (by omega))
    · rw [if_neg c] at b5
      rw [if_pos (by omega)] at a5
      exact Or.inr (Or.inr (Or.inr ⟨a5, b5⟩))
  · have ee : e' = e := b4.trans a4.symm
    subst ee
    refine ⟨h3, he, Or.inr ⟨by omega, ?_⟩⟩
    by_cases c : f a = 59
    · rw [if_pos c] at a5 b5
      exact Or.inr (Or.inr (Or.inl ⟨a5, b5⟩))
    · rw [if_neg c] at a5 b5
      exact Or.inr (Or.inr (Or.inr ⟨a5, b5⟩))
end XTD
