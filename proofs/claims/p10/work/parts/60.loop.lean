section XRR
variable {sc : Nat × (Nat → Int32)} {d : Nat} {K : List KD} {s : SG} {b : Nat → XL → List EV → EW → XR} {x a1 : Int32}
/-! the law: its loop -/
theorem LSW {j a : Nat} (ha : a ≤ 63) (hj : j + 8 ≤ sc.1) (hN : sc.1 ≤ 4096) (h : INVP SIM1 K s) : ∃ K2 s2, INVP SIM1 K2 s2 ∧ fW sc 8 4 false 4 (xN sc (d + 11)) b kL_law_33 33 [some (.inr (.inr (.inr 2))), some (.inr (.inr (.inl (some 0)))), some (.inr (.inr (.inl (some 64)))), some (.inl (nI j))] [.inl (nI a)] (wl K s) = fW sc 8 4 false 4 (xN sc (d + 11)) b kL_law_1621 1621 [some (.inr (.inr (.inr 2))), some (.inr (.inr (.inl (some 0)))), some (.inr (.inr (.inl (some 64)))), some (.inl (nI j))] [] (wl K2 s2) := by
  have g : ∀ i, i < 8 → ∀ w, xdi sc w (nI j + nI i) (.inr (.inr (.inr 2))) = some (sc.2 (j + i)) := by
    intro i hi w
    rw [nI_add]
    show (bif xvb (nI (j + i)) sc.1 then some (sc.2 (nI (j + i)).toNatClampNeg) else none) = _
    rw [xvb_nI (by omega) (by omega), nI_clamp (by omega)]; rfl
  have g1 : ∀ w, xdi sc w (nI j + 1) (.inr (.inr (.inr 2))) = some (sc.2 (j + 1)) := g 1 (by omega)
  have g2 : ∀ w, xdi sc w (nI j + 2) (.inr (.inr (.inr 2))) = some (sc.2 (j + 2)) := g 2 (by omega)
  have g3 : ∀ w, xdi sc w (nI j + 3) (.inr (.inr (.inr 2))) = some (sc.2 (j + 3)) := g 3 (by omega)
  have g4 : ∀ w, xdi sc w (nI j + 4) (.inr (.inr (.inr 2))) = some (sc.2 (j + 4)) := g 4 (by omega)
  have g5 : ∀ w, xdi sc w (nI j + 5) (.inr (.inr (.inr 2))) = some (sc.2 (j + 5)) := g 5 (by omega)
  have g6 : ∀ w, xdi sc w (nI j + 6) (.inr (.inr (.inr 2))) = some (sc.2 (j + 6)) := g 6 (by omega)
  have g7 : ∀ w, xdi sc w (nI j + 7) (.inr (.inr (.inr 2))) = some (sc.2 (j + 7)) := g 7 (by omega)
  rw [uL_law_33]
  by_cases c : 28 < a
  · refine ⟨K, s, h, ?_⟩
    rw [qL_law_33_d (Or.inr (by rw [nI_toInt (by omega)]; omega)), jL_law_164_1621]
  have cs : a = 0 ∨ a = 1 ∨ a = 2 ∨ a = 3 ∨ a = 4 ∨ a = 5 ∨ a = 6 ∨ a = 7 ∨ a = 8 ∨ a = 9 ∨ a = 10 ∨ a = 11 ∨ a = 12 ∨ a = 13 ∨ a = 14 ∨ a = 15 ∨ a = 16 ∨ a = 17 ∨ a = 18 ∨ a = 19 ∨ a = 20 ∨ a = 21 ∨ a = 22 ∨ a = 23 ∨ a = 24 ∨ a = 25 ∨ a = 26 ∨ a = 27 ∨ a = 28 := by omega
  rcases cs with rfl | rfl | rfl | rfl | rfl | rfl | rfl | rfl | rfl | rfl | rfl | rfl | rfl | rfl | rfl | rfl | rfl | rfl | rfl | rfl | rfl | rfl | rfl | rfl | rfl | rfl | rfl | rfl | rfl
  · rw [show (nI 0 : Int32) = 0 from rfl, qL_law_33_c0]
    obtain ⟨s2, i2, e⟩ := LS_feed (sc := sc) (d := d) (b := b) h g1 g2 g3 g4 g5
    exact ⟨K, s2, i2, e⟩
  · rw [show (nI 1 : Int32) = 1 from rfl, qL_law_33_c1, jL_law_164_227]
    obtain ⟨s2, i2, e⟩ := LS_end (sc := sc) (d := d) (b := b) h g1
    exact ⟨K, s2, i2, e⟩
  · rw [show (nI 2 : Int32) = 2 from rfl, qL_law_33_c2, jL_law_164_250]
    obtain ⟨s2, i2, e⟩ := LS_text (sc := sc) (d := d) (b := b) h g1 g2
    exact ⟨K, s2, i2, e⟩
  · rw [show (nI 3 : Int32) = 3 from rfl, qL_law_33_c3, jL_law_164_283]
    obtain ⟨s2, i2, e⟩ := LS_fault (sc := sc) (d := d) (b := b) h g1
    exact ⟨K, s2, i2, e⟩
  · rw [show (nI 4 : Int32) = 4 from rfl, qL_law_33_c4, jL_law_164_306]
    obtain ⟨s2, i2, e⟩ := LS_republic (sc := sc) (d := d) (b := b) h g1 g2
    exact ⟨K, s2, i2, e⟩
  · rw [show (nI 5 : Int32) = 5 from rfl, qL_law_33_c5, jL_law_164_339]
    obtain ⟨s2, i2, e⟩ := LS_minister (sc := sc) (d := d) (b := b) h g1 g2 g3
    exact ⟨K, s2, i2, e⟩
  · rw [show (nI 6 : Int32) = 6 from rfl, qL_law_33_c6, jL_law_164_382]
    obtain ⟨s2, i2, e⟩ := LS_off (sc := sc) (d := d) (b := b) h g1 g2 g3 g4 g5 g6
    exact ⟨K, s2, i2, e⟩
  · rw [show (nI 7 : Int32) = 7 from rfl, qL_law_33_c7, jL_law_164_457]
    obtain ⟨s2, i2, e⟩ := LS_vote (sc := sc) (d := d) (b := b) h g1 g2 g3 g4 g5 g6 g7
    exact ⟨K, s2, i2, e⟩
  · rw [show (nI 8 : Int32) = 8 from rfl, qL_law_33_c8, jL_law_164_560]
    obtain ⟨s2, i2, e⟩ := LS_order (sc := sc) (d := d) (b := b) h g1 g2 g3
    exact ⟨K, s2, i2, e⟩
  · rw [show (nI 9 : Int32) = 9 from rfl, qL_law_33_c9, jL_law_164_603]
    obtain ⟨s2, i2, e⟩ := LS_broken (sc := sc) (d := d) (b := b) h g1 g2 g3 g4 g5 g6
    exact ⟨K, s2, i2, e⟩
  · rw [show (nI 10 : Int32) = 10 from rfl, qL_law_33_c10, jL_law_164_678]
    obtain ⟨s2, i2, e⟩ := LS_deed (sc := sc) (d := d) (b := b) h g1 g2 g3
    exact ⟨K, s2, i2, e⟩
  · rw [show (nI 11 : Int32) = 11 from rfl, qL_law_33_c11, jL_law_164_721]
    obtain ⟨s2, i2, e⟩ := LS_stop (sc := sc) (d := d) (b := b) h g1 g2 g3
    exact ⟨K, s2, i2, e⟩
  · rw [show (nI 12 : Int32) = 12 from rfl, qL_law_33_c12, jL_law_164_764]
    obtain ⟨s2, i2, e⟩ := LS_state (sc := sc) (d := d) (b := b) h g1 g2 g3 g4 g5
    exact ⟨K, s2, i2, e⟩
  · rw [show (nI 13 : Int32) = 13 from rfl, qL_law_33_c13, jL_law_164_827]
    obtain ⟨s2, i2, e⟩ := LS_agreed (sc := sc) (d := d) (b := b) h g1 g2 g3 g4 g5
    exact ⟨K, s2, i2, e⟩
  · rw [show (nI 14 : Int32) = 14 from rfl, qL_law_33_c14, jL_law_164_890]
    obtain ⟨s2, i2, e⟩ := LS_power (sc := sc) (d := d) (b := b) h g1 g2 g3
    exact ⟨K, s2, i2, e⟩
  · rw [show (nI 15 : Int32) = 15 from rfl, qL_law_33_c15, jL_law_164_949]
    obtain ⟨s2, i2, e⟩ := LS_coalition (sc := sc) (d := d) (b := b) h g1 g2
    exact ⟨K, s2, i2, e⟩
  · rw [show (nI 16 : Int32) = 16 from rfl, qL_law_33_c16, jL_law_164_982]
    obtain ⟨s2, i2, e⟩ := LS_bribe (sc := sc) (d := d) (b := b) h g1 g2 g3 g4 g5 g6 g7
    exact ⟨K, s2, i2, e⟩
  · rw [show (nI 17 : Int32) = 17 from rfl, qL_law_33_c17, jL_law_164_1085]
    obtain ⟨s2, i2, e⟩ := LS_lobby (sc := sc) (d := d) (b := b) h g1 g2 g3 g4 g5 g6 g7
    exact ⟨K, s2, i2, e⟩
  · rw [show (nI 18 : Int32) = 18 from rfl, qL_law_33_c18, jL_law_164_1172]
    obtain ⟨s2, i2, e⟩ := LS_bargain (sc := sc) (d := d) (b := b) h g1 g2 g3
    exact ⟨K, s2, i2, e⟩
  · rw [show (nI 19 : Int32) = 19 from rfl, qL_law_33_c19, jL_law_164_1215]
    obtain ⟨s2, i2, e⟩ := LS_was (sc := sc) (d := d) (b := b) h g1 g2 g3
    exact ⟨K, s2, i2, e⟩
  · rw [show (nI 20 : Int32) = 20 from rfl, qL_law_33_c20, jL_law_164_1258]
    obtain ⟨s2, i2, e⟩ := LS_nature (sc := sc) (d := d) (b := b) h g1 g2 g3
    exact ⟨K, s2, i2, e⟩
  · rw [show (nI 21 : Int32) = 21 from rfl, qL_law_33_c21, jL_law_164_1301]
    obtain ⟨s2, i2, e⟩ := LS_seats (sc := sc) (d := d) (b := b) h g1 g2 g3
    exact ⟨K, s2, i2, e⟩
  · rw [show (nI 22 : Int32) = 22 from rfl, qL_law_33_c22, jL_law_164_1344]
    obtain ⟨s2, i2, e⟩ := LS_reshuffle (sc := sc) (d := d) (b := b) h g1 g2
    exact ⟨K, s2, i2, e⟩
  · rw [show (nI 23 : Int32) = 23 from rfl, qL_law_33_c23, jL_law_164_1393]
    obtain ⟨s2, i2, e⟩ := LS_leak (sc := sc) (d := d) (b := b) h g1 g2 g3
    exact ⟨K, s2, i2, e⟩
  · rw [show (nI 24 : Int32) = 24 from rfl, qL_law_33_c24, jL_law_164_1436]
    obtain ⟨s2, i2, e⟩ := LS_fits (sc := sc) (d := d) (b := b) h g1 g2 g3 g4 g5
    exact ⟨K, s2, i2, e⟩
  · rw [show (nI 25 : Int32) = 25 from rfl, qL_law_33_c25, jL_law_164_1499]
    obtain ⟨s2, i2, e⟩ := LS_drawn (sc := sc) (d := d) (b := b) h g1 g2 g3 g4
    exact ⟨K, s2, i2, e⟩
  · rw [show (nI 26 : Int32) = 26 from rfl, qL_law_33_c26, jL_law_164_1552]
    obtain ⟨s2, i2, e⟩ := LS_count (sc := sc) (d := d) (b := b) h g1
    exact ⟨K, s2, i2, e⟩
  · rw [show (nI 27 : Int32) = 27 from rfl, qL_law_33_c27, jL_law_164_1575]
    exact LS_image h g1
  · rw [show (nI 28 : Int32) = 28 from rfl, qL_law_33_c28, jL_law_164_1598]
    obtain ⟨s2, i2, e⟩ := LS_again (sc := sc) (d := d) (b := b) h g1
    exact ⟨K, s2, i2, e⟩
theorem n8 {N j : Nat} (hN : N ≤ 4096) (hj : j ≤ 8192) : (N < j + 8 → nI N - 8 < nI j) ∧ (j + 8 ≤ N → ¬ nI N - 8 < nI j) := by
  by_cases c : 8 ≤ N
  · have e : nI N - 8 = nI (N - 8) := nI_subn c
    rw [e]
    exact ⟨fun h => nI_lt2 (by omega) (by omega), fun h => Int32.not_lt.mpr (nI_le2 (by omega) (by omega))⟩
  · have k : ∀ n, n < 8 → nI n - 8 < 0 := by decide
    exact ⟨fun _ => Int32.lt_of_lt_of_le (k N (by omega)) (nI_le2 (a := 0) (by omega) (by omega)), fun h => by omega⟩
theorem LOOP (hN : sc.1 ≤ 4096) : ∀ (n z j : Nat) (K : List KD) (s : SG), INVP SIM1 K s → j ≤ 8192 → sc.1 < j + 8 + 8 * n → n ≤ z → ∃ K2 s2, INVP SIM1 K2 s2 ∧ fW sc 8 4 false 4 (xN sc (d + 11)) (ex sc 8 4 false 4 (xN sc (d + 11)) kL_law_0 z) kL_law_18 18 [some (.inr (.inr (.inr 2))), some (.inr (.inr (.inl (some 0)))), some (.inr (.inr (.inl (some 64)))), some (.inl (nI j))] [] (wl K s) = some (some (.inl 1), wl K2 s2) := by
  intro n
  have fin : ∀ (z j : Nat) (K : List KD) (s : SG), INVP SIM1 K s → j ≤ 8192 → sc.1 < j + 8 → ∃ K2 s2, INVP SIM1 K2 s2 ∧ fW sc 8 4 false 4 (xN sc (d + 11)) (ex sc 8 4 false 4 (xN sc (d + 11)) kL_law_0 z) kL_law_18 18 [some (.inr (.inr (.inr 2))), some (.inr (.inr (.inl (some 0)))), some (.inr (.inr (.inl (some 64)))), some (.inl (nI j))] [] (wl K s) = some (some (.inl 1), wl K2 s2) := by
    intro z j K s h hj hn
    refine ⟨K, s, h, ?_⟩
    rw [uL_law_18, qL_law_18, show xnn sc (wl K s) (.inr (.inr (.inr 2))) = some sc.1 from rfl, bd2, if_pos ((n8 hN hj).1 hn), jL_law_27_1627, uL_law_1627, qL_law_1627]
  induction n with
  | zero =>
    intro z j K s h hj hn hz
    exact fin z j K s h hj (by omega)
  | succ n ih =>
    intro z j K s h hj hn hz
    by_cases c : sc.1 < j + 8
    · exact fin z j K s h hj c
    · obtain ⟨z, rfl⟩ : ∃ z', z = z' + 1 := ⟨z - 1, by omega⟩
      have e31 : ∀ v : Int32, ∃ a, v &&& 31 = nI a ∧ a ≤ 63 := fun v => b63 (by rw [Int32.and_assoc]; rfl)
      obtain ⟨a, ea, ha⟩ := e31 (sc.2 j)
      obtain ⟨K2, s2, i2, e⟩ := LSW (sc := sc) (d := d) (b := ex sc 8 4 false 4 (xN sc (d + 11)) kL_law_0 (z + 1)) ha (j := j) (by omega) hN h
      obtain ⟨K3, s3, i3, e3⟩ := ih z (j + 8) K2 s2 i2 (by omega) (by omega) (by omega)
      refine ⟨K3, s3, i3, ?_⟩
      have g0 : xdi sc (wl K s) (nI j) (.inr (.inr (.inr 2))) = some (sc.2 j) := by
        show (bif xvb (nI j) sc.1 then some (sc.2 (nI j).toNatClampNeg) else none) = _
        rw [xvb_nI (by omega) (by omega), nI_clamp (by omega)]; rfl
      rw [uL_law_18, qL_law_18, show xnn sc (wl K s) (.inr (.inr (.inr 2))) = some sc.1 from rfl, bd2, if_neg ((n8 hN hj).2 (by omega)), uL_law_27, qL_law_27, g0, bd2, ea, e, uL_law_1621, qL_law_1621, eX_eq, jL_law_0_18, show (nI j + 8 : Int32) = nI (j + 8) from nI_add j 8]
      exact e3
end XRR
