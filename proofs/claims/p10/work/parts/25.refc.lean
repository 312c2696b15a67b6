/-! the reference: vetoes, what passes, a republic taken up -/
section XRH
variable {sc : Nat × (Nat → Int32)} {d : Nat} {K : List KD} {s : SG} {w : EW}
def vetN (s : SG) : Nat → Int32
  | 0 => 0
  | k + 1 => vetN s k ||| (if ofN s (10 + 18 * k + 4) = 1 then 1 <<< (nI k &&& 31) else (0 : Int32))
theorem f_vetoes (h : SH K) (hr : RH s) (hz : MZ s) {i : Nat → List EV → EW → XR} (hi : i = xN sc (d + 2)) : ∀ (n j k : Nat), j + n = msz s → n ≤ k → fW sc 7 1 false 3 i (ex sc 7 1 false 3 i kX7_vetoes_0 k) kX7_vetoes_4 4 [some (.inr (.inr (.inl (some 64)))), some (.inl (vetN s j)), some (.inl (nI j))] [] (wl K s) = some (some (.inl (vetN s (msz s))), wl K s) := by
  subst hi
  obtain ⟨hz1, hz2⟩ := hz
  intro n
  induction n with
  | zero =>
    intro j k hj hk
    have e : j = msz s := by omega
    subst e
    simp only [uX7_vetoes_4, qX7_vetoes_4, jX7_vetoes_12_38, jX7_vetoes_23_29, jX7_vetoes_29_30, jX7_vetoes_0_4, c64_v h, e_ministers h hr, xci_eq, cond_true]
    rw [hz1, if_pos (Int32.le_refl _)]
    simp only [uX7_vetoes_38, qX7_vetoes_38, jX7_vetoes_12_38, jX7_vetoes_23_29, jX7_vetoes_29_30, jX7_vetoes_0_4]
  | succ n ih =>
    intro j k hj hk
    obtain ⟨k, rfl⟩ : ∃ k', k = k' + 1 := ⟨k - 1, by omega⟩
    have e := ih (j + 1) k (by omega) (by omega)
    rw [nI_succ] at e
    simp only [uX7_vetoes_4, qX7_vetoes_4, jX7_vetoes_12_38, jX7_vetoes_23_29, jX7_vetoes_29_30, jX7_vetoes_0_4, c64_v h, e_ministers h hr, xci_eq, cond_true]
    rw [hz1, if_neg (nI_ge (a := j) (b := msz s) (by omega) (by omega))]
    simp only [uX7_vetoes_12, uX7_vetoes_23, uX7_vetoes_29, uX7_vetoes_30, qX7_vetoes_12, qX7_vetoes_23, qX7_vetoes_29, qX7_vetoes_30, jX7_vetoes_12_38, jX7_vetoes_23_29, jX7_vetoes_29_30, jX7_vetoes_0_4, c64_v h, e_ofMinister h hr (x := nI j) (y := 4) (a := 4) rfl rfl (show j < 6 by omega) (by decide), xci_eq, cond_true, eX_eq]
    split
    · rename_i hc
      simp only [vetN, if_pos hc] at e
      exact e
    · rename_i hc
      simp only [vetN, if_neg hc] at e
      exact e
def vetT (s : SG) : Int32 := vetN s (msz s)
theorem e_vetoes (h : SH K) (hr : RH s) (hz : MZ s) : xN sc (d + 3) 203 [.inr (.inr (.inl (some 64)))] (wl K s) = some (some (.inl (vetT s)), wl K s) := by
  rw [mX7_vetoes]
  simp only [uX7_vetoes_0, qX7_vetoes_0, jX7_vetoes_12_38, jX7_vetoes_23_29, jX7_vetoes_29_30, jX7_vetoes_0_4]
  exact f_vetoes h hr hz rfl (msz s) 0 xF (by omega) (by have := hz.2; have := xF_ge; omega)
def pasN (s : SG) (a : Int32) : Int32 := if vomT s (a &&& s 64 18) < ofN s 1 then 0 else if ((vetT s &&& s 64 18) &&& (a ^^^ (-1))) = 0 then 1 else 0
theorem e_isPassed {a : Int32} (h : SH K) (hr : RH s) (hz : MZ s) : xN sc (d + 4) 204 [.inr (.inr (.inl (some 64))), .inl a] (wl K s) = some (some (.inl (pasN s a)), wl K s) := by
  rw [mX7_isPassed]
  simp only [uX7_isPassed_0, uX7_isPassed_18, uX7_isPassed_34, uX7_isPassed_38, uX7_isPassed_39, qX7_isPassed_0, qX7_isPassed_18, qX7_isPassed_34, qX7_isPassed_38, qX7_isPassed_39, jX7_isPassed_18_38, jX7_isPassed_34_38, jX7_isPassed_38_39, c64_v h, c64_g18 h, e_votesOf h hr hz, e_vetoes h hr hz, e_of (x := 1) (a := 1) h hr rfl (by decide), xci_eq, cond_true, bd_eq]
  unfold pasN
  repeat' split
  all_goals first | rfl | contradiction
def aamI (a b c : Int32) : Int32 := if inI a 0 9 = 0 then 0 else if inI b 0 9 = 0 then 0 else if inI c 0 9 = 0 then 0 else 1
theorem e_areAmounts {a b c : Int32} : xN sc (d + 2) 205 [.inl a, .inl b, .inl c] w = some (some (.inl (aamI a b c)), w) := by
  rw [mX7_areAmounts]
  simp only [uX7_areAmounts_0, uX7_areAmounts_10, uX7_areAmounts_20, uX7_areAmounts_30, uX7_areAmounts_34, uX7_areAmounts_35, qX7_areAmounts_0, qX7_areAmounts_10, qX7_areAmounts_20, qX7_areAmounts_30, qX7_areAmounts_34, qX7_areAmounts_35, jX7_areAmounts_10_34, jX7_areAmounts_20_34, jX7_areAmounts_30_34, jX7_areAmounts_34_35, e_isIn, xci_eq]
  unfold aamI
  repeat' split
  all_goals first | rfl | contradiction
def iofN (s : SG) (a : Nat) (k : Int32) : Int32 := inI k 0 (s 65 a - 1)
theorem e_isOf {x k : Int32} {a : Nat} (h : SH K) (hx : x = nI a) (ha : a < 6) : xN sc (d + 2) 183 [.inr (.inr (.inl (some 64))), .inl x, .inl k] (wl K s) = some (some (.inl (iofN s a k)), wl K s) := by
  subst hx
  rw [mX7_isOf]
  simp only [uX7_isOf_0, qX7_isOf_0, c64_g0 h, bd_eq, c65_d h (xvb_nI (j := a) (n := 5768) (by omega) (by decide)), nI_clamp (show a < 2 ^ 31 by omega), e_isIn, inI_rt, xci_eq, cond_true]
  rfl
end XRH
