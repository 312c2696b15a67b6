/-! the reference: who agrees, what passes -/
section XRG
variable {sc : Nat × (Nat → Int32)} {d : Nat} {K : List KD} {s : SG} {w : EW}
def seN (s : SG) : Nat := (s 64 16).toNatClampNeg
def SE (s : SG) : Prop := s 64 16 = nI (seN s) ∧ seN s < 4
def msz (s : SG) : Nat := (ofN s 0).toNatClampNeg
def MZ (s : SG) : Prop := ofN s 0 = nI (msz s) ∧ msz s ≤ 6
def wnN (s : SG) (m a b : Nat) : Int32 := ofN s (16 + 18 * m + 3 * a + b)
def ofoN (s : SG) (m : Nat) : Int32 := sizI (s 64 12 - wnN s m (seN s) 0) + sizI (s 64 13 - wnN s m (seN s) 1) + sizI (s 64 14 - wnN s m (seN s) 2)
theorem e_offOf {x : Int32} {m : Nat} (h : SH K) (hr : RH s) (hs : SE s) (hx : x = nI m) (hm : m < 6) : xN sc (d + 4) 198 [.inr (.inr (.inl (some 64))), .inl x] (wl K s) = some (some (.inl (ofoN s m)), wl K s) := by
  obtain ⟨h1, h2⟩ := hs
  rw [mX7_offOf]
  simp only [uX7_offOf_0, qX7_offOf_0, c64_v h, c64_g12 h, c64_g13 h, c64_g14 h, c64_g16 h, e_wants h hr hx h1 (z := 0) (b := 0) rfl hm h2 (by decide), e_wants h hr hx h1 (z := 1) (b := 1) rfl hm h2 (by decide), e_wants h hr hx h1 (z := 2) (b := 2) rfl hm h2 (by decide), e_size, xci_eq, cond_true, bd_eq]
  rfl
def yieN (s : SG) (m : Nat) : Int32 := ofN s (10 + 18 * m + 1) - (if (ofN s (10 + 18 * m + 5) >>> (s 64 15 &&& 31)) &&& 1 = 1 then ofN s 2 else 0)
theorem e_yields {x : Int32} {m : Nat} (h : SH K) (hr : RH s) (hx : x = nI m) (hm : m < 6) : xN sc (d + 3) 199 [.inr (.inr (.inl (some 64))), .inl x] (wl K s) = some (some (.inl (yieN s m)), wl K s) := by
  rw [mX7_yields]
  simp only [uX7_yields_0, uX7_yields_23, uX7_yields_31, uX7_yields_32, qX7_yields_0, qX7_yields_23, qX7_yields_31, qX7_yields_32, jX7_yields_23_31, jX7_yields_31_32, c64_v h, c64_g15 h, e_ofMinister h hr hx (y := 1) (a := 1) rfl hm (by decide), e_ofMinister h hr hx (y := 5) (a := 5) rfl hm (by decide), e_of (x := 2) (a := 2) h hr rfl (by decide), xci_eq, cond_true, bd_eq]
  unfold yieN
  repeat' split
  all_goals first | rfl | contradiction
def agsN (s : SG) (m : Nat) : Int32 := if nI m = s 64 15 then 1 else if yieN s m < ofoN s m then 0 else 1
theorem e_agrees {x : Int32} {m : Nat} (h : SH K) (hr : RH s) (hs : SE s) (hx : x = nI m) (hm : m < 6) : xN sc (d + 5) 200 [.inr (.inr (.inl (some 64))), .inl x] (wl K s) = some (some (.inl (agsN s m)), wl K s) := by
  subst hx
  rw [mX7_agrees]
  simp only [uX7_agrees_0, uX7_agrees_8, uX7_agrees_21, uX7_agrees_25, uX7_agrees_26, qX7_agrees_0, qX7_agrees_8, qX7_agrees_21, qX7_agrees_25, qX7_agrees_26, jX7_agrees_8_21, jX7_agrees_21_25, jX7_agrees_25_26, c64_v h, c64_g15 h, e_offOf h hr hs (x := nI m) rfl hm, e_yields h hr (x := nI m) rfl hm, xci_eq, cond_true, bd_eq]
  unfold agsN
  repeat' split
  all_goals first | rfl | contradiction
def agmN (s : SG) : Nat → Int32
  | 0 => 0
  | k + 1 => agmN s k ||| (if agsN s k = 0 then (0 : Int32) else 1 <<< (nI k &&& 31))
theorem f_agreeing (h : SH K) (hr : RH s) (hs : SE s) (hz : MZ s) {i : Nat → List EV → EW → XR} (hi : i = xN sc (d + 5)) : ∀ (n j k : Nat), j + n = msz s → n ≤ k → fW sc 7 1 false 3 i (ex sc 7 1 false 3 i kX7_agreeing_0 k) kX7_agreeing_4 4 [some (.inr (.inr (.inl (some 64)))), some (.inl (agmN s j)), some (.inl (nI j))] [] (wl K s) = some (some (.inl (agmN s (msz s))), wl K s) := by
  subst hi
  obtain ⟨hz1, hz2⟩ := hz
  intro n
  induction n with
  | zero =>
    intro j k hj hk
    have e : j = msz s := by omega
    subst e
    simp only [uX7_agreeing_4, qX7_agreeing_4, jX7_agreeing_12_36, jX7_agreeing_21_27, jX7_agreeing_27_28, jX7_agreeing_0_4, c64_v h, e_ministers h hr, xci_eq, cond_true]
    rw [hz1, if_pos (Int32.le_refl _)]
    simp only [uX7_agreeing_36, qX7_agreeing_36, jX7_agreeing_12_36, jX7_agreeing_21_27, jX7_agreeing_27_28, jX7_agreeing_0_4]
  | succ n ih =>
    intro j k hj hk
    obtain ⟨k, rfl⟩ : ∃ k', k = k' + 1 := ⟨k - 1, by omega⟩
    have e := ih (j + 1) k (by omega) (by omega)
    rw [nI_succ] at e
    simp only [uX7_agreeing_4, qX7_agreeing_4, jX7_agreeing_12_36, jX7_agreeing_21_27, jX7_agreeing_27_28, jX7_agreeing_0_4, c64_v h, e_ministers h hr, xci_eq, cond_true]
    rw [hz1, if_neg (nI_ge (a := j) (b := msz s) (by omega) (by omega))]
    simp only [uX7_agreeing_12, uX7_agreeing_21, uX7_agreeing_27, uX7_agreeing_28, qX7_agreeing_12, qX7_agreeing_21, qX7_agreeing_27, qX7_agreeing_28, jX7_agreeing_12_36, jX7_agreeing_21_27, jX7_agreeing_27_28, jX7_agreeing_0_4, c64_v h, e_agrees h hr hs (x := nI j) rfl (show j < 6 by omega), xci_eq, cond_true, eX_eq]
    split
    · rename_i hc
      simp only [agmN, if_pos hc] at e
      exact e
    · rename_i hc
      simp only [agmN, if_neg hc] at e
      exact e
def agmT (s : SG) : Int32 := agmN s (msz s)
theorem e_agreeing (h : SH K) (hr : RH s) (hs : SE s) (hz : MZ s) : xN sc (d + 6) 201 [.inr (.inr (.inl (some 64)))] (wl K s) = some (some (.inl (agmT s)), wl K s) := by
  rw [mX7_agreeing]
  simp only [uX7_agreeing_0, qX7_agreeing_0, jX7_agreeing_12_36, jX7_agreeing_21_27, jX7_agreeing_27_28, jX7_agreeing_0_4]
  exact f_agreeing h hr hs hz rfl (msz s) 0 xF (by omega) (by have := hz.2; have := xF_ge; omega)
def vomN (s : SG) (x : Int32) : Nat → Int32
  | 0 => 0
  | k + 1 => vomN s x k + (if (x >>> (nI k &&& 31)) &&& 1 = 1 then ofN s (10 + 18 * k + 0) else 0)
theorem f_votesOf {x : Int32} (h : SH K) (hr : RH s) (hz : MZ s) {i : Nat → List EV → EW → XR} (hi : i = xN sc (d + 2)) : ∀ (n j k : Nat), j + n = msz s → n ≤ k → fW sc 7 1 false 4 i (ex sc 7 1 false 4 i kX7_votesOf_0 k) kX7_votesOf_4 4 [some (.inr (.inr (.inl (some 64)))), some (.inl x), some (.inl (vomN s x j)), some (.inl (nI j))] [] (wl K s) = some (some (.inl (vomN s x (msz s))), wl K s) := by
  subst hi
  obtain ⟨hz1, hz2⟩ := hz
  intro n
  induction n with
  | zero =>
    intro j k hj hk
    have e : j = msz s := by omega
    subst e
    simp only [uX7_votesOf_4, qX7_votesOf_4, jX7_votesOf_12_40, jX7_votesOf_22_31, jX7_votesOf_31_32, jX7_votesOf_0_4, c64_v h, e_ministers h hr, xci_eq, cond_true]
    rw [hz1, if_pos (Int32.le_refl _)]
    simp only [uX7_votesOf_40, qX7_votesOf_40, jX7_votesOf_12_40, jX7_votesOf_22_31, jX7_votesOf_31_32, jX7_votesOf_0_4]
  | succ n ih =>
    intro j k hj hk
    obtain ⟨k, rfl⟩ : ∃ k', k = k' + 1 := ⟨k - 1, by omega⟩
    have e := ih (j + 1) k (by omega) (by omega)
    rw [nI_succ] at e
    simp only [uX7_votesOf_4, qX7_votesOf_4, jX7_votesOf_12_40, jX7_votesOf_22_31, jX7_votesOf_31_32, jX7_votesOf_0_4, c64_v h, e_ministers h hr, xci_eq, cond_true]
    rw [hz1, if_neg (nI_ge (a := j) (b := msz s) (by omega) (by omega))]
    simp only [uX7_votesOf_12, uX7_votesOf_22, uX7_votesOf_31, uX7_votesOf_32, qX7_votesOf_12, qX7_votesOf_22, qX7_votesOf_31, qX7_votesOf_32, jX7_votesOf_12_40, jX7_votesOf_22_31, jX7_votesOf_31_32, jX7_votesOf_0_4, c64_v h, e_ofMinister h hr (x := nI j) (y := 0) (a := 0) rfl rfl (show j < 6 by omega) (by decide), xci_eq, cond_true, eX_eq]
    split
    · rename_i hc
      simp only [vomN, if_pos hc] at e
      exact e
    · rename_i hc
      simp only [vomN, if_neg hc] at e
      exact e
def vomT (s : SG) (x : Int32) : Int32 := vomN s x (msz s)
theorem e_votesOf {x : Int32} (h : SH K) (hr : RH s) (hz : MZ s) : xN sc (d + 3) 202 [.inr (.inr (.inl (some 64))), .inl x] (wl K s) = some (some (.inl (vomT s x)), wl K s) := by
  rw [mX7_votesOf]
  simp only [uX7_votesOf_0, qX7_votesOf_0, jX7_votesOf_12_40, jX7_votesOf_22_31, jX7_votesOf_31_32, jX7_votesOf_0_4]
  exact f_votesOf h hr hz rfl (msz s) 0 xF (by omega) (by have := hz.2; have := xF_ge; omega)
end XRG
