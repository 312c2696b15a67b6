/-! a republic: what is asked of it by itself -/
section XRP
variable {sc : Nat × (Nat → Int32)} {d : Nat} {K : List KD} {s : SG} {r : Nat}
def minI (s : SG) (r : Nat) (m : Int32) : Int32 := if m < 0 then 0 else if s r 0 ≤ m then 0 else 1
theorem c_isMinister {m : Int32} (h : RP K r) : xN sc (d + 1) 46 [.inr (.inr (.inl (some r))), .inl m] (wl K s) = some (some (.inl (minI s r m)), wl K s) := by
  rw [mX2_isMinister]
  simp only [uX2_isMinister_0, uX2_isMinister_4, uX2_isMinister_12, uX2_isMinister_16, uX2_isMinister_17, qX2_isMinister_0, qX2_isMinister_4, qX2_isMinister_12, qX2_isMinister_16, qX2_isMinister_17, jX2_isMinister_4_16, jX2_isMinister_12_16, jX2_isMinister_16_17, cR_g0 h, bd_eq]
  unfold minI
  repeat' split
  all_goals first | rfl | contradiction
def allI (s : SG) (r : Nat) : Int32 := (1 <<< (s r 0 &&& 31)) - 1
theorem c_everybody (h : RP K r) : xN sc (d + 1) 47 [.inr (.inr (.inl (some r)))] (wl K s) = some (some (.inl (allI s r)), wl K s) := by
  rw [mX2_everybody]
  simp only [uX2_everybody_0, qX2_everybody_0, cR_g0 h, bd_eq]
  rfl
def wanI (s : SG) (r : Nat) (m p : Int32) : Int32 := cl 72 (s (r + 5)) (m * 4 * 3 + p)
theorem c_want {m p : Int32} (h : RP K r) : xN sc (d + 2) 48 [.inr (.inr (.inl (some r))), .inl m, .inl p] (wl K s) = some (some (.inl (wanI s r m p)), wl K s) := by
  rw [mX2_want]
  simp only [uX2_want_0, qX2_want_0, cR_g5 h, bd_eq, lcR5 h, xci_eq]
  rfl
def absI (x : Int32) : Int32 := if 0 ≤ x then x else 0 - x
def disI (s : SG) (r : Nat) (m se day : Int32) : Nat → Int32
  | 0 => 0
  | k + 1 => disI s r m se day k + absI (amtI day (nI k) - cl 72 (s (r + 5)) ((m * 4 + se) * 3 + nI k))
theorem l_distance {m se day p : Int32} (h : RP K r) (hp : p = (m * 4 + se) * 3) {i : Nat → List EV → EW → XR} (hi : i = xN sc (d + 1)) : ∀ (n j k : Nat), j + n = 3 → n ≤ k → fW sc 2 1 false 7 i (ex sc 2 1 false 7 i kX2_distance_0 k) kX2_distance_15 15 [some (.inr (.inr (.inl (some r)))), some (.inl m), some (.inl se), some (.inl day), some (.inl p), some (.inl (disI s r m se day j)), some (.inl (nI j))] [] (wl K s) = some (some (.inl (disI s r m se day 3)), wl K s) := by
  subst hi; subst hp
  intro n
  induction n with
  | zero =>
    intro j k hj hk
    have e : j = 3 := by omega
    subst e
    simp only [uX2_distance_15, qX2_distance_15, jX2_distance_21_54, jX2_distance_0_15]
    rw [if_pos (show (3 : Int32) ≤ nI 3 from by decide)]
    simp only [uX2_distance_54, qX2_distance_54, jX2_distance_21_54, jX2_distance_0_15]
  | succ n ih =>
    intro j k hj hk
    obtain ⟨k, rfl⟩ : ∃ k', k = k' + 1 := ⟨k - 1, by omega⟩
    simp only [uX2_distance_15, qX2_distance_15, jX2_distance_21_54, jX2_distance_0_15]
    rw [if_neg (show ¬ (3 : Int32) ≤ nI j from nI_ge (a := j) (b := 3) (by omega) (by decide))]
    simp only [uX2_distance_21, qX2_distance_21, jX2_distance_21_54, jX2_distance_0_15, c_amount, xci_eq, cR_g5 h, bd_eq, lcR5 h, eX_eq]
    have e := ih (j + 1) k (by omega) (by omega)
    rw [nI_succ] at e
    rw [show disI s r m se day (j + 1) = disI s r m se day j + absI (amtI day (nI j) - cl 72 (s (r + 5)) ((m * 4 + se) * 3 + nI j)) from rfl] at e
    simp only [absI] at e
    exact e
theorem c_distance {m se day : Int32} (h : RP K r) : xN sc (d + 2) 49 [.inr (.inr (.inl (some r))), .inl m, .inl se, .inl day] (wl K s) = some (some (.inl (disI s r m se day 3)), wl K s) := by
  rw [mX2_distance]
  simp only [uX2_distance_0, qX2_distance_0, jX2_distance_21_54, jX2_distance_0_15]
  exact l_distance h rfl rfl 3 0 xF rfl (by have := xF_ge; omega)
def patI (s : SG) (r : Nat) (m b : Int32) : Int32 := cl 6 (s (r + 2)) m - (if hasI (cl 6 (s (r + 6)) m) b = 0 then 0 else s r 10)
theorem c_patience {m b : Int32} (h : RP K r) : xN sc (d + 2) 50 [.inr (.inr (.inl (some r))), .inl m, .inl b] (wl K s) = some (some (.inl (patI s r m b)), wl K s) := by
  rw [mX2_patience]
  simp only [uX2_patience_0, uX2_patience_23, uX2_patience_30, uX2_patience_31, qX2_patience_0, qX2_patience_23, qX2_patience_30, qX2_patience_31, jX2_patience_23_30, jX2_patience_30_31, c_has, xci_eq, cR_g2 h, cR_g6 h, cR_g10 h, bd_eq, lcR2 h, lcR6 h]
  unfold patI
  repeat' split
  all_goals first | rfl | contradiction
def sz (s : SG) (r : Nat) : Nat := (s r 0).toNatClampNeg
/-- a republic's size is one that a text can tell -/
def SZ (s : SG) (r : Nat) : Prop := s r 0 = nI (sz s r) ∧ sz s r ≤ 6
def votI (s : SG) (r : Nat) (x : Int32) : Nat → Int32
  | 0 => 0
  | k + 1 => if hasI x (nI k) = 0 then votI s r x k else votI s r x k + cl 6 (s (r + 1)) (nI k)
theorem l_votesOf {x : Int32} (h : RP K r) (hz : SZ s r) {i : Nat → List EV → EW → XR} (hi : i = xN sc (d + 1)) : ∀ (n j k : Nat), j + n = sz s r → n ≤ k → fW sc 2 1 false 4 i (ex sc 2 1 false 4 i kX2_votesOf_0 k) kX2_votesOf_4 4 [some (.inr (.inr (.inl (some r)))), some (.inl x), some (.inl (votI s r x j)), some (.inl (nI j))] [] (wl K s) = some (some (.inl (votI s r x (sz s r))), wl K s) := by
  subst hi
  obtain ⟨hz1, hz2⟩ := hz
  intro n
  induction n with
  | zero =>
    intro j k hj hk
    have e : j = sz s r := by omega
    subst e
    simp only [uX2_votesOf_4, qX2_votesOf_4, jX2_votesOf_12_37, jX2_votesOf_20_31, jX2_votesOf_0_4, cR_g0 h, bd_eq]
    rw [hz1, if_pos (Int32.le_refl _)]
    simp only [uX2_votesOf_37, qX2_votesOf_37, jX2_votesOf_12_37, jX2_votesOf_20_31, jX2_votesOf_0_4]
  | succ n ih =>
    intro j k hj hk
    obtain ⟨k, rfl⟩ : ∃ k', k = k' + 1 := ⟨k - 1, by omega⟩
    have e := ih (j + 1) k (by omega) (by omega)
    rw [nI_succ] at e
    simp only [uX2_votesOf_4, qX2_votesOf_4, jX2_votesOf_12_37, jX2_votesOf_20_31, jX2_votesOf_0_4, cR_g0 h, bd_eq]
    rw [hz1, if_neg (nI_ge (a := j) (b := sz s r) (by omega) (by omega))]
    simp only [uX2_votesOf_12, qX2_votesOf_12, jX2_votesOf_12_37, jX2_votesOf_20_31, jX2_votesOf_0_4, c_has, xci_eq]
    split
    · rename_i hc
      simp only [votI, if_pos hc] at e
      simp only [uX2_votesOf_31, qX2_votesOf_31, jX2_votesOf_12_37, jX2_votesOf_20_31, jX2_votesOf_0_4, eX_eq]
      exact e
    · rename_i hc
      simp only [votI, if_neg hc] at e
      simp only [uX2_votesOf_20, uX2_votesOf_31, qX2_votesOf_20, qX2_votesOf_31, jX2_votesOf_12_37, jX2_votesOf_20_31, jX2_votesOf_0_4, cR_g1 h, bd_eq, lcR1 h, xci_eq, eX_eq]
      exact e
def votT (s : SG) (r : Nat) (x : Int32) : Int32 := votI s r x (sz s r)
theorem c_votesOf {x : Int32} (h : RP K r) (hz : SZ s r) : xN sc (d + 2) 52 [.inr (.inr (.inl (some r))), .inl x] (wl K s) = some (some (.inl (votT s r x)), wl K s) := by
  rw [mX2_votesOf]
  simp only [uX2_votesOf_0, qX2_votesOf_0, jX2_votesOf_12_37, jX2_votesOf_20_31, jX2_votesOf_0_4]
  exact l_votesOf h hz rfl (sz s r) 0 xF (by omega) (by have := hz.2; have := xF_ge; omega)
def agrI (s : SG) (r : Nat) (b se day : Int32) : Nat → Int32
  | 0 => 0
  | k + 1 => if nI k = b then agrI s r b se day k ||| (1 <<< (nI k &&& 31)) else if patI s r (nI k) b < disI s r (nI k) se day 3 then agrI s r b se day k else agrI s r b se day k ||| (1 <<< (nI k &&& 31))
theorem l_agreeing {b se day : Int32} (h : RP K r) (hz : SZ s r) {i : Nat → List EV → EW → XR} (hi : i = xN sc (d + 2)) : ∀ (n j k : Nat), j + n = sz s r → n ≤ k → fW sc 2 1 false 6 i (ex sc 2 1 false 6 i kX2_agreeing_0 k) kX2_agreeing_6 6 [some (.inr (.inr (.inl (some r)))), some (.inl b), some (.inl se), some (.inl day), some (.inl (agrI s r b se day j)), some (.inl (nI j))] [] (wl K s) = some (some (.inl (agrI s r b se day (sz s r))), wl K s) := by
  subst hi
  obtain ⟨hz1, hz2⟩ := hz
  intro n
  induction n with
  | zero =>
    intro j k hj hk
    have e : j = sz s r := by omega
    subst e
    simp only [uX2_agreeing_6, qX2_agreeing_6, jX2_agreeing_15_54, jX2_agreeing_21_39, jX2_agreeing_39_48, jX2_agreeing_0_6, cR_g0 h, bd_eq]
    rw [hz1, if_pos (Int32.le_refl _)]
    simp only [uX2_agreeing_54, qX2_agreeing_54, jX2_agreeing_15_54, jX2_agreeing_21_39, jX2_agreeing_39_48, jX2_agreeing_0_6]
  | succ n ih =>
    intro j k hj hk
    obtain ⟨k, rfl⟩ : ∃ k', k = k' + 1 := ⟨k - 1, by omega⟩
    have e := ih (j + 1) k (by omega) (by omega)
    rw [nI_succ] at e
    simp only [uX2_agreeing_6, qX2_agreeing_6, jX2_agreeing_15_54, jX2_agreeing_21_39, jX2_agreeing_39_48, jX2_agreeing_0_6, cR_g0 h, bd_eq]
    rw [hz1, if_neg (nI_ge (a := j) (b := sz s r) (by omega) (by omega))]
    simp only [uX2_agreeing_15, qX2_agreeing_15, jX2_agreeing_15_54, jX2_agreeing_21_39, jX2_agreeing_39_48, jX2_agreeing_0_6]
    split
    · rename_i hc
      simp only [agrI, if_pos hc] at e
      simp only [uX2_agreeing_39, uX2_agreeing_48, qX2_agreeing_39, qX2_agreeing_48, jX2_agreeing_15_54, jX2_agreeing_21_39, jX2_agreeing_39_48, jX2_agreeing_0_6, eX_eq]
      exact e
    · rename_i hc
      simp only [uX2_agreeing_21, qX2_agreeing_21, jX2_agreeing_15_54, jX2_agreeing_21_39, jX2_agreeing_39_48, jX2_agreeing_0_6, cR_v h, c_distance h, c_patience h, xci_eq, cond_true]
      split
      · rename_i hc2
        simp only [agrI, if_neg hc, if_pos hc2] at e
        simp only [uX2_agreeing_48, qX2_agreeing_48, jX2_agreeing_15_54, jX2_agreeing_21_39, jX2_agreeing_39_48, jX2_agreeing_0_6, eX_eq]
        exact e
      · rename_i hc2
        simp only [agrI, if_neg hc, if_neg hc2] at e
        simp only [uX2_agreeing_39, uX2_agreeing_48, qX2_agreeing_39, qX2_agreeing_48, jX2_agreeing_15_54, jX2_agreeing_21_39, jX2_agreeing_39_48, jX2_agreeing_0_6, eX_eq]
        exact e
def agrT (s : SG) (r : Nat) (b se day : Int32) : Int32 := agrI s r b se day (sz s r)
theorem c_agreeing {b se day : Int32} (h : RP K r) (hz : SZ s r) : xN sc (d + 3) 51 [.inr (.inr (.inl (some r))), .inl b, .inl se, .inl day] (wl K s) = some (some (.inl (agrT s r b se day)), wl K s) := by
  rw [mX2_agreeing]
  simp only [uX2_agreeing_0, qX2_agreeing_0, jX2_agreeing_15_54, jX2_agreeing_21_39, jX2_agreeing_39_48, jX2_agreeing_0_6]
  exact l_agreeing h hz rfl (sz s r) 0 xF (by omega) (by have := hz.2; have := xF_ge; omega)
def pasI (s : SG) (r : Nat) (t a : Int32) : Int32 := if votT s r (t &&& a) < s r 9 then 0 else if ((t &&& s r 8) &&& (a ^^^ (-1))) = 0 then 1 else 0
theorem c_isPassed {t a : Int32} (h : RP K r) (hz : SZ s r) : xN sc (d + 3) 53 [.inr (.inr (.inl (some r))), .inl t, .inl a] (wl K s) = some (some (.inl (pasI s r t a)), wl K s) := by
  rw [mX2_isPassed]
  simp only [uX2_isPassed_0, uX2_isPassed_14, uX2_isPassed_27, uX2_isPassed_31, uX2_isPassed_32, qX2_isPassed_0, qX2_isPassed_14, qX2_isPassed_27, qX2_isPassed_31, qX2_isPassed_32, jX2_isPassed_14_31, jX2_isPassed_27_31, jX2_isPassed_31_32, cR_v h, c_votesOf h hz, cR_g9 h, cR_g8 h, xci_eq, cond_true, bd_eq]
  unfold pasI
  repeat' split
  all_goals first | rfl | contradiction
def arsI (s : SG) (r : Nat) (x : Int32) : Int32 := if minI s r (x / 36) = 0 then 0 else if minI s r (x / 6 - x / 6 / 6 * 6) = 0 then 0 else if minI s r (x - x / 6 * 6) = 0 then 0 else if x / 36 = x / 6 - x / 6 / 6 * 6 then 0 else if x / 6 - x / 6 / 6 * 6 = x - x / 6 * 6 then 0 else if x / 36 = x - x / 6 * 6 then 0 else 1
theorem c_areSeats {x : Int32} (h : RP K r) : xN sc (d + 2) 54 [.inr (.inr (.inl (some r))), .inl x] (wl K s) = some (some (.inl (arsI s r x)), wl K s) := by
  rw [mX2_areSeats]
  simp only [uX2_areSeats_0, uX2_areSeats_27, uX2_areSeats_35, uX2_areSeats_44, uX2_areSeats_49, uX2_areSeats_55, uX2_areSeats_61, uX2_areSeats_65, uX2_areSeats_66, qX2_areSeats_0, qX2_areSeats_27, qX2_areSeats_35, qX2_areSeats_44, qX2_areSeats_49, qX2_areSeats_55, qX2_areSeats_61, qX2_areSeats_65, qX2_areSeats_66, jX2_areSeats_27_65, jX2_areSeats_35_65, jX2_areSeats_44_65, jX2_areSeats_49_65, jX2_areSeats_55_65, jX2_areSeats_61_65, jX2_areSeats_65_66, cR_v h, c_isMinister h, xci_eq, cond_true]
  unfold arsI
  repeat' split
  all_goals first | rfl | contradiction
def proI (s : SG) (r : Nat) (x se : Int32) : Int32 := numI (wanI s r (x / 36) (se * 3 + 0)) (wanI s r (x / 6 - x / 6 / 6 * 6) (se * 3 + 1)) (wanI s r (x - x / 6 * 6) (se * 3 + 2))
theorem c_proposal {x se : Int32} (h : RP K r) : xN sc (d + 3) 55 [.inr (.inr (.inl (some r))), .inl x, .inl se] (wl K s) = some (some (.inl (proI s r x se)), wl K s) := by
  rw [mX2_proposal]
  simp only [uX2_proposal_0, qX2_proposal_0, cR_v h, c_want h, c_numberOf, xci_eq, cond_true]
  rfl
end XRP
