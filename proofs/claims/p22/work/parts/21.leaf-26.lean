section
/-! leaves of the class: numbers and rows -/
def cl (n : Nat) (f : Nat → Int32) (i : Int32) : Int32 := if i < 0 then 0 else if nI n ≤ i then 0 else f i.toNatClampNeg
theorem xvb_of {i : Int32} {n : Nat} (hn : n < 2 ^ 31) (h1 : ¬ i < 0) (h2 : ¬ nI n ≤ i) : xvb i n = true := by
  rw [xvb_iff]
  have h3 := Int32.le_iff_toInt_le.mp (Int32.not_lt.mp h1)
  have h4 := Int32.lt_iff_toInt_lt.mp (Int32.not_le.mp h2)
  rw [nI_toInt hn] at h4
  exact ⟨by simpa using h3, h4⟩
theorem xvb_nI {j n : Nat} (h : j < n) (hn : n < 2 ^ 31) : xvb (nI j) n = true := by
  rw [xvb_iff, nI_toInt (by omega)]
  omega
theorem cl_nI {n j : Nat} {f : Nat → Int32} (h : j < n) (hn : n < 2 ^ 31) : cl n f (nI j) = f j := by
  unfold cl
  rw [if_neg (nI_pos (by omega)), if_neg (nI_ge h hn), nI_clamp (by omega)]
section XLF
variable {sc : Nat × (Nat → Int32)} {d : Nat} {K : List KD} {s : SG} {w : EW}
theorem c_cell {k n : Nat} {i : Int32} (hk : K[k]? = some (kI 0 n)) (hn : n < 2 ^ 31) : xN sc (d + 1) 144 [.inr (.inr (.inl (some k))), .inl i] (wl K s) = some (some (.inl (cl n (s k) i)), wl K s) := by
  rw [mX6_cell]
  simp only [uX6_cell_0, uX6_cell_4, uX6_cell_10, uX6_cell_16, uX6_cell_17, qX6_cell_0, qX6_cell_4, qX6_cell_10, qX6_cell_16, qX6_cell_17, jX6_cell_4_16, jX6_cell_10_16, jX6_cell_16_17, xnn_wl hk rfl, bd_eq]
  unfold cl
  split
  · rfl
  · split
    · rfl
    · rename_i h1 h2
      rw [xdi_wl hk (xvb_of hn h1 h2)]
      rfl
def pt (n : Nat) (s : SG) (k : Nat) (i x : Int32) : SG := if i < 0 then s else if nI n ≤ i then s else up s k i.toNatClampNeg x
theorem c_put {k n : Nat} {i x : Int32} (hk : K[k]? = some (kI 0 n)) (hn : n < 2 ^ 31) : xN sc (d + 1) 145 [.inr (.inr (.inl (some k))), .inl i, .inl x] (wl K s) = some (none, wl K (pt n s k i x)) := by
  rw [mX6_put]
  simp only [uX6_put_0, uX6_put_4, uX6_put_10, uX6_put_14, qX6_put_0, qX6_put_4, qX6_put_10, qX6_put_14, jX6_put_4_14, jX6_put_10_14, xnn_wl hk rfl, bd_eq]
  unfold pt
  split
  · rfl
  · split
    · rfl
    · rename_i h1 h2
      rw [xti_wl hk (xvb_of hn h1 h2)]
      rfl
theorem lcR1 {r : Nat} {i : Int32} (h : RP K r) : xN sc (d + 1) 144 [.inr (.inr (.inl (some (r + 1)))), .inl i] (wl K s) = some (some (.inl (cl 6 (s (r + 1)) i)), wl K s) := c_cell (h.2.1) (by decide)
theorem kcR1 {r : Nat} {i x : Int32} (h : RP K r) : xN sc (d + 1) 145 [.inr (.inr (.inl (some (r + 1)))), .inl i, .inl x] (wl K s) = some (none, wl K (pt 6 s (r + 1) i x)) := c_put (h.2.1) (by decide)
theorem lcR2 {r : Nat} {i : Int32} (h : RP K r) : xN sc (d + 1) 144 [.inr (.inr (.inl (some (r + 2)))), .inl i] (wl K s) = some (some (.inl (cl 6 (s (r + 2)) i)), wl K s) := c_cell (h.2.2.1) (by decide)
theorem kcR2 {r : Nat} {i x : Int32} (h : RP K r) : xN sc (d + 1) 145 [.inr (.inr (.inl (some (r + 2)))), .inl i, .inl x] (wl K s) = some (none, wl K (pt 6 s (r + 2) i x)) := c_put (h.2.2.1) (by decide)
theorem lcR3 {r : Nat} {i : Int32} (h : RP K r) : xN sc (d + 1) 144 [.inr (.inr (.inl (some (r + 3)))), .inl i] (wl K s) = some (some (.inl (cl 6 (s (r + 3)) i)), wl K s) := c_cell (h.2.2.2.1) (by decide)
theorem kcR3 {r : Nat} {i x : Int32} (h : RP K r) : xN sc (d + 1) 145 [.inr (.inr (.inl (some (r + 3)))), .inl i, .inl x] (wl K s) = some (none, wl K (pt 6 s (r + 3) i x)) := c_put (h.2.2.2.1) (by decide)
theorem lcR4 {r : Nat} {i : Int32} (h : RP K r) : xN sc (d + 1) 144 [.inr (.inr (.inl (some (r + 4)))), .inl i] (wl K s) = some (some (.inl (cl 6 (s (r + 4)) i)), wl K s) := c_cell (h.2.2.2.2.1) (by decide)
theorem kcR4 {r : Nat} {i x : Int32} (h : RP K r) : xN sc (d + 1) 145 [.inr (.inr (.inl (some (r + 4)))), .inl i, .inl x] (wl K s) = some (none, wl K (pt 6 s (r + 4) i x)) := c_put (h.2.2.2.2.1) (by decide)
theorem lcR5 {r : Nat} {i : Int32} (h : RP K r) : xN sc (d + 1) 144 [.inr (.inr (.inl (some (r + 5)))), .inl i] (wl K s) = some (some (.inl (cl 72 (s (r + 5)) i)), wl K s) := c_cell (h.2.2.2.2.2.1) (by decide)
theorem kcR5 {r : Nat} {i x : Int32} (h : RP K r) : xN sc (d + 1) 145 [.inr (.inr (.inl (some (r + 5)))), .inl i, .inl x] (wl K s) = some (none, wl K (pt 72 s (r + 5) i x)) := c_put (h.2.2.2.2.2.1) (by decide)
theorem lcR6 {r : Nat} {i : Int32} (h : RP K r) : xN sc (d + 1) 144 [.inr (.inr (.inl (some (r + 6)))), .inl i] (wl K s) = some (some (.inl (cl 6 (s (r + 6)) i)), wl K s) := c_cell (h.2.2.2.2.2.2.1) (by decide)
theorem kcR6 {r : Nat} {i x : Int32} (h : RP K r) : xN sc (d + 1) 145 [.inr (.inr (.inl (some (r + 6)))), .inl i, .inl x] (wl K s) = some (none, wl K (pt 6 s (r + 6) i x)) := c_put (h.2.2.2.2.2.2.1) (by decide)
theorem lcR7 {r : Nat} {i : Int32} (h : RP K r) : xN sc (d + 1) 144 [.inr (.inr (.inl (some (r + 7)))), .inl i] (wl K s) = some (some (.inl (cl 3 (s (r + 7)) i)), wl K s) := c_cell (h.2.2.2.2.2.2.2) (by decide)
theorem kcR7 {r : Nat} {i x : Int32} (h : RP K r) : xN sc (d + 1) 145 [.inr (.inr (.inl (some (r + 7)))), .inl i, .inl x] (wl K s) = some (none, wl K (pt 3 s (r + 7) i x)) := c_put (h.2.2.2.2.2.2.2) (by decide)
theorem lcW1 {q : Nat} {i : Int32} (h : RW K q) : xN sc (d + 1) 144 [.inr (.inr (.inl (some (q + 1)))), .inl i] (wl K s) = some (some (.inl (cl 200 (s (q + 1)) i)), wl K s) := c_cell (h.2) (by decide)
theorem kcW1 {q : Nat} {i x : Int32} (h : RW K q) : xN sc (d + 1) 145 [.inr (.inr (.inl (some (q + 1)))), .inl i, .inl x] (wl K s) = some (none, wl K (pt 200 s (q + 1) i x)) := c_put (h.2) (by decide)
theorem lcT1 {B : Nat} {i : Int32} (h : TD K B) : xN sc (d + 1) 144 [.inr (.inr (.inl (some (B + 1)))), .inl i] (wl K s) = some (some (.inl (cl 600 (s (B + 1)) i)), wl K s) := c_cell (h 1 (by decide)) (by decide)
theorem kcT1 {B : Nat} {i x : Int32} (h : TD K B) : xN sc (d + 1) 145 [.inr (.inr (.inl (some (B + 1)))), .inl i, .inl x] (wl K s) = some (none, wl K (pt 600 s (B + 1) i x)) := c_put (h 1 (by decide)) (by decide)
theorem lcT2 {B : Nat} {i : Int32} (h : TD K B) : xN sc (d + 1) 144 [.inr (.inr (.inl (some (B + 2)))), .inl i] (wl K s) = some (some (.inl (cl 6 (s (B + 2)) i)), wl K s) := c_cell (h 2 (by decide)) (by decide)
theorem kcT2 {B : Nat} {i x : Int32} (h : TD K B) : xN sc (d + 1) 145 [.inr (.inr (.inl (some (B + 2)))), .inl i, .inl x] (wl K s) = some (none, wl K (pt 6 s (B + 2) i x)) := c_put (h 2 (by decide)) (by decide)
theorem lc2 {i : Int32} (h : SH K) : xN sc (d + 1) 144 [.inr (.inr (.inl (some 2))), .inl i] (wl K s) = some (some (.inl (cl 600 (s 2) i)), wl K s) := c_cell (K2 h) (by decide)
theorem kc2 {i x : Int32} (h : SH K) : xN sc (d + 1) 145 [.inr (.inr (.inl (some 2))), .inl i, .inl x] (wl K s) = some (none, wl K (pt 600 s 2 i x)) := c_put (K2 h) (by decide)
theorem lc3 {i : Int32} (h : SH K) : xN sc (d + 1) 144 [.inr (.inr (.inl (some 3))), .inl i] (wl K s) = some (some (.inl (cl 6 (s 3) i)), wl K s) := c_cell (K3 h) (by decide)
theorem kc3 {i x : Int32} (h : SH K) : xN sc (d + 1) 145 [.inr (.inr (.inl (some 3))), .inl i, .inl x] (wl K s) = some (none, wl K (pt 6 s 3 i x)) := c_put (K3 h) (by decide)
theorem lc54 {i : Int32} (h : SH K) : xN sc (d + 1) 144 [.inr (.inr (.inl (some 54))), .inl i] (wl K s) = some (some (.inl (cl 600 (s 54) i)), wl K s) := c_cell (K54 h) (by decide)
theorem kc54 {i x : Int32} (h : SH K) : xN sc (d + 1) 145 [.inr (.inr (.inl (some 54))), .inl i, .inl x] (wl K s) = some (none, wl K (pt 600 s 54 i x)) := c_put (K54 h) (by decide)
theorem lc55 {i : Int32} (h : SH K) : xN sc (d + 1) 144 [.inr (.inr (.inl (some 55))), .inl i] (wl K s) = some (some (.inl (cl 5 (s 55) i)), wl K s) := c_cell (K55 h) (by decide)
theorem kc55 {i x : Int32} (h : SH K) : xN sc (d + 1) 145 [.inr (.inr (.inl (some 55))), .inl i, .inl x] (wl K s) = some (none, wl K (pt 5 s 55 i x)) := c_put (K55 h) (by decide)
theorem lc58 {i : Int32} (h : SH K) : xN sc (d + 1) 144 [.inr (.inr (.inl (some 58))), .inl i] (wl K s) = some (some (.inl (cl 6 (s 58) i)), wl K s) := c_cell (K58 h) (by decide)
theorem kc58 {i x : Int32} (h : SH K) : xN sc (d + 1) 145 [.inr (.inr (.inl (some 58))), .inl i, .inl x] (wl K s) = some (none, wl K (pt 6 s 58 i x)) := c_put (K58 h) (by decide)
theorem lc59 {i : Int32} (h : SH K) : xN sc (d + 1) 144 [.inr (.inr (.inl (some 59))), .inl i] (wl K s) = some (some (.inl (cl 3 (s 59) i)), wl K s) := c_cell (K59 h) (by decide)
theorem kc59 {i x : Int32} (h : SH K) : xN sc (d + 1) 145 [.inr (.inr (.inl (some 59))), .inl i, .inl x] (wl K s) = some (none, wl K (pt 3 s 59 i x)) := c_put (K59 h) (by decide)
theorem lc61 {i : Int32} (h : SH K) : xN sc (d + 1) 144 [.inr (.inr (.inl (some 61))), .inl i] (wl K s) = some (some (.inl (cl 40 (s 61) i)), wl K s) := c_cell (K61 h) (by decide)
theorem kc61 {i x : Int32} (h : SH K) : xN sc (d + 1) 145 [.inr (.inr (.inl (some 61))), .inl i, .inl x] (wl K s) = some (none, wl K (pt 40 s 61 i x)) := c_put (K61 h) (by decide)
theorem lc62 {i : Int32} (h : SH K) : xN sc (d + 1) 144 [.inr (.inr (.inl (some 62))), .inl i] (wl K s) = some (some (.inl (cl 216 (s 62) i)), wl K s) := c_cell (K62 h) (by decide)
theorem kc62 {i x : Int32} (h : SH K) : xN sc (d + 1) 145 [.inr (.inr (.inl (some 62))), .inl i, .inl x] (wl K s) = some (none, wl K (pt 216 s 62 i x)) := c_put (K62 h) (by decide)
theorem lc63 {i : Int32} (h : SH K) : xN sc (d + 1) 144 [.inr (.inr (.inl (some 63))), .inl i] (wl K s) = some (some (.inl (cl 1000 (s 63) i)), wl K s) := c_cell (K63 h) (by decide)
theorem kc63 {i x : Int32} (h : SH K) : xN sc (d + 1) 145 [.inr (.inr (.inl (some 63))), .inl i, .inl x] (wl K s) = some (none, wl K (pt 1000 s 63 i x)) := c_put (K63 h) (by decide)
def hasI (x k : Int32) : Int32 := if k < 0 then 0 else if 6 ≤ k then 0 else if (x >>> (k &&& 31)) &&& 1 = 1 then 1 else 0
theorem c_has {x k : Int32} : xN sc (d + 1) 143 [.inl x, .inl k] w = some (some (.inl (hasI x k)), w) := by
  rw [mX6_has]
  simp only [uX6_has_0, uX6_has_4, uX6_has_10, uX6_has_19, uX6_has_23, uX6_has_24, qX6_has_0, qX6_has_4, qX6_has_10, qX6_has_19, qX6_has_23, qX6_has_24, jX6_has_4_23, jX6_has_10_23, jX6_has_19_23, jX6_has_23_24]
  unfold hasI
  repeat' split
  all_goals rfl
def amtI (day kind : Int32) : Int32 := if kind = 0 then day / 100 else if kind = 1 then day / 10 - day / 10 / 10 * 10 else day - day / 10 * 10
theorem c_amount {x k : Int32} : xN sc (d + 1) 142 [.inl x, .inl k] w = some (some (.inl (amtI x k)), w) := by
  rw [mX6_amount]
  simp only [uX6_amount_0, uX6_amount_4, uX6_amount_9, uX6_amount_14, uX6_amount_24, uX6_amount_28, qX6_amount_0, qX6_amount_4, qX6_amount_9, qX6_amount_14, qX6_amount_24, qX6_amount_28, jX6_amount_4_9, jX6_amount_14_24, jX6_amount_24_28]
  unfold amtI
  repeat' split
  all_goals first | rfl | contradiction
def numI (a b c : Int32) : Int32 := (a * 10 + b) * 10 + c
theorem c_numberOf {a b c : Int32} : xN sc (d + 1) 141 [.inl a, .inl b, .inl c] w = some (some (.inl (numI a b c)), w) := by
  rw [mX6_numberOf]
  simp only [uX6_numberOf_0, qX6_numberOf_0]
  rfl
def isaI (a : Int32) : Int32 := if a < 0 then 0 else if 10 ≤ a then 0 else 1
theorem c_isAmount {a : Int32} : xN sc (d + 1) 139 [.inl a] w = some (some (.inl (isaI a)), w) := by
  rw [mX6_isAmount]
  simp only [uX6_isAmount_0, uX6_isAmount_4, uX6_isAmount_10, uX6_isAmount_14, uX6_isAmount_15, qX6_isAmount_0, qX6_isAmount_4, qX6_isAmount_10, qX6_isAmount_14, qX6_isAmount_15, jX6_isAmount_4_14, jX6_isAmount_10_14, jX6_isAmount_14_15]
  unfold isaI
  repeat' split
  all_goals rfl
def issI (a : Int32) : Int32 := if a < 0 then 0 else if 4 ≤ a then 0 else 1
theorem c_isSeason {a : Int32} : xN sc (d + 1) 138 [.inl a] w = some (some (.inl (issI a)), w) := by
  rw [mX6_isSeason]
  simp only [uX6_isSeason_0, uX6_isSeason_4, uX6_isSeason_9, uX6_isSeason_13, uX6_isSeason_14, qX6_isSeason_0, qX6_isSeason_4, qX6_isSeason_9, qX6_isSeason_13, qX6_isSeason_14, jX6_isSeason_4_13, jX6_isSeason_9_13, jX6_isSeason_13_14]
  unfold issI
  repeat' split
  all_goals rfl
def dayI (a b c : Int32) : Int32 := if isaI a = 0 then -1 else if isaI b = 0 then -1 else if isaI c = 0 then -1 else numI a b c
theorem c_dayOf {a b c : Int32} : xN sc (d + 2) 140 [.inl a, .inl b, .inl c] w = some (some (.inl (dayI a b c)), w) := by
  rw [mX6_dayOf]
  simp only [uX6_dayOf_0, uX6_dayOf_7, uX6_dayOf_14, uX6_dayOf_21, uX6_dayOf_30, uX6_dayOf_31, qX6_dayOf_0, qX6_dayOf_7, qX6_dayOf_14, qX6_dayOf_21, qX6_dayOf_30, qX6_dayOf_31, jX6_dayOf_7_30, jX6_dayOf_14_30, jX6_dayOf_21_30, jX6_dayOf_30_31, c_isAmount, c_numberOf, xci_eq]
  unfold dayI
  repeat' split
  all_goals first | rfl | contradiction
end XLF
end
section
/-! a republic: what is asked of it by itself -/
section XRP
variable {sc : Nat × (Nat → Int32)} {d : Nat} {K : List KD} {s : SG} {r : Nat}
def minI (s : SG) (r : Nat) (m : Int32) : Int32 := if m < 0 then 0 else if s r 0 ≤ m then 0 else 1
theorem c_isMinister {m : Int32} (h : RP K r) : xN sc (d + 1) 46 [.inr (.inr (.inl (some r))), .inl m] (wl K s) = some (some (.inl (minI s r m)), wl K s) := by
  rw [mX2_isMinister]
  simp only [uX2_isMinister_0, uX2_isMinister_4, uX2_isMinister_12, uX2_isMinister_16, uX2_isMinister_17, qX2_isMinister_0, qX2_isMinister_4, qX2_isMinister_12, qX2_isMinister_16, qX2_isMinister_17, jX2_isMinister_4_16, jX2_isMinister_12_16, jX2_isMinister_16_17, cR_g0 h, bd_eq]
  unfold minI
  repeat' split
  all_goals first | rfl | contradiction
def allI (s : SG) (r : Nat) : Int32 := (1 <<< (s r 0 &&& 31)) - 1
theorem c_everybody (h : RP K r) : xN sc (d + 1) 47 [.inr (.inr (.inl (some r)))] (wl K s) = some (some (.inl (allI s r)), wl K s) := by
  rw [mX2_everybody]
  simp only [uX2_everybody_0, qX2_everybody_0, cR_g0 h, bd_eq]
  rfl
def wanI (s : SG) (r : Nat) (m p : Int32) : Int32 := cl 72 (s (r + 5)) (m * 4 * 3 + p)
theorem c_want {m p : Int32} (h : RP K r) : xN sc (d + 2) 48 [.inr (.inr (.inl (some r))), .inl m, .inl p] (wl K s) = some (some (.inl (wanI s r m p)), wl K s) := by
  rw [mX2_want]
  simp only [uX2_want_0, qX2_want_0, cR_g5 h, bd_eq, lcR5 h, xci_eq]
  rfl
def absI (x : Int32) : Int32 := if 0 ≤ x then x else 0 - x
def disI (s : SG) (r : Nat) (m se day : Int32) : Nat → Int32
  | 0 => 0
  | k + 1 => disI s r m se day k + absI (amtI day (nI k) - cl 72 (s (r + 5)) ((m * 4 + se) * 3 + nI k))
theorem l_distance {m se day p : Int32} (h : RP K r) (hp : p = (m * 4 + se) * 3) {i : Nat → List EV → EW → XR} (hi : i = xN sc (d + 1)) : ∀ (n j k : Nat), j + n = 3 → n ≤ k → fW sc 2 1 false 7 i (ex sc 2 1 false 7 i kX2_distance_0 k) kX2_distance_15 15 [some (.inr (.inr (.inl (some r)))), some (.inl m), some (.inl se), some (.inl day), some (.inl p), some (.inl (disI s r m se day j)), some (.inl (nI j))] [] (wl K s) = some (some (.inl (disI s r m se day 3)), wl K s) := by
  subst hi; subst hp
  intro n
  induction n with
  | zero =>
    intro j k hj hk
    have e : j = 3 := by omega
    subst e
    simp only [uX2_distance_15, qX2_distance_15, jX2_distance_21_54, jX2_distance_0_15]
    rw [if_pos (show (3 : Int32) ≤ nI 3 from by decide)]
    simp only [uX2_distance_54, qX2_distance_54, jX2_distance_21_54, jX2_distance_0_15]
  | succ n ih =>
    intro j k hj hk
    obtain ⟨k, rfl⟩ : ∃ k', k = k' + 1 := ⟨k - 1, by omega⟩
    simp only [uX2_distance_15, qX2_distance_15, jX2_distance_21_54, jX2_distance_0_15]
    rw [if_neg (show ¬ (3 : Int32) ≤ nI j from nI_ge (a := j) (b := 3) (by omega) (by decide))]
    simp only [uX2_distance_21, qX2_distance_21, jX2_distance_21_54, jX2_distance_0_15, c_amount, xci_eq, cR_g5 h, bd_eq, lcR5 h, eX_eq]
    have e := ih (j + 1) k (by omega) (by omega)
    rw [nI_succ] at e
    rw [show disI s r m se day (j + 1) = disI s r m se day j + absI (amtI day (nI j) - cl 72 (s (r + 5)) ((m * 4 + se) * 3 + nI j)) from rfl] at e
    simp only [absI] at e
    exact e
theorem c_distance {m se day : Int32} (h : RP K r) : xN sc (d + 2) 49 [.inr (.inr (.inl (some r))), .inl m, .inl se, .inl day] (wl K s) = some (some (.inl (disI s r m se day 3)), wl K s) := by
  rw [mX2_distance]
  simp only [uX2_distance_0, qX2_distance_0, jX2_distance_21_54, jX2_distance_0_15]
  exact l_distance h rfl rfl 3 0 xF rfl (by have := xF_ge; omega)
def patI (s : SG) (r : Nat) (m b : Int32) : Int32 := cl 6 (s (r + 2)) m - (if hasI (cl 6 (s (r + 6)) m) b = 0 then 0 else s r 10)
theorem c_patience {m b : Int32} (h : RP K r) : xN sc (d + 2) 50 [.inr (.inr (.inl (some r))), .inl m, .inl b] (wl K s) = some (some (.inl (patI s r m b)), wl K s) := by
  rw [mX2_patience]
  simp only [uX2_patience_0, uX2_patience_23, uX2_patience_30, uX2_patience_31, qX2_patience_0, qX2_patience_23, qX2_patience_30, qX2_patience_31, jX2_patience_23_30, jX2_patience_30_31, c_has, xci_eq, cR_g2 h, cR_g6 h, cR_g10 h, bd_eq, lcR2 h, lcR6 h]
  unfold patI
  repeat' split
  all_goals first | rfl | contradiction
def sz (s : SG) (r : Nat) : Nat := (s r 0).toNatClampNeg
/-- a republic's size is one that a text can tell -/
def SZ (s : SG) (r : Nat) : Prop := s r 0 = nI (sz s r) ∧ sz s r ≤ 6
def votI (s : SG) (r : Nat) (x : Int32) : Nat → Int32
  | 0 => 0
  | k + 1 => if hasI x (nI k) = 0 then votI s r x k else votI s r x k + cl 6 (s (r + 1)) (nI k)
theorem l_votesOf {x : Int32} (h : RP K r) (hz : SZ s r) {i : Nat → List EV → EW → XR} (hi : i = xN sc (d + 1)) : ∀ (n j k : Nat), j + n = sz s r → n ≤ k → fW sc 2 1 false 4 i (ex sc 2 1 false 4 i kX2_votesOf_0 k) kX2_votesOf_4 4 [some (.inr (.inr (.inl (some r)))), some (.inl x), some (.inl (votI s r x j)), some (.inl (nI j))] [] (wl K s) = some (some (.inl (votI s r x (sz s r))), wl K s) := by
  subst hi
  obtain ⟨hz1, hz2⟩ := hz
  intro n
  induction n with
  | zero =>
    intro j k hj hk
    have e : j = sz s r := by omega
    subst e
    simp only [uX2_votesOf_4, qX2_votesOf_4, jX2_votesOf_12_37, jX2_votesOf_20_31, jX2_votesOf_0_4, cR_g0 h, bd_eq]
    rw [hz1, if_pos (Int32.le_refl _)]
    simp only [uX2_votesOf_37, qX2_votesOf_37, jX2_votesOf_12_37, jX2_votesOf_20_31, jX2_votesOf_0_4]
  | succ n ih =>
    intro j k hj hk
    obtain ⟨k, rfl⟩ : ∃ k', k = k' + 1 := ⟨k - 1, by omega⟩
    have e := ih (j + 1) k (by omega) (by omega)
    rw [nI_succ] at e
    simp only [uX2_votesOf_4, qX2_votesOf_4, jX2_votesOf_12_37, jX2_votesOf_20_31, jX2_votesOf_0_4, cR_g0 h, bd_eq]
    rw [hz1, if_neg (nI_ge (a := j) (b := sz s r) (by omega) (by omega))]
    simp only [uX2_votesOf_12, qX2_votesOf_12, jX2_votesOf_12_37, jX2_votesOf_20_31, jX2_votesOf_0_4, c_has, xci_eq]
    split
    · rename_i hc
      simp only [votI, if_pos hc] at e
      simp only [uX2_votesOf_31, qX2_votesOf_31, jX2_votesOf_12_37, jX2_votesOf_20_31, jX2_votesOf_0_4, eX_eq]
      exact e
    · rename_i hc
      simp only [votI, if_neg hc] at e
      simp only [uX2_votesOf_20, uX2_votesOf_31, qX2_votesOf_20, qX2_votesOf_31, jX2_votesOf_12_37, jX2_votesOf_20_31, jX2_votesOf_0_4, cR_g1 h, bd_eq, lcR1 h, xci_eq, eX_eq]
      exact e
def votT (s : SG) (r : Nat) (x : Int32) : Int32 := votI s r x (sz s r)
theorem c_votesOf {x : Int32} (h : RP K r) (hz : SZ s r) : xN sc (d + 2) 52 [.inr (.inr (.inl (some r))), .inl x] (wl K s) = some (some (.inl (votT s r x)), wl K s) := by
  rw [mX2_votesOf]
  simp only [uX2_votesOf_0, qX2_votesOf_0, jX2_votesOf_12_37, jX2_votesOf_20_31, jX2_votesOf_0_4]
  exact l_votesOf h hz rfl (sz s r) 0 xF (by omega) (by have := hz.2; have := xF_ge; omega)
def agrI (s : SG) (r : Nat) (b se day : Int32) : Nat → Int32
  | 0 => 0
  | k + 1 => if nI k = b then agrI s r b se day k ||| (1 <<< (nI k &&& 31)) else if patI s r (nI k) b < disI s r (nI k) se day 3 then agrI s r b se day k else agrI s r b se day k ||| (1 <<< (nI k &&& 31))
theorem l_agreeing {b se day : Int32} (h : RP K r) (hz : SZ s r) {i : Nat → List EV → EW → XR} (hi : i = xN sc (d + 2)) : ∀ (n j k : Nat), j + n = sz s r → n ≤ k → fW sc 2 1 false 6 i (ex sc 2 1 false 6 i kX2_agreeing_0 k) kX2_agreeing_6 6 [some (.inr (.inr (.inl (some r)))), some (.inl b), some (.inl se), some (.inl day), some (.inl (agrI s r b se day j)), some (.inl (nI j))] [] (wl K s) = some (some (.inl (agrI s r b se day (sz s r))), wl K s) := by
  subst hi
  obtain ⟨hz1, hz2⟩ := hz
  intro n
  induction n with
  | zero =>
    intro j k hj hk
    have e : j = sz s r := by omega
    subst e
    simp only [uX2_agreeing_6, qX2_agreeing_6, jX2_agreeing_15_54, jX2_agreeing_21_39, jX2_agreeing_39_48, jX2_agreeing_0_6, cR_g0 h, bd_eq]
    rw [hz1, if_pos (Int32.le_refl _)]
    simp only [uX2_agreeing_54, qX2_agreeing_54, jX2_agreeing_15_54, jX2_agreeing_21_39, jX2_agreeing_39_48, jX2_agreeing_0_6]
  | succ n ih =>
    intro j k hj hk
    obtain ⟨k, rfl⟩ : ∃ k', k = k' + 1 := ⟨k - 1, by omega⟩
    have e := ih (j + 1) k (by omega) (by omega)
    rw [nI_succ] at e
    simp only [uX2_agreeing_6, qX2_agreeing_6, jX2_agreeing_15_54, jX2_agreeing_21_39, jX2_agreeing_39_48, jX2_agreeing_0_6, cR_g0 h, bd_eq]
    rw [hz1, if_neg (nI_ge (a := j) (b := sz s r) (by omega) (by omega))]
    simp only [uX2_agreeing_15, qX2_agreeing_15, jX2_agreeing_15_54, jX2_agreeing_21_39, jX2_agreeing_39_48, jX2_agreeing_0_6]
    split
    · rename_i hc
      simp only [agrI, if_pos hc] at e
      simp only [uX2_agreeing_39, uX2_agreeing_48, qX2_agreeing_39, qX2_agreeing_48, jX2_agreeing_15_54, jX2_agreeing_21_39, jX2_agreeing_39_48, jX2_agreeing_0_6, eX_eq]
      exact e
    · rename_i hc
      simp only [uX2_agreeing_21, qX2_agreeing_21, jX2_agreeing_15_54, jX2_agreeing_21_39, jX2_agreeing_39_48, jX2_agreeing_0_6, cR_v h, c_distance h, c_patience h, xci_eq, cond_true]
      split
      · rename_i hc2
        simp only [agrI, if_neg hc, if_pos hc2] at e
        simp only [uX2_agreeing_48, qX2_agreeing_48, jX2_agreeing_15_54, jX2_agreeing_21_39, jX2_agreeing_39_48, jX2_agreeing_0_6, eX_eq]
        exact e
      · rename_i hc2
        simp only [agrI, if_neg hc, if_neg hc2] at e
        simp only [uX2_agreeing_39, uX2_agreeing_48, qX2_agreeing_39, qX2_agreeing_48, jX2_agreeing_15_54, jX2_agreeing_21_39, jX2_agreeing_39_48, jX2_agreeing_0_6, eX_eq]
        exact e
def agrT (s : SG) (r : Nat) (b se day : Int32) : Int32 := agrI s r b se day (sz s r)
theorem c_agreeing {b se day : Int32} (h : RP K r) (hz : SZ s r) : xN sc (d + 3) 51 [.inr (.inr (.inl (some r))), .inl b, .inl se, .inl day] (wl K s) = some (some (.inl (agrT s r b se day)), wl K s) := by
  rw [mX2_agreeing]
  simp only [uX2_agreeing_0, qX2_agreeing_0, jX2_agreeing_15_54, jX2_agreeing_21_39, jX2_agreeing_39_48, jX2_agreeing_0_6]
  exact l_agreeing h hz rfl (sz s r) 0 xF (by omega) (by have := hz.2; have := xF_ge; omega)
def pasI (s : SG) (r : Nat) (t a : Int32) : Int32 := if votT s r (t &&& a) < s r 9 then 0 else if ((t &&& s r 8) &&& (a ^^^ (-1))) = 0 then 1 else 0
theorem c_isPassed {t a : Int32} (h : RP K r) (hz : SZ s r) : xN sc (d + 3) 53 [.inr (.inr (.inl (some r))), .inl t, .inl a] (wl K s) = some (some (.inl (pasI s r t a)), wl K s) := by
  rw [mX2_isPassed]
  simp only [uX2_isPassed_0, uX2_isPassed_14, uX2_isPassed_27, uX2_isPassed_31, uX2_isPassed_32, qX2_isPassed_0, qX2_isPassed_14, qX2_isPassed_27, qX2_isPassed_31, qX2_isPassed_32, jX2_isPassed_14_31, jX2_isPassed_27_31, jX2_isPassed_31_32, cR_v h, c_votesOf h hz, cR_g9 h, cR_g8 h, xci_eq, cond_true, bd_eq]
  unfold pasI
  repeat' split
  all_goals first | rfl | contradiction
def arsI (s : SG) (r : Nat) (x : Int32) : Int32 := if minI s r (x / 36) = 0 then 0 else if minI s r (x / 6 - x / 6 / 6 * 6) = 0 then 0 else if minI s r (x - x / 6 * 6) = 0 then 0 else if x / 36 = x / 6 - x / 6 / 6 * 6 then 0 else if x / 6 - x / 6 / 6 * 6 = x - x / 6 * 6 then 0 else if x / 36 = x - x / 6 * 6 then 0 else 1
theorem c_areSeats {x : Int32} (h : RP K r) : xN sc (d + 2) 54 [.inr (.inr (.inl (some r))), .inl x] (wl K s) = some (some (.inl (arsI s r x)), wl K s) := by
  rw [mX2_areSeats]
  simp only [uX2_areSeats_0, uX2_areSeats_27, uX2_areSeats_35, uX2_areSeats_44, uX2_areSeats_49, uX2_areSeats_55, uX2_areSeats_61, uX2_areSeats_65, uX2_areSeats_66, qX2_areSeats_0, qX2_areSeats_27, qX2_areSeats_35, qX2_areSeats_44, qX2_areSeats_49, qX2_areSeats_55, qX2_areSeats_61, qX2_areSeats_65, qX2_areSeats_66, jX2_areSeats_27_65, jX2_areSeats_35_65, jX2_areSeats_44_65, jX2_areSeats_49_65, jX2_areSeats_55_65, jX2_areSeats_61_65, jX2_areSeats_65_66, cR_v h, c_isMinister h, xci_eq, cond_true]
  unfold arsI
  repeat' split
  all_goals first | rfl | contradiction
def proI (s : SG) (r : Nat) (x se : Int32) : Int32 := numI (wanI s r (x / 36) (se * 3 + 0)) (wanI s r (x / 6 - x / 6 / 6 * 6) (se * 3 + 1)) (wanI s r (x - x / 6 * 6) (se * 3 + 2))
theorem c_proposal {x se : Int32} (h : RP K r) : xN sc (d + 3) 55 [.inr (.inr (.inl (some r))), .inl x, .inl se] (wl K s) = some (some (.inl (proI s r x se)), wl K s) := by
  rw [mX2_proposal]
  simp only [uX2_proposal_0, qX2_proposal_0, cR_v h, c_want h, c_numberOf, xci_eq, cond_true]
  rfl
end XRP
end
section
/-! the reference: what is asked of a republic -/
theorem nI_mulx (a b : Nat) : nI a * nI b = nI (a * b) := (Int32.ofNat_mul a b).symm
section XRF
variable {sc : Nat × (Nat → Int32)} {d : Nat} {K : List KD} {s : SG} {w : EW}
def rh (s : SG) : Nat := (s 64 11).toNatClampNeg
/-- the republic that is looked at lies within all that is told -/
def RH (s : SG) : Prop := s 64 11 = nI (rh s) ∧ rh s ≤ 728
def inI (v a b : Int32) : Int32 := if v < a then 0 else if b < v then 0 else 1
theorem e_isIn {v a b : Int32} : xN sc (d + 1) 150 [.inl v, .inl a, .inl b] w = some (some (.inl (inI v a b)), w) := by
  rw [mX7_isIn]
  simp only [uX7_isIn_0, uX7_isIn_5, uX7_isIn_10, uX7_isIn_14, uX7_isIn_15, qX7_isIn_0, qX7_isIn_5, qX7_isIn_10, qX7_isIn_14, qX7_isIn_15, jX7_isIn_5_14, jX7_isIn_10_14, jX7_isIn_14_15]
  unfold inI
  repeat' split
  all_goals first | rfl | contradiction
theorem inI_rt {v a b : Int32} : xrt 4 (inI v a b) = true := by
  unfold inI
  repeat' split
  all_goals rfl
def ofN (s : SG) (a : Nat) : Int32 := s 65 (rh s + a)
theorem e_of {x : Int32} {a : Nat} (h : SH K) (hr : RH s) (hx : x = nI a) (ha : a < 5000) : xN sc (d + 1) 188 [.inr (.inr (.inl (some 64))), .inl x] (wl K s) = some (some (.inl (ofN s a)), wl K s) := by
  subst hx
  rw [mX7_of]
  simp only [uX7_of_0, qX7_of_0, c64_g0 h, c64_g11 h, bd_eq]
  have h2 := hr.2
  rw [hr.1, nI_add, c65_d h (xvb_nI (j := rh s + a) (by omega) (by decide)), nI_clamp (by omega)]
  rfl
theorem e_ministers (h : SH K) (hr : RH s) : xN sc (d + 2) 189 [.inr (.inr (.inl (some 64)))] (wl K s) = some (some (.inl (ofN s 0)), wl K s) := by
  rw [mX7_ministers]
  simp only [uX7_ministers_0, qX7_ministers_0, c64_v h, e_of (x := 0) (a := 0) h hr rfl (by decide), xci_eq, cond_true]
def mnN (s : SG) (m : Int32) : Int32 := inI m 0 (ofN s 0 - 1)
theorem e_isMinister {m : Int32} (h : SH K) (hr : RH s) : xN sc (d + 3) 190 [.inr (.inr (.inl (some 64))), .inl m] (wl K s) = some (some (.inl (mnN s m)), wl K s) := by
  rw [mX7_isMinister]
  simp only [uX7_isMinister_0, qX7_isMinister_0, c64_v h, e_ministers h hr, e_isIn, inI_rt, xci_eq, cond_true]
  rfl
theorem e_ofMinister {x y : Int32} {m a : Nat} (h : SH K) (hr : RH s) (hx : x = nI m) (hy : y = nI a) (hm : m < 6) (ha : a < 18) : xN sc (d + 2) 191 [.inr (.inr (.inl (some 64))), .inl x, .inl y] (wl K s) = some (some (.inl (ofN s (10 + 18 * m + a))), wl K s) := by
  rw [mX7_ofMinister]
  have e : (10 + 18 * x) + y = nI (10 + 18 * m + a) := by
    subst hx; subst hy
    show (nI 10 + nI 18 * nI m) + nI a = _
    rw [nI_mulx, nI_add, nI_add]
  simp only [uX7_ofMinister_0, qX7_ofMinister_0, c64_v h, e_of h hr e (by omega), xci_eq, cond_true]
theorem e_wants {x y z : Int32} {m a b : Nat} (h : SH K) (hr : RH s) (hx : x = nI m) (hy : y = nI a) (hz : z = nI b) (hm : m < 6) (ha : a < 4) (hb : b < 3) : xN sc (d + 3) 192 [.inr (.inr (.inl (some 64))), .inl x, .inl y, .inl z] (wl K s) = some (some (.inl (ofN s (16 + 18 * m + 3 * a + b))), wl K s) := by
  rw [mX7_wants]
  have e : (6 + 3 * y) + z = nI (6 + 3 * a + b) := by
    subst hy; subst hz
    show (nI 6 + nI 3 * nI a) + nI b = _
    rw [nI_mulx, nI_add, nI_add]
  simp only [uX7_wants_0, qX7_wants_0, c64_v h, e_ofMinister h hr hx e hm (by omega), xci_eq, cond_true]
  rw [show 10 + 18 * m + (6 + 3 * a + b) = 16 + 18 * m + 3 * a + b by omega]
def atI (day kind : Int32) : Int32 := amtI day kind
theorem e_amountOf {x k : Int32} : xN sc (d + 1) 195 [.inl x, .inl k] w = some (some (.inl (amtI x k)), w) := by
  rw [mX7_amountOf]
  simp only [uX7_amountOf_0, uX7_amountOf_4, uX7_amountOf_11, uX7_amountOf_16, uX7_amountOf_26, uX7_amountOf_30, qX7_amountOf_0, qX7_amountOf_4, qX7_amountOf_11, qX7_amountOf_16, qX7_amountOf_26, qX7_amountOf_30, jX7_amountOf_4_11, jX7_amountOf_11_30, jX7_amountOf_16_26, jX7_amountOf_26_30]
  unfold amtI
  repeat' split
  all_goals first | rfl | contradiction
def tks (s : SG) (day : Int32) : SG := up (up (up s 64 12 (amtI day 0)) 64 13 (amtI day 1)) 64 14 (amtI day 2)
theorem e_talksOf {x : Int32} (h : SH K) : xN sc (d + 1) 196 [.inr (.inr (.inl (some 64))), .inl x] (wl K s) = some (none, wl K (tks s x)) := by
  rw [mX7_talksOf]
  simp only [uX7_talksOf_0, qX7_talksOf_0, c64_p12 h, c64_p13 h, c64_p14 h, bd_eq]
  rfl
def sizI (v : Int32) : Int32 := if 0 ≤ v then v else -v
theorem e_size {v : Int32} : xN sc (d + 1) 197 [.inl v] w = some (some (.inl (sizI v)), w) := by
  rw [mX7_size]
  simp only [uX7_size_0, uX7_size_4, uX7_size_9, uX7_size_10, qX7_size_0, qX7_size_4, qX7_size_9, qX7_size_10, jX7_size_4_9, jX7_size_9_10]
  unfold sizI
  repeat' split
  all_goals rfl
end XRF
end
section
/-! the reference: who agrees, what passes -/
section XRG
variable {sc : Nat × (Nat → Int32)} {d : Nat} {K : List KD} {s : SG} {w : EW}
def seN (s : SG) : Nat := (s 64 16).toNatClampNeg
def SE (s : SG) : Prop := s 64 16 = nI (seN s) ∧ seN s < 4
def msz (s : SG) : Nat := (ofN s 0).toNatClampNeg
def MZ (s : SG) : Prop := ofN s 0 = nI (msz s) ∧ msz s ≤ 6
def wnN (s : SG) (m a b : Nat) : Int32 := ofN s (16 + 18 * m + 3 * a + b)
def ofoN (s : SG) (m : Nat) : Int32 := sizI (s 64 12 - wnN s m (seN s) 0) + sizI (s 64 13 - wnN s m (seN s) 1) + sizI (s 64 14 - wnN s m (seN s) 2)
theorem e_offOf {x : Int32} {m : Nat} (h : SH K) (hr : RH s) (hs : SE s) (hx : x = nI m) (hm : m < 6) : xN sc (d + 4) 198 [.inr (.inr (.inl (some 64))), .inl x] (wl K s) = some (some (.inl (ofoN s m)), wl K s) := by
  obtain ⟨h1, h2⟩ := hs
  rw [mX7_offOf]
  simp only [uX7_offOf_0, qX7_offOf_0, c64_v h, c64_g12 h, c64_g13 h, c64_g14 h, c64_g16 h, e_wants h hr hx h1 (z := 0) (b := 0) rfl hm h2 (by decide), e_wants h hr hx h1 (z := 1) (b := 1) rfl hm h2 (by decide), e_wants h hr hx h1 (z := 2) (b := 2) rfl hm h2 (by decide), e_size, xci_eq, cond_true, bd_eq]
  rfl
def yieN (s : SG) (m : Nat) : Int32 := ofN s (10 + 18 * m + 1) - (if (ofN s (10 + 18 * m + 5) >>> (s 64 15 &&& 31)) &&& 1 = 1 then ofN s 2 else 0)
theorem e_yields {x : Int32} {m : Nat} (h : SH K) (hr : RH s) (hx : x = nI m) (hm : m < 6) : xN sc (d + 3) 199 [.inr (.inr (.inl (some 64))), .inl x] (wl K s) = some (some (.inl (yieN s m)), wl K s) := by
  rw [mX7_yields]
  simp only [uX7_yields_0, uX7_yields_23, uX7_yields_31, uX7_yields_32, qX7_yields_0, qX7_yields_23, qX7_yields_31, qX7_yields_32, jX7_yields_23_31, jX7_yields_31_32, c64_v h, c64_g15 h, e_ofMinister h hr hx (y := 1) (a := 1) rfl hm (by decide), e_ofMinister h hr hx (y := 5) (a := 5) rfl hm (by decide), e_of (x := 2) (a := 2) h hr rfl (by decide), xci_eq, cond_true, bd_eq]
  unfold yieN
  repeat' split
  all_goals first | rfl | contradiction
def agsN (s : SG) (m : Nat) : Int32 := if nI m = s 64 15 then 1 else if yieN s m < ofoN s m then 0 else 1
theorem e_agrees {x : Int32} {m : Nat} (h : SH K) (hr : RH s) (hs : SE s) (hx : x = nI m) (hm : m < 6) : xN sc (d + 5) 200 [.inr (.inr (.inl (some 64))), .inl x] (wl K s) = some (some (.inl (agsN s m)), wl K s) := by
  subst hx
  rw [mX7_agrees]
  simp only [uX7_agrees_0, uX7_agrees_8, uX7_agrees_21, uX7_agrees_25, uX7_agrees_26, qX7_agrees_0, qX7_agrees_8, qX7_agrees_21, qX7_agrees_25, qX7_agrees_26, jX7_agrees_8_21, jX7_agrees_21_25, jX7_agrees_25_26, c64_v h, c64_g15 h, e_offOf h hr hs (x := nI m) rfl hm, e_yields h hr (x := nI m) rfl hm, xci_eq, cond_true, bd_eq]
  unfold agsN
  repeat' split
  all_goals first | rfl | contradiction
def agmN (s : SG) : Nat → Int32
  | 0 => 0
  | k + 1 => agmN s k ||| (if agsN s k = 0 then (0 : Int32) else 1 <<< (nI k &&& 31))
theorem f_agreeing (h : SH K) (hr : RH s) (hs : SE s) (hz : MZ s) {i : Nat → List EV → EW → XR} (hi : i = xN sc (d + 5)) : ∀ (n j k : Nat), j + n = msz s → n ≤ k → fW sc 7 1 false 3 i (ex sc 7 1 false 3 i kX7_agreeing_0 k) kX7_agreeing_4 4 [some (.inr (.inr (.inl (some 64)))), some (.inl (agmN s j)), some (.inl (nI j))] [] (wl K s) = some (some (.inl (agmN s (msz s))), wl K s) := by
  subst hi
  obtain ⟨hz1, hz2⟩ := hz
  intro n
  induction n with
  | zero =>
    intro j k hj hk
    have e : j = msz s := by omega
    subst e
    simp only [uX7_agreeing_4, qX7_agreeing_4, jX7_agreeing_12_36, jX7_agreeing_21_27, jX7_agreeing_27_28, jX7_agreeing_0_4, c64_v h, e_ministers h hr, xci_eq, cond_true]
    rw [hz1, if_pos (Int32.le_refl _)]
    simp only [uX7_agreeing_36, qX7_agreeing_36, jX7_agreeing_12_36, jX7_agreeing_21_27, jX7_agreeing_27_28, jX7_agreeing_0_4]
  | succ n ih =>
    intro j k hj hk
    obtain ⟨k, rfl⟩ : ∃ k', k = k' + 1 := ⟨k - 1, by omega⟩
    have e := ih (j + 1) k (by omega) (by omega)
    rw [nI_succ] at e
    simp only [uX7_agreeing_4, qX7_agreeing_4, jX7_agreeing_12_36, jX7_agreeing_21_27, jX7_agreeing_27_28, jX7_agreeing_0_4, c64_v h, e_ministers h hr, xci_eq, cond_true]
    rw [hz1, if_neg (nI_ge (a := j) (b := msz s) (by omega) (by omega))]
    simp only [uX7_agreeing_12, uX7_agreeing_21, uX7_agreeing_27, uX7_agreeing_28, qX7_agreeing_12, qX7_agreeing_21, qX7_agreeing_27, qX7_agreeing_28, jX7_agreeing_12_36, jX7_agreeing_21_27, jX7_agreeing_27_28, jX7_agreeing_0_4, c64_v h, e_agrees h hr hs (x := nI j) rfl (show j < 6 by omega), xci_eq, cond_true, eX_eq]
    split
    · rename_i hc
      simp only [agmN, if_pos hc] at e
      exact e
    · rename_i hc
      simp only [agmN, if_neg hc] at e
      exact e
def agmT (s : SG) : Int32 := agmN s (msz s)
theorem e_agreeing (h : SH K) (hr : RH s) (hs : SE s) (hz : MZ s) : xN sc (d + 6) 201 [.inr (.inr (.inl (some 64)))] (wl K s) = some (some (.inl (agmT s)), wl K s) := by
  rw [mX7_agreeing]
  simp only [uX7_agreeing_0, qX7_agreeing_0, jX7_agreeing_12_36, jX7_agreeing_21_27, jX7_agreeing_27_28, jX7_agreeing_0_4]
  exact f_agreeing h hr hs hz rfl (msz s) 0 xF (by omega) (by have := hz.2; have := xF_ge; omega)
def vomN (s : SG) (x : Int32) : Nat → Int32
  | 0 => 0
  | k + 1 => vomN s x k + (if (x >>> (nI k &&& 31)) &&& 1 = 1 then ofN s (10 + 18 * k + 0) else 0)
theorem f_votesOf {x : Int32} (h : SH K) (hr : RH s) (hz : MZ s) {i : Nat → List EV → EW → XR} (hi : i = xN sc (d + 2)) : ∀ (n j k : Nat), j + n = msz s → n ≤ k → fW sc 7 1 false 4 i (ex sc 7 1 false 4 i kX7_votesOf_0 k) kX7_votesOf_4 4 [some (.inr (.inr (.inl (some 64)))), some (.inl x), some (.inl (vomN s x j)), some (.inl (nI j))] [] (wl K s) = some (some (.inl (vomN s x (msz s))), wl K s) := by
  subst hi
  obtain ⟨hz1, hz2⟩ := hz
  intro n
  induction n with
  | zero =>
    intro j k hj hk
    have e : j = msz s := by omega
    subst e
    simp only [uX7_votesOf_4, qX7_votesOf_4, jX7_votesOf_12_40, jX7_votesOf_22_31, jX7_votesOf_31_32, jX7_votesOf_0_4, c64_v h, e_ministers h hr, xci_eq, cond_true]
    rw [hz1, if_pos (Int32.le_refl _)]
    simp only [uX7_votesOf_40, qX7_votesOf_40, jX7_votesOf_12_40, jX7_votesOf_22_31, jX7_votesOf_31_32, jX7_votesOf_0_4]
  | succ n ih =>
    intro j k hj hk
    obtain ⟨k, rfl⟩ : ∃ k', k = k' + 1 := ⟨k - 1, by omega⟩
    have e := ih (j + 1) k (by omega) (by omega)
    rw [nI_succ] at e
    simp only [uX7_votesOf_4, qX7_votesOf_4, jX7_votesOf_12_40, jX7_votesOf_22_31, jX7_votesOf_31_32, jX7_votesOf_0_4, c64_v h, e_ministers h hr, xci_eq, cond_true]
    rw [hz1, if_neg (nI_ge (a := j) (b := msz s) (by omega) (by omega))]
    simp only [uX7_votesOf_12, uX7_votesOf_22, uX7_votesOf_31, uX7_votesOf_32, qX7_votesOf_12, qX7_votesOf_22, qX7_votesOf_31, qX7_votesOf_32, jX7_votesOf_12_40, jX7_votesOf_22_31, jX7_votesOf_31_32, jX7_votesOf_0_4, c64_v h, e_ofMinister h hr (x := nI j) (y := 0) (a := 0) rfl rfl (show j < 6 by omega) (by decide), xci_eq, cond_true, eX_eq]
    split
    · rename_i hc
      simp only [vomN, if_pos hc] at e
      exact e
    · rename_i hc
      simp only [vomN, if_neg hc] at e
      exact e
def vomT (s : SG) (x : Int32) : Int32 := vomN s x (msz s)
theorem e_votesOf {x : Int32} (h : SH K) (hr : RH s) (hz : MZ s) : xN sc (d + 3) 202 [.inr (.inr (.inl (some 64))), .inl x] (wl K s) = some (some (.inl (vomT s x)), wl K s) := by
  rw [mX7_votesOf]
  simp only [uX7_votesOf_0, qX7_votesOf_0, jX7_votesOf_12_40, jX7_votesOf_22_31, jX7_votesOf_31_32, jX7_votesOf_0_4]
  exact f_votesOf h hr hz rfl (msz s) 0 xF (by omega) (by have := hz.2; have := xF_ge; omega)
end XRG
end
section
/-! the reference: vetoes, what passes, a republic taken up -/
section XRH
variable {sc : Nat × (Nat → Int32)} {d : Nat} {K : List KD} {s : SG} {w : EW}
def vetN (s : SG) : Nat → Int32
  | 0 => 0
  | k + 1 => vetN s k ||| (if ofN s (10 + 18 * k + 4) = 1 then 1 <<< (nI k &&& 31) else (0 : Int32))
theorem f_vetoes (h : SH K) (hr : RH s) (hz : MZ s) {i : Nat → List EV → EW → XR} (hi : i = xN sc (d + 2)) : ∀ (n j k : Nat), j + n = msz s → n ≤ k → fW sc 7 1 false 3 i (ex sc 7 1 false 3 i kX7_vetoes_0 k) kX7_vetoes_4 4 [some (.inr (.inr (.inl (some 64)))), some (.inl (vetN s j)), some (.inl (nI j))] [] (wl K s) = some (some (.inl (vetN s (msz s))), wl K s) := by
  subst hi
  obtain ⟨hz1, hz2⟩ := hz
  intro n
  induction n with
  | zero =>
    intro j k hj hk
    have e : j = msz s := by omega
    subst e
    simp only [uX7_vetoes_4, qX7_vetoes_4, jX7_vetoes_12_38, jX7_vetoes_23_29, jX7_vetoes_29_30, jX7_vetoes_0_4, c64_v h, e_ministers h hr, xci_eq, cond_true]
    rw [hz1, if_pos (Int32.le_refl _)]
    simp only [uX7_vetoes_38, qX7_vetoes_38, jX7_vetoes_12_38, jX7_vetoes_23_29, jX7_vetoes_29_30, jX7_vetoes_0_4]
  | succ n ih =>
    intro j k hj hk
    obtain ⟨k, rfl⟩ : ∃ k', k = k' + 1 := ⟨k - 1, by omega⟩
    have e := ih (j + 1) k (by omega) (by omega)
    rw [nI_succ] at e
    simp only [uX7_vetoes_4, qX7_vetoes_4, jX7_vetoes_12_38, jX7_vetoes_23_29, jX7_vetoes_29_30, jX7_vetoes_0_4, c64_v h, e_ministers h hr, xci_eq, cond_true]
    rw [hz1, if_neg (nI_ge (a := j) (b := msz s) (by omega) (by omega))]
    simp only [uX7_vetoes_12, uX7_vetoes_23, uX7_vetoes_29, uX7_vetoes_30, qX7_vetoes_12, qX7_vetoes_23, qX7_vetoes_29, qX7_vetoes_30, jX7_vetoes_12_38, jX7_vetoes_23_29, jX7_vetoes_29_30, jX7_vetoes_0_4, c64_v h, e_ofMinister h hr (x := nI j) (y := 4) (a := 4) rfl rfl (show j < 6 by omega) (by decide), xci_eq, cond_true, eX_eq]
    split
    · rename_i hc
      simp only [vetN, if_pos hc] at e
      exact e
    · rename_i hc
      simp only [vetN, if_neg hc] at e
      exact e
def vetT (s : SG) : Int32 := vetN s (msz s)
theorem e_vetoes (h : SH K) (hr : RH s) (hz : MZ s) : xN sc (d + 3) 203 [.inr (.inr (.inl (some 64)))] (wl K s) = some (some (.inl (vetT s)), wl K s) := by
  rw [mX7_vetoes]
  simp only [uX7_vetoes_0, qX7_vetoes_0, jX7_vetoes_12_38, jX7_vetoes_23_29, jX7_vetoes_29_30, jX7_vetoes_0_4]
  exact f_vetoes h hr hz rfl (msz s) 0 xF (by omega) (by have := hz.2; have := xF_ge; omega)
def pasN (s : SG) (a : Int32) : Int32 := if vomT s (a &&& s 64 18) < ofN s 1 then 0 else if ((vetT s &&& s 64 18) &&& (a ^^^ (-1))) = 0 then 1 else 0
theorem e_isPassed {a : Int32} (h : SH K) (hr : RH s) (hz : MZ s) : xN sc (d + 4) 204 [.inr (.inr (.inl (some 64))), .inl a] (wl K s) = some (some (.inl (pasN s a)), wl K s) := by
  rw [mX7_isPassed]
  simp only [uX7_isPassed_0, uX7_isPassed_18, uX7_isPassed_34, uX7_isPassed_38, uX7_isPassed_39, qX7_isPassed_0, qX7_isPassed_18, qX7_isPassed_34, qX7_isPassed_38, qX7_isPassed_39, jX7_isPassed_18_38, jX7_isPassed_34_38, jX7_isPassed_38_39, c64_v h, c64_g18 h, e_votesOf h hr hz, e_vetoes h hr hz, e_of (x := 1) (a := 1) h hr rfl (by decide), xci_eq, cond_true, bd_eq]
  unfold pasN
  repeat' split
  all_goals first | rfl | contradiction
def aamI (a b c : Int32) : Int32 := if inI a 0 9 = 0 then 0 else if inI b 0 9 = 0 then 0 else if inI c 0 9 = 0 then 0 else 1
theorem e_areAmounts {a b c : Int32} : xN sc (d + 2) 205 [.inl a, .inl b, .inl c] w = some (some (.inl (aamI a b c)), w) := by
  rw [mX7_areAmounts]
  simp only [uX7_areAmounts_0, uX7_areAmounts_10, uX7_areAmounts_20, uX7_areAmounts_30, uX7_areAmounts_34, uX7_areAmounts_35, qX7_areAmounts_0, qX7_areAmounts_10, qX7_areAmounts_20, qX7_areAmounts_30, qX7_areAmounts_34, qX7_areAmounts_35, jX7_areAmounts_10_34, jX7_areAmounts_20_34, jX7_areAmounts_30_34, jX7_areAmounts_34_35, e_isIn, xci_eq]
  unfold aamI
  repeat' split
  all_goals first | rfl | contradiction
def iofN (s : SG) (a : Nat) (k : Int32) : Int32 := inI k 0 (s 65 a - 1)
theorem e_isOf {x k : Int32} {a : Nat} (h : SH K) (hx : x = nI a) (ha : a < 6) : xN sc (d + 2) 183 [.inr (.inr (.inl (some 64))), .inl x, .inl k] (wl K s) = some (some (.inl (iofN s a k)), wl K s) := by
  subst hx
  rw [mX7_isOf]
  simp only [uX7_isOf_0, qX7_isOf_0, c64_g0 h, bd_eq, c65_d h (xvb_nI (j := a) (n := 5768) (by omega) (by decide)), nI_clamp (show a < 2 ^ 31 by omega), e_isIn, inI_rt, xci_eq, cond_true]
  rfl
end XRH
end
section
section XCA
variable {sc : Nat × (Nat → Int32)} {d : Nat} {K : List KD} {r q t a B m : Nat} {w : EW}
theorem xr40 : xrt 4 0 = true := rfl
theorem xr41 : xrt 4 1 = true := rfl
theorem hasI_rt {x k : Int32} : xrt 4 (hasI x k) = true := by
  unfold hasI
  (repeat' split) <;> rfl
theorem minI_rt {s : SG} {x : Int32} : xrt 4 (minI s r x) = true := by
  unfold minI
  (repeat' split) <;> rfl
theorem isaI_rt {x : Int32} : xrt 4 (isaI x) = true := by
  unfold isaI
  (repeat' split) <;> rfl
theorem issI_rt {x : Int32} : xrt 4 (issI x) = true := by
  unfold issI
  (repeat' split) <;> rfl
theorem pasI_rt {s : SG} {x y : Int32} : xrt 4 (pasI s r x y) = true := by
  unfold pasI
  (repeat' split) <;> rfl
theorem arsI_rt {s : SG} {x : Int32} : xrt 4 (arsI s r x) = true := by
  unfold arsI
  (repeat' split) <;> rfl
def rz (s : SG) (q : Nat) : Nat := (s q 0).toNatClampNeg
/-- rows are no more than a text can tell -/
def RZ (s : SG) (q : Nat) : Prop := s q 0 = nI (rz s q) ∧ rz s q ≤ 40
theorem sz_ge {s : SG} {j : Nat} (h : SZ s r) (hj : j + 0 = sz s r) : s r 0 ≤ nI j := by
  rw [h.1, ← hj]; exact Int32.le_refl _
theorem sz_lt {s : SG} {j n : Nat} (h : SZ s r) (hj : j + (n + 1) = sz s r) : ¬ s r 0 ≤ nI j := by
  have := h.2
  rw [h.1]; exact nI_ge (by omega) (by omega)
theorem rz_ge {s : SG} {j : Nat} (h : RZ s q) (hj : j + 0 = rz s q) : s q 0 ≤ nI j := by
  rw [h.1, ← hj]; exact Int32.le_refl _
theorem rz_lt {s : SG} {j n : Nat} (h : RZ s q) (hj : j + (n + 1) = rz s q) : ¬ s q 0 ≤ nI j := by
  have := h.2
  rw [h.1]; exact nI_ge (by omega) (by omega)
theorem up_a {s : SG} {k j : Nat} {x : Int32} : up s k j x k j = x := by rw [up_s, pk_us]
theorem up_b {s : SG} {k i j : Nat} {x : Int32} (h : (i == j) = false) : up s k j x k i = s k i := by rw [up_s, pk_un (by simpa using h)]
theorem up_c {s : SG} {a k j : Nat} {x : Int32} (h : (a == k) = false) : up s k j x a = s a := up_n (by simpa using h)
theorem pt_n {n : Nat} {s : SG} {a k : Nat} {i x : Int32} (h : a ≠ k) : pt n s k i x a = s a := by
  unfold pt
  split
  · rfl
  · split
    · rfl
    · exact up_n h
theorem pt_c {n : Nat} {s : SG} {a k : Nat} {i x : Int32} (h : (a == k) = false) : pt n s k i x a = s a := pt_n (by simpa using h)
def sF (s : SG) (k : Nat) (f : Nat → Int32) : SG := fun a => if a = k then f else s a
def flS (n : Nat) (s : SG) (k : Nat) (x : Int32) : SG := sF s k (fun j => if j < n then x else s k j)
def cpS (n : Nat) (s : SG) (a b : Nat) : SG := sF s b (fun j => if j < n then s a j else s b j)
theorem sF_s {s : SG} {k : Nat} {f : Nat → Int32} : sF s k f k = f := if_pos rfl
theorem sF_n {s : SG} {a k : Nat} {f : Nat → Int32} (h : a ≠ k) : sF s k f a = s a := if_neg h
theorem fl_n {n : Nat} {s : SG} {a k : Nat} {x : Int32} (h : a ≠ k) : flS n s k x a = s a := if_neg h
theorem cp_n {n : Nat} {s : SG} {e a k : Nat} (h : a ≠ k) : cpS n s e k a = s a := if_neg h
theorem fl_c {n : Nat} {s : SG} {a k : Nat} {x : Int32} (h : (a == k) = false) : flS n s k x a = s a := fl_n (by simpa using h)
theorem cp_c {n : Nat} {s : SG} {e a k : Nat} (h : (a == k) = false) : cpS n s e k a = s a := cp_n (by simpa using h)
theorem up_lo2 {s : SG} {k j : Nat} {x : Int32} {c : Nat} (ha : c < 42 ∨ 64 ≤ c) (h1 : 42 ≤ k) (h2 : k < 64) : up s k j x c = s c := up_n (by omega)
theorem up_lr {s : SG} {k j : Nat} {x : Int32} {e : Nat} (hb : r + 8 ≤ 42) (h1 : 42 ≤ k) (h2 : e < 8) : up s k j x (r + e) = s (r + e) := up_n (by omega)
theorem up_l0 {s : SG} {k j : Nat} {x : Int32} (hb : r + 8 ≤ 42) (h1 : 42 ≤ k) : up s k j x r = s r := up_n (by omega)
theorem SZ_up {s : SG} {k j : Nat} {x : Int32} (hb : r + 8 ≤ 42) (h1 : 42 ≤ k) : SZ (up s k j x) r ↔ SZ s r := by unfold SZ sz; rw [up_l0 hb h1]
theorem sz_up {s : SG} {k j : Nat} {x : Int32} (hb : r + 8 ≤ 42) (h1 : 42 ≤ k) : sz (up s k j x) r = sz s r := by unfold sz; rw [up_l0 hb h1]
theorem up_lq {s : SG} {k j : Nat} {x : Int32} {e : Nat} (hb : q + 2 ≤ 42) (h1 : 42 ≤ k) (h2 : e < 2) : up s k j x (q + e) = s (q + e) := up_n (by omega)
theorem up_k0 {s : SG} {k j : Nat} {x : Int32} (hb : q + 2 ≤ 42) (h1 : 42 ≤ k) : up s k j x q = s q := up_n (by omega)
theorem RZ_up {s : SG} {k j : Nat} {x : Int32} (hb : q + 2 ≤ 42) (h1 : 42 ≤ k) : RZ (up s k j x) q ↔ RZ s q := by unfold RZ rz; rw [up_k0 hb h1]
theorem rz_up {s : SG} {k j : Nat} {x : Int32} (hb : q + 2 ≤ 42) (h1 : 42 ≤ k) : rz (up s k j x) q = rz s q := by unfold rz; rw [up_k0 hb h1]
theorem pt_lo2 {n : Nat} {s : SG} {k : Nat} {i x : Int32} {c : Nat} (ha : c < 42 ∨ 64 ≤ c) (h1 : 42 ≤ k) (h2 : k < 64) : pt n s k i x c = s c := pt_n (by omega)
theorem pt_lr {n : Nat} {s : SG} {k : Nat} {i x : Int32} {e : Nat} (hb : r + 8 ≤ 42) (h1 : 42 ≤ k) (h2 : e < 8) : pt n s k i x (r + e) = s (r + e) := pt_n (by omega)
theorem pt_l0 {n : Nat} {s : SG} {k : Nat} {i x : Int32} (hb : r + 8 ≤ 42) (h1 : 42 ≤ k) : pt n s k i x r = s r := pt_n (by omega)
theorem SZ_pt {n : Nat} {s : SG} {k : Nat} {i x : Int32} (hb : r + 8 ≤ 42) (h1 : 42 ≤ k) : SZ (pt n s k i x) r ↔ SZ s r := by unfold SZ sz; rw [pt_l0 hb h1]
theorem sz_pt {n : Nat} {s : SG} {k : Nat} {i x : Int32} (hb : r + 8 ≤ 42) (h1 : 42 ≤ k) : sz (pt n s k i x) r = sz s r := by unfold sz; rw [pt_l0 hb h1]
theorem pt_lq {n : Nat} {s : SG} {k : Nat} {i x : Int32} {e : Nat} (hb : q + 2 ≤ 42) (h1 : 42 ≤ k) (h2 : e < 2) : pt n s k i x (q + e) = s (q + e) := pt_n (by omega)
theorem pt_k0 {n : Nat} {s : SG} {k : Nat} {i x : Int32} (hb : q + 2 ≤ 42) (h1 : 42 ≤ k) : pt n s k i x q = s q := pt_n (by omega)
theorem RZ_pt {n : Nat} {s : SG} {k : Nat} {i x : Int32} (hb : q + 2 ≤ 42) (h1 : 42 ≤ k) : RZ (pt n s k i x) q ↔ RZ s q := by unfold RZ rz; rw [pt_k0 hb h1]
theorem rz_pt {n : Nat} {s : SG} {k : Nat} {i x : Int32} (hb : q + 2 ≤ 42) (h1 : 42 ≤ k) : rz (pt n s k i x) q = rz s q := by unfold rz; rw [pt_k0 hb h1]
theorem fl_lo2 {n : Nat} {s : SG} {k : Nat} {x : Int32} {c : Nat} (ha : c < 42 ∨ 64 ≤ c) (h1 : 42 ≤ k) (h2 : k < 64) : flS n s k x c = s c := fl_n (by omega)
theorem fl_lr {n : Nat} {s : SG} {k : Nat} {x : Int32} {e : Nat} (hb : r + 8 ≤ 42) (h1 : 42 ≤ k) (h2 : e < 8) : flS n s k x (r + e) = s (r + e) := fl_n (by omega)
theorem fl_l0 {n : Nat} {s : SG} {k : Nat} {x : Int32} (hb : r + 8 ≤ 42) (h1 : 42 ≤ k) : flS n s k x r = s r := fl_n (by omega)
theorem SZ_fl {n : Nat} {s : SG} {k : Nat} {x : Int32} (hb : r + 8 ≤ 42) (h1 : 42 ≤ k) : SZ (flS n s k x) r ↔ SZ s r := by unfold SZ sz; rw [fl_l0 hb h1]
theorem sz_fl {n : Nat} {s : SG} {k : Nat} {x : Int32} (hb : r + 8 ≤ 42) (h1 : 42 ≤ k) : sz (flS n s k x) r = sz s r := by unfold sz; rw [fl_l0 hb h1]
theorem fl_lq {n : Nat} {s : SG} {k : Nat} {x : Int32} {e : Nat} (hb : q + 2 ≤ 42) (h1 : 42 ≤ k) (h2 : e < 2) : flS n s k x (q + e) = s (q + e) := fl_n (by omega)
theorem fl_k0 {n : Nat} {s : SG} {k : Nat} {x : Int32} (hb : q + 2 ≤ 42) (h1 : 42 ≤ k) : flS n s k x q = s q := fl_n (by omega)
theorem RZ_fl {n : Nat} {s : SG} {k : Nat} {x : Int32} (hb : q + 2 ≤ 42) (h1 : 42 ≤ k) : RZ (flS n s k x) q ↔ RZ s q := by unfold RZ rz; rw [fl_k0 hb h1]
theorem rz_fl {n : Nat} {s : SG} {k : Nat} {x : Int32} (hb : q + 2 ≤ 42) (h1 : 42 ≤ k) : rz (flS n s k x) q = rz s q := by unfold rz; rw [fl_k0 hb h1]
theorem cp_lo2 {n : Nat} {s : SG} {u k : Nat} {c : Nat} (ha : c < 42 ∨ 64 ≤ c) (h1 : 42 ≤ k) (h2 : k < 64) : cpS n s u k c = s c := cp_n (by omega)
theorem cp_lr {n : Nat} {s : SG} {u k : Nat} {e : Nat} (hb : r + 8 ≤ 42) (h1 : 42 ≤ k) (h2 : e < 8) : cpS n s u k (r + e) = s (r + e) := cp_n (by omega)
theorem cp_l0 {n : Nat} {s : SG} {u k : Nat} (hb : r + 8 ≤ 42) (h1 : 42 ≤ k) : cpS n s u k r = s r := cp_n (by omega)
theorem SZ_cp {n : Nat} {s : SG} {u k : Nat} (hb : r + 8 ≤ 42) (h1 : 42 ≤ k) : SZ (cpS n s u k) r ↔ SZ s r := by unfold SZ sz; rw [cp_l0 hb h1]
theorem sz_cp {n : Nat} {s : SG} {u k : Nat} (hb : r + 8 ≤ 42) (h1 : 42 ≤ k) : sz (cpS n s u k) r = sz s r := by unfold sz; rw [cp_l0 hb h1]
theorem cp_lq {n : Nat} {s : SG} {u k : Nat} {e : Nat} (hb : q + 2 ≤ 42) (h1 : 42 ≤ k) (h2 : e < 2) : cpS n s u k (q + e) = s (q + e) := cp_n (by omega)
theorem cp_k0 {n : Nat} {s : SG} {u k : Nat} (hb : q + 2 ≤ 42) (h1 : 42 ≤ k) : cpS n s u k q = s q := cp_n (by omega)
theorem RZ_cp {n : Nat} {s : SG} {u k : Nat} (hb : q + 2 ≤ 42) (h1 : 42 ≤ k) : RZ (cpS n s u k) q ↔ RZ s q := by unfold RZ rz; rw [cp_k0 hb h1]
theorem rz_cp {n : Nat} {s : SG} {u k : Nat} (hb : q + 2 ≤ 42) (h1 : 42 ≤ k) : rz (cpS n s u k) q = rz s q := by unfold rz; rw [cp_k0 hb h1]
def setS7 (s : SG) (r : Nat) : SG := up (up (up s 57 0 (s r 11)) 57 1 (s r 12)) 57 2 (s r 13)
theorem setS7_lo {s : SG} {r : Nat}  {c : Nat} (ha : c < 42 ∨ 64 ≤ c) : (setS7 s r) c = s c := by
  unfold setS7
  first | done | with_reducible rfl | simp (decide := true) only [up_lo2 ha, pt_lo2 ha, fl_lo2 ha, cp_lo2 ha] | ((repeat' split) <;> first | with_reducible rfl | simp (decide := true) only [up_lo2 ha, pt_lo2 ha, fl_lo2 ha, cp_lo2 ha])
theorem setS7_SZ {s : SG} {r : Nat}  {c : Nat} (hc : c + 8 ≤ 42) : SZ ((setS7 s r)) c ↔ SZ s c := by unfold SZ sz; rw [setS7_lo (Or.inl (by omega))]
theorem setS7_sz {s : SG} {r : Nat}  {c : Nat} (hc : c + 8 ≤ 42) : sz ((setS7 s r)) c = sz s c := by unfold sz; rw [setS7_lo (Or.inl (by omega))]
theorem setS7_RZ {s : SG} {r : Nat}  {c : Nat} (hc : c + 2 ≤ 42) : RZ ((setS7 s r)) c ↔ RZ s c := by unfold RZ rz; rw [setS7_lo (Or.inl (by omega))]
theorem setS7_rz {s : SG} {r : Nat}  {c : Nat} (hc : c + 2 ≤ 42) : rz ((setS7 s r)) c = rz s c := by unfold rz; rw [setS7_lo (Or.inl (by omega))]
theorem c_settle7 {s : SG} (hr : RP K r) (h : SH K) (br : r + 8 ≤ 42) : xN sc (d + 1) 64 [.inr (.inr (.inl (some 57))), .inr (.inr (.inl (some r)))] (wl K s) = some (none, wl K (setS7 s r)) := by
  rw [mX4_settle]
  simp (decide := true) only [uX4_settle_0, qX4_settle_0, cR_g11 hr, bd_eq, c57_p0 h, cR_g12 hr, c57_p1 h, cR_g13 hr, c57_p2 h, up_a, up_b, up_c, pt_c, fl_c, cp_c, up_lr br, up_l0 br, SZ_up br, sz_up br, pt_lr br, pt_l0 br, SZ_pt br, sz_pt br, fl_lr br, fl_l0 br, SZ_fl br, sz_fl br, cp_lr br, cp_l0 br, SZ_cp br, sz_cp br, setS7_SZ br, setS7_sz br]
  first | done | (unfold setS7; first | done | with_reducible_and_instances rfl | ((repeat' split) <;> first | with_reducible_and_instances rfl | contradiction | exact absurd ‹(1 : Int32) = 0› (by decide) | exact absurd rfl ‹¬ (0 : Int32) = 0› | exact absurd rfl ‹¬ (1 : Int32) = 1› | (exfalso; rename_i h1 h2; exact h1 (by rw [h2]; exact Int32.le_refl _))))
def setS0 (s : SG) (r : Nat) : SG := up (up (up s 60 0 (s r 11)) 60 1 (s r 12)) 60 2 (s r 13)
theorem setS0_lo {s : SG} {r : Nat}  {c : Nat} (ha : c < 42 ∨ 64 ≤ c) : (setS0 s r) c = s c := by
  unfold setS0
  first | done | with_reducible rfl | simp (decide := true) only [up_lo2 ha, pt_lo2 ha, fl_lo2 ha, cp_lo2 ha, setS7_lo ha] | ((repeat' split) <;> first | with_reducible rfl | simp (decide := true) only [up_lo2 ha, pt_lo2 ha, fl_lo2 ha, cp_lo2 ha, setS7_lo ha])
theorem setS0_SZ {s : SG} {r : Nat}  {c : Nat} (hc : c + 8 ≤ 42) : SZ ((setS0 s r)) c ↔ SZ s c := by unfold SZ sz; rw [setS0_lo (Or.inl (by omega))]
theorem setS0_sz {s : SG} {r : Nat}  {c : Nat} (hc : c + 8 ≤ 42) : sz ((setS0 s r)) c = sz s c := by unfold sz; rw [setS0_lo (Or.inl (by omega))]
theorem setS0_RZ {s : SG} {r : Nat}  {c : Nat} (hc : c + 2 ≤ 42) : RZ ((setS0 s r)) c ↔ RZ s c := by unfold RZ rz; rw [setS0_lo (Or.inl (by omega))]
theorem setS0_rz {s : SG} {r : Nat}  {c : Nat} (hc : c + 2 ≤ 42) : rz ((setS0 s r)) c = rz s c := by unfold rz; rw [setS0_lo (Or.inl (by omega))]
theorem c_settle0 {s : SG} (hr : RP K r) (h : SH K) (br : r + 8 ≤ 42) : xN sc (d + 1) 64 [.inr (.inr (.inl (some 60))), .inr (.inr (.inl (some r)))] (wl K s) = some (none, wl K (setS0 s r)) := by
  rw [mX4_settle]
  simp (decide := true) only [uX4_settle_0, qX4_settle_0, cR_g11 hr, bd_eq, c60_p0 h, cR_g12 hr, c60_p1 h, cR_g13 hr, c60_p2 h, up_a, up_b, up_c, pt_c, fl_c, cp_c, up_lr br, up_l0 br, SZ_up br, sz_up br, pt_lr br, pt_l0 br, SZ_pt br, sz_pt br, fl_lr br, fl_l0 br, SZ_fl br, sz_fl br, cp_lr br, cp_l0 br, SZ_cp br, sz_cp br, setS7_SZ br, setS7_sz br, setS0_SZ br, setS0_sz br]
  first | done | (unfold setS0; first | done | with_reducible_and_instances rfl | ((repeat' split) <;> first | with_reducible_and_instances rfl | contradiction | exact absurd ‹(1 : Int32) = 0› (by decide) | exact absurd rfl ‹¬ (0 : Int32) = 0› | exact absurd rfl ‹¬ (1 : Int32) = 1› | (exfalso; rename_i h1 h2; exact h1 (by rw [h2]; exact Int32.le_refl _))))
def canI7 (s : SG) (day : Int32) : Int32 := if (s 57 0) < (amtI day 0) then 0 else if (((s 57 2) + (amtI day 2)) - (amtI day 1)) < 0 then 0 else if 99 < (((s 57 2) + (amtI day 2)) - (amtI day 1)) then 0 else 1
theorem canI7_rt {s : SG} {day : Int32} : xrt 4 (canI7 s day) = true := by
  unfold canI7
  first | done | first | with_reducible_and_instances rfl | simp only [hasI_rt, minI_rt, isaI_rt, issI_rt, pasI_rt, arsI_rt, xr40, xr41] | ((repeat' split) <;> first | with_reducible_and_instances rfl | simp only [hasI_rt, minI_rt, isaI_rt, issI_rt, pasI_rt, arsI_rt, xr40, xr41])
theorem c_can7 {s : SG} {day : Int32}  (h : SH K) : xN sc (d + 2) 65 [.inr (.inr (.inl (some 57))), .inl day] (wl K s) = some (some (.inl (canI7 s day)), wl K s) := by
  rw [mX4_can]
  simp (decide := true) only [uX4_can_0, uX4_can_29, uX4_can_33, uX4_can_39, uX4_can_43, uX4_can_44, qX4_can_0, qX4_can_29, qX4_can_33, qX4_can_39, qX4_can_43, qX4_can_44, jX4_can_29_43, jX4_can_33_43, jX4_can_39_43, jX4_can_43_44, c57_g2 h, bd_eq, c_amount, xci_eq, c57_g0 h, cond_true, xr40, xr41, up_a, up_b, up_c, pt_c, fl_c, cp_c]
  first | done | (unfold canI7; first | done | with_reducible_and_instances rfl | ((repeat' split) <;> first | with_reducible_and_instances rfl | contradiction | exact absurd ‹(1 : Int32) = 0› (by decide) | exact absurd rfl ‹¬ (0 : Int32) = 0› | exact absurd rfl ‹¬ (1 : Int32) = 1› | (exfalso; rename_i h1 h2; exact h1 (by rw [h2]; exact Int32.le_refl _))))
def canI0 (s : SG) (day : Int32) : Int32 := if (s 60 0) < (amtI day 0) then 0 else if (((s 60 2) + (amtI day 2)) - (amtI day 1)) < 0 then 0 else if 99 < (((s 60 2) + (amtI day 2)) - (amtI day 1)) then 0 else 1
theorem canI0_rt {s : SG} {day : Int32} : xrt 4 (canI0 s day) = true := by
  unfold canI0
  first | done | first | with_reducible_and_instances rfl | simp only [hasI_rt, minI_rt, isaI_rt, issI_rt, pasI_rt, arsI_rt, canI7_rt, xr40, xr41] | ((repeat' split) <;> first | with_reducible_and_instances rfl | simp only [hasI_rt, minI_rt, isaI_rt, issI_rt, pasI_rt, arsI_rt, canI7_rt, xr40, xr41])
theorem c_can0 {s : SG} {day : Int32}  (h : SH K) : xN sc (d + 2) 65 [.inr (.inr (.inl (some 60))), .inl day] (wl K s) = some (some (.inl (canI0 s day)), wl K s) := by
  rw [mX4_can]
  simp (decide := true) only [uX4_can_0, uX4_can_29, uX4_can_33, uX4_can_39, uX4_can_43, uX4_can_44, qX4_can_0, qX4_can_29, qX4_can_33, qX4_can_39, qX4_can_43, qX4_can_44, jX4_can_29_43, jX4_can_33_43, jX4_can_39_43, jX4_can_43_44, c60_g2 h, bd_eq, c_amount, xci_eq, c60_g0 h, cond_true, xr40, xr41, up_a, up_b, up_c, pt_c, fl_c, cp_c]
  first | done | (unfold canI0; first | done | with_reducible_and_instances rfl | ((repeat' split) <;> first | with_reducible_and_instances rfl | contradiction | exact absurd ‹(1 : Int32) = 0› (by decide) | exact absurd rfl ‹¬ (0 : Int32) = 0› | exact absurd rfl ‹¬ (1 : Int32) = 1› | (exfalso; rename_i h1 h2; exact h1 (by rw [h2]; exact Int32.le_refl _))))
def briS7 (s : SG) (day : Int32) : SG := up (up (up s 57 0 ((s 57 0) + ((if ((s 57 1) + (amtI day 0)) < (amtI day 2) then ((s 57 1) + (amtI day 0)) else (amtI day 2)) - (amtI day 0)))) 57 1 (((s 57 1) + (amtI day 0)) - (if ((s 57 1) + (amtI day 0)) < (amtI day 2) then ((s 57 1) + (amtI day 0)) else (amtI day 2)))) 57 2 ((s 57 2) + ((amtI day 2) - (amtI day 1)))
theorem briS7_lo {s : SG} {day : Int32}  {c : Nat} (ha : c < 42 ∨ 64 ≤ c) : (briS7 s day) c = s c := by
  unfold briS7
  first | done | with_reducible rfl | simp (decide := true) only [up_lo2 ha, pt_lo2 ha, fl_lo2 ha, cp_lo2 ha, setS7_lo ha, setS0_lo ha] | ((repeat' split) <;> first | with_reducible rfl | simp (decide := true) only [up_lo2 ha, pt_lo2 ha, fl_lo2 ha, cp_lo2 ha, setS7_lo ha, setS0_lo ha])
theorem briS7_SZ {s : SG} {day : Int32}  {c : Nat} (hc : c + 8 ≤ 42) : SZ ((briS7 s day)) c ↔ SZ s c := by unfold SZ sz; rw [briS7_lo (Or.inl (by omega))]
theorem briS7_sz {s : SG} {day : Int32}  {c : Nat} (hc : c + 8 ≤ 42) : sz ((briS7 s day)) c = sz s c := by unfold sz; rw [briS7_lo (Or.inl (by omega))]
theorem briS7_RZ {s : SG} {day : Int32}  {c : Nat} (hc : c + 2 ≤ 42) : RZ ((briS7 s day)) c ↔ RZ s c := by unfold RZ rz; rw [briS7_lo (Or.inl (by omega))]
theorem briS7_rz {s : SG} {day : Int32}  {c : Nat} (hc : c + 2 ≤ 42) : rz ((briS7 s day)) c = rz s c := by unfold rz; rw [briS7_lo (Or.inl (by omega))]
theorem c_bring7 {s : SG} {day : Int32}  (h : SH K) : xN sc (d + 2) 66 [.inr (.inr (.inl (some 57))), .inl day] (wl K s) = some (none, wl K (briS7 s day)) := by
  rw [mX4_bring]
  simp (decide := true) only [uX4_bring_0, qX4_bring_0, c57_g1 h, bd_eq, c_amount, xci_eq, c57_g0 h, c57_p0 h, c57_p1 h, c57_g2 h, c57_p2 h, up_a, up_b, up_c, pt_c, fl_c, cp_c]
  first | done | (unfold briS7; first | done | with_reducible_and_instances rfl | ((repeat' split) <;> first | with_reducible_and_instances rfl | contradiction | exact absurd ‹(1 : Int32) = 0› (by decide) | exact absurd rfl ‹¬ (0 : Int32) = 0› | exact absurd rfl ‹¬ (1 : Int32) = 1› | (exfalso; rename_i h1 h2; exact h1 (by rw [h2]; exact Int32.le_refl _))))
def briS0 (s : SG) (day : Int32) : SG := up (up (up s 60 0 ((s 60 0) + ((if ((s 60 1) + (amtI day 0)) < (amtI day 2) then ((s 60 1) + (amtI day 0)) else (amtI day 2)) - (amtI day 0)))) 60 1 (((s 60 1) + (amtI day 0)) - (if ((s 60 1) + (amtI day 0)) < (amtI day 2) then ((s 60 1) + (amtI day 0)) else (amtI day 2)))) 60 2 ((s 60 2) + ((amtI day 2) - (amtI day 1)))
theorem briS0_lo {s : SG} {day : Int32}  {c : Nat} (ha : c < 42 ∨ 64 ≤ c) : (briS0 s day) c = s c := by
  unfold briS0
  first | done | with_reducible rfl | simp (decide := true) only [up_lo2 ha, pt_lo2 ha, fl_lo2 ha, cp_lo2 ha, setS7_lo ha, setS0_lo ha, briS7_lo ha] | ((repeat' split) <;> first | with_reducible rfl | simp (decide := true) only [up_lo2 ha, pt_lo2 ha, fl_lo2 ha, cp_lo2 ha, setS7_lo ha, setS0_lo ha, briS7_lo ha])
theorem briS0_SZ {s : SG} {day : Int32}  {c : Nat} (hc : c + 8 ≤ 42) : SZ ((briS0 s day)) c ↔ SZ s c := by unfold SZ sz; rw [briS0_lo (Or.inl (by omega))]
theorem briS0_sz {s : SG} {day : Int32}  {c : Nat} (hc : c + 8 ≤ 42) : sz ((briS0 s day)) c = sz s c := by unfold sz; rw [briS0_lo (Or.inl (by omega))]
theorem briS0_RZ {s : SG} {day : Int32}  {c : Nat} (hc : c + 2 ≤ 42) : RZ ((briS0 s day)) c ↔ RZ s c := by unfold RZ rz; rw [briS0_lo (Or.inl (by omega))]
theorem briS0_rz {s : SG} {day : Int32}  {c : Nat} (hc : c + 2 ≤ 42) : rz ((briS0 s day)) c = rz s c := by unfold rz; rw [briS0_lo (Or.inl (by omega))]
theorem c_bring0 {s : SG} {day : Int32}  (h : SH K) : xN sc (d + 2) 66 [.inr (.inr (.inl (some 60))), .inl day] (wl K s) = some (none, wl K (briS0 s day)) := by
  rw [mX4_bring]
  simp (decide := true) only [uX4_bring_0, qX4_bring_0, c60_g1 h, bd_eq, c_amount, xci_eq, c60_g0 h, c60_p0 h, c60_p1 h, c60_g2 h, c60_p2 h, up_a, up_b, up_c, pt_c, fl_c, cp_c]
  first | done | (unfold briS0; first | done | with_reducible_and_instances rfl | ((repeat' split) <;> first | with_reducible_and_instances rfl | contradiction | exact absurd ‹(1 : Int32) = 0› (by decide) | exact absurd rfl ‹¬ (0 : Int32) = 0› | exact absurd rfl ‹¬ (1 : Int32) = 1› | (exfalso; rename_i h1 h2; exact h1 (by rw [h2]; exact Int32.le_refl _))))
def parI (s : SG) (q : Nat) (x : Int32) (y : Int32) : Int32 := cl 200 (s (q + 1)) ((x * 5) + y)
theorem c_part {s : SG} {x : Int32} {y : Int32} (hq : RW K q) : xN sc (d + 2) 59 [.inr (.inr (.inl (some q))), .inl x, .inl y] (wl K s) = some (some (.inl (parI s q x y)), wl K s) := by
  rw [mX3_part]
  simp (decide := true) only [uX3_part_0, qX3_part_0, cW_g1 hq, bd_eq, xci_eq, lcW1 hq, up_a, up_b, up_c, pt_c, fl_c, cp_c]
  first | done | (unfold parI; first | done | with_reducible_and_instances rfl | ((repeat' split) <;> first | with_reducible_and_instances rfl | contradiction | exact absurd ‹(1 : Int32) = 0› (by decide) | exact absurd rfl ‹¬ (0 : Int32) = 0› | exact absurd rfl ‹¬ (1 : Int32) = 1› | (exfalso; rename_i h1 h2; exact h1 (by rw [h2]; exact Int32.le_refl _))))
def dafI (s : SG) (q : Nat) (x : Int32) (y : Int32) : Int32 := numI (parI s q x y) (parI s q x (y + 1)) (parI s q x (y + 2))
theorem c_dayFrom {s : SG} {x : Int32} {y : Int32} (hq : RW K q) : xN sc (d + 3) 61 [.inr (.inr (.inl (some q))), .inl x, .inl y] (wl K s) = some (some (.inl (dafI s q x y)), wl K s) := by
  rw [mX3_dayFrom]
  simp (decide := true) only [uX3_dayFrom_0, qX3_dayFrom_0, cW_v hq, cond_true, c_part hq, xci_eq, c_numberOf, up_a, up_b, up_c, pt_c, fl_c, cp_c]
  first | done | (unfold dafI; first | done | with_reducible_and_instances rfl | ((repeat' split) <;> first | with_reducible_and_instances rfl | contradiction | exact absurd ‹(1 : Int32) = 0› (by decide) | exact absurd rfl ‹¬ (0 : Int32) = 0› | exact absurd rfl ‹¬ (1 : Int32) = 1› | (exfalso; rename_i h1 h2; exact h1 (by rw [h2]; exact Int32.le_refl _))))
def ranI (day : Int32) (wet : Int32) : Int32 := if wet = 0 then numI (amtI day 2) (9 - (amtI day 0)) (9 - (amtI day 1)) else numI (amtI day 0) (9 - (amtI day 1)) (9 - (amtI day 2))
theorem c_rank {s : SG} {day : Int32} {wet : Int32}  : xN sc (d + 2) 105 [.inl day, .inl wet] (wl K s) = some (some (.inl (ranI day wet)), wl K s) := by
  rw [mX6_rank]
  simp (decide := true) only [uX6_rank_0, uX6_rank_26, uX6_rank_37, qX6_rank_0, qX6_rank_26, qX6_rank_37, jX6_rank_26_37, c_amount, xci_eq, c_numberOf, up_a, up_b, up_c, pt_c, fl_c, cp_c]
  first | done | (unfold ranI; first | done | with_reducible_and_instances rfl | ((repeat' split) <;> first | with_reducible_and_instances rfl | contradiction | exact absurd ‹(1 : Int32) = 0› (by decide) | exact absurd rfl ‹¬ (0 : Int32) = 0› | exact absurd rfl ‹¬ (1 : Int32) = 1› | (exfalso; rename_i h1 h2; exact h1 (by rw [h2]; exact Int32.le_refl _))))
def bouI (s : SG) (r : Nat) (agree : Int32) (f : Int32) (b : Int32) : Int32 := if f = b then agree else if (minI s r f) = 0 then (if (minI s r b) = 0 then (agree ||| (0 : Int32)) &&& ((0 : Int32) ^^^ (-1)) else (agree ||| (0 : Int32)) &&& ((1 <<< (b &&& 31)) ^^^ (-1))) else if (minI s r b) = 0 then (agree ||| (1 <<< (f &&& 31))) &&& ((0 : Int32) ^^^ (-1)) else (agree ||| (1 <<< (f &&& 31))) &&& ((1 <<< (b &&& 31)) ^^^ (-1))
theorem c_boughtBy {s : SG} {agree : Int32} {f : Int32} {b : Int32} (hr : RP K r) : xN sc (d + 2) 117 [.inr (.inr (.inl (some r))), .inl agree, .inl f, .inl b] (wl K s) = some (some (.inl (bouI s r agree f b)), wl K s) := by
  rw [mX6_boughtBy]
  simp (decide := true) only [uX6_boughtBy_0, uX6_boughtBy_5, uX6_boughtBy_7, uX6_boughtBy_15, uX6_boughtBy_21, uX6_boughtBy_22, uX6_boughtBy_32, uX6_boughtBy_38, uX6_boughtBy_39, qX6_boughtBy_0, qX6_boughtBy_5, qX6_boughtBy_7, qX6_boughtBy_15, qX6_boughtBy_21, qX6_boughtBy_22, qX6_boughtBy_32, qX6_boughtBy_38, qX6_boughtBy_39, jX6_boughtBy_5_7, jX6_boughtBy_15_21, jX6_boughtBy_21_22, jX6_boughtBy_32_38, jX6_boughtBy_38_39, cR_v hr, cond_true, c_isMinister hr, xci_eq, up_a, up_b, up_c, pt_c, fl_c, cp_c]
  first | done | (unfold bouI; first | done | with_reducible_and_instances rfl | ((repeat' split) <;> first | with_reducible_and_instances rfl | contradiction | exact absurd ‹(1 : Int32) = 0› (by decide) | exact absurd rfl ‹¬ (0 : Int32) = 0› | exact absurd rfl ‹¬ (1 : Int32) = 1› | (exfalso; rename_i h1 h2; exact h1 (by rw [h2]; exact Int32.le_refl _))))
def gaiI (s : SG) (r : Nat) (agree : Int32) (f : Int32) (b : Int32) (o : Int32) : Int32 := if o = 0 then (if (minI s r b) = 0 then (if (pasI s r (allI s r) (bouI s r agree f b)) = o then (20 : Int32) - (0 : Int32) else (0 : Int32) - (0 : Int32)) else if (pasI s r (allI s r) (bouI s r agree f b)) = o then (20 : Int32) - (cl 6 (s (r + 4)) b) else (0 : Int32) - (cl 6 (s (r + 4)) b)) else if (minI s r f) = 0 then (if (pasI s r (allI s r) (bouI s r agree f b)) = o then (20 : Int32) - (0 : Int32) else (0 : Int32) - (0 : Int32)) else if (pasI s r (allI s r) (bouI s r agree f b)) = o then (20 : Int32) - (cl 6 (s (r + 4)) f) else (0 : Int32) - (cl 6 (s (r + 4)) f)
theorem c_gain {s : SG} {agree : Int32} {f : Int32} {b : Int32} {o : Int32} (hr : RP K r) (zr : SZ s r) : xN sc (d + 4) 116 [.inr (.inr (.inl (some r))), .inl agree, .inl f, .inl b, .inl o] (wl K s) = some (some (.inl (gaiI s r agree f b o)), wl K s) := by
  rw [mX6_gain]
  simp (decide := true) only [uX6_gain_0, uX6_gain_22, uX6_gain_26, uX6_gain_27, uX6_gain_38, uX6_gain_50, uX6_gain_51, uX6_gain_60, uX6_gain_65, uX6_gain_66, qX6_gain_0, qX6_gain_22, qX6_gain_26, qX6_gain_27, qX6_gain_38, qX6_gain_50, qX6_gain_51, qX6_gain_60, qX6_gain_65, qX6_gain_66, jX6_gain_22_26, jX6_gain_26_27, jX6_gain_38_50, jX6_gain_50_51, jX6_gain_60_65, jX6_gain_65_66, cR_v hr, cond_true, c_everybody hr, xci_eq, c_boughtBy hr, c_isPassed hr, zr, c_isMinister hr, cR_g4 hr, bd_eq, lcR4 hr, zr, up_a, up_b, up_c, pt_c, fl_c, cp_c]
  first | done | (unfold gaiI; first | done | with_reducible_and_instances rfl | ((repeat' split) <;> first | with_reducible_and_instances rfl | contradiction | exact absurd ‹(1 : Int32) = 0› (by decide) | exact absurd rfl ‹¬ (0 : Int32) = 0› | exact absurd rfl ‹¬ (1 : Int32) = 1› | (exfalso; rename_i h1 h2; exact h1 (by rw [h2]; exact Int32.le_refl _))))
def briIL (s : SG) (r : Nat) : Nat → Nat → Int32 → Int32 → Int32 → Int32 → Int32 → Int32
  | 0, _, _, _, _, _, y5 => y5
  | n + 1, j, y1, y2, y3, y4, y5 => if (hasI y1 (nI j)) = 0 then briIL s r n (j + 1) y1 y2 y3 y4 y5 else briIL s r n (j + 1) y1 y2 y3 y4 (y5 + ((cl 6 (s (r + 4)) (nI j)) * ((disI s r (nI j) y3 y4 3) - (patI s r (nI j) y2))))
theorem l_bribeOf {s : SG} (hr : RP K r) (zr : SZ s r)  {i : Nat → List EV → EW → XR} (hi : i = xN sc (d + 2)) : ∀ (n j k : Nat) (y1 : Int32) (y2 : Int32) (y3 : Int32) (y4 : Int32) (y5 : Int32), j + n = sz s r → n ≤ k → fW sc 6 1 false 7 i (ex sc 6 1 false 7 i kX6_bribeOf_0 k) kX6_bribeOf_6 6 [some (.inr (.inr (.inl (some r)))), some (.inl y1), some (.inl y2), some (.inl y3), some (.inl y4), some (.inl y5), some (.inl (nI j))] [] (wl K s) = some (some (.inl (briIL s r n j y1 y2 y3 y4 y5)), wl K s) := by
  subst hi
  intro n
  induction n with
  | zero =>
    intro j k y1 y2 y3 y4 y5 hj hk
    have hx : (s r 0) ≤ (nI j) := by
      exact sz_ge zr hj
    simp (decide := true) only [uX6_bribeOf_6, qX6_bribeOf_6, jX6_bribeOf_15_62, jX6_bribeOf_24_56, jX6_bribeOf_0_6, cR_g0 hr, bd_eq, c_has, xci_eq, cR_g4 hr, lcR4 hr, cR_v hr, cond_true, c_distance hr, c_patience hr, zr, up_a, up_b, up_c, pt_c, fl_c, cp_c, if_pos hx]
    try simp (decide := true) only [uX6_bribeOf_0, uX6_bribeOf_15, uX6_bribeOf_24, uX6_bribeOf_56, uX6_bribeOf_62, qX6_bribeOf_0, qX6_bribeOf_15, qX6_bribeOf_24, qX6_bribeOf_56, qX6_bribeOf_62, jX6_bribeOf_15_62, jX6_bribeOf_24_56, jX6_bribeOf_0_6, cR_g0 hr, bd_eq, c_has, xci_eq, cR_g4 hr, lcR4 hr, cR_v hr, cond_true, c_distance hr, c_patience hr, zr, up_a, up_b, up_c, pt_c, fl_c, cp_c]
    first | done | (unfold briIL; first | done | (repeat' split) <;> first | with_reducible_and_instances rfl | contradiction)
  | succ n ih =>
    intro j k y1 y2 y3 y4 y5 hj hk
    obtain ⟨k, rfl⟩ : ∃ k', k = k' + 1 := ⟨k - 1, by omega⟩
    have hx : ¬ ((s r 0) ≤ (nI j)) := by
      exact sz_lt zr hj
    have e := fun (y1 : Int32) (y2 : Int32) (y3 : Int32) (y4 : Int32) (y5 : Int32) => ih (j + 1) k y1 y2 y3 y4 y5 (by omega) (by omega)
    simp only [nI_succ] at e
    simp (decide := true) only [uX6_bribeOf_6, qX6_bribeOf_6, jX6_bribeOf_15_62, jX6_bribeOf_24_56, jX6_bribeOf_0_6, cR_g0 hr, bd_eq, c_has, xci_eq, cR_g4 hr, lcR4 hr, cR_v hr, cond_true, c_distance hr, c_patience hr, zr, up_a, up_b, up_c, pt_c, fl_c, cp_c, if_neg hx]
    simp (decide := true) only [uX6_bribeOf_0, uX6_bribeOf_15, uX6_bribeOf_24, uX6_bribeOf_56, uX6_bribeOf_62, qX6_bribeOf_0, qX6_bribeOf_15, qX6_bribeOf_24, qX6_bribeOf_56, qX6_bribeOf_62, jX6_bribeOf_15_62, jX6_bribeOf_24_56, jX6_bribeOf_0_6, cR_g0 hr, bd_eq, c_has, xci_eq, cR_g4 hr, lcR4 hr, cR_v hr, cond_true, c_distance hr, c_patience hr, zr, up_a, up_b, up_c, pt_c, fl_c, cp_c, eX_eq]
    rw [briIL]
    repeat' split
    all_goals first | exact e _ _ _ _ _ | with_reducible_and_instances rfl | contradiction | exact absurd ‹(1 : Int32) = 0› (by decide) | exact absurd rfl ‹¬ (0 : Int32) = 0› | exact absurd rfl ‹¬ (1 : Int32) = 1›
def briI (s : SG) (r : Nat) (st : Int32) (m : Int32) (se : Int32) (day : Int32) : Int32 := briIL s r (sz s r) 0 st m se day 0
theorem c_bribeOf {s : SG} {st : Int32} {m : Int32} {se : Int32} {day : Int32} (hr : RP K r) (zr : SZ s r) : xN sc (d + 3) 113 [.inr (.inr (.inl (some r))), .inl st, .inl m, .inl se, .inl day] (wl K s) = some (some (.inl (briI s r st m se day)), wl K s) := by
  rw [mX6_bribeOf]
  have L6 : ∀ (y1 : Int32) (y2 : Int32) (y3 : Int32) (y4 : Int32) (y5 : Int32), fW sc 6 1 false 7 (xN sc (d + 2)) (ex sc 6 1 false 7 (xN sc (d + 2)) kX6_bribeOf_0 xF) kX6_bribeOf_6 6 [some (.inr (.inr (.inl (some r)))), some (.inl y1), some (.inl y2), some (.inl y3), some (.inl y4), some (.inl y5), some (.inl 0)] [] (wl K s) = some (some (.inl (briIL s r (sz s r) 0 y1 y2 y3 y4 y5)), wl K s) := fun y1 y2 y3 y4 y5 => l_bribeOf hr zr (hi := rfl) (sz s r) 0 xF y1 y2 y3 y4 y5  (by omega) (by have := xF_ge; have := zr.2; omega)
  simp (decide := true) only [uX6_bribeOf_0, uX6_bribeOf_15, uX6_bribeOf_24, uX6_bribeOf_56, uX6_bribeOf_62, qX6_bribeOf_0, qX6_bribeOf_15, qX6_bribeOf_24, qX6_bribeOf_56, qX6_bribeOf_62, jX6_bribeOf_15_62, jX6_bribeOf_24_56, jX6_bribeOf_0_6, zr, up_a, up_b, up_c, pt_c, fl_c, cp_c, L6]
  first | done | (unfold briI; first | done | with_reducible_and_instances rfl | ((repeat' split) <;> first | with_reducible_and_instances rfl | contradiction | exact absurd ‹(1 : Int32) = 0› (by decide) | exact absurd rfl ‹¬ (0 : Int32) = 0› | exact absurd rfl ‹¬ (1 : Int32) = 1› | (exfalso; rename_i h1 h2; exact h1 (by rw [h2]; exact Int32.le_refl _))))
def keyIL (s : SG) (r : Nat) : Nat → Nat → Int32 → Int32
  | 0, _, y1 => y1
  | n + 1, j, y1 => if (s r 9) ≤ (votT s r ((allI s r) &&& ((1 <<< ((nI j) &&& 31)) ^^^ (-1)))) then keyIL s r n (j + 1) y1 else keyIL s r n (j + 1) (y1 ||| (1 <<< ((nI j) &&& 31)))
theorem l_keyMinisters {s : SG} (hr : RP K r) (zr : SZ s r)  {i : Nat → List EV → EW → XR} (hi : i = xN sc (d + 2)) : ∀ (n j k : Nat) (y1 : Int32), j + n = sz s r → n ≤ k → fW sc 6 1 false 3 i (ex sc 6 1 false 3 i kX6_keyMinisters_0 k) kX6_keyMinisters_4 4 [some (.inr (.inr (.inl (some r)))), some (.inl y1), some (.inl (nI j))] [] (wl K s) = some (some (.inl (keyIL s r n j y1)), wl K s) := by
  subst hi
  intro n
  induction n with
  | zero =>
    intro j k y1 hj hk
    have hx : (s r 0) ≤ (nI j) := by
      exact sz_ge zr hj
    simp (decide := true) only [uX6_keyMinisters_4, qX6_keyMinisters_4, jX6_keyMinisters_12_45, jX6_keyMinisters_33_39, jX6_keyMinisters_0_4, cR_g0 hr, bd_eq, cR_v hr, cond_true, c_everybody hr, xci_eq, c_votesOf hr, zr, cR_g9 hr, zr, up_a, up_b, up_c, pt_c, fl_c, cp_c, if_pos hx]
    try simp (decide := true) only [uX6_keyMinisters_0, uX6_keyMinisters_12, uX6_keyMinisters_33, uX6_keyMinisters_39, uX6_keyMinisters_45, qX6_keyMinisters_0, qX6_keyMinisters_12, qX6_keyMinisters_33, qX6_keyMinisters_39, qX6_keyMinisters_45, jX6_keyMinisters_12_45, jX6_keyMinisters_33_39, jX6_keyMinisters_0_4, cR_g0 hr, bd_eq, cR_v hr, cond_true, c_everybody hr, xci_eq, c_votesOf hr, zr, cR_g9 hr, zr, up_a, up_b, up_c, pt_c, fl_c, cp_c]
    first | done | (unfold keyIL; first | done | (repeat' split) <;> first | with_reducible_and_instances rfl | contradiction)
  | succ n ih =>
    intro j k y1 hj hk
    obtain ⟨k, rfl⟩ : ∃ k', k = k' + 1 := ⟨k - 1, by omega⟩
    have hx : ¬ ((s r 0) ≤ (nI j)) := by
      exact sz_lt zr hj
    have e := fun (y1 : Int32) => ih (j + 1) k y1 (by omega) (by omega)
    simp only [nI_succ] at e
    simp (decide := true) only [uX6_keyMinisters_4, qX6_keyMinisters_4, jX6_keyMinisters_12_45, jX6_keyMinisters_33_39, jX6_keyMinisters_0_4, cR_g0 hr, bd_eq, cR_v hr, cond_true, c_everybody hr, xci_eq, c_votesOf hr, zr, cR_g9 hr, zr, up_a, up_b, up_c, pt_c, fl_c, cp_c, if_neg hx]
    simp (decide := true) only [uX6_keyMinisters_0, uX6_keyMinisters_12, uX6_keyMinisters_33, uX6_keyMinisters_39, uX6_keyMinisters_45, qX6_keyMinisters_0, qX6_keyMinisters_12, qX6_keyMinisters_33, qX6_keyMinisters_39, qX6_keyMinisters_45, jX6_keyMinisters_12_45, jX6_keyMinisters_33_39, jX6_keyMinisters_0_4, cR_g0 hr, bd_eq, cR_v hr, cond_true, c_everybody hr, xci_eq, c_votesOf hr, zr, cR_g9 hr, zr, up_a, up_b, up_c, pt_c, fl_c, cp_c, eX_eq]
    rw [keyIL]
    repeat' split
    all_goals first | exact e _ | with_reducible_and_instances rfl | contradiction | exact absurd ‹(1 : Int32) = 0› (by decide) | exact absurd rfl ‹¬ (0 : Int32) = 0› | exact absurd rfl ‹¬ (1 : Int32) = 1›
def keyI (s : SG) (r : Nat) : Int32 := keyIL s r (sz s r) 0 0
theorem c_keyMinisters {s : SG} (hr : RP K r) (zr : SZ s r) : xN sc (d + 3) 109 [.inr (.inr (.inl (some r)))] (wl K s) = some (some (.inl (keyI s r)), wl K s) := by
  rw [mX6_keyMinisters]
  have L4 : ∀ (y1 : Int32), fW sc 6 1 false 3 (xN sc (d + 2)) (ex sc 6 1 false 3 (xN sc (d + 2)) kX6_keyMinisters_0 xF) kX6_keyMinisters_4 4 [some (.inr (.inr (.inl (some r)))), some (.inl y1), some (.inl 0)] [] (wl K s) = some (some (.inl (keyIL s r (sz s r) 0 y1)), wl K s) := fun y1 => l_keyMinisters hr zr (hi := rfl) (sz s r) 0 xF y1  (by omega) (by have := xF_ge; have := zr.2; omega)
  simp (decide := true) only [uX6_keyMinisters_0, uX6_keyMinisters_12, uX6_keyMinisters_33, uX6_keyMinisters_39, uX6_keyMinisters_45, qX6_keyMinisters_0, qX6_keyMinisters_12, qX6_keyMinisters_33, qX6_keyMinisters_39, qX6_keyMinisters_45, jX6_keyMinisters_12_45, jX6_keyMinisters_33_39, jX6_keyMinisters_0_4, zr, up_a, up_b, up_c, pt_c, fl_c, cp_c, L4]
  first | done | (unfold keyI; first | done | with_reducible_and_instances rfl | ((repeat' split) <;> first | with_reducible_and_instances rfl | contradiction | exact absurd ‹(1 : Int32) = 0› (by decide) | exact absurd rfl ‹¬ (0 : Int32) = 0› | exact absurd rfl ‹¬ (1 : Int32) = 1› | (exfalso; rename_i h1 h2; exact h1 (by rw [h2]; exact Int32.le_refl _))))
def islIL (s : SG) (r : Nat) : Nat → Nat → Int32 → Int32
  | 0, _, _ => 1
  | n + 1, j, y1 => if (hasI y1 (nI j)) = 0 then islIL s r n (j + 1) y1 else if (votT s r (y1 &&& ((1 <<< ((nI j) &&& 31)) ^^^ (-1)))) < (s r 9) then islIL s r n (j + 1) y1 else 0
theorem islIL_rt {s : SG} {r : Nat} : ∀ (n j : Nat) (y1 : Int32), xrt 4 (islIL s r n j y1) = true := by
  intro n
  induction n with
  | zero =>
    intro j y1
    rw [islIL]
    first | done | first | with_reducible_and_instances rfl | simp only [hasI_rt, minI_rt, isaI_rt, issI_rt, pasI_rt, arsI_rt, canI7_rt, canI0_rt, xr40, xr41] | ((repeat' split) <;> first | with_reducible_and_instances rfl | simp only [hasI_rt, minI_rt, isaI_rt, issI_rt, pasI_rt, arsI_rt, canI7_rt, canI0_rt, xr40, xr41])
  | succ n ih =>
    intro j y1
    rw [islIL]
    first | done | first | with_reducible_and_instances rfl | simp only [ih, hasI_rt, minI_rt, isaI_rt, issI_rt, pasI_rt, arsI_rt, canI7_rt, canI0_rt, xr40, xr41] | ((repeat' split) <;> first | with_reducible_and_instances rfl | simp only [ih, hasI_rt, minI_rt, isaI_rt, issI_rt, pasI_rt, arsI_rt, canI7_rt, canI0_rt, xr40, xr41])
theorem l_isLeastCoalition {s : SG} (hr : RP K r) (zr : SZ s r)  {i : Nat → List EV → EW → XR} (hi : i = xN sc (d + 2)) : ∀ (n j k : Nat) (y1 : Int32), j + n = sz s r → n ≤ k → fW sc 6 4 false 3 i (ex sc 6 4 false 3 i kX6_isLeastCoalition_0 k) kX6_isLeastCoalition_16 16 [some (.inr (.inr (.inl (some r)))), some (.inl y1), some (.inl (nI j))] [] (wl K s) = some (some (.inl (islIL s r n j y1)), wl K s) := by
  subst hi
  intro n
  induction n with
  | zero =>
    intro j k y1 hj hk
    have hx : (s r 0) ≤ (nI j) := by
      exact sz_ge zr hj
    simp (decide := true) only [uX6_isLeastCoalition_16, qX6_isLeastCoalition_16, jX6_isLeastCoalition_12_14, jX6_isLeastCoalition_24_58, jX6_isLeastCoalition_32_52, jX6_isLeastCoalition_50_52, jX6_isLeastCoalition_0_16, cR_g0 hr, bd_eq, c_has, xci_eq, cR_v hr, cond_true, c_votesOf hr, zr, cR_g9 hr, zr, up_a, up_b, up_c, pt_c, fl_c, cp_c, if_pos hx]
    try simp (decide := true) only [uX6_isLeastCoalition_0, uX6_isLeastCoalition_12, uX6_isLeastCoalition_14, uX6_isLeastCoalition_24, uX6_isLeastCoalition_32, uX6_isLeastCoalition_50, uX6_isLeastCoalition_52, uX6_isLeastCoalition_58, qX6_isLeastCoalition_0, qX6_isLeastCoalition_12, qX6_isLeastCoalition_14, qX6_isLeastCoalition_24, qX6_isLeastCoalition_32, qX6_isLeastCoalition_50, qX6_isLeastCoalition_52, qX6_isLeastCoalition_58, jX6_isLeastCoalition_12_14, jX6_isLeastCoalition_24_58, jX6_isLeastCoalition_32_52, jX6_isLeastCoalition_50_52, jX6_isLeastCoalition_0_16, cR_g0 hr, bd_eq, c_has, xci_eq, cR_v hr, cond_true, c_votesOf hr, zr, cR_g9 hr, zr, up_a, up_b, up_c, pt_c, fl_c, cp_c]
    first | done | (unfold islIL; first | done | (repeat' split) <;> first | with_reducible_and_instances rfl | contradiction)
  | succ n ih =>
    intro j k y1 hj hk
    obtain ⟨k, rfl⟩ : ∃ k', k = k' + 1 := ⟨k - 1, by omega⟩
    have hx : ¬ ((s r 0) ≤ (nI j)) := by
      exact sz_lt zr hj
    have e := fun (y1 : Int32) => ih (j + 1) k y1 (by omega) (by omega)
    simp only [nI_succ] at e
    simp (decide := true) only [uX6_isLeastCoalition_16, qX6_isLeastCoalition_16, jX6_isLeastCoalition_12_14, jX6_isLeastCoalition_24_58, jX6_isLeastCoalition_32_52, jX6_isLeastCoalition_50_52, jX6_isLeastCoalition_0_16, cR_g0 hr, bd_eq, c_has, xci_eq, cR_v hr, cond_true, c_votesOf hr, zr, cR_g9 hr, zr, up_a, up_b, up_c, pt_c, fl_c, cp_c, if_neg hx]
    simp (decide := true) only [uX6_isLeastCoalition_0, uX6_isLeastCoalition_12, uX6_isLeastCoalition_14, uX6_isLeastCoalition_24, uX6_isLeastCoalition_32, uX6_isLeastCoalition_50, uX6_isLeastCoalition_52, uX6_isLeastCoalition_58, qX6_isLeastCoalition_0, qX6_isLeastCoalition_12, qX6_isLeastCoalition_14, qX6_isLeastCoalition_24, qX6_isLeastCoalition_32, qX6_isLeastCoalition_50, qX6_isLeastCoalition_52, qX6_isLeastCoalition_58, jX6_isLeastCoalition_12_14, jX6_isLeastCoalition_24_58, jX6_isLeastCoalition_32_52, jX6_isLeastCoalition_50_52, jX6_isLeastCoalition_0_16, cR_g0 hr, bd_eq, c_has, xci_eq, cR_v hr, cond_true, c_votesOf hr, zr, cR_g9 hr, zr, up_a, up_b, up_c, pt_c, fl_c, cp_c, eX_eq]
    rw [islIL]
    repeat' split
    all_goals first | exact e _ | with_reducible_and_instances rfl | contradiction | exact absurd ‹(1 : Int32) = 0› (by decide) | exact absurd rfl ‹¬ (0 : Int32) = 0› | exact absurd rfl ‹¬ (1 : Int32) = 1›
def islI (s : SG) (r : Nat) (st : Int32) : Int32 := if (s r 9) ≤ (votT s r st) then islIL s r (sz s r) 0 st else 0
theorem islI_rt {s : SG} {r : Nat} {st : Int32} : xrt 4 (islI s r st) = true := by
  unfold islI
  first | done | first | with_reducible_and_instances rfl | simp only [hasI_rt, minI_rt, isaI_rt, issI_rt, pasI_rt, arsI_rt, canI7_rt, canI0_rt, islIL_rt, xr40, xr41] | ((repeat' split) <;> first | with_reducible_and_instances rfl | simp only [hasI_rt, minI_rt, isaI_rt, issI_rt, pasI_rt, arsI_rt, canI7_rt, canI0_rt, islIL_rt, xr40, xr41])
theorem c_isLeastCoalition {s : SG} {st : Int32} (hr : RP K r) (zr : SZ s r) : xN sc (d + 3) 111 [.inr (.inr (.inl (some r))), .inl st] (wl K s) = some (some (.inl (islI s r st)), wl K s) := by
  rw [mX6_isLeastCoalition]
  have L16 : ∀ (y1 : Int32), fW sc 6 4 false 3 (xN sc (d + 2)) (ex sc 6 4 false 3 (xN sc (d + 2)) kX6_isLeastCoalition_0 xF) kX6_isLeastCoalition_16 16 [some (.inr (.inr (.inl (some r)))), some (.inl y1), some (.inl 0)] [] (wl K s) = some (some (.inl (islIL s r (sz s r) 0 y1)), wl K s) := fun y1 => l_isLeastCoalition hr zr (hi := rfl) (sz s r) 0 xF y1  (by omega) (by have := xF_ge; have := zr.2; omega)
  simp (decide := true) only [uX6_isLeastCoalition_0, uX6_isLeastCoalition_12, uX6_isLeastCoalition_14, uX6_isLeastCoalition_24, uX6_isLeastCoalition_32, uX6_isLeastCoalition_50, uX6_isLeastCoalition_52, uX6_isLeastCoalition_58, qX6_isLeastCoalition_0, qX6_isLeastCoalition_12, qX6_isLeastCoalition_14, qX6_isLeastCoalition_24, qX6_isLeastCoalition_32, qX6_isLeastCoalition_50, qX6_isLeastCoalition_52, qX6_isLeastCoalition_58, jX6_isLeastCoalition_12_14, jX6_isLeastCoalition_24_58, jX6_isLeastCoalition_32_52, jX6_isLeastCoalition_50_52, jX6_isLeastCoalition_0_16, cR_v hr, cond_true, c_votesOf hr, zr, xci_eq, cR_g9 hr, bd_eq, zr, up_a, up_b, up_c, pt_c, fl_c, cp_c, L16]
  first | done | (unfold islI; first | done | with_reducible_and_instances rfl | ((repeat' split) <;> first | with_reducible_and_instances rfl | contradiction | exact absurd ‹(1 : Int32) = 0› (by decide) | exact absurd rfl ‹¬ (0 : Int32) = 0› | exact absurd rfl ‹¬ (1 : Int32) = 1› | (exfalso; rename_i h1 h2; exact h1 (by rw [h2]; exact Int32.le_refl _))))
end XCA
end
