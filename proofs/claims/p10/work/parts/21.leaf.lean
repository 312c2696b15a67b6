/-! leaves of the class: numbers and rows -/
def cl (n : Nat) (f : Nat → Int32) (i : Int32) : Int32 := if i < 0 then 0 else if nI n ≤ i then 0 else f i.toNatClampNeg
theorem xvb_of {i : Int32} {n : Nat} (hn : n < 2 ^ 31) (h1 : ¬ i < 0) (h2 : ¬ nI n ≤ i) : xvb i n = true := by
  rw [xvb_iff]
  have h3 := Int32.le_iff_toInt_le.mp (Int32.not_lt.mp h1)
  have h4 := Int32.lt_iff_toInt_lt.mp (Int32.not_le.mp h2)
  rw [nI_toInt hn] at h4
  exact ⟨by simpa using h3, h4⟩
theorem xvb_nI {j n : Nat} (h : j < n) (hn : n < 2 ^ 31) : xvb (nI j) n = true := by
  rw [xvb_iff, nI_toInt (by omega)]
  omega
theorem cl_nI {n j : Nat} {f : Nat → Int32} (h : j < n) (hn : n < 2 ^ 31) : cl n f (nI j) = f j := by
  unfold cl
  rw [if_neg (nI_pos (by omega)), if_neg (nI_ge h hn), nI_clamp (by omega)]
section XLF
variable {sc : Nat × (Nat → Int32)} {d : Nat} {K : List KD} {s : SG} {w : EW}
theorem c_cell {k n : Nat} {i : Int32} (hk : K[k]? = some (kI 0 n)) (hn : n < 2 ^ 31) : xN sc (d + 1) 144 [.inr (.inr (.inl (some k))), .inl i] (wl K s) = some (some (.inl (cl n (s k) i)), wl K s) := by
  rw [mX6_cell]
  simp only [uX6_cell_0, uX6_cell_4, uX6_cell_10, uX6_cell_16, uX6_cell_17, qX6_cell_0, qX6_cell_4, qX6_cell_10, qX6_cell_16, qX6_cell_17, jX6_cell_4_16, jX6_cell_10_16, jX6_cell_16_17, xnn_wl hk rfl, bd_eq]
  unfold cl
  split
  · rfl
  · split
    · rfl
    · rename_i h1 h2
      rw [xdi_wl hk (xvb_of hn h1 h2)]
      rfl
def pt (n : Nat) (s : SG) (k : Nat) (i x : Int32) : SG := if i < 0 then s else if nI n ≤ i then s else up s k i.toNatClampNeg x
theorem c_put {k n : Nat} {i x : Int32} (hk : K[k]? = some (kI 0 n)) (hn : n < 2 ^ 31) : xN sc (d + 1) 145 [.inr (.inr (.inl (some k))), .inl i, .inl x] (wl K s) = some (none, wl K (pt n s k i x)) := by
  rw [mX6_put]
  simp only [uX6_put_0, uX6_put_4, uX6_put_10, uX6_put_14, qX6_put_0, qX6_put_4, qX6_put_10, qX6_put_14, jX6_put_4_14, jX6_put_10_14, xnn_wl hk rfl, bd_eq]
  unfold pt
  split
  · rfl
  · split
    · rfl
    · rename_i h1 h2
      rw [xti_wl hk (xvb_of hn h1 h2)]
      rfl
theorem lcR1 {r : Nat} {i : Int32} (h : RP K r) : xN sc (d + 1) 144 [.inr (.inr (.inl (some (r + 1)))), .inl i] (wl K s) = some (some (.inl (cl 6 (s (r + 1)) i)), wl K s) := c_cell (h.2.1) (by decide)
theorem kcR1 {r : Nat} {i x : Int32} (h : RP K r) : xN sc (d + 1) 145 [.inr (.inr (.inl (some (r + 1)))), .inl i, .inl x] (wl K s) = some (none, wl K (pt 6 s (r + 1) i x)) := c_put (h.2.1) (by decide)
theorem lcR2 {r : Nat} {i : Int32} (h : RP K r) : xN sc (d + 1) 144 [.inr (.inr (.inl (some (r + 2)))), .inl i] (wl K s) = some (some (.inl (cl 6 (s (r + 2)) i)), wl K s) := c_cell (h.2.2.1) (by decide)
theorem kcR2 {r : Nat} {i x : Int32} (h : RP K r) : xN sc (d + 1) 145 [.inr (.inr (.inl (some (r + 2)))), .inl i, .inl x] (wl K s) = some (none, wl K (pt 6 s (r + 2) i x)) := c_put (h.2.2.1) (by decide)
theorem lcR3 {r : Nat} {i : Int32} (h : RP K r) : xN sc (d + 1) 144 [.inr (.inr (.inl (some (r + 3)))), .inl i] (wl K s) = some (some (.inl (cl 6 (s (r + 3)) i)), wl K s) := c_cell (h.2.2.2.1) (by decide)
theorem kcR3 {r : Nat} {i x : Int32} (h : RP K r) : xN sc (d + 1) 145 [.inr (.inr (.inl (some (r + 3)))), .inl i, .inl x] (wl K s) = some (none, wl K (pt 6 s (r + 3) i x)) := c_put (h.2.2.2.1) (by decide)
theorem lcR4 {r : Nat} {i : Int32} (h : RP K r) : xN sc (d + 1) 144 [.inr (.inr (.inl (some (r + 4)))), .inl i] (wl K s) = some (some (.inl (cl 6 (s (r + 4)) i)), wl K s) := c_cell (h.2.2.2.2.1) (by decide)
theorem kcR4 {r : Nat} {i x : Int32} (h : RP K r) : xN sc (d + 1) 145 [.inr (.inr (.inl (some (r + 4)))), .inl i, .inl x] (wl K s) = some (none, wl K (pt 6 s (r + 4) i x)) := c_put (h.2.2.2.2.1) (by decide)
theorem lcR5 {r : Nat} {i : Int32} (h : RP K r) : xN sc (d + 1) 144 [.inr (.inr (.inl (some (r + 5)))), .inl i] (wl K s) = some (some (.inl (cl 72 (s (r + 5)) i)), wl K s) := c_cell (h.2.2.2.2.2.1) (by decide)
theorem kcR5 {r : Nat} {i x : Int32} (h : RP K r) : xN sc (d + 1) 145 [.inr (.inr (.inl (some (r + 5)))), .inl i, .inl x] (wl K s) = some (none, wl K (pt 72 s (r + 5) i x)) := c_put (h.2.2.2.2.2.1) (by decide)
theorem lcR6 {r : Nat} {i : Int32} (h : RP K r) : xN sc (d + 1) 144 [.inr (.inr (.inl (some (r + 6)))), .inl i] (wl K s) = some (some (.inl (cl 6 (s (r + 6)) i)), wl K s) := c_cell (h.2.2.2.2.2.2.1) (by decide)
theorem kcR6 {r : Nat} {i x : Int32} (h : RP K r) : xN sc (d + 1) 145 [.inr (.inr (.inl (some (r + 6)))), .inl i, .inl x] (wl K s) = some (none, wl K (pt 6 s (r + 6) i x)) := c_put (h.2.2.2.2.2.2.1) (by decide)
theorem lcR7 {r : Nat} {i : Int32} (h : RP K r) : xN sc (d + 1) 144 [.inr (.inr (.inl (some (r + 7)))), .inl i] (wl K s) = some (some (.inl (cl 3 (s (r + 7)) i)), wl K s) := c_cell (h.2.2.2.2.2.2.2) (by decide)
theorem kcR7 {r : Nat} {i x : Int32} (h : RP K r) : xN sc (d + 1) 145 [.inr (.inr (.inl (some (r + 7)))), .inl i, .inl x] (wl K s) = some (none, wl K (pt 3 s (r + 7) i x)) := c_put (h.2.2.2.2.2.2.2) (by decide)
theorem lcW1 {q : Nat} {i : Int32} (h : RW K q) : xN sc (d + 1) 144 [.inr (.inr (.inl (some (q + 1)))), .inl i] (wl K s) = some (some (.inl (cl 200 (s (q + 1)) i)), wl K s) := c_cell (h.2) (by decide)
theorem kcW1 {q : Nat} {i x : Int32} (h : RW K q) : xN sc (d + 1) 145 [.inr (.inr (.inl (some (q + 1)))), .inl i, .inl x] (wl K s) = some (none, wl K (pt 200 s (q + 1) i x)) := c_put (h.2) (by decide)
theorem lcT1 {B : Nat} {i : Int32} (h : TD K B) : xN sc (d + 1) 144 [.inr (.inr (.inl (some (B + 1)))), .inl i] (wl K s) = some (some (.inl (cl 600 (s (B + 1)) i)), wl K s) := c_cell (h 1 (by decide)) (by decide)
theorem kcT1 {B : Nat} {i x : Int32} (h : TD K B) : xN sc (d + 1) 145 [.inr (.inr (.inl (some (B + 1)))), .inl i, .inl x] (wl K s) = some (none, wl K (pt 600 s (B + 1) i x)) := c_put (h 1 (by decide)) (by decide)
theorem lcT2 {B : Nat} {i : Int32} (h : TD K B) : xN sc (d + 1) 144 [.inr (.inr (.inl (some (B + 2)))), .inl i] (wl K s) = some (some (.inl (cl 6 (s (B + 2)) i)), wl K s) := c_cell (h 2 (by decide)) (by decide)
theorem kcT2 {B : Nat} {i x : Int32} (h : TD K B) : xN sc (d + 1) 145 [.inr (.inr (.inl (some (B + 2)))), .inl i, .inl x] (wl K s) = some (none, wl K (pt 6 s (B + 2) i x)) := c_put (h 2 (by decide)) (by decide)
theorem lc2 {i : Int32} (h : SH K) : xN sc (d + 1) 144 [.inr (.inr (.inl (some 2))), .inl i] (wl K s) = some (some (.inl (cl 600 (s 2) i)), wl K s) := c_cell (K2 h) (by decide)
theorem kc2 {i x : Int32} (h : SH K) : xN sc (d + 1) 145 [.inr (.inr (.inl (some 2))), .inl i, .inl x] (wl K s) = some (none, wl K (pt 600 s 2 i x)) := c_put (K2 h) (by decide)
theorem lc3 {i : Int32} (h : SH K) : xN sc (d + 1) 144 [.inr (.inr (.inl (some 3))), .inl i] (wl K s) = some (some (.inl (cl 6 (s 3) i)), wl K s) := c_cell (K3 h) (by decide)
theorem kc3 {i x : Int32} (h : SH K) : xN sc (d + 1) 145 [.inr (.inr (.inl (some 3))), .inl i, .inl x] (wl K s) = some (none, wl K (pt 6 s 3 i x)) := c_put (K3 h) (by decide)
theorem lc54 {i : Int32} (h : SH K) : xN sc (d + 1) 144 [.inr (.inr (.inl (some 54))), .inl i] (wl K s) = some (some (.inl (cl 600 (s 54) i)), wl K s) := c_cell (K54 h) (by decide)
theorem kc54 {i x : Int32} (h : SH K) : xN sc (d + 1) 145 [.inr (.inr (.inl (some 54))), .inl i, .inl x] (wl K s) = some (none, wl K (pt 600 s 54 i x)) := c_put (K54 h) (by decide)
theorem lc55 {i : Int32} (h : SH K) : xN sc (d + 1) 144 [.inr (.inr (.inl (some 55))), .inl i] (wl K s) = some (some (.inl (cl 5 (s 55) i)), wl K s) := c_cell (K55 h) (by decide)
theorem kc55 {i x : Int32} (h : SH K) : xN sc (d + 1) 145 [.inr (.inr (.inl (some 55))), .inl i, .inl x] (wl K s) = some (none, wl K (pt 5 s 55 i x)) := c_put (K55 h) (by decide)
theorem lc58 {i : Int32} (h : SH K) : xN sc (d + 1) 144 [.inr (.inr (.inl (some 58))), .inl i] (wl K s) = some (some (.inl (cl 6 (s 58) i)), wl K s) := c_cell (K58 h) (by decide)
theorem kc58 {i x : Int32} (h : SH K) : xN sc (d + 1) 145 [.inr (.inr (.inl (some 58))), .inl i, .inl x] (wl K s) = some (none, wl K (pt 6 s 58 i x)) := c_put (K58 h) (by decide)
theorem lc59 {i : Int32} (h : SH K) : xN sc (d + 1) 144 [.inr (.inr (.inl (some 59))), .inl i] (wl K s) = some (some (.inl (cl 3 (s 59) i)), wl K s) := c_cell (K59 h) (by decide)
theorem kc59 {i x : Int32} (h : SH K) : xN sc (d + 1) 145 [.inr (.inr (.inl (some 59))), .inl i, .inl x] (wl K s) = some (none, wl K (pt 3 s 59 i x)) := c_put (K59 h) (by decide)
theorem lc61 {i : Int32} (h : SH K) : xN sc (d + 1) 144 [.inr (.inr (.inl (some 61))), .inl i] (wl K s) = some (some (.inl (cl 40 (s 61) i)), wl K s) := c_cell (K61 h) (by decide)
theorem kc61 {i x : Int32} (h : SH K) : xN sc (d + 1) 145 [.inr (.inr (.inl (some 61))), .inl i, .inl x] (wl K s) = some (none, wl K (pt 40 s 61 i x)) := c_put (K61 h) (by decide)
theorem lc62 {i : Int32} (h : SH K) : xN sc (d + 1) 144 [.inr (.inr (.inl (some 62))), .inl i] (wl K s) = some (some (.inl (cl 216 (s 62) i)), wl K s) := c_cell (K62 h) (by decide)
theorem kc62 {i x : Int32} (h : SH K) : xN sc (d + 1) 145 [.inr (.inr (.inl (some 62))), .inl i, .inl x] (wl K s) = some (none, wl K (pt 216 s 62 i x)) := c_put (K62 h) (by decide)
theorem lc63 {i : Int32} (h : SH K) : xN sc (d + 1) 144 [.inr (.inr (.inl (some 63))), .inl i] (wl K s) = some (some (.inl (cl 1000 (s 63) i)), wl K s) := c_cell (K63 h) (by decide)
theorem kc63 {i x : Int32} (h : SH K) : xN sc (d + 1) 145 [.inr (.inr (.inl (some 63))), .inl i, .inl x] (wl K s) = some (none, wl K (pt 1000 s 63 i x)) := c_put (K63 h) (by decide)
def hasI (x k : Int32) : Int32 := if k < 0 then 0 else if 6 ≤ k then 0 else if (x >>> (k &&& 31)) &&& 1 = 1 then 1 else 0
theorem c_has {x k : Int32} : xN sc (d + 1) 143 [.inl x, .inl k] w = some (some (.inl (hasI x k)), w) := by
  rw [mX6_has]
  simp only [uX6_has_0, uX6_has_4, uX6_has_10, uX6_has_19, uX6_has_23, uX6_has_24, qX6_has_0, qX6_has_4, qX6_has_10, qX6_has_19, qX6_has_23, qX6_has_24, jX6_has_4_23, jX6_has_10_23, jX6_has_19_23, jX6_has_23_24]
  unfold hasI
  repeat' split
  all_goals rfl
def amtI (day kind : Int32) : Int32 := if kind = 0 then day / 100 else if kind = 1 then day / 10 - day / 10 / 10 * 10 else day - day / 10 * 10
theorem c_amount {x k : Int32} : xN sc (d + 1) 142 [.inl x, .inl k] w = some (some (.inl (amtI x k)), w) := by
  rw [mX6_amount]
  simp only [uX6_amount_0, uX6_amount_4, uX6_amount_9, uX6_amount_14, uX6_amount_24, uX6_amount_28, qX6_amount_0, qX6_amount_4, qX6_amount_9, qX6_amount_14, qX6_amount_24, qX6_amount_28, jX6_amount_4_9, jX6_amount_14_24, jX6_amount_24_28]
  unfold amtI
  repeat' split
  all_goals first | rfl | contradiction
def numI (a b c : Int32) : Int32 := (a * 10 + b) * 10 + c
theorem c_numberOf {a b c : Int32} : xN sc (d + 1) 141 [.inl a, .inl b, .inl c] w = some (some (.inl (numI a b c)), w) := by
  rw [mX6_numberOf]
  simp only [uX6_numberOf_0, qX6_numberOf_0]
  rfl
def isaI (a : Int32) : Int32 := if a < 0 then 0 else if 10 ≤ a then 0 else 1
theorem c_isAmount {a : Int32} : xN sc (d + 1) 139 [.inl a] w = some (some (.inl (isaI a)), w) := by
  rw [mX6_isAmount]
  simp only [uX6_isAmount_0, uX6_isAmount_4, uX6_isAmount_10, uX6_isAmount_14, uX6_isAmount_15, qX6_isAmount_0, qX6_isAmount_4, qX6_isAmount_10, qX6_isAmount_14, qX6_isAmount_15, jX6_isAmount_4_14, jX6_isAmount_10_14, jX6_isAmount_14_15]
  unfold isaI
  repeat' split
  all_goals rfl
def issI (a : Int32) : Int32 := if a < 0 then 0 else if 4 ≤ a then 0 else 1
theorem c_isSeason {a : Int32} : xN sc (d + 1) 138 [.inl a] w = some (some (.inl (issI a)), w) := by
  rw [mX6_isSeason]
  simp only [uX6_isSeason_0, uX6_isSeason_4, uX6_isSeason_9, uX6_isSeason_13, uX6_isSeason_14, qX6_isSeason_0, qX6_isSeason_4, qX6_isSeason_9, qX6_isSeason_13, qX6_isSeason_14, jX6_isSeason_4_13, jX6_isSeason_9_13, jX6_isSeason_13_14]
  unfold issI
  repeat' split
  all_goals rfl
def dayI (a b c : Int32) : Int32 := if isaI a = 0 then -1 else if isaI b = 0 then -1 else if isaI c = 0 then -1 else numI a b c
theorem c_dayOf {a b c : Int32} : xN sc (d + 2) 140 [.inl a, .inl b, .inl c] w = some (some (.inl (dayI a b c)), w) := by
  rw [mX6_dayOf]
  simp only [uX6_dayOf_0, uX6_dayOf_7, uX6_dayOf_14, uX6_dayOf_21, uX6_dayOf_30, uX6_dayOf_31, qX6_dayOf_0, qX6_dayOf_7, qX6_dayOf_14, qX6_dayOf_21, qX6_dayOf_30, qX6_dayOf_31, jX6_dayOf_7_30, jX6_dayOf_14_30, jX6_dayOf_21_30, jX6_dayOf_30_31, c_isAmount, c_numberOf, xci_eq]
  unfold dayI
  repeat' split
  all_goals first | rfl | contradiction
end XLF
