/-! leaves of the class: numbers and rows -/
def cl (n : Nat) (f : Nat → Int32) (i : Int32) : Int32 := if i < 0 then 0 else if nI n ≤ i then 0 else f i.toNatClampNeg
theorem xvb_of {i : Int32} {n : Nat} (hn : n < 2 ^ 31) (h1 : ¬ i < 0) (h2 : ¬ nI n ≤ i) : xvb i n = true := by
  rw [xvb_iff]
  have h3 := Int32.le_iff_toInt_le.mp (Int32.not_lt.mp h1)
  have h4 := Int32.lt_iff_toInt_lt.mp (Int32.not_le.mp h2)
  rw [nI_toInt hn] at h4
  exact ⟨by simpa using h3, h4⟩
theorem xvb_nI {j n : Nat} (h : j < n) (hn : n < 2 ^ 31) : xvb (nI j) n = true := by
  rw [xvb_iff, nI_toInt (by omega)]
  omega
theorem cl_nI {n j : Nat} {f : Nat → Int32} (h : j < n) (hn : n < 2 ^ 31) : cl n f (nI j) = f j := by
  unfold cl
  rw [if_neg (nI_pos (by omega)), if_neg (nI_ge h hn), nI_clamp (by omega)]
section XLF
variable {sc : Nat × (Nat → Int32)} {F d : Nat} {K : List KD} {s : SG} {w : EW}
theorem c_cell {k n : Nat} {i : Int32} (hk : K[k]? = some (kI 0 n)) (hn : n < 2 ^ 31) : xM sc TT (F + 1) (d + 1) 144 [.inr (.inr (.inl (some k))), .inl i] (wl K s) = some (some (.inl (cl n (s k) i)), wl K s) := by
  rw [mX6_cell]
  simp only [uX6_cell_0, uX6_cell_4, uX6_cell_10, uX6_cell_16, uX6_cell_17, qX6_cell_0, qX6_cell_4, qX6_cell_10, qX6_cell_16, qX6_cell_17, jX6_cell_4_16, jX6_cell_10_16, jX6_cell_16_17, xnn_wl hk rfl, bd_eq]
  unfold cl
  split
  · rfl
  · split
    · rename_i h; rw [if_pos h]
    · rename_i h1 h2
      rw [xdi_wl hk (xvb_of hn h1 h2), if_neg h2]
      simp only [uX6_cell_0, uX6_cell_4, uX6_cell_10, uX6_cell_16, uX6_cell_17, qX6_cell_0, qX6_cell_4, qX6_cell_10, qX6_cell_16, qX6_cell_17, jX6_cell_4_16, jX6_cell_10_16, jX6_cell_16_17, bd_eq]
theorem c_put {k n : Nat} {i x : Int32} (hk : K[k]? = some (kI 0 n)) (hn : n < 2 ^ 31) : xM sc TT (F + 1) (d + 1) 145 [.inr (.inr (.inl (some k))), .inl i, .inl x] (wl K s) = some (none, wl K (if i < 0 then s else if nI n ≤ i then s else up s k i.toNatClampNeg x)) := by
  rw [mX6_put]
  simp only [uX6_put_0, uX6_put_4, uX6_put_10, uX6_put_14, qX6_put_0, qX6_put_4, qX6_put_10, qX6_put_14, jX6_put_4_14, jX6_put_10_14, xnn_wl hk rfl, bd_eq]
  split
  · rfl
  · split
    · rename_i h; rw [if_pos h]
    · rename_i h1 h2
      rw [xti_wl hk (xvb_of hn h1 h2), if_neg h2]
      simp only [uX6_put_0, uX6_put_4, uX6_put_10, uX6_put_14, qX6_put_0, qX6_put_4, qX6_put_10, qX6_put_14, jX6_put_4_14, jX6_put_10_14, bd_eq]
def hasI (x k : Int32) : Int32 := if k < 0 then 0 else if 6 ≤ k then 0 else if (x >>> (k &&& 31)) &&& 1 = 1 then 1 else 0
theorem c_has {x k : Int32} : xM sc TT (F + 1) (d + 1) 143 [.inl x, .inl k] w = some (some (.inl (hasI x k)), w) := by
  rw [mX6_has]
  simp only [uX6_has_0, uX6_has_4, uX6_has_10, uX6_has_19, uX6_has_23, uX6_has_24, qX6_has_0, qX6_has_4, qX6_has_10, qX6_has_19, qX6_has_23, qX6_has_24, jX6_has_4_23, jX6_has_10_23, jX6_has_19_23, jX6_has_23_24]
  unfold hasI
  repeat' split
  all_goals rfl
def amtI (day kind : Int32) : Int32 := if kind = 0 then day / 100 else if kind = 1 then day / 10 - day / 10 / 10 * 10 else day - day / 10 * 10
theorem c_amount {x k : Int32} : xM sc TT (F + 1) (d + 1) 142 [.inl x, .inl k] w = some (some (.inl (amtI x k)), w) := by
  rw [mX6_amount]
  simp only [uX6_amount_0, uX6_amount_4, uX6_amount_9, uX6_amount_14, uX6_amount_24, uX6_amount_28, qX6_amount_0, qX6_amount_4, qX6_amount_9, qX6_amount_14, qX6_amount_24, qX6_amount_28, jX6_amount_4_9, jX6_amount_14_24, jX6_amount_24_28]
  unfold amtI
  repeat' split
  all_goals first | rfl | contradiction
def numI (a b c : Int32) : Int32 := (a * 10 + b) * 10 + c
theorem c_numberOf {a b c : Int32} : xM sc TT (F + 1) (d + 1) 141 [.inl a, .inl b, .inl c] w = some (some (.inl (numI a b c)), w) := by
  rw [mX6_numberOf]
  simp only [uX6_numberOf_0, qX6_numberOf_0]
  rfl
def isaI (a : Int32) : Int32 := if a < 0 then 0 else if 10 ≤ a then 0 else 1
theorem c_isAmount {a : Int32} : xM sc TT (F + 1) (d + 1) 139 [.inl a] w = some (some (.inl (isaI a)), w) := by
  rw [mX6_isAmount]
  simp only [uX6_isAmount_0, uX6_isAmount_4, uX6_isAmount_10, uX6_isAmount_14, uX6_isAmount_15, qX6_isAmount_0, qX6_isAmount_4, qX6_isAmount_10, qX6_isAmount_14, qX6_isAmount_15, jX6_isAmount_4_14, jX6_isAmount_10_14, jX6_isAmount_14_15]
  unfold isaI
  repeat' split
  all_goals rfl
def issI (a : Int32) : Int32 := if a < 0 then 0 else if 4 ≤ a then 0 else 1
theorem c_isSeason {a : Int32} : xM sc TT (F + 1) (d + 1) 138 [.inl a] w = some (some (.inl (issI a)), w) := by
  rw [mX6_isSeason]
  simp only [uX6_isSeason_0, uX6_isSeason_4, uX6_isSeason_9, uX6_isSeason_13, uX6_isSeason_14, qX6_isSeason_0, qX6_isSeason_4, qX6_isSeason_9, qX6_isSeason_13, qX6_isSeason_14, jX6_isSeason_4_13, jX6_isSeason_9_13, jX6_isSeason_13_14]
  unfold issI
  repeat' split
  all_goals rfl
def dayI (a b c : Int32) : Int32 := if isaI a = 0 then -1 else if isaI b = 0 then -1 else if isaI c = 0 then -1 else numI a b c
theorem c_dayOf {a b c : Int32} : xM sc TT (F + 1) (d + 2) 140 [.inl a, .inl b, .inl c] w = some (some (.inl (dayI a b c)), w) := by
  rw [mX6_dayOf]
  simp only [uX6_dayOf_0, uX6_dayOf_7, uX6_dayOf_14, uX6_dayOf_21, uX6_dayOf_30, uX6_dayOf_31, qX6_dayOf_0, qX6_dayOf_7, qX6_dayOf_14, qX6_dayOf_21, qX6_dayOf_30, qX6_dayOf_31, jX6_dayOf_7_30, jX6_dayOf_14_30, jX6_dayOf_21_30, jX6_dayOf_30_31, c_isAmount, c_numberOf, xci_eq]
  unfold dayI
  repeat' split
  all_goals first | rfl | contradiction
end XLF
