/-! the reference: what is asked of a republic -/
theorem nI_mulx (a b : Nat) : nI a * nI b = nI (a * b) := (Int32.ofNat_mul a b).symm
section XRF
variable {sc : Nat × (Nat → Int32)} {d : Nat} {K : List KD} {s : SG} {w : EW}
def rh (s : SG) : Nat := (s 64 11).toNatClampNeg
/-- the republic that is looked at lies within all that is told -/
def RH (s : SG) : Prop := s 64 11 = nI (rh s) ∧ rh s ≤ 728
def inI (v a b : Int32) : Int32 := if v < a then 0 else if b < v then 0 else 1
theorem e_isIn {v a b : Int32} : xN sc (d + 1) 150 [.inl v, .inl a, .inl b] w = some (some (.inl (inI v a b)), w) := by
  rw [mX7_isIn]
  simp only [uX7_isIn_0, uX7_isIn_5, uX7_isIn_10, uX7_isIn_14, uX7_isIn_15, qX7_isIn_0, qX7_isIn_5, qX7_isIn_10, qX7_isIn_14, qX7_isIn_15, jX7_isIn_5_14, jX7_isIn_10_14, jX7_isIn_14_15]
  unfold inI
  repeat' split
  all_goals first | rfl | contradiction
theorem inI_rt {v a b : Int32} : xrt 4 (inI v a b) = true := by
  unfold inI
  repeat' split
  all_goals rfl
def ofN (s : SG) (a : Nat) : Int32 := s 65 (rh s + a)
theorem e_of {x : Int32} {a : Nat} (h : SH K) (hr : RH s) (hx : x = nI a) (ha : a < 5000) : xN sc (d + 1) 188 [.inr (.inr (.inl (some 64))), .inl x] (wl K s) = some (some (.inl (ofN s a)), wl K s) := by
  subst hx
  rw [mX7_of]
  simp only [uX7_of_0, qX7_of_0, c64_g0 h, c64_g11 h, bd_eq]
  have h2 := hr.2
  rw [hr.1, nI_add, c65_d h (xvb_nI (j := rh s + a) (by omega) (by decide)), nI_clamp (by omega)]
  rfl
theorem e_ministers (h : SH K) (hr : RH s) : xN sc (d + 2) 189 [.inr (.inr (.inl (some 64)))] (wl K s) = some (some (.inl (ofN s 0)), wl K s) := by
  rw [mX7_ministers]
  simp only [uX7_ministers_0, qX7_ministers_0, c64_v h, e_of (x := 0) (a := 0) h hr rfl (by decide), xci_eq, cond_true]
def mnN (s : SG) (m : Int32) : Int32 := inI m 0 (ofN s 0 - 1)
theorem e_isMinister {m : Int32} (h : SH K) (hr : RH s) : xN sc (d + 3) 190 [.inr (.inr (.inl (some 64))), .inl m] (wl K s) = some (some (.inl (mnN s m)), wl K s) := by
  rw [mX7_isMinister]
  simp only [uX7_isMinister_0, qX7_isMinister_0, c64_v h, e_ministers h hr, e_isIn, inI_rt, xci_eq, cond_true]
  rfl
theorem e_ofMinister {x y : Int32} {m a : Nat} (h : SH K) (hr : RH s) (hx : x = nI m) (hy : y = nI a) (hm : m < 6) (ha : a < 18) : xN sc (d + 2) 191 [.inr (.inr (.inl (some 64))), .inl x, .inl y] (wl K s) = some (some (.inl (ofN s (10 + 18 * m + a))), wl K s) := by
  rw [mX7_ofMinister]
  have e : (10 + 18 * x) + y = nI (10 + 18 * m + a) := by
    subst hx; subst hy
    show (nI 10 + nI 18 * nI m) + nI a = _
    rw [nI_mulx, nI_add, nI_add]
  simp only [uX7_ofMinister_0, qX7_ofMinister_0, c64_v h, e_of h hr e (by omega), xci_eq, cond_true]
theorem e_wants {x y z : Int32} {m a b : Nat} (h : SH K) (hr : RH s) (hx : x = nI m) (hy : y = nI a) (hz : z = nI b) (hm : m < 6) (ha : a < 4) (hb : b < 3) : xN sc (d + 3) 192 [.inr (.inr (.inl (some 64))), .inl x, .inl y, .inl z] (wl K s) = some (some (.inl (ofN s (16 + 18 * m + 3 * a + b))), wl K s) := by
  rw [mX7_wants]
  have e : (6 + 3 * y) + z = nI (6 + 3 * a + b) := by
    subst hy; subst hz
    show (nI 6 + nI 3 * nI a) + nI b = _
    rw [nI_mulx, nI_add, nI_add]
  simp only [uX7_wants_0, qX7_wants_0, c64_v h, e_ofMinister h hr hx e hm (by omega), xci_eq, cond_true]
  rw [show 10 + 18 * m + (6 + 3 * a + b) = 16 + 18 * m + 3 * a + b by omega]
def atI (day kind : Int32) : Int32 := amtI day kind
theorem e_amountOf {x k : Int32} : xN sc (d + 1) 195 [.inl x, .inl k] w = some (some (.inl (amtI x k)), w) := by
  rw [mX7_amountOf]
  simp only [uX7_amountOf_0, uX7_amountOf_4, uX7_amountOf_11, uX7_amountOf_16, uX7_amountOf_26, uX7_amountOf_30, qX7_amountOf_0, qX7_amountOf_4, qX7_amountOf_11, qX7_amountOf_16, qX7_amountOf_26, qX7_amountOf_30, jX7_amountOf_4_11, jX7_amountOf_11_30, jX7_amountOf_16_26, jX7_amountOf_26_30]
  unfold amtI
  repeat' split
  all_goals first | rfl | contradiction
def tks (s : SG) (day : Int32) : SG := up (up (up s 64 12 (amtI day 0)) 64 13 (amtI day 1)) 64 14 (amtI day 2)
theorem e_talksOf {x : Int32} (h : SH K) : xN sc (d + 1) 196 [.inr (.inr (.inl (some 64))), .inl x] (wl K s) = some (none, wl K (tks s x)) := by
  rw [mX7_talksOf]
  simp only [uX7_talksOf_0, qX7_talksOf_0, c64_p12 h, c64_p13 h, c64_p14 h, bd_eq]
  rfl
def sizI (v : Int32) : Int32 := if 0 ≤ v then v else -v
theorem e_size {v : Int32} : xN sc (d + 1) 197 [.inl v] w = some (some (.inl (sizI v)), w) := by
  rw [mX7_size]
  simp only [uX7_size_0, uX7_size_4, uX7_size_9, uX7_size_10, qX7_size_0, qX7_size_4, qX7_size_9, qX7_size_10, jX7_size_4_9, jX7_size_9_10]
  unfold sizI
  repeat' split
  all_goals rfl
end XRF
