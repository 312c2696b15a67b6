section XCK
variable {sc : Nat × (Nat → Int32)} {d : Nat} {K : List KD} {r q t a B m : Nat} {w : EW}
section
variable {i : Nat → List EV → EW → XR} {b g : Nat → XL → XS → EW → XR}
set_option maxRecDepth 100000 in theorem qSJ0_length_8abf5_0 {u0 : Nat} : fz sc 10 1 false 1 i b g aJ0_length_8abf5_0 0 [some (.inr (.inr (.inr u0)))] [] w = xst (.inr (.inr (.inr u0))) fun z_1 => (xnn sc w (.inr (.inr (.inr (40 + z_1))))).bind fun n_2 => xst (.inr (.inr (.inr u0))) fun z_3 => xci (i 286 [.inr (.inr (.inr (3 + z_3)))] w) (fun q_5 w_4 => some (some (.inl ((nI n_2) >>> (q_5 &&& 31))), w_4)) := rfl
end
section
variable {i : Nat → List EV → EW → XR} {b g : Nat → XL → XS → EW → XR}
set_option maxRecDepth 100000 in theorem qSJ0_isEmpty_aae02_0 {u0 : Nat} : fz sc 10 4 false 1 i b g aJ0_isEmpty_aae02_0 0 [some (.inr (.inr (.inr u0)))] [] w = xst (.inr (.inr (.inr u0))) fun z_1 => (xnn sc w (.inr (.inr (.inr (40 + z_1))))).bind fun n_2 => if (nI n_2) = 0 then g 8 [some (.inr (.inr (.inr u0)))] [] w else g 12 [some (.inr (.inr (.inr u0)))] [] w := rfl
end
section
variable {i : Nat → List EV → EW → XR} {b g : Nat → XL → XS → EW → XR}
set_option maxRecDepth 100000 in theorem qSJ0_isEmpty_aae02_8 {u0 : Nat} : fz sc 10 4 false 1 i b g aJ0_isEmpty_aae02_8 8 [some (.inr (.inr (.inr u0)))] [] w = g 13 [some (.inr (.inr (.inr u0)))] [.inl 1] w := rfl
end
section
variable {i : Nat → List EV → EW → XR} {b g : Nat → XL → XS → EW → XR}
set_option maxRecDepth 100000 in theorem qSJ0_isEmpty_aae02_12 {u0 : Nat} : fz sc 10 4 false 1 i b g aJ0_isEmpty_aae02_12 12 [some (.inr (.inr (.inr u0)))] [] w = g 13 [some (.inr (.inr (.inr u0)))] [.inl 0] w := rfl
end
section
variable {i : Nat → List EV → EW → XR} {b g : Nat → XL → XS → EW → XR}
set_option maxRecDepth 100000 in theorem qSJ0_isEmpty_aae02_13 {u0 : Nat} {p0 : Int32} : fz sc 10 4 false 1 i b g aJ0_isEmpty_aae02_13 13 [some (.inr (.inr (.inr u0)))] [.inl p0] w = bif xrt 4 p0 then some (some (.inl p0), w) else none := rfl
end
section
variable {i : Nat → List EV → EW → XR} {b g : Nat → XL → XS → EW → XR}
set_option maxRecDepth 100000 in theorem qSJ0_charAt_5068e_0 {u0 : Nat} {x1 : Int32} : fz sc 10 5 false 2 i b g aJ0_charAt_5068e_0 0 [some (.inr (.inr (.inr u0))), some (.inl x1)] [] w = xst (.inr (.inr (.inr u0))) fun z_1 => xci (i 287 [.inr (.inr (.inr (3 + z_1)))] w) (fun q_3 w_2 => if q_3 = 0 then g 16 [some (.inr (.inr (.inr u0))), some (.inl x1)] [] w_2 else g 7 [some (.inr (.inr (.inr u0))), some (.inl x1)] [] w_2) := rfl
end
section
variable {i : Nat → List EV → EW → XR} {b g : Nat → XL → XS → EW → XR}
set_option maxRecDepth 100000 in theorem qSJ0_charAt_5068e_7 {u0 : Nat} {x1 : Int32} : fz sc 10 5 false 2 i b g aJ0_charAt_5068e_7 7 [some (.inr (.inr (.inr u0))), some (.inl x1)] [] w = xst (.inr (.inr (.inr u0))) fun z_1 => xci (i 289 [.inr (.inr (.inr (40 + z_1))), .inl x1] w) (fun q_3 w_2 => bif xrt 5 q_3 then some (some (.inl q_3), w_2) else none) := rfl
end
section
variable {i : Nat → List EV → EW → XR} {b g : Nat → XL → XS → EW → XR}
set_option maxRecDepth 100000 in theorem qSJ0_coder_7d493_0 {u0 : Nat} : fz sc 10 6 false 1 i b g aJ0_coder_7d493_0 0 [some (.inr (.inr (.inr u0)))] [] w = if 1 = 0 then g 13 [some (.inr (.inr (.inr u0)))] [] w else g 6 [some (.inr (.inr (.inr u0)))] [] w := rfl
end
section
variable {i : Nat → List EV → EW → XR} {b g : Nat → XL → XS → EW → XR}
set_option maxRecDepth 100000 in theorem qSJ0_coder_7d493_6 {u0 : Nat} : fz sc 10 6 false 1 i b g aJ0_coder_7d493_6 6 [some (.inr (.inr (.inr u0)))] [] w = xst (.inr (.inr (.inr u0))) fun z_1 => g 14 [some (.inr (.inr (.inr u0)))] [.inl 0] w := rfl
end
section
variable {i : Nat → List EV → EW → XR} {b g : Nat → XL → XS → EW → XR}
set_option maxRecDepth 100000 in theorem qSJ0_coder_7d493_13 {u0 : Nat} : fz sc 10 6 false 1 i b g aJ0_coder_7d493_13 13 [some (.inr (.inr (.inr u0)))] [] w = g 14 [some (.inr (.inr (.inr u0)))] [.inl 1] w := rfl
end
section
variable {i : Nat → List EV → EW → XR} {b g : Nat → XL → XS → EW → XR}
set_option maxRecDepth 100000 in theorem qSJ0_coder_7d493_14 {u0 : Nat} {p0 : Int32} : fz sc 10 6 false 1 i b g aJ0_coder_7d493_14 14 [some (.inr (.inr (.inr u0)))] [.inl p0] w = bif xrt 6 p0 then some (some (.inl p0), w) else none := rfl
end
section
variable {i : Nat → List EV → EW → XR} {b g : Nat → XL → XS → EW → XR}
set_option maxRecDepth 100000 in theorem qSJ0_isLatin1_aae02_0 {u0 : Nat} : fz sc 10 4 false 1 i b g aJ0_isLatin1_aae02_0 0 [some (.inr (.inr (.inr u0)))] [] w = if 1 = 0 then g 17 [some (.inr (.inr (.inr u0)))] [] w else g 6 [some (.inr (.inr (.inr u0)))] [] w := rfl
end
section
variable {i : Nat → List EV → EW → XR} {b g : Nat → XL → XS → EW → XR}
set_option maxRecDepth 100000 in theorem qSJ0_isLatin1_aae02_6 {u0 : Nat} : fz sc 10 4 false 1 i b g aJ0_isLatin1_aae02_6 6 [some (.inr (.inr (.inr u0)))] [] w = xst (.inr (.inr (.inr u0))) fun z_1 => if 0 = 0 then g 13 [some (.inr (.inr (.inr u0)))] [] w else g 17 [some (.inr (.inr (.inr u0)))] [] w := rfl
end
section
variable {i : Nat → List EV → EW → XR} {b g : Nat → XL → XS → EW → XR}
set_option maxRecDepth 100000 in theorem qSJ0_isLatin1_aae02_13 {u0 : Nat} : fz sc 10 4 false 1 i b g aJ0_isLatin1_aae02_13 13 [some (.inr (.inr (.inr u0)))] [] w = g 18 [some (.inr (.inr (.inr u0)))] [.inl 1] w := rfl
end
section
variable {i : Nat → List EV → EW → XR} {b g : Nat → XL → XS → EW → XR}
set_option maxRecDepth 100000 in theorem qSJ0_isLatin1_aae02_17 {u0 : Nat} : fz sc 10 4 false 1 i b g aJ0_isLatin1_aae02_17 17 [some (.inr (.inr (.inr u0)))] [] w = g 18 [some (.inr (.inr (.inr u0)))] [.inl 0] w := rfl
end
section
variable {i : Nat → List EV → EW → XR} {b g : Nat → XL → XS → EW → XR}
set_option maxRecDepth 100000 in theorem qSJ0_isLatin1_aae02_18 {u0 : Nat} {p0 : Int32} : fz sc 10 4 false 1 i b g aJ0_isLatin1_aae02_18 18 [some (.inr (.inr (.inr u0)))] [.inl p0] w = bif xrt 4 p0 then some (some (.inl p0), w) else none := rfl
end
set_option maxRecDepth 100000 in theorem mSJ0_length_8abf5 {u0 : Nat} : xN sc (d + 1) 283 [.inr (.inr (.inr u0))] w = fW sc 10 1 false 1 (xN sc d) (ex sc 10 1 false 1 (xN sc d) kJ0_length_8abf5_0 xF) kJ0_length_8abf5_0 0 [some (.inr (.inr (.inr u0)))] [] w := xN_step rfl rfl rfl rfl
set_option maxRecDepth 100000 in theorem mSJ0_isEmpty_aae02 {u0 : Nat} : xN sc (d + 1) 284 [.inr (.inr (.inr u0))] w = fW sc 10 4 false 1 (xN sc d) (ex sc 10 4 false 1 (xN sc d) kJ0_isEmpty_aae02_0 xF) kJ0_isEmpty_aae02_0 0 [some (.inr (.inr (.inr u0)))] [] w := xN_step rfl rfl rfl rfl
set_option maxRecDepth 100000 in theorem mSJ0_charAt_5068e {u0 : Nat} {x1 : Int32} : xN sc (d + 1) 285 [.inr (.inr (.inr u0)), .inl x1] w = fW sc 10 5 false 2 (xN sc d) (ex sc 10 5 false 2 (xN sc d) kJ0_charAt_5068e_0 xF) kJ0_charAt_5068e_0 0 [some (.inr (.inr (.inr u0))), some (.inl x1)] [] w := xN_step rfl rfl rfl rfl
set_option maxRecDepth 100000 in theorem mSJ0_coder_7d493 {u0 : Nat} : xN sc (d + 1) 286 [.inr (.inr (.inr u0))] w = fW sc 10 6 false 1 (xN sc d) (ex sc 10 6 false 1 (xN sc d) kJ0_coder_7d493_0 xF) kJ0_coder_7d493_0 0 [some (.inr (.inr (.inr u0)))] [] w := xN_step rfl rfl rfl rfl
set_option maxRecDepth 100000 in theorem mSJ0_isLatin1_aae02 {u0 : Nat} : xN sc (d + 1) 287 [.inr (.inr (.inr u0))] w = fW sc 10 4 false 1 (xN sc d) (ex sc 10 4 false 1 (xN sc d) kJ0_isLatin1_aae02_0 xF) kJ0_isLatin1_aae02_0 0 [some (.inr (.inr (.inr u0)))] [] w := xN_step rfl rfl rfl rfl
/-! the reader's words: strings -/
def sl (z : Nat) : Nat := wc_len.getD z 0
def chF (g : Int32) : Int32 := (Int32.toUInt32 (g &&& 255) % 65536).toInt32
def chZ (z i : Nat) : Int32 := chF ((wc_byt.getD z []).getD i 0)
theorem sl_le : ∀ z, z < 18 → sl z ≤ 60 := by decide
theorem chF_all : (wc_byt.all fun l => l.all fun g => xrt 5 (chF g)) = true := by decide +kernel
theorem chZ_rt {z i : Nat} : xrt 5 (chZ z i) = true := by
  have h0 : xrt 5 (chF 0) = true := by decide +kernel
  have h := chF_all
  rw [List.all_eq_true] at h
  unfold chZ
  rw [List.getD_eq_getElem?_getD, List.getD_eq_getElem?_getD]
  cases e : wc_byt[z]? with
  | none =>
    have e2 : ([] : List Int32)[i]? = none := rfl
    show xrt 5 (chF (([] : List Int32)[i]?.getD 0)) = true
    rw [e2]; exact h0
  | some l =>
    have h2 := h l (List.mem_of_getElem? e)
    rw [List.all_eq_true] at h2
    show xrt 5 (chF (l[i]?.getD 0)) = true
    cases e2 : l[i]? with
    | none => exact h0
    | some g => exact h2 g (List.mem_of_getElem? e2)
theorem xst_z {z : Nat} {f : Nat → XR} (hz : z < 18) : xst (.inr (.inr (.inr (3 + z)))) f = f z := by
  show (bif Nat.ble 3 (3 + z) && Nat.blt (3 + z) 21 then f (3 + z - 3) else none) = f z
  have h1 : Nat.ble 3 (3 + z) = true := Nat.ble_eq_true_of_le (by omega)
  have h2 : Nat.blt (3 + z) 21 = true := Nat.ble_eq_true_of_le (by omega)
  rw [h1, h2, Nat.add_sub_cancel_left]; rfl
theorem xnn_z {s : SG} {z : Nat} (hz : z < 18) : xnn sc (wl K s) (.inr (.inr (.inr (40 + z)))) = some (sl z) := by
  show (bif Nat.blt (40 + z) 3 then some (xkx sc (40 + z)).1 else bif Nat.ble 40 (40 + z) && Nat.blt (40 + z) 58 then some (wc_len.getD (40 + z - 40) 0) else none) = _
  have h0 : Nat.blt (40 + z) 3 = false := by
    cases e : Nat.blt (40 + z) 3 with
    | false => rfl
    | true => have := Nat.le_of_ble_eq_true e; omega
  have h1 : Nat.ble 40 (40 + z) = true := Nat.ble_eq_true_of_le (by omega)
  have h2 : Nat.blt (40 + z) 58 = true := Nat.ble_eq_true_of_le (by omega)
  rw [h0, h1, h2, Nat.add_sub_cancel_left]; rfl
theorem xdb_z {s : SG} {z i : Nat} (hz : z < 18) (hi : i < sl z) : xdb (wl K s) (nI i) (.inr (.inr (.inr (40 + z)))) = some ((wc_byt.getD z []).getD i 0) := by
  have h3 := sl_le z hz
  show (bif Nat.ble 40 (40 + z) && Nat.blt (40 + z) 58 && xvb (nI i) (wc_len.getD (40 + z - 40) 0) then some ((wc_byt.getD (40 + z - 40) []).getD (nI i).toNatClampNeg 0) else none) = _
  have h1 : Nat.ble 40 (40 + z) = true := Nat.ble_eq_true_of_le (by omega)
  have h2 : Nat.blt (40 + z) 58 = true := Nat.ble_eq_true_of_le (by omega)
  rw [h1, h2, Nat.add_sub_cancel_left, nI_clamp (by omega)]
  have h4 : xvb (nI i) (wc_len.getD z 0) = true := xvb_nI (n := sl z) hi (by omega)
  rw [h4]; rfl
theorem xr60 : xrt 6 0 = true := rfl
theorem n10 : ¬ (1 : Int32) = 0 := by decide
theorem c_coder {s : SG} {z : Nat} (hz : z < 18) : xN sc (d + 1) 286 [.inr (.inr (.inr (3 + z)))] (wl K s) = some (some (.inl 0), wl K s) := by
  rw [mSJ0_coder_7d493]
  simp only [uJ0_coder_7d493_0, uJ0_coder_7d493_6, uJ0_coder_7d493_13, uJ0_coder_7d493_14, qSJ0_coder_7d493_0, qSJ0_coder_7d493_6, qSJ0_coder_7d493_13, qSJ0_coder_7d493_14, jJ0_coder_7d493_6_13, jJ0_coder_7d493_13_14, if_neg n10, xst_z hz, xr60, cond_true]
  split
  · rename_i q1
    exact absurd q1 (by decide)
  · rfl
theorem c_isLatin1 {s : SG} {z : Nat} (hz : z < 18) : xN sc (d + 1) 287 [.inr (.inr (.inr (3 + z)))] (wl K s) = some (some (.inl 1), wl K s) := by
  rw [mSJ0_isLatin1_aae02]
  simp only [uJ0_isLatin1_aae02_0, uJ0_isLatin1_aae02_6, uJ0_isLatin1_aae02_13, uJ0_isLatin1_aae02_17, uJ0_isLatin1_aae02_18, qSJ0_isLatin1_aae02_0, qSJ0_isLatin1_aae02_6, qSJ0_isLatin1_aae02_13, qSJ0_isLatin1_aae02_17, qSJ0_isLatin1_aae02_18, jJ0_isLatin1_aae02_6_17, jJ0_isLatin1_aae02_13_17, jJ0_isLatin1_aae02_17_18, if_neg n10, xst_z hz, if_true, xr41, cond_true]
  split
  · rename_i q1
    exact absurd q1 (by decide)
  · rfl
theorem sh0 {x : Int32} : x >>> ((0 : Int32) &&& 31) = x := by
  have e : (0 : Int32) &&& 31 = 0 := by decide
  rw [e, Int32.shiftRight_zero]
theorem c_length {s : SG} {z : Nat} (hz : z < 18) : xN sc (d + 2) 283 [.inr (.inr (.inr (3 + z)))] (wl K s) = some (some (.inl (nI (sl z))), wl K s) := by
  rw [mSJ0_length_8abf5]
  simp only [uJ0_length_8abf5_0, qSJ0_length_8abf5_0, xst_z hz, xnn_z hz, bd_eq, c_coder hz, xci_eq, sh0]
def isEI (z : Nat) : Int32 := if nI (sl z) = 0 then 1 else 0
theorem c_isEmpty {s : SG} {z : Nat} (hz : z < 18) : xN sc (d + 1) 284 [.inr (.inr (.inr (3 + z)))] (wl K s) = some (some (.inl (isEI z)), wl K s) := by
  rw [mSJ0_isEmpty_aae02]
  simp only [uJ0_isEmpty_aae02_0, uJ0_isEmpty_aae02_8, uJ0_isEmpty_aae02_12, uJ0_isEmpty_aae02_13, qSJ0_isEmpty_aae02_0, qSJ0_isEmpty_aae02_8, qSJ0_isEmpty_aae02_12, qSJ0_isEmpty_aae02_13, jJ0_isEmpty_aae02_8_12, jJ0_isEmpty_aae02_12_13, xst_z hz, xnn_z hz, bd_eq, xr40, xr41, cond_true]
  unfold isEI
  split <;> rfl
theorem c_checkJ3 {s : SG} {x y : Int32} {c : Nat} (h1 : ¬ x < 0) (h2 : x < y) : xN sc (d + 1) 290 [.inl x, .inl y, .inr (.inr (.inr c))] (wl K s) = some (some (.inl x), wl K s) := by
  rw [mJ3_checkIndex_8e157]
  simp only [uJ3_checkIndex_8e157_0, uJ3_checkIndex_8e157_4, uJ3_checkIndex_8e157_9, uJ3_checkIndex_8e157_16, qJ3_checkIndex_8e157_0, qJ3_checkIndex_8e157_4, qJ3_checkIndex_8e157_16, jJ3_checkIndex_8e157_4_9, jJ3_checkIndex_8e157_9_16, if_neg h1, if_pos h2]
theorem c_checkJ0 {s : SG} {x y : Int32} (h1 : ¬ x < 0) (h2 : x < y) : xN sc (d + 2) 288 [.inl x, .inl y] (wl K s) = some (none, wl K s) := by
  rw [mJ0_checkIndex_df160]
  simp only [uJ0_checkIndex_df160_0, qJ0_checkIndex_df160_0, c_checkJ3 h1 h2, xci_eq]
theorem c_charAtJ1 {s : SG} {z i : Nat} (hz : z < 18) (hi : i < sl z) : xN sc (d + 3) 289 [.inr (.inr (.inr (40 + z))), .inl (nI i)] (wl K s) = some (some (.inl (chZ z i)), wl K s) := by
  have h3 := sl_le z hz
  rw [mJ1_charAt_3b067]
  simp only [uJ1_charAt_3b067_0, qJ1_charAt_3b067_0, xnn_z hz, bd_eq, c_checkJ0 (nI_pos (n := i) (by omega)) (nI_lt2 (a := i) (b := sl z) hi (by omega)), xcv_eq, xdb_z hz hi]
  have e : (Int32.toUInt32 ((wc_byt.getD z []).getD i 0 &&& 255) % 65536).toInt32 = chZ z i := rfl
  rw [e, chZ_rt]; rfl
theorem c_charAt {s : SG} {z i : Nat} (hz : z < 18) (hi : i < sl z) : xN sc (d + 4) 285 [.inr (.inr (.inr (3 + z))), .inl (nI i)] (wl K s) = some (some (.inl (chZ z i)), wl K s) := by
  rw [mSJ0_charAt_5068e]
  simp only [uJ0_charAt_5068e_0, uJ0_charAt_5068e_7, uJ0_charAt_5068e_16, qSJ0_charAt_5068e_0, qSJ0_charAt_5068e_7, jJ0_charAt_5068e_7_16, xst_z hz, c_isLatin1 hz, xci_eq, if_neg n10, c_charAtJ1 hz hi, chZ_rt, cond_true]
/-! words among words -/
def istL (s : SG) (z a : Nat) : Nat → Nat → Int32
  | 0, _ => 1
  | n + 1, j => if chZ z j = cl 600 (s 54) (s 43 8 + nI j - nI a) then istL s z a n (j + 1) else 0
theorem l_isToken {s : SG} {z a b : Nat} (h : SH K) (hz : z < 18) (hb : b ≤ sl z) {i : Nat → List EV → EW → XR} (hi : i = xN sc (d + 4)) : ∀ (n j k : Nat), j + n = b → n ≤ k → fW sc 1 4 false 5 i (ex sc 1 4 false 5 i kX1_isToken_0 k) kX1_isToken_20 20 [some (.inr (.inr (.inl (some 43)))), some (.inr (.inr (.inr (3 + z)))), some (.inl (nI a)), some (.inl (nI b)), some (.inl (nI j))] [] (wl K s) = some (some (.inl (istL s z a n j)), wl K s) := by
  subst hi
  have h3 := sl_le z hz
  intro n
  induction n with
  | zero =>
    intro j k hj hk
    simp only [uX1_isToken_20, qX1_isToken_20, jX1_isToken_15_17, jX1_isToken_26_68, jX1_isToken_35_68, jX1_isToken_60_62, jX1_isToken_0_20, if_pos (k_ge hj)]
    simp only [uX1_isToken_68, qX1_isToken_68, jX1_isToken_15_17, jX1_isToken_26_68, jX1_isToken_35_68, jX1_isToken_60_62, jX1_isToken_0_20]
    rfl
  | succ n ih =>
    intro j k hj hk
    obtain ⟨k, rfl⟩ : ∃ k', k = k' + 1 := ⟨k - 1, by omega⟩
    have e := ih (j + 1) k (by omega) (by omega)
    simp only [nI_succ] at e
    simp only [uX1_isToken_20, qX1_isToken_20, jX1_isToken_15_17, jX1_isToken_26_68, jX1_isToken_35_68, jX1_isToken_60_62, jX1_isToken_0_20, if_neg (k_lt hj (show b < 2 ^ 31 by omega))]
    simp only [uX1_isToken_26, uX1_isToken_35, uX1_isToken_60, uX1_isToken_62, qX1_isToken_26, qX1_isToken_35, qX1_isToken_60, qX1_isToken_62, jX1_isToken_15_17, jX1_isToken_26_68, jX1_isToken_35_68, jX1_isToken_60_62, jX1_isToken_0_20, xst_z hz, c_length hz, xci_eq, if_neg (nI_ge (a := j) (b := sl z) (by omega) (by omega)), c_charAt hz (show j < sl z by omega), c43_g4 h, c43_g8 h, bd_eq, lc54 h, eX_eq]
    rw [istL]
    repeat' split
    all_goals first | exact e | rfl | contradiction
def istI (s : SG) (z a b : Nat) : Int32 := if nI b - nI a = s 43 9 - s 43 8 then istL s z a (b - a) a else 0
theorem c_isToken {s : SG} {z a b : Nat} (h : SH K) (hz : z < 18) (hb : b ≤ sl z) (hab : a ≤ b) : xN sc (d + 5) 34 [.inr (.inr (.inl (some 43))), .inr (.inr (.inr (3 + z))), .inl (nI a), .inl (nI b)] (wl K s) = some (some (.inl (istI s z a b)), wl K s) := by
  have h3 := sl_le z hz
  rw [mX1_isToken]
  have L := l_isToken (sc := sc) (d := d) (s := s) (a := a) h hz hb rfl (b - a) a xF (by omega) (by have := xF_ge; omega)
  simp only [uX1_isToken_0, uX1_isToken_15, uX1_isToken_17, qX1_isToken_0, qX1_isToken_15, qX1_isToken_17, jX1_isToken_15_17, jX1_isToken_26_68, jX1_isToken_35_68, jX1_isToken_60_62, jX1_isToken_0_20, c43_g9 h, c43_g8 h, bd_eq, L]
  unfold istI
  split <;> rfl
def choL (s : SG) (z : Nat) : Nat → Nat → Nat → Int32 → Int32
  | 0, _, _, _ => -1
  | n + 1, j, a, y => if s 43 7 = 1 then (if j = sl z then (if istI s z a j = 0 then choL s z n (j + 1) (j + 1) (y + 1) else y) else if chZ z j = 32 then (if istI s z a j = 0 then choL s z n (j + 1) (j + 1) (y + 1) else y) else choL s z n (j + 1) a y) else -1
theorem l_chosen {s : SG} {z : Nat} (h : SH K) (hz : z < 18) {i : Nat → List EV → EW → XR} (hi : i = xN sc (d + 5)) : ∀ (n j k a : Nat) (y : Int32), j + n = sl z + 1 → a ≤ j → n ≤ k → fW sc 1 1 false 5 i (ex sc 1 1 false 5 i kX1_chosen_0 k) kX1_chosen_7 7 [some (.inr (.inr (.inl (some 43)))), some (.inr (.inr (.inr (3 + z)))), some (.inl y), some (.inl (nI a)), some (.inl (nI j))] [] (wl K s) = some (some (.inl (choL s z n j a y)), wl K s) := by
  subst hi
  have h3 := sl_le z hz
  intro n
  induction n with
  | zero =>
    intro j k a y hj ha hk
    simp only [uX1_chosen_7, qX1_chosen_7, jX1_chosen_16_71, jX1_chosen_24_71, jX1_chosen_33_44, jX1_chosen_44_65, jX1_chosen_55_57, jX1_chosen_0_7, xst_z hz, c_length hz, xci_eq, if_pos (nI_lt2 (a := sl z) (b := j) (by omega) (by omega))]
    simp only [uX1_chosen_71, qX1_chosen_71, jX1_chosen_16_71, jX1_chosen_24_71, jX1_chosen_33_44, jX1_chosen_44_65, jX1_chosen_55_57, jX1_chosen_0_7]
    rfl
  | succ n ih =>
    intro j k a y hj ha hk
    obtain ⟨k, rfl⟩ : ∃ k', k = k' + 1 := ⟨k - 1, by omega⟩
    have e1 := ih (j + 1) k a y (by omega) (by omega) (by omega)
    have e2 := ih (j + 1) k (j + 1) (y + 1) (by omega) (by omega) (by omega)
    simp only [nI_succ] at e1 e2
    have hx : ¬ nI (sl z) < nI j := by
      rw [Int32.not_lt, Int32.le_iff_toInt_le, nI_toInt (by omega), nI_toInt (by omega)]; omega
    simp only [uX1_chosen_7, qX1_chosen_7, jX1_chosen_16_71, jX1_chosen_24_71, jX1_chosen_33_44, jX1_chosen_44_65, jX1_chosen_55_57, jX1_chosen_0_7, xst_z hz, c_length hz, xci_eq, if_neg hx]
    rw [choL]
    by_cases e : j = sl z
    · rw [if_pos e]
      simp only [uX1_chosen_16, uX1_chosen_24, qX1_chosen_16, qX1_chosen_24, jX1_chosen_16_71, jX1_chosen_24_71, jX1_chosen_33_44, jX1_chosen_44_65, jX1_chosen_55_57, jX1_chosen_0_7, xst_z hz, c_length hz, xci_eq, c43_g7 h, bd_eq, if_pos (congrArg nI e)]
      simp only [uX1_chosen_44, uX1_chosen_55, uX1_chosen_57, uX1_chosen_65, uX1_chosen_71, qX1_chosen_44, qX1_chosen_55, qX1_chosen_57, qX1_chosen_65, qX1_chosen_71, jX1_chosen_16_71, jX1_chosen_24_71, jX1_chosen_33_44, jX1_chosen_44_65, jX1_chosen_55_57, jX1_chosen_0_7, c43_v h, cond_true, c_isToken h hz (show j ≤ sl z by omega) ha, xci_eq, eX_eq]
      repeat' split
      all_goals first | exact e2 | rfl | contradiction
    · rw [if_neg e]
      have hne : ¬ nI j = nI (sl z) := by
        intro q
        have q2 := congrArg Int32.toInt q
        rw [nI_toInt (by omega), nI_toInt (by omega)] at q2
        omega
      simp only [uX1_chosen_16, uX1_chosen_24, qX1_chosen_16, qX1_chosen_24, jX1_chosen_16_71, jX1_chosen_24_71, jX1_chosen_33_44, jX1_chosen_44_65, jX1_chosen_55_57, jX1_chosen_0_7, xst_z hz, c_length hz, xci_eq, c43_g7 h, bd_eq, if_neg hne]
      simp only [uX1_chosen_33, uX1_chosen_44, uX1_chosen_55, uX1_chosen_57, uX1_chosen_65, uX1_chosen_71, qX1_chosen_33, qX1_chosen_44, qX1_chosen_55, qX1_chosen_57, qX1_chosen_65, qX1_chosen_71, jX1_chosen_16_71, jX1_chosen_24_71, jX1_chosen_33_44, jX1_chosen_44_65, jX1_chosen_55_57, jX1_chosen_0_7, xst_z hz, c_charAt hz (show j < sl z by omega), c43_v h, cond_true, c_isToken h hz (show j ≤ sl z by omega) ha, xci_eq, eX_eq]
      repeat' split
      all_goals first | exact e1 | exact e2 | rfl | contradiction
def choI (s : SG) (z : Nat) : Int32 := choL s z (sl z + 1) 0 0 0
theorem c_chosen {s : SG} {z : Nat} (h : SH K) (hz : z < 18) : xN sc (d + 6) 33 [.inr (.inr (.inl (some 43))), .inr (.inr (.inr (3 + z)))] (wl K s) = some (some (.inl (choI s z)), wl K s) := by
  have h3 := sl_le z hz
  rw [mX1_chosen]
  have L : fW sc 1 1 false 5 (xN sc (d + 5)) (ex sc 1 1 false 5 (xN sc (d + 5)) kX1_chosen_0 xF) kX1_chosen_7 7 [some (.inr (.inr (.inl (some 43)))), some (.inr (.inr (.inr (3 + z)))), some (.inl 0), some (.inl 0), some (.inl 0)] [] (wl K s) = some (some (.inl (choI s z)), wl K s) := l_chosen (sc := sc) (d := d) (s := s) h hz rfl (sl z + 1) 0 xF 0 0 (by omega) (by omega) (by have := xF_ge; omega)
  simp only [uX1_chosen_0, qX1_chosen_0, jX1_chosen_16_71, jX1_chosen_24_71, jX1_chosen_33_44, jX1_chosen_44_65, jX1_chosen_55_57, jX1_chosen_0_7, L]
def staL (z : Nat) (x : Int32) : Nat → Nat → Int32 → Nat
  | 0, j, _ => j
  | n + 1, j, y => if y = x then j else if chZ z j = 32 then staL z x n (j + 1) (y + 1) else staL z x n (j + 1) y
theorem l_startOf {s : SG} {z : Nat} {x : Int32} (hz : z < 18) {i : Nat → List EV → EW → XR} (hi : i = xN sc (d + 4)) : ∀ (n j k : Nat) (y : Int32), j + n = sl z → n ≤ k → fW sc 1 1 false 4 i (ex sc 1 1 false 4 i kX1_startOf_0 k) kX1_startOf_4 4 [some (.inr (.inr (.inr (3 + z)))), some (.inl x), some (.inl y), some (.inl (nI j))] [] (wl K s) = some (some (.inl (nI (staL z x n j y))), wl K s) := by
  subst hi
  have h3 := sl_le z hz
  intro n
  induction n with
  | zero =>
    intro j k y hj hk
    simp only [uX1_startOf_4, qX1_startOf_4, jX1_startOf_12_38, jX1_startOf_17_19, jX1_startOf_29_32, jX1_startOf_0_4, xst_z hz, c_length hz, xci_eq, if_pos (k_ge hj)]
    simp only [uX1_startOf_38, qX1_startOf_38, jX1_startOf_12_38, jX1_startOf_17_19, jX1_startOf_29_32, jX1_startOf_0_4, xst_z hz, c_length hz, xci_eq]
    rw [staL, ← hj]; rfl
  | succ n ih =>
    intro j k y hj hk
    obtain ⟨k, rfl⟩ : ∃ k', k = k' + 1 := ⟨k - 1, by omega⟩
    have e := fun y => ih (j + 1) k y (by omega) (by omega)
    simp only [nI_succ] at e
    simp only [uX1_startOf_4, qX1_startOf_4, jX1_startOf_12_38, jX1_startOf_17_19, jX1_startOf_29_32, jX1_startOf_0_4, xst_z hz, c_length hz, xci_eq, if_neg (k_lt hj (show sl z < 2 ^ 31 by omega))]
    simp only [uX1_startOf_12, uX1_startOf_17, uX1_startOf_19, uX1_startOf_29, uX1_startOf_32, qX1_startOf_12, qX1_startOf_17, qX1_startOf_19, qX1_startOf_29, qX1_startOf_32, jX1_startOf_12_38, jX1_startOf_17_19, jX1_startOf_29_32, jX1_startOf_0_4, xst_z hz, c_charAt hz (show j < sl z by omega), xci_eq, eX_eq]
    rw [staL]
    repeat' split
    all_goals first | exact e _ | rfl | contradiction
def staN (z : Nat) (x : Int32) : Nat := staL z x (sl z) 0 0
theorem c_startOf {s : SG} {z : Nat} {x : Int32} (hz : z < 18) : xN sc (d + 5) 35 [.inr (.inr (.inr (3 + z))), .inl x] (wl K s) = some (some (.inl (nI (staN z x))), wl K s) := by
  have h3 := sl_le z hz
  rw [mX1_startOf]
  have L : fW sc 1 1 false 4 (xN sc (d + 4)) (ex sc 1 1 false 4 (xN sc (d + 4)) kX1_startOf_0 xF) kX1_startOf_4 4 [some (.inr (.inr (.inr (3 + z)))), some (.inl x), some (.inl 0), some (.inl 0)] [] (wl K s) = some (some (.inl (nI (staN z x))), wl K s) := l_startOf (sc := sc) (d := d) (s := s) hz rfl (sl z) 0 xF 0 (by omega) (by have := xF_ge; omega)
  simp only [uX1_startOf_0, qX1_startOf_0, jX1_startOf_12_38, jX1_startOf_17_19, jX1_startOf_29_32, jX1_startOf_0_4, L]
theorem staL_le {z : Nat} {x : Int32} : ∀ (n j : Nat) (y : Int32), j ≤ staL z x n j y ∧ staL z x n j y ≤ j + n := by
  intro n
  induction n with
  | zero => intro j y; rw [staL]; omega
  | succ n ih =>
    intro j y
    rw [staL]
    repeat' split
    · omega
    · have := ih (j + 1) (y + 1); omega
    · have := ih (j + 1) y; omega
theorem staN_le {z : Nat} {x : Int32} : staN z x ≤ sl z := by
  have := staL_le (z := z) (x := x) (sl z) 0 0
  unfold staN; omega
def worZ (x : Int32) : Nat := if x = 0 then 0 else if x = 1 then 1 else if x = 2 then 2 else if x = 3 then 3 else if x = 4 then 4 else if x = 5 then 5 else 6
theorem worZ_lt {x : Int32} : worZ x < 18 := by
  unfold worZ
  repeat' split
  all_goals decide
theorem c_wordsOf {s : SG} {x : Int32} : xN sc (d + 1) 20 [.inl x] (wl K s) = some (some (.inr (.inr (.inr (3 + worZ x)))), wl K s) := by
  rw [mX1_wordsOf]
  unfold worZ
  by_cases h0 : x = 0
  · subst h0
    rw [if_pos rfl]
    simp only [uX1_wordsOf_0, qX1_wordsOf_0, jX1_wordsOf_40_43, jX1_wordsOf_40_46, jX1_wordsOf_40_49, jX1_wordsOf_40_52, jX1_wordsOf_40_55, jX1_wordsOf_40_58, uX1_wordsOf_1, qX1_wordsOf_1_c0, uX1_wordsOf_40, uX1_wordsOf_43, uX1_wordsOf_46, uX1_wordsOf_49, uX1_wordsOf_52, uX1_wordsOf_55, uX1_wordsOf_58, qX1_wordsOf_40, qX1_wordsOf_43, qX1_wordsOf_46, qX1_wordsOf_49, qX1_wordsOf_52, qX1_wordsOf_55, qX1_wordsOf_58, jX1_wordsOf_40_43, jX1_wordsOf_40_46, jX1_wordsOf_40_49, jX1_wordsOf_40_52, jX1_wordsOf_40_55, jX1_wordsOf_40_58]
  rw [if_neg h0]
  by_cases h1 : x = 1
  · subst h1
    rw [if_pos rfl]
    simp only [uX1_wordsOf_0, qX1_wordsOf_0, jX1_wordsOf_40_43, jX1_wordsOf_40_46, jX1_wordsOf_40_49, jX1_wordsOf_40_52, jX1_wordsOf_40_55, jX1_wordsOf_40_58, uX1_wordsOf_1, qX1_wordsOf_1_c1, uX1_wordsOf_40, uX1_wordsOf_43, uX1_wordsOf_46, uX1_wordsOf_49, uX1_wordsOf_52, uX1_wordsOf_55, uX1_wordsOf_58, qX1_wordsOf_40, qX1_wordsOf_43, qX1_wordsOf_46, qX1_wordsOf_49, qX1_wordsOf_52, qX1_wordsOf_55, qX1_wordsOf_58, jX1_wordsOf_40_43, jX1_wordsOf_40_46, jX1_wordsOf_40_49, jX1_wordsOf_40_52, jX1_wordsOf_40_55, jX1_wordsOf_40_58]
  rw [if_neg h1]
  by_cases h2 : x = 2
  · subst h2
    rw [if_pos rfl]
    simp only [uX1_wordsOf_0, qX1_wordsOf_0, jX1_wordsOf_40_43, jX1_wordsOf_40_46, jX1_wordsOf_40_49, jX1_wordsOf_40_52, jX1_wordsOf_40_55, jX1_wordsOf_40_58, uX1_wordsOf_1, qX1_wordsOf_1_c2, uX1_wordsOf_40, uX1_wordsOf_43, uX1_wordsOf_46, uX1_wordsOf_49, uX1_wordsOf_52, uX1_wordsOf_55, uX1_wordsOf_58, qX1_wordsOf_40, qX1_wordsOf_43, qX1_wordsOf_46, qX1_wordsOf_49, qX1_wordsOf_52, qX1_wordsOf_55, qX1_wordsOf_58, jX1_wordsOf_40_43, jX1_wordsOf_40_46, jX1_wordsOf_40_49, jX1_wordsOf_40_52, jX1_wordsOf_40_55, jX1_wordsOf_40_58]
  rw [if_neg h2]
  by_cases h3 : x = 3
  · subst h3
    rw [if_pos rfl]
    simp only [uX1_wordsOf_0, qX1_wordsOf_0, jX1_wordsOf_40_43, jX1_wordsOf_40_46, jX1_wordsOf_40_49, jX1_wordsOf_40_52, jX1_wordsOf_40_55, jX1_wordsOf_40_58, uX1_wordsOf_1, qX1_wordsOf_1_c3, uX1_wordsOf_40, uX1_wordsOf_43, uX1_wordsOf_46, uX1_wordsOf_49, uX1_wordsOf_52, uX1_wordsOf_55, uX1_wordsOf_58, qX1_wordsOf_40, qX1_wordsOf_43, qX1_wordsOf_46, qX1_wordsOf_49, qX1_wordsOf_52, qX1_wordsOf_55, qX1_wordsOf_58, jX1_wordsOf_40_43, jX1_wordsOf_40_46, jX1_wordsOf_40_49, jX1_wordsOf_40_52, jX1_wordsOf_40_55, jX1_wordsOf_40_58]
  rw [if_neg h3]
  by_cases h4 : x = 4
  · subst h4
    rw [if_pos rfl]
    simp only [uX1_wordsOf_0, qX1_wordsOf_0, jX1_wordsOf_40_43, jX1_wordsOf_40_46, jX1_wordsOf_40_49, jX1_wordsOf_40_52, jX1_wordsOf_40_55, jX1_wordsOf_40_58, uX1_wordsOf_1, qX1_wordsOf_1_c4, uX1_wordsOf_40, uX1_wordsOf_43, uX1_wordsOf_46, uX1_wordsOf_49, uX1_wordsOf_52, uX1_wordsOf_55, uX1_wordsOf_58, qX1_wordsOf_40, qX1_wordsOf_43, qX1_wordsOf_46, qX1_wordsOf_49, qX1_wordsOf_52, qX1_wordsOf_55, qX1_wordsOf_58, jX1_wordsOf_40_43, jX1_wordsOf_40_46, jX1_wordsOf_40_49, jX1_wordsOf_40_52, jX1_wordsOf_40_55, jX1_wordsOf_40_58]
  rw [if_neg h4]
  by_cases h5 : x = 5
  · subst h5
    rw [if_pos rfl]
    simp only [uX1_wordsOf_0, qX1_wordsOf_0, jX1_wordsOf_40_43, jX1_wordsOf_40_46, jX1_wordsOf_40_49, jX1_wordsOf_40_52, jX1_wordsOf_40_55, jX1_wordsOf_40_58, uX1_wordsOf_1, qX1_wordsOf_1_c5, uX1_wordsOf_40, uX1_wordsOf_43, uX1_wordsOf_46, uX1_wordsOf_49, uX1_wordsOf_52, uX1_wordsOf_55, uX1_wordsOf_58, qX1_wordsOf_40, qX1_wordsOf_43, qX1_wordsOf_46, qX1_wordsOf_49, qX1_wordsOf_52, qX1_wordsOf_55, qX1_wordsOf_58, jX1_wordsOf_40_43, jX1_wordsOf_40_46, jX1_wordsOf_40_49, jX1_wordsOf_40_52, jX1_wordsOf_40_55, jX1_wordsOf_40_58]
  rw [if_neg h5]
  have hd : Int32.toInt x < 0 ∨ 5 < Int32.toInt x := by
    have g0 : Int32.toInt x ≠ 0 := fun e => h0 (Int32.toInt_inj.mp (e.trans (by decide)))
    have g1 : Int32.toInt x ≠ 1 := fun e => h1 (Int32.toInt_inj.mp (e.trans (by decide)))
    have g2 : Int32.toInt x ≠ 2 := fun e => h2 (Int32.toInt_inj.mp (e.trans (by decide)))
    have g3 : Int32.toInt x ≠ 3 := fun e => h3 (Int32.toInt_inj.mp (e.trans (by decide)))
    have g4 : Int32.toInt x ≠ 4 := fun e => h4 (Int32.toInt_inj.mp (e.trans (by decide)))
    have g5 : Int32.toInt x ≠ 5 := fun e => h5 (Int32.toInt_inj.mp (e.trans (by decide)))
    omega
  simp only [uX1_wordsOf_0, qX1_wordsOf_0, jX1_wordsOf_40_43, jX1_wordsOf_40_46, jX1_wordsOf_40_49, jX1_wordsOf_40_52, jX1_wordsOf_40_55, jX1_wordsOf_40_58, uX1_wordsOf_1, qX1_wordsOf_1_d hd, uX1_wordsOf_40, uX1_wordsOf_43, uX1_wordsOf_46, uX1_wordsOf_49, uX1_wordsOf_52, uX1_wordsOf_55, uX1_wordsOf_58, qX1_wordsOf_40, qX1_wordsOf_43, qX1_wordsOf_46, qX1_wordsOf_49, qX1_wordsOf_52, qX1_wordsOf_55, qX1_wordsOf_58, jX1_wordsOf_40_43, jX1_wordsOf_40_46, jX1_wordsOf_40_49, jX1_wordsOf_40_52, jX1_wordsOf_40_55, jX1_wordsOf_40_58]
def fomZ (x : Int32) : Nat := if x = 0 then 7 else if x = 1 then 8 else if x = 2 then 9 else if x = 3 then 10 else if x = 4 then 11 else if x = 5 then 12 else 6
theorem fomZ_lt {x : Int32} : fomZ x < 18 := by
  unfold fomZ
  repeat' split
  all_goals decide
theorem c_formsOf {s : SG} {x : Int32} : xN sc (d + 1) 21 [.inl x] (wl K s) = some (some (.inr (.inr (.inr (3 + fomZ x)))), wl K s) := by
  rw [mX1_formsOf]
  unfold fomZ
  by_cases h0 : x = 0
  · subst h0
    rw [if_pos rfl]
    simp only [uX1_formsOf_0, qX1_formsOf_0, jX1_formsOf_40_43, jX1_formsOf_40_46, jX1_formsOf_40_49, jX1_formsOf_40_52, jX1_formsOf_40_55, jX1_formsOf_40_58, uX1_formsOf_1, qX1_formsOf_1_c0, uX1_formsOf_40, uX1_formsOf_43, uX1_formsOf_46, uX1_formsOf_49, uX1_formsOf_52, uX1_formsOf_55, uX1_formsOf_58, qX1_formsOf_40, qX1_formsOf_43, qX1_formsOf_46, qX1_formsOf_49, qX1_formsOf_52, qX1_formsOf_55, qX1_formsOf_58, jX1_formsOf_40_43, jX1_formsOf_40_46, jX1_formsOf_40_49, jX1_formsOf_40_52, jX1_formsOf_40_55, jX1_formsOf_40_58]
  rw [if_neg h0]
  by_cases h1 : x = 1
  · subst h1
    rw [if_pos rfl]
    simp only [uX1_formsOf_0, qX1_formsOf_0, jX1_formsOf_40_43, jX1_formsOf_40_46, jX1_formsOf_40_49, jX1_formsOf_40_52, jX1_formsOf_40_55, jX1_formsOf_40_58, uX1_formsOf_1, qX1_formsOf_1_c1, uX1_formsOf_40, uX1_formsOf_43, uX1_formsOf_46, uX1_formsOf_49, uX1_formsOf_52, uX1_formsOf_55, uX1_formsOf_58, qX1_formsOf_40, qX1_formsOf_43, qX1_formsOf_46, qX1_formsOf_49, qX1_formsOf_52, qX1_formsOf_55, qX1_formsOf_58, jX1_formsOf_40_43, jX1_formsOf_40_46, jX1_formsOf_40_49, jX1_formsOf_40_52, jX1_formsOf_40_55, jX1_formsOf_40_58]
  rw [if_neg h1]
  by_cases h2 : x = 2
  · subst h2
    rw [if_pos rfl]
    simp only [uX1_formsOf_0, qX1_formsOf_0, jX1_formsOf_40_43, jX1_formsOf_40_46, jX1_formsOf_40_49, jX1_formsOf_40_52, jX1_formsOf_40_55, jX1_formsOf_40_58, uX1_formsOf_1, qX1_formsOf_1_c2, uX1_formsOf_40, uX1_formsOf_43, uX1_formsOf_46, uX1_formsOf_49, uX1_formsOf_52, uX1_formsOf_55, uX1_formsOf_58, qX1_formsOf_40, qX1_formsOf_43, qX1_formsOf_46, qX1_formsOf_49, qX1_formsOf_52, qX1_formsOf_55, qX1_formsOf_58, jX1_formsOf_40_43, jX1_formsOf_40_46, jX1_formsOf_40_49, jX1_formsOf_40_52, jX1_formsOf_40_55, jX1_formsOf_40_58]
  rw [if_neg h2]
  by_cases h3 : x = 3
  · subst h3
    rw [if_pos rfl]
    simp only [uX1_formsOf_0, qX1_formsOf_0, jX1_formsOf_40_43, jX1_formsOf_40_46, jX1_formsOf_40_49, jX1_formsOf_40_52, jX1_formsOf_40_55, jX1_formsOf_40_58, uX1_formsOf_1, qX1_formsOf_1_c3, uX1_formsOf_40, uX1_formsOf_43, uX1_formsOf_46, uX1_formsOf_49, uX1_formsOf_52, uX1_formsOf_55, uX1_formsOf_58, qX1_formsOf_40, qX1_formsOf_43, qX1_formsOf_46, qX1_formsOf_49, qX1_formsOf_52, qX1_formsOf_55, qX1_formsOf_58, jX1_formsOf_40_43, jX1_formsOf_40_46, jX1_formsOf_40_49, jX1_formsOf_40_52, jX1_formsOf_40_55, jX1_formsOf_40_58]
  rw [if_neg h3]
  by_cases h4 : x = 4
  · subst h4
    rw [if_pos rfl]
    simp only [uX1_formsOf_0, qX1_formsOf_0, jX1_formsOf_40_43, jX1_formsOf_40_46, jX1_formsOf_40_49, jX1_formsOf_40_52, jX1_formsOf_40_55, jX1_formsOf_40_58, uX1_formsOf_1, qX1_formsOf_1_c4, uX1_formsOf_40, uX1_formsOf_43, uX1_formsOf_46, uX1_formsOf_49, uX1_formsOf_52, uX1_formsOf_55, uX1_formsOf_58, qX1_formsOf_40, qX1_formsOf_43, qX1_formsOf_46, qX1_formsOf_49, qX1_formsOf_52, qX1_formsOf_55, qX1_formsOf_58, jX1_formsOf_40_43, jX1_formsOf_40_46, jX1_formsOf_40_49, jX1_formsOf_40_52, jX1_formsOf_40_55, jX1_formsOf_40_58]
  rw [if_neg h4]
  by_cases h5 : x = 5
  · subst h5
    rw [if_pos rfl]
    simp only [uX1_formsOf_0, qX1_formsOf_0, jX1_formsOf_40_43, jX1_formsOf_40_46, jX1_formsOf_40_49, jX1_formsOf_40_52, jX1_formsOf_40_55, jX1_formsOf_40_58, uX1_formsOf_1, qX1_formsOf_1_c5, uX1_formsOf_40, uX1_formsOf_43, uX1_formsOf_46, uX1_formsOf_49, uX1_formsOf_52, uX1_formsOf_55, uX1_formsOf_58, qX1_formsOf_40, qX1_formsOf_43, qX1_formsOf_46, qX1_formsOf_49, qX1_formsOf_52, qX1_formsOf_55, qX1_formsOf_58, jX1_formsOf_40_43, jX1_formsOf_40_46, jX1_formsOf_40_49, jX1_formsOf_40_52, jX1_formsOf_40_55, jX1_formsOf_40_58]
  rw [if_neg h5]
  have hd : Int32.toInt x < 0 ∨ 5 < Int32.toInt x := by
    have g0 : Int32.toInt x ≠ 0 := fun e => h0 (Int32.toInt_inj.mp (e.trans (by decide)))
    have g1 : Int32.toInt x ≠ 1 := fun e => h1 (Int32.toInt_inj.mp (e.trans (by decide)))
    have g2 : Int32.toInt x ≠ 2 := fun e => h2 (Int32.toInt_inj.mp (e.trans (by decide)))
    have g3 : Int32.toInt x ≠ 3 := fun e => h3 (Int32.toInt_inj.mp (e.trans (by decide)))
    have g4 : Int32.toInt x ≠ 4 := fun e => h4 (Int32.toInt_inj.mp (e.trans (by decide)))
    have g5 : Int32.toInt x ≠ 5 := fun e => h5 (Int32.toInt_inj.mp (e.trans (by decide)))
    omega
  simp only [uX1_formsOf_0, qX1_formsOf_0, jX1_formsOf_40_43, jX1_formsOf_40_46, jX1_formsOf_40_49, jX1_formsOf_40_52, jX1_formsOf_40_55, jX1_formsOf_40_58, uX1_formsOf_1, qX1_formsOf_1_d hd, uX1_formsOf_40, uX1_formsOf_43, uX1_formsOf_46, uX1_formsOf_49, uX1_formsOf_52, uX1_formsOf_55, uX1_formsOf_58, qX1_formsOf_40, qX1_formsOf_43, qX1_formsOf_46, qX1_formsOf_49, qX1_formsOf_52, qX1_formsOf_55, qX1_formsOf_58, jX1_formsOf_40_43, jX1_formsOf_40_46, jX1_formsOf_40_49, jX1_formsOf_40_52, jX1_formsOf_40_55, jX1_formsOf_40_58]
def choZ (x : Int32) : Nat := if x = 98 then 16 else if x = 105 then 15 else if x = 107 then 14 else if x = 115 then 15 else if x = 121 then 17 else 6
theorem choZ_lt {x : Int32} : choZ x < 18 := by
  unfold choZ
  repeat' split
  all_goals decide
theorem c_choicesOf {s : SG} {x : Int32} : xN sc (d + 1) 25 [.inl x] (wl K s) = some (some (.inr (.inr (.inr (3 + choZ x)))), wl K s) := by
  rw [mX1_choicesOf]
  unfold choZ
  by_cases h0 : x = 98
  · subst h0
    rw [if_pos rfl]
    simp only [uX1_choicesOf_0, qX1_choicesOf_0, jX1_choicesOf_52_55, jX1_choicesOf_52_58, jX1_choicesOf_52_61, jX1_choicesOf_52_64, uX1_choicesOf_1, qX1_choicesOf_1_c98, uX1_choicesOf_52, uX1_choicesOf_55, uX1_choicesOf_58, uX1_choicesOf_61, uX1_choicesOf_64, qX1_choicesOf_52, qX1_choicesOf_55, qX1_choicesOf_58, qX1_choicesOf_61, qX1_choicesOf_64, jX1_choicesOf_52_55, jX1_choicesOf_52_58, jX1_choicesOf_52_61, jX1_choicesOf_52_64]
  rw [if_neg h0]
  by_cases h1 : x = 105
  · subst h1
    rw [if_pos rfl]
    simp only [uX1_choicesOf_0, qX1_choicesOf_0, jX1_choicesOf_52_55, jX1_choicesOf_52_58, jX1_choicesOf_52_61, jX1_choicesOf_52_64, uX1_choicesOf_1, qX1_choicesOf_1_c105, uX1_choicesOf_52, uX1_choicesOf_55, uX1_choicesOf_58, uX1_choicesOf_61, uX1_choicesOf_64, qX1_choicesOf_52, qX1_choicesOf_55, qX1_choicesOf_58, qX1_choicesOf_61, qX1_choicesOf_64, jX1_choicesOf_52_55, jX1_choicesOf_52_58, jX1_choicesOf_52_61, jX1_choicesOf_52_64]
  rw [if_neg h1]
  by_cases h2 : x = 107
  · subst h2
    rw [if_pos rfl]
    simp only [uX1_choicesOf_0, qX1_choicesOf_0, jX1_choicesOf_52_55, jX1_choicesOf_52_58, jX1_choicesOf_52_61, jX1_choicesOf_52_64, uX1_choicesOf_1, qX1_choicesOf_1_c107, uX1_choicesOf_52, uX1_choicesOf_55, uX1_choicesOf_58, uX1_choicesOf_61, uX1_choicesOf_64, qX1_choicesOf_52, qX1_choicesOf_55, qX1_choicesOf_58, qX1_choicesOf_61, qX1_choicesOf_64, jX1_choicesOf_52_55, jX1_choicesOf_52_58, jX1_choicesOf_52_61, jX1_choicesOf_52_64]
  rw [if_neg h2]
  by_cases h3 : x = 115
  · subst h3
    rw [if_pos rfl]
    simp only [uX1_choicesOf_0, qX1_choicesOf_0, jX1_choicesOf_52_55, jX1_choicesOf_52_58, jX1_choicesOf_52_61, jX1_choicesOf_52_64, uX1_choicesOf_1, qX1_choicesOf_1_c115, uX1_choicesOf_52, uX1_choicesOf_55, uX1_choicesOf_58, uX1_choicesOf_61, uX1_choicesOf_64, qX1_choicesOf_52, qX1_choicesOf_55, qX1_choicesOf_58, qX1_choicesOf_61, qX1_choicesOf_64, jX1_choicesOf_52_55, jX1_choicesOf_52_58, jX1_choicesOf_52_61, jX1_choicesOf_52_64]
  rw [if_neg h3]
  by_cases h4 : x = 121
  · subst h4
    rw [if_pos rfl]
    simp only [uX1_choicesOf_0, qX1_choicesOf_0, jX1_choicesOf_52_55, jX1_choicesOf_52_58, jX1_choicesOf_52_61, jX1_choicesOf_52_64, uX1_choicesOf_1, qX1_choicesOf_1_c121, uX1_choicesOf_52, uX1_choicesOf_55, uX1_choicesOf_58, uX1_choicesOf_61, uX1_choicesOf_64, qX1_choicesOf_52, qX1_choicesOf_55, qX1_choicesOf_58, qX1_choicesOf_61, qX1_choicesOf_64, jX1_choicesOf_52_55, jX1_choicesOf_52_58, jX1_choicesOf_52_61, jX1_choicesOf_52_64]
  rw [if_neg h4]
  have hd : Op.lookupswitch.offset [(98, 57), (105, 54), (107, 51), (115, 54), (121, 60)] 63 (Int32.toInt x) = 63 := by
    have g0 : Int32.toInt x ≠ 98 := fun e => h0 (Int32.toInt_inj.mp (e.trans (by decide)))
    have g1 : Int32.toInt x ≠ 105 := fun e => h1 (Int32.toInt_inj.mp (e.trans (by decide)))
    have g2 : Int32.toInt x ≠ 107 := fun e => h2 (Int32.toInt_inj.mp (e.trans (by decide)))
    have g3 : Int32.toInt x ≠ 115 := fun e => h3 (Int32.toInt_inj.mp (e.trans (by decide)))
    have g4 : Int32.toInt x ≠ 121 := fun e => h4 (Int32.toInt_inj.mp (e.trans (by decide)))
    simp only [Op.lookupswitch.offset_cons, Op.lookupswitch.offset_nil, if_neg (Ne.symm g0), if_neg (Ne.symm g1), if_neg (Ne.symm g2), if_neg (Ne.symm g3), if_neg (Ne.symm g4)]
  simp only [uX1_choicesOf_0, qX1_choicesOf_0, jX1_choicesOf_52_55, jX1_choicesOf_52_58, jX1_choicesOf_52_61, jX1_choicesOf_52_64, uX1_choicesOf_1, qX1_choicesOf_1_d hd, uX1_choicesOf_52, uX1_choicesOf_55, uX1_choicesOf_58, uX1_choicesOf_61, uX1_choicesOf_64, qX1_choicesOf_52, qX1_choicesOf_55, qX1_choicesOf_58, qX1_choicesOf_61, qX1_choicesOf_64, jX1_choicesOf_52_55, jX1_choicesOf_52_58, jX1_choicesOf_52_61, jX1_choicesOf_52_64]
end XCK
