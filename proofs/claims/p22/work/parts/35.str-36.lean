section
section XCK
variable {sc : Nat × (Nat → Int32)} {d : Nat} {K : List KD} {r q t a B m : Nat} {w : EW}
section
variable {i : Nat → List EV → EW → XR} {b g : Nat → XL → XS → EW → XR}
set_option maxRecDepth 100000 in theorem qSJ0_length_8abf5_0 {u0 : Nat} : fz sc 10 1 false 1 i b g aJ0_length_8abf5_0 0 [some (.inr (.inr (.inr u0)))] [] w = xst (.inr (.inr (.inr u0))) fun z_1 => (xnn sc w (.inr (.inr (.inr (40 + z_1))))).bind fun n_2 => xst (.inr (.inr (.inr u0))) fun z_3 => xci (i 286 [.inr (.inr (.inr (3 + z_3)))] w) (fun q_5 w_4 => some (some (.inl ((nI n_2) >>> (q_5 &&& 31))), w_4)) := rfl
end
section
variable {i : Nat → List EV → EW → XR} {b g : Nat → XL → XS → EW → XR}
set_option maxRecDepth 100000 in theorem qSJ0_isEmpty_aae02_0 {u0 : Nat} : fz sc 10 4 false 1 i b g aJ0_isEmpty_aae02_0 0 [some (.inr (.inr (.inr u0)))] [] w = xst (.inr (.inr (.inr u0))) fun z_1 => (xnn sc w (.inr (.inr (.inr (40 + z_1))))).bind fun n_2 => if (nI n_2) = 0 then g 8 [some (.inr (.inr (.inr u0)))] [] w else g 12 [some (.inr (.inr (.inr u0)))] [] w := rfl
end
section
variable {i : Nat → List EV → EW → XR} {b g : Nat → XL → XS → EW → XR}
set_option maxRecDepth 100000 in theorem qSJ0_isEmpty_aae02_8 {u0 : Nat} : fz sc 10 4 false 1 i b g aJ0_isEmpty_aae02_8 8 [some (.inr (.inr (.inr u0)))] [] w = g 13 [some (.inr (.inr (.inr u0)))] [.inl 1] w := rfl
end
section
variable {i : Nat → List EV → EW → XR} {b g : Nat → XL → XS → EW → XR}
set_option maxRecDepth 100000 in theorem qSJ0_isEmpty_aae02_12 {u0 : Nat} : fz sc 10 4 false 1 i b g aJ0_isEmpty_aae02_12 12 [some (.inr (.inr (.inr u0)))] [] w = g 13 [some (.inr (.inr (.inr u0)))] [.inl 0] w := rfl
end
section
variable {i : Nat → List EV → EW → XR} {b g : Nat → XL → XS → EW → XR}
set_option maxRecDepth 100000 in theorem qSJ0_isEmpty_aae02_13 {u0 : Nat} {p0 : Int32} : fz sc 10 4 false 1 i b g aJ0_isEmpty_aae02_13 13 [some (.inr (.inr (.inr u0)))] [.inl p0] w = bif xrt 4 p0 then some (some (.inl p0), w) else none := rfl
end
section
variable {i : Nat → List EV → EW → XR} {b g : Nat → XL → XS → EW → XR}
set_option maxRecDepth 100000 in theorem qSJ0_charAt_5068e_0 {u0 : Nat} {x1 : Int32} : fz sc 10 5 false 2 i b g aJ0_charAt_5068e_0 0 [some (.inr (.inr (.inr u0))), some (.inl x1)] [] w = xst (.inr (.inr (.inr u0))) fun z_1 => xci (i 287 [.inr (.inr (.inr (3 + z_1)))] w) (fun q_3 w_2 => if q_3 = 0 then g 16 [some (.inr (.inr (.inr u0))), some (.inl x1)] [] w_2 else g 7 [some (.inr (.inr (.inr u0))), some (.inl x1)] [] w_2) := rfl
end
section
variable {i : Nat → List EV → EW → XR} {b g : Nat → XL → XS → EW → XR}
set_option maxRecDepth 100000 in theorem qSJ0_charAt_5068e_7 {u0 : Nat} {x1 : Int32} : fz sc 10 5 false 2 i b g aJ0_charAt_5068e_7 7 [some (.inr (.inr (.inr u0))), some (.inl x1)] [] w = xst (.inr (.inr (.inr u0))) fun z_1 => xci (i 289 [.inr (.inr (.inr (40 + z_1))), .inl x1] w) (fun q_3 w_2 => bif xrt 5 q_3 then some (some (.inl q_3), w_2) else none) := rfl
end
section
variable {i : Nat → List EV → EW → XR} {b g : Nat → XL → XS → EW → XR}
set_option maxRecDepth 100000 in theorem qSJ0_coder_7d493_0 {u0 : Nat} : fz sc 10 6 false 1 i b g aJ0_coder_7d493_0 0 [some (.inr (.inr (.inr u0)))] [] w = if 1 = 0 then g 13 [some (.inr (.inr (.inr u0)))] [] w else g 6 [some (.inr (.inr (.inr u0)))] [] w := rfl
end
section
variable {i : Nat → List EV → EW → XR} {b g : Nat → XL → XS → EW → XR}
set_option maxRecDepth 100000 in theorem qSJ0_coder_7d493_6 {u0 : Nat} : fz sc 10 6 false 1 i b g aJ0_coder_7d493_6 6 [some (.inr (.inr (.inr u0)))] [] w = xst (.inr (.inr (.inr u0))) fun z_1 => g 14 [some (.inr (.inr (.inr u0)))] [.inl 0] w := rfl
end
section
variable {i : Nat → List EV → EW → XR} {b g : Nat → XL → XS → EW → XR}
set_option maxRecDepth 100000 in theorem qSJ0_coder_7d493_13 {u0 : Nat} : fz sc 10 6 false 1 i b g aJ0_coder_7d493_13 13 [some (.inr (.inr (.inr u0)))] [] w = g 14 [some (.inr (.inr (.inr u0)))] [.inl 1] w := rfl
end
section
variable {i : Nat → List EV → EW → XR} {b g : Nat → XL → XS → EW → XR}
set_option maxRecDepth 100000 in theorem qSJ0_coder_7d493_14 {u0 : Nat} {p0 : Int32} : fz sc 10 6 false 1 i b g aJ0_coder_7d493_14 14 [some (.inr (.inr (.inr u0)))] [.inl p0] w = bif xrt 6 p0 then some (some (.inl p0), w) else none := rfl
end
section
variable {i : Nat → List EV → EW → XR} {b g : Nat → XL → XS → EW → XR}
set_option maxRecDepth 100000 in theorem qSJ0_isLatin1_aae02_0 {u0 : Nat} : fz sc 10 4 false 1 i b g aJ0_isLatin1_aae02_0 0 [some (.inr (.inr (.inr u0)))] [] w = if 1 = 0 then g 17 [some (.inr (.inr (.inr u0)))] [] w else g 6 [some (.inr (.inr (.inr u0)))] [] w := rfl
end
section
variable {i : Nat → List EV → EW → XR} {b g : Nat → XL → XS → EW → XR}
set_option maxRecDepth 100000 in theorem qSJ0_isLatin1_aae02_6 {u0 : Nat} : fz sc 10 4 false 1 i b g aJ0_isLatin1_aae02_6 6 [some (.inr (.inr (.inr u0)))] [] w = xst (.inr (.inr (.inr u0))) fun z_1 => if 0 = 0 then g 13 [some (.inr (.inr (.inr u0)))] [] w else g 17 [some (.inr (.inr (.inr u0)))] [] w := rfl
end
section
variable {i : Nat → List EV → EW → XR} {b g : Nat → XL → XS → EW → XR}
set_option maxRecDepth 100000 in theorem qSJ0_isLatin1_aae02_13 {u0 : Nat} : fz sc 10 4 false 1 i b g aJ0_isLatin1_aae02_13 13 [some (.inr (.inr (.inr u0)))] [] w = g 18 [some (.inr (.inr (.inr u0)))] [.inl 1] w := rfl
end
section
variable {i : Nat → List EV → EW → XR} {b g : Nat → XL → XS → EW → XR}
set_option maxRecDepth 100000 in theorem qSJ0_isLatin1_aae02_17 {u0 : Nat} : fz sc 10 4 false 1 i b g aJ0_isLatin1_aae02_17 17 [some (.inr (.inr (.inr u0)))] [] w = g 18 [some (.inr (.inr (.inr u0)))] [.inl 0] w := rfl
end
section
variable {i : Nat → List EV → EW → XR} {b g : Nat → XL → XS → EW → XR}
set_option maxRecDepth 100000 in theorem qSJ0_isLatin1_aae02_18 {u0 : Nat} {p0 : Int32} : fz sc 10 4 false 1 i b g aJ0_isLatin1_aae02_18 18 [some (.inr (.inr (.inr u0)))] [.inl p0] w = bif xrt 4 p0 then some (some (.inl p0), w) else none := rfl
end
set_option maxRecDepth 100000 in theorem mSJ0_length_8abf5 {u0 : Nat} : xN sc (d + 1) 283 [.inr (.inr (.inr u0))] w = fW sc 10 1 false 1 (xN sc d) (ex sc 10 1 false 1 (xN sc d) kJ0_length_8abf5_0 xF) kJ0_length_8abf5_0 0 [some (.inr (.inr (.inr u0)))] [] w := xN_step rfl rfl rfl rfl
set_option maxRecDepth 100000 in theorem mSJ0_isEmpty_aae02 {u0 : Nat} : xN sc (d + 1) 284 [.inr (.inr (.inr u0))] w = fW sc 10 4 false 1 (xN sc d) (ex sc 10 4 false 1 (xN sc d) kJ0_isEmpty_aae02_0 xF) kJ0_isEmpty_aae02_0 0 [some (.inr (.inr (.inr u0)))] [] w := xN_step rfl rfl rfl rfl
set_option maxRecDepth 100000 in theorem mSJ0_charAt_5068e {u0 : Nat} {x1 : Int32} : xN sc (d + 1) 285 [.inr (.inr (.inr u0)), .inl x1] w = fW sc 10 5 false 2 (xN sc d) (ex sc 10 5 false 2 (xN sc d) kJ0_charAt_5068e_0 xF) kJ0_charAt_5068e_0 0 [some (.inr (.inr (.inr u0))), some (.inl x1)] [] w := xN_step rfl rfl rfl rfl
set_option maxRecDepth 100000 in theorem mSJ0_coder_7d493 {u0 : Nat} : xN sc (d + 1) 286 [.inr (.inr (.inr u0))] w = fW sc 10 6 false 1 (xN sc d) (ex sc 10 6 false 1 (xN sc d) kJ0_coder_7d493_0 xF) kJ0_coder_7d493_0 0 [some (.inr (.inr (.inr u0)))] [] w := xN_step rfl rfl rfl rfl
set_option maxRecDepth 100000 in theorem mSJ0_isLatin1_aae02 {u0 : Nat} : xN sc (d + 1) 287 [.inr (.inr (.inr u0))] w = fW sc 10 4 false 1 (xN sc d) (ex sc 10 4 false 1 (xN sc d) kJ0_isLatin1_aae02_0 xF) kJ0_isLatin1_aae02_0 0 [some (.inr (.inr (.inr u0)))] [] w := xN_step rfl rfl rfl rfl
/-! the reader's words: strings -/
def sl (z : Nat) : Nat := wc_len.getD z 0
def chF (g : Int32) : Int32 := (Int32.toUInt32 (g &&& 255) % 65536).toInt32
def chZ (z i : Nat) : Int32 := chF ((wc_byt.getD z []).getD i 0)
theorem sl_le : ∀ z, z < 18 → sl z ≤ 60 := by decide
theorem chF_all : (wc_byt.all fun l => l.all fun g => xrt 5 (chF g)) = true := by decide +kernel
theorem chZ_rt {z i : Nat} : xrt 5 (chZ z i) = true := by
  have h0 : xrt 5 (chF 0) = true := by decide +kernel
  have h := chF_all
  rw [List.all_eq_true] at h
  unfold chZ
  rw [List.getD_eq_getElem?_getD, List.getD_eq_getElem?_getD]
  cases e : wc_byt[z]? with
  | none =>
    have e2 : ([] : List Int32)[i]? = none := rfl
    show xrt 5 (chF (([] : List Int32)[i]?.getD 0)) = true
    rw [e2]; exact h0
  | some l =>
    have h2 := h l (List.mem_of_getElem? e)
    rw [List.all_eq_true] at h2
    show xrt 5 (chF (l[i]?.getD 0)) = true
    cases e2 : l[i]? with
    | none => exact h0
    | some g => exact h2 g (List.mem_of_getElem? e2)
theorem xst_z {z : Nat} {f : Nat → XR} (hz : z < 18) : xst (.inr (.inr (.inr (3 + z)))) f = f z := by
  show (bif Nat.ble 3 (3 + z) && Nat.blt (3 + z) 21 then f (3 + z - 3) else none) = f z
  have h1 : Nat.ble 3 (3 + z) = true := Nat.ble_eq_true_of_le (by omega)
  have h2 : Nat.blt (3 + z) 21 = true := Nat.ble_eq_true_of_le (by omega)
  rw [h1, h2, Nat.add_sub_cancel_left]; rfl
theorem xnn_z {s : SG} {z : Nat} (hz : z < 18) : xnn sc (wl K s) (.inr (.inr (.inr (40 + z)))) = some (sl z) := by
  show (bif Nat.blt (40 + z) 3 then some (xkx sc (40 + z)).1 else bif Nat.ble 40 (40 + z) && Nat.blt (40 + z) 58 then some (wc_len.getD (40 + z - 40) 0) else none) = _
  have h0 : Nat.blt (40 + z) 3 = false := by
    cases e : Nat.blt (40 + z) 3 with
    | false => rfl
    | true => have := Nat.le_of_ble_eq_true e; omega
  have h1 : Nat.ble 40 (40 + z) = true := Nat.ble_eq_true_of_le (by omega)
  have h2 : Nat.blt (40 + z) 58 = true := Nat.ble_eq_true_of_le (by omega)
  rw [h0, h1, h2, Nat.add_sub_cancel_left]; rfl
theorem xdb_z {s : SG} {z i : Nat} (hz : z < 18) (hi : i < sl z) : xdb (wl K s) (nI i) (.inr (.inr (.inr (40 + z)))) = some ((wc_byt.getD z []).getD i 0) := by
  have h3 := sl_le z hz
  show (bif Nat.ble 40 (40 + z) && Nat.blt (40 + z) 58 && xvb (nI i) (wc_len.getD (40 + z - 40) 0) then some ((wc_byt.getD (40 + z - 40) []).getD (nI i).toNatClampNeg 0) else none) = _
  have h1 : Nat.ble 40 (40 + z) = true := Nat.ble_eq_true_of_le (by omega)
  have h2 : Nat.blt (40 + z) 58 = true := Nat.ble_eq_true_of_le (by omega)
  rw [h1, h2, Nat.add_sub_cancel_left, nI_clamp (by omega)]
  have h4 : xvb (nI i) (wc_len.getD z 0) = true := xvb_nI (n := sl z) hi (by omega)
  rw [h4]; rfl
theorem xr60 : xrt 6 0 = true := rfl
theorem n10 : ¬ (1 : Int32) = 0 := by decide
theorem c_coder {s : SG} {z : Nat} (hz : z < 18) : xN sc (d + 1) 286 [.inr (.inr (.inr (3 + z)))] (wl K s) = some (some (.inl 0), wl K s) := by
  rw [mSJ0_coder_7d493]
  simp only [uJ0_coder_7d493_0, uJ0_coder_7d493_6, uJ0_coder_7d493_13, uJ0_coder_7d493_14, qSJ0_coder_7d493_0, qSJ0_coder_7d493_6, qSJ0_coder_7d493_13, qSJ0_coder_7d493_14, jJ0_coder_7d493_6_13, jJ0_coder_7d493_13_14, if_neg n10, xst_z hz, xr60, cond_true]
  split
  · rename_i q1
    exact absurd q1 (by decide)
  · rfl
theorem c_isLatin1 {s : SG} {z : Nat} (hz : z < 18) : xN sc (d + 1) 287 [.inr (.inr (.inr (3 + z)))] (wl K s) = some (some (.inl 1), wl K s) := by
  rw [mSJ0_isLatin1_aae02]
  simp only [uJ0_isLatin1_aae02_0, uJ0_isLatin1_aae02_6, uJ0_isLatin1_aae02_13, uJ0_isLatin1_aae02_17, uJ0_isLatin1_aae02_18, qSJ0_isLatin1_aae02_0, qSJ0_isLatin1_aae02_6, qSJ0_isLatin1_aae02_13, qSJ0_isLatin1_aae02_17, qSJ0_isLatin1_aae02_18, jJ0_isLatin1_aae02_6_17, jJ0_isLatin1_aae02_13_17, jJ0_isLatin1_aae02_17_18, if_neg n10, xst_z hz, if_true, xr41, cond_true]
  split
  · rename_i q1
    exact absurd q1 (by decide)
  · rfl
theorem sh0 {x : Int32} : x >>> ((0 : Int32) &&& 31) = x := by
  have e : (0 : Int32) &&& 31 = 0 := by decide
  rw [e, Int32.shiftRight_zero]
theorem c_length {s : SG} {z : Nat} (hz : z < 18) : xN sc (d + 2) 283 [.inr (.inr (.inr (3 + z)))] (wl K s) = some (some (.inl (nI (sl z))), wl K s) := by
  rw [mSJ0_length_8abf5]
  simp only [uJ0_length_8abf5_0, qSJ0_length_8abf5_0, xst_z hz, xnn_z hz, bd_eq, c_coder hz, xci_eq, sh0]
def isEI (z : Nat) : Int32 := if nI (sl z) = 0 then 1 else 0
theorem c_isEmpty {s : SG} {z : Nat} (hz : z < 18) : xN sc (d + 1) 284 [.inr (.inr (.inr (3 + z)))] (wl K s) = some (some (.inl (isEI z)), wl K s) := by
  rw [mSJ0_isEmpty_aae02]
  simp only [uJ0_isEmpty_aae02_0, uJ0_isEmpty_aae02_8, uJ0_isEmpty_aae02_12, uJ0_isEmpty_aae02_13, qSJ0_isEmpty_aae02_0, qSJ0_isEmpty_aae02_8, qSJ0_isEmpty_aae02_12, qSJ0_isEmpty_aae02_13, jJ0_isEmpty_aae02_8_12, jJ0_isEmpty_aae02_12_13, xst_z hz, xnn_z hz, bd_eq, xr40, xr41, cond_true]
  unfold isEI
  split <;> rfl
theorem c_checkJ3 {s : SG} {x y : Int32} {c : Nat} (h1 : ¬ x < 0) (h2 : x < y) : xN sc (d + 1) 290 [.inl x, .inl y, .inr (.inr (.inr c))] (wl K s) = some (some (.inl x), wl K s) := by
  rw [mJ3_checkIndex_8e157]
  simp only [uJ3_checkIndex_8e157_0, uJ3_checkIndex_8e157_4, uJ3_checkIndex_8e157_9, uJ3_checkIndex_8e157_16, qJ3_checkIndex_8e157_0, qJ3_checkIndex_8e157_4, qJ3_checkIndex_8e157_16, jJ3_checkIndex_8e157_4_9, jJ3_checkIndex_8e157_9_16, if_neg h1, if_pos h2]
theorem c_checkJ0 {s : SG} {x y : Int32} (h1 : ¬ x < 0) (h2 : x < y) : xN sc (d + 2) 288 [.inl x, .inl y] (wl K s) = some (none, wl K s) := by
  rw [mJ0_checkIndex_df160]
  simp only [uJ0_checkIndex_df160_0, qJ0_checkIndex_df160_0, c_checkJ3 h1 h2, xci_eq]
theorem c_charAtJ1 {s : SG} {z i : Nat} (hz : z < 18) (hi : i < sl z) : xN sc (d + 3) 289 [.inr (.inr (.inr (40 + z))), .inl (nI i)] (wl K s) = some (some (.inl (chZ z i)), wl K s) := by
  have h3 := sl_le z hz
  rw [mJ1_charAt_3b067]
  simp only [uJ1_charAt_3b067_0, qJ1_charAt_3b067_0, xnn_z hz, bd_eq, c_checkJ0 (nI_pos (n := i) (by omega)) (nI_lt2 (a := i) (b := sl z) hi (by omega)), xcv_eq, xdb_z hz hi]
  have e : (Int32.toUInt32 ((wc_byt.getD z []).getD i 0 &&& 255) % 65536).toInt32 = chZ z i := rfl
  rw [e, chZ_rt]; rfl
theorem c_charAt {s : SG} {z i : Nat} (hz : z < 18) (hi : i < sl z) : xN sc (d + 4) 285 [.inr (.inr (.inr (3 + z))), .inl (nI i)] (wl K s) = some (some (.inl (chZ z i)), wl K s) := by
  rw [mSJ0_charAt_5068e]
  simp only [uJ0_charAt_5068e_0, uJ0_charAt_5068e_7, uJ0_charAt_5068e_16, qSJ0_charAt_5068e_0, qSJ0_charAt_5068e_7, jJ0_charAt_5068e_7_16, xst_z hz, c_isLatin1 hz, xci_eq, if_neg n10, c_charAtJ1 hz hi, chZ_rt, cond_true]
/-! words among words -/
def istL (s : SG) (z a : Nat) : Nat → Nat → Int32
  | 0, _ => 1
  | n + 1, j => if chZ z j = cl 600 (s 54) (s 43 8 + nI j - nI a) then istL s z a n (j + 1) else 0
theorem l_isToken {s : SG} {z a b : Nat} (h : SH K) (hz : z < 18) (hb : b ≤ sl z) {i : Nat → List EV → EW → XR} (hi : i = xN sc (d + 4)) : ∀ (n j k : Nat), j + n = b → n ≤ k → fW sc 1 4 false 5 i (ex sc 1 4 false 5 i kX1_isToken_0 k) kX1_isToken_20 20 [some (.inr (.inr (.inl (some 43)))), some (.inr (.inr (.inr (3 + z)))), some (.inl (nI a)), some (.inl (nI b)), some (.inl (nI j))] [] (wl K s) = some (some (.inl (istL s z a n j)), wl K s) := by
  subst hi
  have h3 := sl_le z hz
  intro n
  induction n with
  | zero =>
    intro j k hj hk
    simp only [uX1_isToken_20, qX1_isToken_20, jX1_isToken_15_17, jX1_isToken_26_68, jX1_isToken_35_68, jX1_isToken_60_62, jX1_isToken_0_20, if_pos (k_ge hj)]
    simp only [uX1_isToken_68, qX1_isToken_68, jX1_isToken_15_17, jX1_isToken_26_68, jX1_isToken_35_68, jX1_isToken_60_62, jX1_isToken_0_20]
    rfl
  | succ n ih =>
    intro j k hj hk
    obtain ⟨k, rfl⟩ : ∃ k', k = k' + 1 := ⟨k - 1, by omega⟩
    have e := ih (j + 1) k (by omega) (by omega)
    simp only [nI_succ] at e
    simp only [uX1_isToken_20, qX1_isToken_20, jX1_isToken_15_17, jX1_isToken_26_68, jX1_isToken_35_68, jX1_isToken_60_62, jX1_isToken_0_20, if_neg (k_lt hj (show b < 2 ^ 31 by omega))]
    simp only [uX1_isToken_26, uX1_isToken_35, uX1_isToken_60, uX1_isToken_62, qX1_isToken_26, qX1_isToken_35, qX1_isToken_60, qX1_isToken_62, jX1_isToken_15_17, jX1_isToken_26_68, jX1_isToken_35_68, jX1_isToken_60_62, jX1_isToken_0_20, xst_z hz, c_length hz, xci_eq, if_neg (nI_ge (a := j) (b := sl z) (by omega) (by omega)), c_charAt hz (show j < sl z by omega), c43_g4 h, c43_g8 h, bd_eq, lc54 h, eX_eq]
    rw [istL]
    repeat' split
    all_goals first | exact e | rfl | contradiction
def istI (s : SG) (z a b : Nat) : Int32 := if nI b - nI a = s 43 9 - s 43 8 then istL s z a (b - a) a else 0
theorem c_isToken {s : SG} {z a b : Nat} (h : SH K) (hz : z < 18) (hb : b ≤ sl z) (hab : a ≤ b) : xN sc (d + 5) 34 [.inr (.inr (.inl (some 43))), .inr (.inr (.inr (3 + z))), .inl (nI a), .inl (nI b)] (wl K s) = some (some (.inl (istI s z a b)), wl K s) := by
  have h3 := sl_le z hz
  rw [mX1_isToken]
  have L := l_isToken (sc := sc) (d := d) (s := s) (a := a) h hz hb rfl (b - a) a xF (by omega) (by have := xF_ge; omega)
  simp only [uX1_isToken_0, uX1_isToken_15, uX1_isToken_17, qX1_isToken_0, qX1_isToken_15, qX1_isToken_17, jX1_isToken_15_17, jX1_isToken_26_68, jX1_isToken_35_68, jX1_isToken_60_62, jX1_isToken_0_20, c43_g9 h, c43_g8 h, bd_eq, L]
  unfold istI
  split <;> rfl
def choL (s : SG) (z : Nat) : Nat → Nat → Nat → Int32 → Int32
  | 0, _, _, _ => -1
  | n + 1, j, a, y => if s 43 7 = 1 then (if j = sl z then (if istI s z a j = 0 then choL s z n (j + 1) (j + 1) (y + 1) else y) else if chZ z j = 32 then (if istI s z a j = 0 then choL s z n (j + 1) (j + 1) (y + 1) else y) else choL s z n (j + 1) a y) else -1
theorem l_chosen {s : SG} {z : Nat} (h : SH K) (hz : z < 18) {i : Nat → List EV → EW → XR} (hi : i = xN sc (d + 5)) : ∀ (n j k a : Nat) (y : Int32), j + n = sl z + 1 → a ≤ j → n ≤ k → fW sc 1 1 false 5 i (ex sc 1 1 false 5 i kX1_chosen_0 k) kX1_chosen_7 7 [some (.inr (.inr (.inl (some 43)))), some (.inr (.inr (.inr (3 + z)))), some (.inl y), some (.inl (nI a)), some (.inl (nI j))] [] (wl K s) = some (some (.inl (choL s z n j a y)), wl K s) := by
  subst hi
  have h3 := sl_le z hz
  intro n
  induction n with
  | zero =>
    intro j k a y hj ha hk
    simp only [uX1_chosen_7, qX1_chosen_7, jX1_chosen_16_71, jX1_chosen_24_71, jX1_chosen_33_44, jX1_chosen_44_65, jX1_chosen_55_57, jX1_chosen_0_7, xst_z hz, c_length hz, xci_eq, if_pos (nI_lt2 (a := sl z) (b := j) (by omega) (by omega))]
    simp only [uX1_chosen_71, qX1_chosen_71, jX1_chosen_16_71, jX1_chosen_24_71, jX1_chosen_33_44, jX1_chosen_44_65, jX1_chosen_55_57, jX1_chosen_0_7]
    rfl
  | succ n ih =>
    intro j k a y hj ha hk
    obtain ⟨k, rfl⟩ : ∃ k', k = k' + 1 := ⟨k - 1, by omega⟩
    have e1 := ih (j + 1) k a y (by omega) (by omega) (by omega)
    have e2 := ih (j + 1) k (j + 1) (y + 1) (by omega) (by omega) (by omega)
    simp only [nI_succ] at e1 e2
    have hx : ¬ nI (sl z) < nI j := by
      rw [Int32.not_lt, Int32.le_iff_toInt_le, nI_toInt (by omega), nI_toInt (by omega)]; omega
    simp only [uX1_chosen_7, qX1_chosen_7, jX1_chosen_16_71, jX1_chosen_24_71, jX1_chosen_33_44, jX1_chosen_44_65, jX1_chosen_55_57, jX1_chosen_0_7, xst_z hz, c_length hz, xci_eq, if_neg hx]
    rw [choL]
    by_cases e : j = sl z
    · rw [if_pos e]
      simp only [uX1_chosen_16, uX1_chosen_24, qX1_chosen_16, qX1_chosen_24, jX1_chosen_16_71, jX1_chosen_24_71, jX1_chosen_33_44, jX1_chosen_44_65, jX1_chosen_55_57, jX1_chosen_0_7, xst_z hz, c_length hz, xci_eq, c43_g7 h, bd_eq, if_pos (congrArg nI e)]
      simp only [uX1_chosen_44, uX1_chosen_55, uX1_chosen_57, uX1_chosen_65, uX1_chosen_71, qX1_chosen_44, qX1_chosen_55, qX1_chosen_57, qX1_chosen_65, qX1_chosen_71, jX1_chosen_16_71, jX1_chosen_24_71, jX1_chosen_33_44, jX1_chosen_44_65, jX1_chosen_55_57, jX1_chosen_0_7, c43_v h, cond_true, c_isToken h hz (show j ≤ sl z by omega) ha, xci_eq, eX_eq]
      repeat' split
      all_goals first | exact e2 | rfl | contradiction
    · rw [if_neg e]
      have hne : ¬ nI j = nI (sl z) := by
        intro q
        have q2 := congrArg Int32.toInt q
        rw [nI_toInt (by omega), nI_toInt (by omega)] at q2
        omega
      simp only [uX1_chosen_16, uX1_chosen_24, qX1_chosen_16, qX1_chosen_24, jX1_chosen_16_71, jX1_chosen_24_71, jX1_chosen_33_44, jX1_chosen_44_65, jX1_chosen_55_57, jX1_chosen_0_7, xst_z hz, c_length hz, xci_eq, c43_g7 h, bd_eq, if_neg hne]
      simp only [uX1_chosen_33, uX1_chosen_44, uX1_chosen_55, uX1_chosen_57, uX1_chosen_65, uX1_chosen_71, qX1_chosen_33, qX1_chosen_44, qX1_chosen_55, qX1_chosen_57, qX1_chosen_65, qX1_chosen_71, jX1_chosen_16_71, jX1_chosen_24_71, jX1_chosen_33_44, jX1_chosen_44_65, jX1_chosen_55_57, jX1_chosen_0_7, xst_z hz, c_charAt hz (show j < sl z by omega), c43_v h, cond_true, c_isToken h hz (show j ≤ sl z by omega) ha, xci_eq, eX_eq]
      repeat' split
      all_goals first | exact e1 | exact e2 | rfl | contradiction
def choI (s : SG) (z : Nat) : Int32 := choL s z (sl z + 1) 0 0 0
theorem c_chosen {s : SG} {z : Nat} (h : SH K) (hz : z < 18) : xN sc (d + 6) 33 [.inr (.inr (.inl (some 43))), .inr (.inr (.inr (3 + z)))] (wl K s) = some (some (.inl (choI s z)), wl K s) := by
  have h3 := sl_le z hz
  rw [mX1_chosen]
  have L : fW sc 1 1 false 5 (xN sc (d + 5)) (ex sc 1 1 false 5 (xN sc (d + 5)) kX1_chosen_0 xF) kX1_chosen_7 7 [some (.inr (.inr (.inl (some 43)))), some (.inr (.inr (.inr (3 + z)))), some (.inl 0), some (.inl 0), some (.inl 0)] [] (wl K s) = some (some (.inl (choI s z)), wl K s) := l_chosen (sc := sc) (d := d) (s := s) h hz rfl (sl z + 1) 0 xF 0 0 (by omega) (by omega) (by have := xF_ge; omega)
  simp only [uX1_chosen_0, qX1_chosen_0, jX1_chosen_16_71, jX1_chosen_24_71, jX1_chosen_33_44, jX1_chosen_44_65, jX1_chosen_55_57, jX1_chosen_0_7, L]
def staL (z : Nat) (x : Int32) : Nat → Nat → Int32 → Nat
  | 0, j, _ => j
  | n + 1, j, y => if y = x then j else if chZ z j = 32 then staL z x n (j + 1) (y + 1) else staL z x n (j + 1) y
theorem l_startOf {s : SG} {z : Nat} {x : Int32} (hz : z < 18) {i : Nat → List EV → EW → XR} (hi : i = xN sc (d + 4)) : ∀ (n j k : Nat) (y : Int32), j + n = sl z → n ≤ k → fW sc 1 1 false 4 i (ex sc 1 1 false 4 i kX1_startOf_0 k) kX1_startOf_4 4 [some (.inr (.inr (.inr (3 + z)))), some (.inl x), some (.inl y), some (.inl (nI j))] [] (wl K s) = some (some (.inl (nI (staL z x n j y))), wl K s) := by
  subst hi
  have h3 := sl_le z hz
  intro n
  induction n with
  | zero =>
    intro j k y hj hk
    simp only [uX1_startOf_4, qX1_startOf_4, jX1_startOf_12_38, jX1_startOf_17_19, jX1_startOf_29_32, jX1_startOf_0_4, xst_z hz, c_length hz, xci_eq, if_pos (k_ge hj)]
    simp only [uX1_startOf_38, qX1_startOf_38, jX1_startOf_12_38, jX1_startOf_17_19, jX1_startOf_29_32, jX1_startOf_0_4, xst_z hz, c_length hz, xci_eq]
    rw [staL, ← hj]; rfl
  | succ n ih =>
    intro j k y hj hk
    obtain ⟨k, rfl⟩ : ∃ k', k = k' + 1 := ⟨k - 1, by omega⟩
    have e := fun y => ih (j + 1) k y (by omega) (by omega)
    simp only [nI_succ] at e
    simp only [uX1_startOf_4, qX1_startOf_4, jX1_startOf_12_38, jX1_startOf_17_19, jX1_startOf_29_32, jX1_startOf_0_4, xst_z hz, c_length hz, xci_eq, if_neg (k_lt hj (show sl z < 2 ^ 31 by omega))]
    simp only [uX1_startOf_12, uX1_startOf_17, uX1_startOf_19, uX1_startOf_29, uX1_startOf_32, qX1_startOf_12, qX1_startOf_17, qX1_startOf_19, qX1_startOf_29, qX1_startOf_32, jX1_startOf_12_38, jX1_startOf_17_19, jX1_startOf_29_32, jX1_startOf_0_4, xst_z hz, c_charAt hz (show j < sl z by omega), xci_eq, eX_eq]
    rw [staL]
    repeat' split
    all_goals first | exact e _ | rfl | contradiction
def staN (z : Nat) (x : Int32) : Nat := staL z x (sl z) 0 0
theorem c_startOf {s : SG} {z : Nat} {x : Int32} (hz : z < 18) : xN sc (d + 5) 35 [.inr (.inr (.inr (3 + z))), .inl x] (wl K s) = some (some (.inl (nI (staN z x))), wl K s) := by
  have h3 := sl_le z hz
  rw [mX1_startOf]
  have L : fW sc 1 1 false 4 (xN sc (d + 4)) (ex sc 1 1 false 4 (xN sc (d + 4)) kX1_startOf_0 xF) kX1_startOf_4 4 [some (.inr (.inr (.inr (3 + z)))), some (.inl x), some (.inl 0), some (.inl 0)] [] (wl K s) = some (some (.inl (nI (staN z x))), wl K s) := l_startOf (sc := sc) (d := d) (s := s) hz rfl (sl z) 0 xF 0 (by omega) (by have := xF_ge; omega)
  simp only [uX1_startOf_0, qX1_startOf_0, jX1_startOf_12_38, jX1_startOf_17_19, jX1_startOf_29_32, jX1_startOf_0_4, L]
theorem staL_le {z : Nat} {x : Int32} : ∀ (n j : Nat) (y : Int32), j ≤ staL z x n j y ∧ staL z x n j y ≤ j + n := by
  intro n
  induction n with
  | zero => intro j y; rw [staL]; omega
  | succ n ih =>
    intro j y
    rw [staL]
    repeat' split
    · omega
    · have := ih (j + 1) (y + 1); omega
    · have := ih (j + 1) y; omega
theorem staN_le {z : Nat} {x : Int32} : staN z x ≤ sl z := by
  have := staL_le (z := z) (x := x) (sl z) 0 0
  unfold staN; omega
def worZ (x : Int32) : Nat := if x = 0 then 0 else if x = 1 then 1 else if x = 2 then 2 else if x = 3 then 3 else if x = 4 then 4 else if x = 5 then 5 else 6
theorem worZ_lt {x : Int32} : worZ x < 18 := by
  unfold worZ
  repeat' split
  all_goals decide
theorem c_wordsOf {s : SG} {x : Int32} : xN sc (d + 1) 20 [.inl x] (wl K s) = some (some (.inr (.inr (.inr (3 + worZ x)))), wl K s) := by
  rw [mX1_wordsOf]
  unfold worZ
  by_cases h0 : x = 0
  · subst h0
    rw [if_pos rfl]
    simp only [uX1_wordsOf_0, qX1_wordsOf_0, jX1_wordsOf_40_43, jX1_wordsOf_40_46, jX1_wordsOf_40_49, jX1_wordsOf_40_52, jX1_wordsOf_40_55, jX1_wordsOf_40_58, uX1_wordsOf_1, qX1_wordsOf_1_c0, uX1_wordsOf_40, uX1_wordsOf_43, uX1_wordsOf_46, uX1_wordsOf_49, uX1_wordsOf_52, uX1_wordsOf_55, uX1_wordsOf_58, qX1_wordsOf_40, qX1_wordsOf_43, qX1_wordsOf_46, qX1_wordsOf_49, qX1_wordsOf_52, qX1_wordsOf_55, qX1_wordsOf_58, jX1_wordsOf_40_43, jX1_wordsOf_40_46, jX1_wordsOf_40_49, jX1_wordsOf_40_52, jX1_wordsOf_40_55, jX1_wordsOf_40_58]
  rw [if_neg h0]
  by_cases h1 : x = 1
  · subst h1
    rw [if_pos rfl]
    simp only [uX1_wordsOf_0, qX1_wordsOf_0, jX1_wordsOf_40_43, jX1_wordsOf_40_46, jX1_wordsOf_40_49, jX1_wordsOf_40_52, jX1_wordsOf_40_55, jX1_wordsOf_40_58, uX1_wordsOf_1, qX1_wordsOf_1_c1, uX1_wordsOf_40, uX1_wordsOf_43, uX1_wordsOf_46, uX1_wordsOf_49, uX1_wordsOf_52, uX1_wordsOf_55, uX1_wordsOf_58, qX1_wordsOf_40, qX1_wordsOf_43, qX1_wordsOf_46, qX1_wordsOf_49, qX1_wordsOf_52, qX1_wordsOf_55, qX1_wordsOf_58, jX1_wordsOf_40_43, jX1_wordsOf_40_46, jX1_wordsOf_40_49, jX1_wordsOf_40_52, jX1_wordsOf_40_55, jX1_wordsOf_40_58]
  rw [if_neg h1]
  by_cases h2 : x = 2
  · subst h2
    rw [if_pos rfl]
    simp only [uX1_wordsOf_0, qX1_wordsOf_0, jX1_wordsOf_40_43, jX1_wordsOf_40_46, jX1_wordsOf_40_49, jX1_wordsOf_40_52, jX1_wordsOf_40_55, jX1_wordsOf_40_58, uX1_wordsOf_1, qX1_wordsOf_1_c2, uX1_wordsOf_40, uX1_wordsOf_43, uX1_wordsOf_46, uX1_wordsOf_49, uX1_wordsOf_52, uX1_wordsOf_55, uX1_wordsOf_58, qX1_wordsOf_40, qX1_wordsOf_43, qX1_wordsOf_46, qX1_wordsOf_49, qX1_wordsOf_52, qX1_wordsOf_55, qX1_wordsOf_58, jX1_wordsOf_40_43, jX1_wordsOf_40_46, jX1_wordsOf_40_49, jX1_wordsOf_40_52, jX1_wordsOf_40_55, jX1_wordsOf_40_58]
  rw [if_neg h2]
  by_cases h3 : x = 3
  · subst h3
    rw [if_pos rfl]
    simp only [uX1_wordsOf_0, qX1_wordsOf_0, jX1_wordsOf_40_43, jX1_wordsOf_40_46, jX1_wordsOf_40_49, jX1_wordsOf_40_52, jX1_wordsOf_40_55, jX1_wordsOf_40_58, uX1_wordsOf_1, qX1_wordsOf_1_c3, uX1_wordsOf_40, uX1_wordsOf_43, uX1_wordsOf_46, uX1_wordsOf_49, uX1_wordsOf_52, uX1_wordsOf_55, uX1_wordsOf_58, qX1_wordsOf_40, qX1_wordsOf_43, qX1_wordsOf_46, qX1_wordsOf_49, qX1_wordsOf_52, qX1_wordsOf_55, qX1_wordsOf_58, jX1_wordsOf_40_43, jX1_wordsOf_40_46, jX1_wordsOf_40_49, jX1_wordsOf_40_52, jX1_wordsOf_40_55, jX1_wordsOf_40_58]
  rw [if_neg h3]
  by_cases h4 : x = 4
  · subst h4
    rw [if_pos rfl]
    simp only [uX1_wordsOf_0, qX1_wordsOf_0, jX1_wordsOf_40_43, jX1_wordsOf_40_46, jX1_wordsOf_40_49, jX1_wordsOf_40_52, jX1_wordsOf_40_55, jX1_wordsOf_40_58, uX1_wordsOf_1, qX1_wordsOf_1_c4, uX1_wordsOf_40, uX1_wordsOf_43, uX1_wordsOf_46, uX1_wordsOf_49, uX1_wordsOf_52, uX1_wordsOf_55, uX1_wordsOf_58, qX1_wordsOf_40, qX1_wordsOf_43, qX1_wordsOf_46, qX1_wordsOf_49, qX1_wordsOf_52, qX1_wordsOf_55, qX1_wordsOf_58, jX1_wordsOf_40_43, jX1_wordsOf_40_46, jX1_wordsOf_40_49, jX1_wordsOf_40_52, jX1_wordsOf_40_55, jX1_wordsOf_40_58]
  rw [if_neg h4]
  by_cases h5 : x = 5
  · subst h5
    rw [if_pos rfl]
    simp only [uX1_wordsOf_0, qX1_wordsOf_0, jX1_wordsOf_40_43, jX1_wordsOf_40_46, jX1_wordsOf_40_49, jX1_wordsOf_40_52, jX1_wordsOf_40_55, jX1_wordsOf_40_58, uX1_wordsOf_1, qX1_wordsOf_1_c5, uX1_wordsOf_40, uX1_wordsOf_43, uX1_wordsOf_46, uX1_wordsOf_49, uX1_wordsOf_52, uX1_wordsOf_55, uX1_wordsOf_58, qX1_wordsOf_40, qX1_wordsOf_43, qX1_wordsOf_46, qX1_wordsOf_49, qX1_wordsOf_52, qX1_wordsOf_55, qX1_wordsOf_58, jX1_wordsOf_40_43, jX1_wordsOf_40_46, jX1_wordsOf_40_49, jX1_wordsOf_40_52, jX1_wordsOf_40_55, jX1_wordsOf_40_58]
  rw [if_neg h5]
  have hd : Int32.toInt x < 0 ∨ 5 < Int32.toInt x := by
    have g0 : Int32.toInt x ≠ 0 := fun e => h0 (Int32.toInt_inj.mp (e.trans (by decide)))
    have g1 : Int32.toInt x ≠ 1 := fun e => h1 (Int32.toInt_inj.mp (e.trans (by decide)))
    have g2 : Int32.toInt x ≠ 2 := fun e => h2 (Int32.toInt_inj.mp (e.trans (by decide)))
    have g3 : Int32.toInt x ≠ 3 := fun e => h3 (Int32.toInt_inj.mp (e.trans (by decide)))
    have g4 : Int32.toInt x ≠ 4 := fun e => h4 (Int32.toInt_inj.mp (e.trans (by decide)))
    have g5 : Int32.toInt x ≠ 5 := fun e => h5 (Int32.toInt_inj.mp (e.trans (by decide)))
    omega
  simp only [uX1_wordsOf_0, qX1_wordsOf_0, jX1_wordsOf_40_43, jX1_wordsOf_40_46, jX1_wordsOf_40_49, jX1_wordsOf_40_52, jX1_wordsOf_40_55, jX1_wordsOf_40_58, uX1_wordsOf_1, qX1_wordsOf_1_d hd, uX1_wordsOf_40, uX1_wordsOf_43, uX1_wordsOf_46, uX1_wordsOf_49, uX1_wordsOf_52, uX1_wordsOf_55, uX1_wordsOf_58, qX1_wordsOf_40, qX1_wordsOf_43, qX1_wordsOf_46, qX1_wordsOf_49, qX1_wordsOf_52, qX1_wordsOf_55, qX1_wordsOf_58, jX1_wordsOf_40_43, jX1_wordsOf_40_46, jX1_wordsOf_40_49, jX1_wordsOf_40_52, jX1_wordsOf_40_55, jX1_wordsOf_40_58]
def fomZ (x : Int32) : Nat := if x = 0 then 7 else if x = 1 then 8 else if x = 2 then 9 else if x = 3 then 10 else if x = 4 then 11 else if x = 5 then 12 else 6
theorem fomZ_lt {x : Int32} : fomZ x < 18 := by
  unfold fomZ
  repeat' split
  all_goals decide
theorem c_formsOf {s : SG} {x : Int32} : xN sc (d + 1) 21 [.inl x] (wl K s) = some (some (.inr (.inr (.inr (3 + fomZ x)))), wl K s) := by
  rw [mX1_formsOf]
  unfold fomZ
  by_cases h0 : x = 0
  · subst h0
    rw [if_pos rfl]
    simp only [uX1_formsOf_0, qX1_formsOf_0, jX1_formsOf_40_43, jX1_formsOf_40_46, jX1_formsOf_40_49, jX1_formsOf_40_52, jX1_formsOf_40_55, jX1_formsOf_40_58, uX1_formsOf_1, qX1_formsOf_1_c0, uX1_formsOf_40, uX1_formsOf_43, uX1_formsOf_46, uX1_formsOf_49, uX1_formsOf_52, uX1_formsOf_55, uX1_formsOf_58, qX1_formsOf_40, qX1_formsOf_43, qX1_formsOf_46, qX1_formsOf_49, qX1_formsOf_52, qX1_formsOf_55, qX1_formsOf_58, jX1_formsOf_40_43, jX1_formsOf_40_46, jX1_formsOf_40_49, jX1_formsOf_40_52, jX1_formsOf_40_55, jX1_formsOf_40_58]
  rw [if_neg h0]
  by_cases h1 : x = 1
  · subst h1
    rw [if_pos rfl]
    simp only [uX1_formsOf_0, qX1_formsOf_0, jX1_formsOf_40_43, jX1_formsOf_40_46, jX1_formsOf_40_49, jX1_formsOf_40_52, jX1_formsOf_40_55, jX1_formsOf_40_58, uX1_formsOf_1, qX1_formsOf_1_c1, uX1_formsOf_40, uX1_formsOf_43, uX1_formsOf_46, uX1_formsOf_49, uX1_formsOf_52, uX1_formsOf_55, uX1_formsOf_58, qX1_formsOf_40, qX1_formsOf_43, qX1_formsOf_46, qX1_formsOf_49, qX1_formsOf_52, qX1_formsOf_55, qX1_formsOf_58, jX1_formsOf_40_43, jX1_formsOf_40_46, jX1_formsOf_40_49, jX1_formsOf_40_52, jX1_formsOf_40_55, jX1_formsOf_40_58]
  rw [if_neg h1]
  by_cases h2 : x = 2
  · subst h2
    rw [if_pos rfl]
    simp only [uX1_formsOf_0, qX1_formsOf_0, jX1_formsOf_40_43, jX1_formsOf_40_46, jX1_formsOf_40_49, jX1_formsOf_40_52, jX1_formsOf_40_55, jX1_formsOf_40_58, uX1_formsOf_1, qX1_formsOf_1_c2, uX1_formsOf_40, uX1_formsOf_43, uX1_formsOf_46, uX1_formsOf_49, uX1_formsOf_52, uX1_formsOf_55, uX1_formsOf_58, qX1_formsOf_40, qX1_formsOf_43, qX1_formsOf_46, qX1_formsOf_49, qX1_formsOf_52, qX1_formsOf_55, qX1_formsOf_58, jX1_formsOf_40_43, jX1_formsOf_40_46, jX1_formsOf_40_49, jX1_formsOf_40_52, jX1_formsOf_40_55, jX1_formsOf_40_58]
  rw [if_neg h2]
  by_cases h3 : x = 3
  · subst h3
    rw [if_pos rfl]
    simp only [uX1_formsOf_0, qX1_formsOf_0, jX1_formsOf_40_43, jX1_formsOf_40_46, jX1_formsOf_40_49, jX1_formsOf_40_52, jX1_formsOf_40_55, jX1_formsOf_40_58, uX1_formsOf_1, qX1_formsOf_1_c3, uX1_formsOf_40, uX1_formsOf_43, uX1_formsOf_46, uX1_formsOf_49, uX1_formsOf_52, uX1_formsOf_55, uX1_formsOf_58, qX1_formsOf_40, qX1_formsOf_43, qX1_formsOf_46, qX1_formsOf_49, qX1_formsOf_52, qX1_formsOf_55, qX1_formsOf_58, jX1_formsOf_40_43, jX1_formsOf_40_46, jX1_formsOf_40_49, jX1_formsOf_40_52, jX1_formsOf_40_55, jX1_formsOf_40_58]
  rw [if_neg h3]
  by_cases h4 : x = 4
  · subst h4
    rw [if_pos rfl]
    simp only [uX1_formsOf_0, qX1_formsOf_0, jX1_formsOf_40_43, jX1_formsOf_40_46, jX1_formsOf_40_49, jX1_formsOf_40_52, jX1_formsOf_40_55, jX1_formsOf_40_58, uX1_formsOf_1, qX1_formsOf_1_c4, uX1_formsOf_40, uX1_formsOf_43, uX1_formsOf_46, uX1_formsOf_49, uX1_formsOf_52, uX1_formsOf_55, uX1_formsOf_58, qX1_formsOf_40, qX1_formsOf_43, qX1_formsOf_46, qX1_formsOf_49, qX1_formsOf_52, qX1_formsOf_55, qX1_formsOf_58, jX1_formsOf_40_43, jX1_formsOf_40_46, jX1_formsOf_40_49, jX1_formsOf_40_52, jX1_formsOf_40_55, jX1_formsOf_40_58]
  rw [if_neg h4]
  by_cases h5 : x = 5
  · subst h5
    rw [if_pos rfl]
    simp only [uX1_formsOf_0, qX1_formsOf_0, jX1_formsOf_40_43, jX1_formsOf_40_46, jX1_formsOf_40_49, jX1_formsOf_40_52, jX1_formsOf_40_55, jX1_formsOf_40_58, uX1_formsOf_1, qX1_formsOf_1_c5, uX1_formsOf_40, uX1_formsOf_43, uX1_formsOf_46, uX1_formsOf_49, uX1_formsOf_52, uX1_formsOf_55, uX1_formsOf_58, qX1_formsOf_40, qX1_formsOf_43, qX1_formsOf_46, qX1_formsOf_49, qX1_formsOf_52, qX1_formsOf_55, qX1_formsOf_58, jX1_formsOf_40_43, jX1_formsOf_40_46, jX1_formsOf_40_49, jX1_formsOf_40_52, jX1_formsOf_40_55, jX1_formsOf_40_58]
  rw [if_neg h5]
  have hd : Int32.toInt x < 0 ∨ 5 < Int32.toInt x := by
    have g0 : Int32.toInt x ≠ 0 := fun e => h0 (Int32.toInt_inj.mp (e.trans (by decide)))
    have g1 : Int32.toInt x ≠ 1 := fun e => h1 (Int32.toInt_inj.mp (e.trans (by decide)))
    have g2 : Int32.toInt x ≠ 2 := fun e => h2 (Int32.toInt_inj.mp (e.trans (by decide)))
    have g3 : Int32.toInt x ≠ 3 := fun e => h3 (Int32.toInt_inj.mp (e.trans (by decide)))
    have g4 : Int32.toInt x ≠ 4 := fun e => h4 (Int32.toInt_inj.mp (e.trans (by decide)))
    have g5 : Int32.toInt x ≠ 5 := fun e => h5 (Int32.toInt_inj.mp (e.trans (by decide)))
    omega
  simp only [uX1_formsOf_0, qX1_formsOf_0, jX1_formsOf_40_43, jX1_formsOf_40_46, jX1_formsOf_40_49, jX1_formsOf_40_52, jX1_formsOf_40_55, jX1_formsOf_40_58, uX1_formsOf_1, qX1_formsOf_1_d hd, uX1_formsOf_40, uX1_formsOf_43, uX1_formsOf_46, uX1_formsOf_49, uX1_formsOf_52, uX1_formsOf_55, uX1_formsOf_58, qX1_formsOf_40, qX1_formsOf_43, qX1_formsOf_46, qX1_formsOf_49, qX1_formsOf_52, qX1_formsOf_55, qX1_formsOf_58, jX1_formsOf_40_43, jX1_formsOf_40_46, jX1_formsOf_40_49, jX1_formsOf_40_52, jX1_formsOf_40_55, jX1_formsOf_40_58]
def choZ (x : Int32) : Nat := if x = 98 then 16 else if x = 105 then 15 else if x = 107 then 14 else if x = 115 then 15 else if x = 121 then 17 else 6
theorem choZ_lt {x : Int32} : choZ x < 18 := by
  unfold choZ
  repeat' split
  all_goals decide
theorem c_choicesOf {s : SG} {x : Int32} : xN sc (d + 1) 25 [.inl x] (wl K s) = some (some (.inr (.inr (.inr (3 + choZ x)))), wl K s) := by
  rw [mX1_choicesOf]
  unfold choZ
  by_cases h0 : x = 98
  · subst h0
    rw [if_pos rfl]
    simp only [uX1_choicesOf_0, qX1_choicesOf_0, jX1_choicesOf_52_55, jX1_choicesOf_52_58, jX1_choicesOf_52_61, jX1_choicesOf_52_64, uX1_choicesOf_1, qX1_choicesOf_1_c98, uX1_choicesOf_52, uX1_choicesOf_55, uX1_choicesOf_58, uX1_choicesOf_61, uX1_choicesOf_64, qX1_choicesOf_52, qX1_choicesOf_55, qX1_choicesOf_58, qX1_choicesOf_61, qX1_choicesOf_64, jX1_choicesOf_52_55, jX1_choicesOf_52_58, jX1_choicesOf_52_61, jX1_choicesOf_52_64]
  rw [if_neg h0]
  by_cases h1 : x = 105
  · subst h1
    rw [if_pos rfl]
    simp only [uX1_choicesOf_0, qX1_choicesOf_0, jX1_choicesOf_52_55, jX1_choicesOf_52_58, jX1_choicesOf_52_61, jX1_choicesOf_52_64, uX1_choicesOf_1, qX1_choicesOf_1_c105, uX1_choicesOf_52, uX1_choicesOf_55, uX1_choicesOf_58, uX1_choicesOf_61, uX1_choicesOf_64, qX1_choicesOf_52, qX1_choicesOf_55, qX1_choicesOf_58, qX1_choicesOf_61, qX1_choicesOf_64, jX1_choicesOf_52_55, jX1_choicesOf_52_58, jX1_choicesOf_52_61, jX1_choicesOf_52_64]
  rw [if_neg h1]
  by_cases h2 : x = 107
  · subst h2
    rw [if_pos rfl]
    simp only [uX1_choicesOf_0, qX1_choicesOf_0, jX1_choicesOf_52_55, jX1_choicesOf_52_58, jX1_choicesOf_52_61, jX1_choicesOf_52_64, uX1_choicesOf_1, qX1_choicesOf_1_c107, uX1_choicesOf_52, uX1_choicesOf_55, uX1_choicesOf_58, uX1_choicesOf_61, uX1_choicesOf_64, qX1_choicesOf_52, qX1_choicesOf_55, qX1_choicesOf_58, qX1_choicesOf_61, qX1_choicesOf_64, jX1_choicesOf_52_55, jX1_choicesOf_52_58, jX1_choicesOf_52_61, jX1_choicesOf_52_64]
  rw [if_neg h2]
  by_cases h3 : x = 115
  · subst h3
    rw [if_pos rfl]
    simp only [uX1_choicesOf_0, qX1_choicesOf_0, jX1_choicesOf_52_55, jX1_choicesOf_52_58, jX1_choicesOf_52_61, jX1_choicesOf_52_64, uX1_choicesOf_1, qX1_choicesOf_1_c115, uX1_choicesOf_52, uX1_choicesOf_55, uX1_choicesOf_58, uX1_choicesOf_61, uX1_choicesOf_64, qX1_choicesOf_52, qX1_choicesOf_55, qX1_choicesOf_58, qX1_choicesOf_61, qX1_choicesOf_64, jX1_choicesOf_52_55, jX1_choicesOf_52_58, jX1_choicesOf_52_61, jX1_choicesOf_52_64]
  rw [if_neg h3]
  by_cases h4 : x = 121
  · subst h4
    rw [if_pos rfl]
    simp only [uX1_choicesOf_0, qX1_choicesOf_0, jX1_choicesOf_52_55, jX1_choicesOf_52_58, jX1_choicesOf_52_61, jX1_choicesOf_52_64, uX1_choicesOf_1, qX1_choicesOf_1_c121, uX1_choicesOf_52, uX1_choicesOf_55, uX1_choicesOf_58, uX1_choicesOf_61, uX1_choicesOf_64, qX1_choicesOf_52, qX1_choicesOf_55, qX1_choicesOf_58, qX1_choicesOf_61, qX1_choicesOf_64, jX1_choicesOf_52_55, jX1_choicesOf_52_58, jX1_choicesOf_52_61, jX1_choicesOf_52_64]
  rw [if_neg h4]
  have hd : Op.lookupswitch.offset [(98, 57), (105, 54), (107, 51), (115, 54), (121, 60)] 63 (Int32.toInt x) = 63 := by
    have g0 : Int32.toInt x ≠ 98 := fun e => h0 (Int32.toInt_inj.mp (e.trans (by decide)))
    have g1 : Int32.toInt x ≠ 105 := fun e => h1 (Int32.toInt_inj.mp (e.trans (by decide)))
    have g2 : Int32.toInt x ≠ 107 := fun e => h2 (Int32.toInt_inj.mp (e.trans (by decide)))
    have g3 : Int32.toInt x ≠ 115 := fun e => h3 (Int32.toInt_inj.mp (e.trans (by decide)))
    have g4 : Int32.toInt x ≠ 121 := fun e => h4 (Int32.toInt_inj.mp (e.trans (by decide)))
    simp only [Op.lookupswitch.offset_cons, Op.lookupswitch.offset_nil, if_neg (Ne.symm g0), if_neg (Ne.symm g1), if_neg (Ne.symm g2), if_neg (Ne.symm g3), if_neg (Ne.symm g4)]
  simp only [uX1_choicesOf_0, qX1_choicesOf_0, jX1_choicesOf_52_55, jX1_choicesOf_52_58, jX1_choicesOf_52_61, jX1_choicesOf_52_64, uX1_choicesOf_1, qX1_choicesOf_1_d hd, uX1_choicesOf_52, uX1_choicesOf_55, uX1_choicesOf_58, uX1_choicesOf_61, uX1_choicesOf_64, qX1_choicesOf_52, qX1_choicesOf_55, qX1_choicesOf_58, qX1_choicesOf_61, qX1_choicesOf_64, jX1_choicesOf_52_55, jX1_choicesOf_52_58, jX1_choicesOf_52_61, jX1_choicesOf_52_64]
end XCK
end
section
section XCL
variable {sc : Nat × (Nat → Int32)} {d : Nat} {K : List KD} {r q t a B m : Nat} {w : EW}
/-! the reader goes on -/
def ln (s : SG) : Nat := (s 43 6).toNatClampNeg
def en (s : SG) : Nat := (s 43 9).toNatClampNeg
def st (s : SG) : Nat := (s 43 8).toNatClampNeg
/-- where the reader stands -/
def RA (s : SG) : Prop := s 43 6 = nI (ln s) ∧ ln s ≤ 600 ∧ s 43 9 = nI (en s) ∧ en s ≤ ln s
def RS (s : SG) : Prop := RA s ∧ s 43 8 = nI (st s) ∧ st s ≤ en s
def tok (s : SG) (j : Nat) : Int32 := cl 600 (s 54) (nI j)
def skB (s : SG) : Nat → Nat → Nat
  | 0, j => j
  | n + 1, j => if isb_I (tok s j) = 0 then j else skB s n (j + 1)
def skL (s : SG) : Nat → Nat → Nat
  | 0, j => j
  | n + 1, j => if isl_I (tok s j) = 0 then j else skL s n (j + 1)
def skD (s : SG) : Nat → Nat → Nat
  | 0, j => j
  | n + 1, j => if isd_I (tok s j) = 0 then j else skD s n (j + 1)
theorem skB_le {s : SG} : ∀ (n j : Nat), j ≤ skB s n j ∧ skB s n j ≤ j + n := by
  intro n
  induction n with
  | zero => intro j; rw [skB]; omega
  | succ n ih =>
    intro j
    rw [skB]
    split
    · omega
    · have := ih (j + 1); omega
theorem skL_le {s : SG} : ∀ (n j : Nat), j ≤ skL s n j ∧ skL s n j ≤ j + n := by
  intro n
  induction n with
  | zero => intro j; rw [skL]; omega
  | succ n ih =>
    intro j
    rw [skL]
    split
    · omega
    · have := ih (j + 1); omega
theorem skD_le {s : SG} : ∀ (n j : Nat), j ≤ skD s n j ∧ skD s n j ≤ j + n := by
  intro n
  induction n with
  | zero => intro j; rw [skD]; omega
  | succ n ih =>
    intro j
    rw [skD]
    split
    · omega
    · have := ih (j + 1); omega
theorem up_up {s : SG} {k j : Nat} {x y : Int32} : up (up s k j x) k j y = up s k j y := by
  funext a
  by_cases e : a = k
  · subst e
    rw [up_s, up_s, up_s]
    funext i
    by_cases g : i = j
    · subst g; rw [pk_us, pk_us]
    · rw [pk_un g, pk_un g, pk_un g]
  · rw [up_n e, up_n e, up_n e]
theorem up_self {s : SG} {k j : Nat} {x : Int32} (h : s k j = x) : up s k j x = s := by
  funext a
  by_cases e : a = k
  · subst e
    rw [up_s]
    funext i
    by_cases g : i = j
    · subst g; rw [pk_us, h]
    · rw [pk_un g]
  · rw [up_n e]
theorem l_adv8 {s : SG} {L : Nat} (h : SH K) (hL : s 43 6 = nI L) (h6 : L ≤ 600) {i : Nat → List EV → EW → XR} (hi : i = xN sc (d + 1)) : ∀ (n j k : Nat), j + n = L → n ≤ k → ∃ k', k ≤ k' + n ∧ fW sc 1 0 false 1 i (ex sc 1 0 false 1 i kX1_advance_0 k) kX1_advance_8 8 [some (.inr (.inr (.inl (some 43))))] [] (wl K (up s 43 8 (nI j))) = fW sc 1 0 false 1 i (ex sc 1 0 false 1 i kX1_advance_0 k') kX1_advance_49 49 [some (.inr (.inr (.inl (some 43))))] [] (wl K (up s 43 8 (nI (skB s n j)))) := by
  subst hi
  intro n
  induction n with
  | zero =>
    intro j k hj hk
    refine ⟨k, by omega, ?_⟩
    simp (decide := true) only [uX1_advance_8, qX1_advance_8, jX1_advance_19_49, jX1_advance_36_49, jX1_advance_68_76, jX1_advance_76_257, jX1_advance_93_139, jX1_advance_109_257, jX1_advance_126_257, jX1_advance_156_222, jX1_advance_167_197, jX1_advance_184_197, jX1_advance_211_215, jX1_advance_215_216, jX1_advance_222_257, jX1_advance_239_243, jX1_advance_243_244, jX1_advance_0_8, jX1_advance_0_98, jX1_advance_0_156, c43_g8 h, c43_g6 h, bd_eq, up_a, up_b, hL, if_pos (k_ge hj)]
    rw [skB]
  | succ n ih =>
    intro j k hj hk
    obtain ⟨k, rfl⟩ : ∃ k', k = k' + 1 := ⟨k - 1, by omega⟩
    obtain ⟨k2, hk2, e⟩ := ih (j + 1) k (by omega) (by omega)
    rw [nI_succ] at e
    simp (decide := true) only [uX1_advance_8, qX1_advance_8, jX1_advance_19_49, jX1_advance_36_49, jX1_advance_68_76, jX1_advance_76_257, jX1_advance_93_139, jX1_advance_109_257, jX1_advance_126_257, jX1_advance_156_222, jX1_advance_167_197, jX1_advance_184_197, jX1_advance_211_215, jX1_advance_215_216, jX1_advance_222_257, jX1_advance_239_243, jX1_advance_243_244, jX1_advance_0_8, jX1_advance_0_98, jX1_advance_0_156, c43_g8 h, c43_g6 h, bd_eq, up_a, up_b, hL, if_neg (k_lt hj (show L < 2 ^ 31 by omega))]
    simp (decide := true) only [uX1_advance_19, qX1_advance_19, jX1_advance_19_49, jX1_advance_36_49, jX1_advance_68_76, jX1_advance_76_257, jX1_advance_93_139, jX1_advance_109_257, jX1_advance_126_257, jX1_advance_156_222, jX1_advance_167_197, jX1_advance_184_197, jX1_advance_211_215, jX1_advance_215_216, jX1_advance_222_257, jX1_advance_239_243, jX1_advance_243_244, jX1_advance_0_8, jX1_advance_0_98, jX1_advance_0_156, c43_g4 h, c43_g8 h, bd_eq, up_a, lc54 h, xci_eq, up_c, c_isBlank]
    rw [skB]
    unfold tok
    split
    · exact ⟨k + 1, by omega, rfl⟩
    · refine ⟨k2, by omega, ?_⟩
      simp (decide := true) only [uX1_advance_36, qX1_advance_36, jX1_advance_19_49, jX1_advance_36_49, jX1_advance_68_76, jX1_advance_76_257, jX1_advance_93_139, jX1_advance_109_257, jX1_advance_126_257, jX1_advance_156_222, jX1_advance_167_197, jX1_advance_184_197, jX1_advance_211_215, jX1_advance_215_216, jX1_advance_222_257, jX1_advance_239_243, jX1_advance_243_244, jX1_advance_0_8, jX1_advance_0_98, jX1_advance_0_156, c43_g8 h, c43_p8 h, bd_eq, up_a, up_up, eX_eq]
      exact e
theorem l_adv98 {s : SG} {L : Nat} (h : SH K) (hL : s 43 6 = nI L) (h6 : L ≤ 600) {i : Nat → List EV → EW → XR} (hi : i = xN sc (d + 1)) : ∀ (n j k : Nat), j + n = L → n ≤ k → fW sc 1 0 false 1 i (ex sc 1 0 false 1 i kX1_advance_0 k) kX1_advance_98 98 [some (.inr (.inr (.inl (some 43))))] [] (wl K (up s 43 9 (nI j))) = some (none, wl K (up s 43 9 (nI (skL s n j)))) := by
  subst hi
  intro n
  induction n with
  | zero =>
    intro j k hj hk
    simp (decide := true) only [uX1_advance_98, qX1_advance_98, jX1_advance_19_49, jX1_advance_36_49, jX1_advance_68_76, jX1_advance_76_257, jX1_advance_93_139, jX1_advance_109_257, jX1_advance_126_257, jX1_advance_156_222, jX1_advance_167_197, jX1_advance_184_197, jX1_advance_211_215, jX1_advance_215_216, jX1_advance_222_257, jX1_advance_239_243, jX1_advance_243_244, jX1_advance_0_8, jX1_advance_0_98, jX1_advance_0_156, c43_g9 h, c43_g6 h, bd_eq, up_a, up_b, hL, if_pos (k_ge hj)]
    simp (decide := true) only [uX1_advance_257, qX1_advance_257, jX1_advance_19_49, jX1_advance_36_49, jX1_advance_68_76, jX1_advance_76_257, jX1_advance_93_139, jX1_advance_109_257, jX1_advance_126_257, jX1_advance_156_222, jX1_advance_167_197, jX1_advance_184_197, jX1_advance_211_215, jX1_advance_215_216, jX1_advance_222_257, jX1_advance_239_243, jX1_advance_243_244, jX1_advance_0_8, jX1_advance_0_98, jX1_advance_0_156]
    rw [skL]
  | succ n ih =>
    intro j k hj hk
    obtain ⟨k, rfl⟩ : ∃ k', k = k' + 1 := ⟨k - 1, by omega⟩
    have e := ih (j + 1) k (by omega) (by omega)
    rw [nI_succ] at e
    simp (decide := true) only [uX1_advance_98, qX1_advance_98, jX1_advance_19_49, jX1_advance_36_49, jX1_advance_68_76, jX1_advance_76_257, jX1_advance_93_139, jX1_advance_109_257, jX1_advance_126_257, jX1_advance_156_222, jX1_advance_167_197, jX1_advance_184_197, jX1_advance_211_215, jX1_advance_215_216, jX1_advance_222_257, jX1_advance_239_243, jX1_advance_243_244, jX1_advance_0_8, jX1_advance_0_98, jX1_advance_0_156, c43_g9 h, c43_g6 h, bd_eq, up_a, up_b, hL, if_neg (k_lt hj (show L < 2 ^ 31 by omega))]
    simp (decide := true) only [uX1_advance_109, qX1_advance_109, jX1_advance_19_49, jX1_advance_36_49, jX1_advance_68_76, jX1_advance_76_257, jX1_advance_93_139, jX1_advance_109_257, jX1_advance_126_257, jX1_advance_156_222, jX1_advance_167_197, jX1_advance_184_197, jX1_advance_211_215, jX1_advance_215_216, jX1_advance_222_257, jX1_advance_239_243, jX1_advance_243_244, jX1_advance_0_8, jX1_advance_0_98, jX1_advance_0_156, c43_g4 h, c43_g9 h, bd_eq, up_a, lc54 h, xci_eq, up_c, c_isLetter]
    rw [skL]
    unfold tok
    split
    · simp (decide := true) only [uX1_advance_257, qX1_advance_257, jX1_advance_19_49, jX1_advance_36_49, jX1_advance_68_76, jX1_advance_76_257, jX1_advance_93_139, jX1_advance_109_257, jX1_advance_126_257, jX1_advance_156_222, jX1_advance_167_197, jX1_advance_184_197, jX1_advance_211_215, jX1_advance_215_216, jX1_advance_222_257, jX1_advance_239_243, jX1_advance_243_244, jX1_advance_0_8, jX1_advance_0_98, jX1_advance_0_156]
    · simp (decide := true) only [uX1_advance_126, qX1_advance_126, jX1_advance_19_49, jX1_advance_36_49, jX1_advance_68_76, jX1_advance_76_257, jX1_advance_93_139, jX1_advance_109_257, jX1_advance_126_257, jX1_advance_156_222, jX1_advance_167_197, jX1_advance_184_197, jX1_advance_211_215, jX1_advance_215_216, jX1_advance_222_257, jX1_advance_239_243, jX1_advance_243_244, jX1_advance_0_8, jX1_advance_0_98, jX1_advance_0_156, c43_g9 h, c43_p9 h, bd_eq, up_a, up_up, eX_eq]
      exact e
theorem l_adv156 {s : SG} {L : Nat} (h : SH K) (hL : s 43 6 = nI L) (h6 : L ≤ 600) {i : Nat → List EV → EW → XR} (hi : i = xN sc (d + 1)) : ∀ (n j k : Nat), j + n = L → n ≤ k → ∃ k', k ≤ k' + n ∧ fW sc 1 0 false 1 i (ex sc 1 0 false 1 i kX1_advance_0 k) kX1_advance_156 156 [some (.inr (.inr (.inl (some 43))))] [] (wl K (up s 43 9 (nI j))) = fW sc 1 0 false 1 i (ex sc 1 0 false 1 i kX1_advance_0 k') kX1_advance_197 197 [some (.inr (.inr (.inl (some 43))))] [] (wl K (up s 43 9 (nI (skD s n j)))) := by
  subst hi
  intro n
  induction n with
  | zero =>
    intro j k hj hk
    refine ⟨k, by omega, ?_⟩
    simp (decide := true) only [uX1_advance_156, qX1_advance_156, jX1_advance_19_49, jX1_advance_36_49, jX1_advance_68_76, jX1_advance_76_257, jX1_advance_93_139, jX1_advance_109_257, jX1_advance_126_257, jX1_advance_156_222, jX1_advance_167_197, jX1_advance_184_197, jX1_advance_211_215, jX1_advance_215_216, jX1_advance_222_257, jX1_advance_239_243, jX1_advance_243_244, jX1_advance_0_8, jX1_advance_0_98, jX1_advance_0_156, c43_g9 h, c43_g6 h, bd_eq, up_a, up_b, hL, if_pos (k_ge hj)]
    rw [skD]
  | succ n ih =>
    intro j k hj hk
    obtain ⟨k, rfl⟩ : ∃ k', k = k' + 1 := ⟨k - 1, by omega⟩
    obtain ⟨k2, hk2, e⟩ := ih (j + 1) k (by omega) (by omega)
    rw [nI_succ] at e
    simp (decide := true) only [uX1_advance_156, qX1_advance_156, jX1_advance_19_49, jX1_advance_36_49, jX1_advance_68_76, jX1_advance_76_257, jX1_advance_93_139, jX1_advance_109_257, jX1_advance_126_257, jX1_advance_156_222, jX1_advance_167_197, jX1_advance_184_197, jX1_advance_211_215, jX1_advance_215_216, jX1_advance_222_257, jX1_advance_239_243, jX1_advance_243_244, jX1_advance_0_8, jX1_advance_0_98, jX1_advance_0_156, c43_g9 h, c43_g6 h, bd_eq, up_a, up_b, hL, if_neg (k_lt hj (show L < 2 ^ 31 by omega))]
    simp (decide := true) only [uX1_advance_167, qX1_advance_167, jX1_advance_19_49, jX1_advance_36_49, jX1_advance_68_76, jX1_advance_76_257, jX1_advance_93_139, jX1_advance_109_257, jX1_advance_126_257, jX1_advance_156_222, jX1_advance_167_197, jX1_advance_184_197, jX1_advance_211_215, jX1_advance_215_216, jX1_advance_222_257, jX1_advance_239_243, jX1_advance_243_244, jX1_advance_0_8, jX1_advance_0_98, jX1_advance_0_156, c43_g4 h, c43_g9 h, bd_eq, up_a, lc54 h, xci_eq, up_c, c_isDigit]
    rw [skD]
    unfold tok
    split
    · exact ⟨k + 1, by omega, rfl⟩
    · refine ⟨k2, by omega, ?_⟩
      simp (decide := true) only [uX1_advance_184, qX1_advance_184, jX1_advance_19_49, jX1_advance_36_49, jX1_advance_68_76, jX1_advance_76_257, jX1_advance_93_139, jX1_advance_109_257, jX1_advance_126_257, jX1_advance_156_222, jX1_advance_167_197, jX1_advance_184_197, jX1_advance_211_215, jX1_advance_215_216, jX1_advance_222_257, jX1_advance_239_243, jX1_advance_243_244, jX1_advance_0_8, jX1_advance_0_98, jX1_advance_0_156, c43_g9 h, c43_p9 h, bd_eq, up_a, up_up, eX_eq]
      exact e
/-- where the next token begins -/
def bg (s : SG) : Nat := skB s (ln s - en s) (en s)
def adv1 (s : SG) : SG := up (up s 43 8 (nI (bg s))) 43 9 (nI (bg s))
def advS (s : SG) : SG := if nI (bg s) < nI (ln s) then (if isl_I (tok s (bg s)) = 0 then (if isd_I (tok s (bg s)) = 0 then up (up (adv1 s) 43 7 (if tok s (bg s) = 59 then 3 else 4)) 43 9 (nI (bg s) + 1)
      else up (up (adv1 s) 43 9 (nI (skD s (ln s - bg s) (bg s)))) 43 7 (if 2 < nI (skD s (ln s - bg s) (bg s)) - nI (bg s) then 4 else 2))
    else up (up (adv1 s) 43 7 1) 43 9 (nI (skL s (ln s - bg s) (bg s)))) else up (adv1 s) 43 7 0
theorem skL_c {s t : SG} (e : s 54 = t 54) : ∀ (n j : Nat), skL s n j = skL t n j := by
  intro n
  induction n with
  | zero => intro j; rfl
  | succ n ih => intro j; rw [skL, skL, ih]; unfold tok; rw [e]
theorem skD_c {s t : SG} (e : s 54 = t 54) : ∀ (n j : Nat), skD s n j = skD t n j := by
  intro n
  induction n with
  | zero => intro j; rfl
  | succ n ih => intro j; rw [skD, skD, ih]; unfold tok; rw [e]
theorem bg_le {s : SG} (ra : RA s) : en s ≤ bg s ∧ bg s ≤ ln s := by
  have := skB_le (s := s) (ln s - en s) (en s)
  have := ra.2.2.2
  unfold bg; omega
theorem c_advance {s : SG} (h : SH K) (ra : RA s) : xN sc (d + 2) 36 [.inr (.inr (.inl (some 43)))] (wl K s) = some (none, wl K (advS s)) := by
  have hb := bg_le ra
  have hF := xF_ge
  obtain ⟨h1, h2, h3, h4⟩ := ra
  rw [mX1_advance]
  simp (decide := true) only [uX1_advance_0, qX1_advance_0, jX1_advance_19_49, jX1_advance_36_49, jX1_advance_68_76, jX1_advance_76_257, jX1_advance_93_139, jX1_advance_109_257, jX1_advance_126_257, jX1_advance_156_222, jX1_advance_167_197, jX1_advance_184_197, jX1_advance_211_215, jX1_advance_215_216, jX1_advance_222_257, jX1_advance_239_243, jX1_advance_243_244, jX1_advance_0_8, jX1_advance_0_98, jX1_advance_0_156, c43_g9 h, c43_p8 h, bd_eq, h3]
  obtain ⟨k, hk, e⟩ := l_adv8 (sc := sc) (d := d) (s := s) h h1 h2 rfl (ln s - en s) (en s) xF (by omega) (by omega)
  rw [e]
  show fW sc 1 0 false 1 (xN sc (d + 1)) (ex sc 1 0 false 1 (xN sc (d + 1)) kX1_advance_0 k) kX1_advance_49 49 [some (.inr (.inr (.inl (some 43))))] [] (wl K (up s 43 8 (nI (bg s)))) = _
  simp (decide := true) only [uX1_advance_49, qX1_advance_49, jX1_advance_19_49, jX1_advance_36_49, jX1_advance_68_76, jX1_advance_76_257, jX1_advance_93_139, jX1_advance_109_257, jX1_advance_126_257, jX1_advance_156_222, jX1_advance_167_197, jX1_advance_184_197, jX1_advance_211_215, jX1_advance_215_216, jX1_advance_222_257, jX1_advance_239_243, jX1_advance_243_244, jX1_advance_0_8, jX1_advance_0_98, jX1_advance_0_156, c43_g8 h, c43_p9 h, c43_g6 h, bd_eq, up_a, up_b]
  rw [h1]
  unfold advS
  by_cases c1 : nI (bg s) < nI (ln s)
  · rw [if_pos c1, if_pos c1]
    simp (decide := true) only [uX1_advance_76, qX1_advance_76, jX1_advance_19_49, jX1_advance_36_49, jX1_advance_68_76, jX1_advance_76_257, jX1_advance_93_139, jX1_advance_109_257, jX1_advance_126_257, jX1_advance_156_222, jX1_advance_167_197, jX1_advance_184_197, jX1_advance_211_215, jX1_advance_215_216, jX1_advance_222_257, jX1_advance_239_243, jX1_advance_243_244, jX1_advance_0_8, jX1_advance_0_98, jX1_advance_0_156, c43_g4 h, c43_g8 h, bd_eq, up_a, up_b, up_c, lc54 h, xci_eq, c_isLetter]
    have t0 : cl 600 (s 54) (nI (bg s)) = tok s (bg s) := rfl
    rw [t0]
    by_cases c2 : isl_I (tok s (bg s)) = 0
    · rw [if_pos c2, if_pos c2]
      simp (decide := true) only [uX1_advance_139, qX1_advance_139, jX1_advance_19_49, jX1_advance_36_49, jX1_advance_68_76, jX1_advance_76_257, jX1_advance_93_139, jX1_advance_109_257, jX1_advance_126_257, jX1_advance_156_222, jX1_advance_167_197, jX1_advance_184_197, jX1_advance_211_215, jX1_advance_215_216, jX1_advance_222_257, jX1_advance_239_243, jX1_advance_243_244, jX1_advance_0_8, jX1_advance_0_98, jX1_advance_0_156, c43_g4 h, c43_g8 h, bd_eq, up_a, up_b, up_c, lc54 h, xci_eq, c_isDigit]
      rw [t0]
      by_cases c3 : isd_I (tok s (bg s)) = 0
      · rw [if_pos c3, if_pos c3]
        simp (decide := true) only [uX1_advance_222, qX1_advance_222, jX1_advance_19_49, jX1_advance_36_49, jX1_advance_68_76, jX1_advance_76_257, jX1_advance_93_139, jX1_advance_109_257, jX1_advance_126_257, jX1_advance_156_222, jX1_advance_167_197, jX1_advance_184_197, jX1_advance_211_215, jX1_advance_215_216, jX1_advance_222_257, jX1_advance_239_243, jX1_advance_243_244, jX1_advance_0_8, jX1_advance_0_98, jX1_advance_0_156, c43_g4 h, c43_g8 h, bd_eq, up_a, up_b, up_c, lc54 h, xci_eq]
        rw [t0]
        by_cases c4 : tok s (bg s) = 59
        · rw [if_pos c4, if_pos c4]
          simp (decide := true) only [uX1_advance_239, uX1_advance_243, uX1_advance_244, uX1_advance_257, qX1_advance_239, qX1_advance_243, qX1_advance_244, qX1_advance_257, jX1_advance_19_49, jX1_advance_36_49, jX1_advance_68_76, jX1_advance_76_257, jX1_advance_93_139, jX1_advance_109_257, jX1_advance_126_257, jX1_advance_156_222, jX1_advance_167_197, jX1_advance_184_197, jX1_advance_211_215, jX1_advance_215_216, jX1_advance_222_257, jX1_advance_239_243, jX1_advance_243_244, jX1_advance_0_8, jX1_advance_0_98, jX1_advance_0_156, c43_p7 h, c43_g9 h, c43_p9 h, bd_eq, up_a, up_b]
          rfl
        · rw [if_neg c4, if_neg c4]
          simp (decide := true) only [uX1_advance_239, uX1_advance_243, uX1_advance_244, uX1_advance_257, qX1_advance_239, qX1_advance_243, qX1_advance_244, qX1_advance_257, jX1_advance_19_49, jX1_advance_36_49, jX1_advance_68_76, jX1_advance_76_257, jX1_advance_93_139, jX1_advance_109_257, jX1_advance_126_257, jX1_advance_156_222, jX1_advance_167_197, jX1_advance_184_197, jX1_advance_211_215, jX1_advance_215_216, jX1_advance_222_257, jX1_advance_239_243, jX1_advance_243_244, jX1_advance_0_8, jX1_advance_0_98, jX1_advance_0_156, c43_p7 h, c43_g9 h, c43_p9 h, bd_eq, up_a, up_b]
          rfl
      · rw [if_neg c3, if_neg c3]
        have e2 : up (adv1 s) 43 9 (nI (bg s)) = adv1 s := up_self (by unfold adv1; rw [up_a])
        obtain ⟨k2, hk2, e3⟩ := l_adv156 (sc := sc) (d := d) (s := adv1 s) (L := ln s) h (by unfold adv1; rw [up_b (by decide), up_b (by decide), h1]) h2 rfl (ln s - bg s) (bg s) k (by omega) (by omega)
        rw [e2] at e3
        rw [show up (up s 43 8 (nI (bg s))) 43 9 (nI (bg s)) = adv1 s from rfl, e3]
        rw [skD_c (s := adv1 s) (t := s) (by unfold adv1; rw [up_c (by decide), up_c (by decide)])]
        have e8 : (up (adv1 s) 43 9 (nI (skD s (ln s - bg s) (bg s)))) 43 8 = nI (bg s) := by unfold adv1; rw [up_b (by decide), up_b (by decide), up_a]
        simp (decide := true) only [uX1_advance_197, qX1_advance_197, jX1_advance_19_49, jX1_advance_36_49, jX1_advance_68_76, jX1_advance_76_257, jX1_advance_93_139, jX1_advance_109_257, jX1_advance_126_257, jX1_advance_156_222, jX1_advance_167_197, jX1_advance_184_197, jX1_advance_211_215, jX1_advance_215_216, jX1_advance_222_257, jX1_advance_239_243, jX1_advance_243_244, jX1_advance_0_8, jX1_advance_0_98, jX1_advance_0_156, c43_g9 h, c43_g8 h, bd_eq, up_a, e8]
        by_cases c4 : 2 < nI (skD s (ln s - bg s) (bg s)) - nI (bg s)
        · rw [if_pos c4, if_pos c4]
          simp (decide := true) only [uX1_advance_211, uX1_advance_215, uX1_advance_216, uX1_advance_222, uX1_advance_239, uX1_advance_243, uX1_advance_244, uX1_advance_257, qX1_advance_211, qX1_advance_215, qX1_advance_216, qX1_advance_222, qX1_advance_239, qX1_advance_243, qX1_advance_244, qX1_advance_257, jX1_advance_19_49, jX1_advance_36_49, jX1_advance_68_76, jX1_advance_76_257, jX1_advance_93_139, jX1_advance_109_257, jX1_advance_126_257, jX1_advance_156_222, jX1_advance_167_197, jX1_advance_184_197, jX1_advance_211_215, jX1_advance_215_216, jX1_advance_222_257, jX1_advance_239_243, jX1_advance_243_244, jX1_advance_0_8, jX1_advance_0_98, jX1_advance_0_156, c43_p7 h, bd_eq]
        · rw [if_neg c4, if_neg c4]
          simp (decide := true) only [uX1_advance_211, uX1_advance_215, uX1_advance_216, uX1_advance_222, uX1_advance_239, uX1_advance_243, uX1_advance_244, uX1_advance_257, qX1_advance_211, qX1_advance_215, qX1_advance_216, qX1_advance_222, qX1_advance_239, qX1_advance_243, qX1_advance_244, qX1_advance_257, jX1_advance_19_49, jX1_advance_36_49, jX1_advance_68_76, jX1_advance_76_257, jX1_advance_93_139, jX1_advance_109_257, jX1_advance_126_257, jX1_advance_156_222, jX1_advance_167_197, jX1_advance_184_197, jX1_advance_211_215, jX1_advance_215_216, jX1_advance_222_257, jX1_advance_239_243, jX1_advance_243_244, jX1_advance_0_8, jX1_advance_0_98, jX1_advance_0_156, c43_p7 h, bd_eq]
    · rw [if_neg c2, if_neg c2]
      simp (decide := true) only [uX1_advance_93, qX1_advance_93, jX1_advance_19_49, jX1_advance_36_49, jX1_advance_68_76, jX1_advance_76_257, jX1_advance_93_139, jX1_advance_109_257, jX1_advance_126_257, jX1_advance_156_222, jX1_advance_167_197, jX1_advance_184_197, jX1_advance_211_215, jX1_advance_215_216, jX1_advance_222_257, jX1_advance_239_243, jX1_advance_243_244, jX1_advance_0_8, jX1_advance_0_98, jX1_advance_0_156, c43_p7 h, bd_eq]
      have e2 : up (up (adv1 s) 43 7 1) 43 9 (nI (bg s)) = up (adv1 s) 43 7 1 := up_self (by unfold adv1; rw [up_b (by decide), up_a])
      have e3 := l_adv98 (sc := sc) (d := d) (s := up (adv1 s) 43 7 1) (L := ln s) h (by unfold adv1; rw [up_b (by decide), up_b (by decide), up_b (by decide), h1]) h2 rfl (ln s - bg s) (bg s) k (by omega) (by omega)
      rw [e2] at e3
      rw [show up (up s 43 8 (nI (bg s))) 43 9 (nI (bg s)) = adv1 s from rfl, e3]
      rw [skL_c (s := up (adv1 s) 43 7 1) (t := s) (by unfold adv1; rw [up_c (by decide), up_c (by decide), up_c (by decide)])]
  · rw [if_neg c1, if_neg c1]
    simp (decide := true) only [uX1_advance_68, qX1_advance_68, jX1_advance_19_49, jX1_advance_36_49, jX1_advance_68_76, jX1_advance_76_257, jX1_advance_93_139, jX1_advance_109_257, jX1_advance_126_257, jX1_advance_156_222, jX1_advance_167_197, jX1_advance_184_197, jX1_advance_211_215, jX1_advance_215_216, jX1_advance_222_257, jX1_advance_239_243, jX1_advance_243_244, jX1_advance_0_8, jX1_advance_0_98, jX1_advance_0_156, uX1_advance_257, qX1_advance_257, jX1_advance_19_49, jX1_advance_36_49, jX1_advance_68_76, jX1_advance_76_257, jX1_advance_93_139, jX1_advance_109_257, jX1_advance_126_257, jX1_advance_156_222, jX1_advance_167_197, jX1_advance_184_197, jX1_advance_211_215, jX1_advance_215_216, jX1_advance_222_257, jX1_advance_239_243, jX1_advance_243_244, jX1_advance_0_8, jX1_advance_0_98, jX1_advance_0_156, c43_p7 h, bd_eq]
    rfl
theorem advS_n {s : SG} {c : Nat} (hc : c ≠ 43) : advS s c = s c := by
  unfold advS adv1
  repeat' split
  all_goals simp only [up_n hc]
theorem advS_lo {s : SG} {c : Nat} (ha : c < 42 ∨ 64 ≤ c) : advS s c = s c := advS_n (by omega)
/-- after a step: where the reader stands -/
theorem advS_at {s : SG} (ra : RA s) : ∃ b, advS s 43 6 = nI (ln s) ∧ advS s 43 8 = nI (bg s) ∧ advS s 43 9 = nI b ∧ bg s ≤ b ∧ b ≤ ln s ∧ (advS s 43 7 ≠ 0 → en s < b) ∧ (advS s 43 7 = 2 → b ≤ bg s + 2) := by
  have hb := bg_le ra
  obtain ⟨h1, h2, h3, h4⟩ := ra
  unfold advS
  by_cases c1 : nI (bg s) < nI (ln s)
  · have hlt : bg s < ln s := by
      rw [Int32.lt_iff_toInt_lt, nI_toInt (by omega), nI_toInt (by omega)] at c1; omega
    rw [if_pos c1]
    by_cases c2 : isl_I (tok s (bg s)) = 0
    · rw [if_pos c2]
      by_cases c3 : isd_I (tok s (bg s)) = 0
      · rw [if_pos c3]
        refine ⟨bg s + 1, ?_, ?_, ?_, by omega, by omega, fun _ => by omega, fun _ => by omega⟩
        · unfold adv1; simp (decide := true) only [up_a, up_b]; exact h1
        · unfold adv1; simp (decide := true) only [up_a, up_b]
        · rw [up_a, nI_succ]
      · rw [if_neg c3]
        have hs := skD_le (s := s) (ln s - bg s) (bg s)
        obtain ⟨n, hn⟩ : ∃ n, ln s - bg s = n + 1 := ⟨ln s - bg s - 1, by omega⟩
        have hs2 : bg s + 1 ≤ skD s (ln s - bg s) (bg s) := by
          rw [hn, skD, if_neg c3]
          exact (skD_le n (bg s + 1)).1
        refine ⟨skD s (ln s - bg s) (bg s), ?_, ?_, ?_, by omega, by omega, fun _ => by omega, ?_⟩
        · unfold adv1; simp (decide := true) only [up_a, up_b]; exact h1
        · unfold adv1; simp (decide := true) only [up_a, up_b]
        · simp (decide := true) only [up_a, up_b]
        · rw [up_a]
          intro q
          split at q
          · exact absurd q (by decide)
          · rename_i c5
            rw [Int32.not_lt] at c5
            generalize skD s (ln s - bg s) (bg s) = e at *
            have e5 : nI e - nI (bg s) = nI (e - bg s) := by
              have := nI_add (e - bg s) (bg s)
              rw [show e - bg s + bg s = e by omega] at this
              rw [← this, Int32.add_sub_cancel]
            rw [e5, Int32.le_iff_toInt_le, nI_toInt (by omega)] at c5
            have : (2 : Int32).toInt = 2 := by decide
            omega
    · rw [if_neg c2]
      have hs := skL_le (s := s) (ln s - bg s) (bg s)
      obtain ⟨n, hn⟩ : ∃ n, ln s - bg s = n + 1 := ⟨ln s - bg s - 1, by omega⟩
      have hs2 : bg s + 1 ≤ skL s (ln s - bg s) (bg s) := by
        rw [hn, skL, if_neg c2]
        exact (skL_le n (bg s + 1)).1
      refine ⟨skL s (ln s - bg s) (bg s), ?_, ?_, ?_, by omega, by omega, fun _ => by omega, ?_⟩
      · unfold adv1; simp (decide := true) only [up_a, up_b]; exact h1
      · unfold adv1; simp (decide := true) only [up_a, up_b]
      · rw [up_a]
      · unfold adv1
        intro q
        simp (decide := true) only [up_a, up_b] at q
  · rw [if_neg c1]
    refine ⟨bg s, ?_, ?_, ?_, by omega, by omega, ?_, ?_⟩
    · unfold adv1; simp (decide := true) only [up_a, up_b]; exact h1
    · unfold adv1; simp (decide := true) only [up_a, up_b]
    · unfold adv1; simp (decide := true) only [up_a, up_b]
    · intro q; rw [up_a] at q; exact absurd rfl q
    · intro q; rw [up_a] at q; exact absurd q (by decide)
theorem advS_RS {s : SG} (ra : RA s) : RS (advS s) := by
  obtain ⟨b, a6, a8, a9, b1, b2, b3, b4⟩ := advS_at ra
  have h2 := ra.2.1
  have e6 : ln (advS s) = ln s := by unfold ln; rw [a6, nI_clamp (by unfold ln at *; omega)]; rfl
  have e9 : en (advS s) = b := by unfold en; rw [a9, nI_clamp (by omega)]
  have e8 : st (advS s) = bg s := by unfold st; rw [a8, nI_clamp (by omega)]
  refine ⟨⟨?_, ?_, ?_, ?_⟩, ?_, ?_⟩
  · rw [e6]; exact a6
  · rw [e6]; exact h2
  · rw [e9]; exact a9
  · rw [e9, e6]; exact b2
  · rw [e8]; exact a8
  · rw [e8, e9]; exact b1
end XCL
end
