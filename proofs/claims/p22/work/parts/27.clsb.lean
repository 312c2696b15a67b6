section XCB
variable {sc : Nat × (Nat → Int32)} {d : Nat} {K : List KD} {r q t a B m : Nat} {w : EW}
def al (s : SG) (r : Nat) : Nat := 2 ^ sz s r - 1
theorem al_eq {s : SG} (h : SZ s r) : allI s r = nI (al s r) ∧ al s r ≤ 63 := by
  unfold allI al
  have h2 := h.2
  rw [h.1]
  rcases (by omega : sz s r = 0 ∨ sz s r = 1 ∨ sz s r = 2 ∨ sz s r = 3 ∨ sz s r = 4 ∨ sz s r = 5 ∨ sz s r = 6) with e | e | e | e | e | e | e <;> rw [e] <;> exact ⟨by decide, by decide⟩
theorem nI_lt2 {a b : Nat} (h : a < b) (hb : b < 2 ^ 31) : nI a < nI b := by
  rw [Int32.lt_iff_toInt_lt, nI_toInt (by omega), nI_toInt hb]; omega
theorem al_gt {s : SG} {j : Nat} (h : SZ s r) (hj : j + 0 = al s r + 1) : allI s r < nI j := by
  have e := al_eq h
  rw [e.1]; exact nI_lt2 (by omega) (by omega)
theorem al_le {s : SG} {j n : Nat} (h : SZ s r) (hj : j + (n + 1) = al s r + 1) : ¬ allI s r < nI j := by
  have e := al_eq h
  rw [e.1, Int32.not_lt, Int32.le_iff_toInt_le, nI_toInt (by omega), nI_toInt (by omega)]; omega
theorem al_63 {s : SG} (h : SZ s r) : al s r ≤ 63 := (al_eq h).2
theorem sz_gt {s : SG} {j : Nat} (h : SZ s r) (hj : j + 0 = sz s r + 1) : s r 0 < nI j := by
  have := h.2
  rw [h.1]; exact nI_lt2 (by omega) (by omega)
theorem sz_le {s : SG} {j n : Nat} (h : SZ s r) (hj : j + (n + 1) = sz s r + 1) : ¬ s r 0 < nI j := by
  have := h.2
  rw [h.1, Int32.not_lt, Int32.le_iff_toInt_le, nI_toInt (by omega), nI_toInt (by omega)]; omega
theorem k_ge {j m : Nat} (hj : j + 0 = m) : nI m ≤ nI j := by rw [← hj]; exact Int32.le_refl _
theorem k_lt {j n m : Nat} (hj : j + (n + 1) = m) (hm : m < 2 ^ 31) : ¬ nI m ≤ nI j := nI_ge (by omega) hm
theorem wl_setF {s : SG} {k : Nat} {f : Nat → Int32} {kd : KD} (h : K[k]? = some kd) : (wl K s).set k (fc f kd) = wl K (sF s k f) := by
  apply List.ext_getElem?
  intro a
  rw [List.getElem?_set]
  simp only [wl, List.getElem?_mapIdx, List.length_mapIdx]
  by_cases e : k = a
  · subst e
    obtain ⟨hl, hh⟩ := List.getElem?_eq_some_iff.mp h
    rw [if_pos rfl, if_pos hl, h]
    simp [sF_s]
  · rw [if_neg e, sF_n (fun q => e q.symm)]
theorem fl_step {s : SG} {k j : Nat} {x : Int32} : up (flS j s k x) k j x = flS (j + 1) s k x := by
  funext a
  by_cases e : a = k
  · subst e
    funext i
    unfold flS
    rw [up_s, sF_s, sF_s]
    by_cases g : i = j
    · subst g; rw [pk_us, if_pos (by omega)]
    · rw [pk_un g]
      by_cases g2 : i < j
      · rw [if_pos g2, if_pos (by omega)]
      · rw [if_neg g2, if_neg (by omega)]
  · rw [up_n e, fl_n e, fl_n e]
theorem fl_zero {s : SG} {k : Nat} {x : Int32} : flS 0 s k x = s := by
  funext a
  by_cases e : a = k
  · subst e
    funext i
    unfold flS
    rw [sF_s, if_neg (by omega)]
  · rw [fl_n e]
theorem l_fill {s : SG} {k n : Nat} {x : Int32} (hk : K[k]? = some (kI 0 n)) (hn : n ≤ 40000) {i : Nat → List EV → EW → XR} : ∀ (m j z : Nat), j + m = n → m ≤ z → fW sc 17 0 false 4 i (ex sc 17 0 false 4 i kJ7_fill_53178_0 z) kJ7_fill_53178_5 5 [some (.inr (.inr (.inl (some k)))), some (.inl x), some (.inl (nI j)), some (.inl (nI n))] [] (wl K (flS j s k x)) = some (none, wl K (flS n s k x)) := by
  intro m
  induction m with
  | zero =>
    intro j z hj hz
    have e : j = n := by omega
    subst e
    simp only [uJ7_fill_53178_5, qJ7_fill_53178_5, jJ7_fill_53178_10_20, jJ7_fill_53178_0_5]
    rw [if_pos (Int32.le_refl _)]
    simp only [uJ7_fill_53178_20, qJ7_fill_53178_20, jJ7_fill_53178_10_20, jJ7_fill_53178_0_5]
  | succ m ih =>
    intro j z hj hz
    obtain ⟨z, rfl⟩ : ∃ z', z = z' + 1 := ⟨z - 1, by omega⟩
    have e := ih (j + 1) z (by omega) (by omega)
    rw [nI_succ] at e
    simp only [uJ7_fill_53178_5, qJ7_fill_53178_5, jJ7_fill_53178_10_20, jJ7_fill_53178_0_5]
    rw [if_neg (nI_ge (a := j) (b := n) (by omega) (by omega))]
    simp only [uJ7_fill_53178_10, qJ7_fill_53178_10, jJ7_fill_53178_10_20, jJ7_fill_53178_0_5, eX_eq, xti_wl hk (xvb_nI (j := j) (n := n) (by omega) (by omega)), bd_eq]
    rw [nI_clamp (by omega), fl_step]
    exact e
theorem c_fill {s : SG} {k n : Nat} {x : Int32} (hk : K[k]? = some (kI 0 n)) (hn : n ≤ 40000) : xN sc (d + 1) 292 [.inr (.inr (.inl (some k))), .inl x] (wl K s) = some (none, wl K (flS n s k x)) := by
  rw [mJ7_fill_53178]
  simp only [uJ7_fill_53178_0, qJ7_fill_53178_0, jJ7_fill_53178_10_20, jJ7_fill_53178_0_5, xnn_wl hk rfl, bd_eq]
  have e := l_fill (sc := sc) (K := K) (s := s) (x := x) hk hn (i := xN sc d) n 0 xF (by omega) (by have := xF_ge; omega)
  rw [fl_zero] at e
  exact e
theorem q_copy11 {s : SG} {k0 k1 n : Nat} (h0 : K[k0]? = some (kI 0 n)) (h1 : K[k1]? = some (kI 0 n)) (hn : n < 2 ^ 31) {o rt nL : Nat} {ini : Bool} {i : Nat → List EV → EW → XR} {b g : Nat → XL → XS → EW → XR} {ls : XL} : fz sc 6 0 false 2 i b g aX6_copy_11 11 ls [.inl (nI n), .inl 0, .inr (.inr (.inl (some k1))), .inl 0, .inr (.inr (.inl (some k0)))] (wl K s) = g 14 ls [] (wl K (cpS n s k0 k1)) := by
  show (match (wl K s)[k0]?, (wl K s)[k1]? with
        | some (.inr (.inl (t0, n0, f))), some (.inr (.inl (t1, n1, g'))) => (if (0 : Int32) < 0 ∨ (0 : Int32) < 0 ∨ nI n < 0 then none else bif Nat.beq t0 0 && Nat.beq t1 0 && Nat.ble ((0 : Int32).toNatClampNeg + (nI n).toNatClampNeg) n0 && Nat.ble ((0 : Int32).toNatClampNeg + (nI n).toNatClampNeg) n1 then g 14 ls [] ((wl K s).set k1 (cI 0 n1 (va_cpy f g' (0 : Int32).toNatClampNeg (0 : Int32).toNatClampNeg (nI n).toNatClampNeg))) else none)
        | _, _ => none) = _
  rw [wl_get h0, wl_get h1]
  simp only [fc]
  have z : (0 : Int32).toNatClampNeg = 0 := by decide
  rw [if_neg (by intro q; rcases q with q | q | q <;> first | exact absurd q (by decide) | exact nI_pos hn q), nI_clamp hn, z]
  have hb : Nat.ble (0 + n) n = true := by rw [Nat.zero_add]; exact Nat.ble_self_eq_true n
  rw [hb]
  simp only [Nat.beq_refl, Bool.and_self, cond_true]
  congr 1
  unfold cpS
  rw [← wl_setF h1]
  simp only [fc]
  congr 3
  funext j
  unfold va_cpy
  by_cases e : j < n
  · rw [if_pos ⟨by omega, by omega⟩, if_pos e]
    congr 1
    omega
  · rw [if_neg (by omega), if_neg e]
theorem c_copy {s : SG} {k0 k1 n : Nat} (h0 : K[k0]? = some (kI 0 n)) (h1 : K[k1]? = some (kI 0 n)) (hn : n < 2 ^ 31) : xN sc (d + 1) 146 [.inr (.inr (.inl (some k0))), .inr (.inr (.inl (some k1)))] (wl K s) = some (none, wl K (cpS n s k0 k1)) := by
  rw [mX6_copy]
  simp only [uX6_copy_0, qX6_copy_0, xnn_wl h0 rfl, xnn_wl h1 rfl, bd_eq]
  rw [if_neg (Int32.lt_irrefl (a := nI n))]
  rw [uX6_copy_11, q_copy11 h0 h1 hn (o := 0) (rt := 0) (nL := 0) (ini := false)]
  simp only [uX6_copy_14, qX6_copy_14]
theorem c_copy3 {s : SG} {k0 k1 : Nat} (h0 : K[k0]? = some (kI 0 3)) (h1 : K[k1]? = some (kI 0 3)) : xN sc (d + 1) 146 [.inr (.inr (.inl (some k0))), .inr (.inr (.inl (some k1)))] (wl K s) = some (none, wl K (cpS 3 s k0 k1)) := c_copy h0 h1 (by decide)
theorem c_copy5 {s : SG} {k0 k1 : Nat} (h0 : K[k0]? = some (kI 0 5)) (h1 : K[k1]? = some (kI 0 5)) : xN sc (d + 1) 146 [.inr (.inr (.inl (some k0))), .inr (.inr (.inl (some k1)))] (wl K s) = some (none, wl K (cpS 5 s k0 k1)) := c_copy h0 h1 (by decide)
theorem c_copy6 {s : SG} {k0 k1 : Nat} (h0 : K[k0]? = some (kI 0 6)) (h1 : K[k1]? = some (kI 0 6)) : xN sc (d + 1) 146 [.inr (.inr (.inl (some k0))), .inr (.inr (.inl (some k1)))] (wl K s) = some (none, wl K (cpS 6 s k0 k1)) := c_copy h0 h1 (by decide)
theorem c_copy72 {s : SG} {k0 k1 : Nat} (h0 : K[k0]? = some (kI 0 72)) (h1 : K[k1]? = some (kI 0 72)) : xN sc (d + 1) 146 [.inr (.inr (.inl (some k0))), .inr (.inr (.inl (some k1)))] (wl K s) = some (none, wl K (cpS 72 s k0 k1)) := c_copy h0 h1 (by decide)
theorem c_copy200 {s : SG} {k0 k1 : Nat} (h0 : K[k0]? = some (kI 0 200)) (h1 : K[k1]? = some (kI 0 200)) : xN sc (d + 1) 146 [.inr (.inr (.inl (some k0))), .inr (.inr (.inl (some k1)))] (wl K s) = some (none, wl K (cpS 200 s k0 k1)) := c_copy h0 h1 (by decide)
theorem c_copy600 {s : SG} {k0 k1 : Nat} (h0 : K[k0]? = some (kI 0 600)) (h1 : K[k1]? = some (kI 0 600)) : xN sc (d + 1) 146 [.inr (.inr (.inl (some k0))), .inr (.inr (.inl (some k1)))] (wl K s) = some (none, wl K (cpS 600 s k0 k1)) := c_copy h0 h1 (by decide)
theorem fcR5 {s : SG} {x : Int32} (h : RP K r) : xN sc (d + 1) 292 [.inr (.inr (.inl (some (r + 5)))), .inl x] (wl K s) = some (none, wl K (flS 72 s (r + 5) x)) := c_fill (h.2.2.2.2.2.1) (by decide)
theorem fcR6 {s : SG} {x : Int32} (h : RP K r) : xN sc (d + 1) 292 [.inr (.inr (.inl (some (r + 6)))), .inl x] (wl K s) = some (none, wl K (flS 6 s (r + 6) x)) := c_fill (h.2.2.2.2.2.2.1) (by decide)
theorem fcR7 {s : SG} {x : Int32} (h : RP K r) : xN sc (d + 1) 292 [.inr (.inr (.inl (some (r + 7)))), .inl x] (wl K s) = some (none, wl K (flS 3 s (r + 7) x)) := c_fill (h.2.2.2.2.2.2.2) (by decide)
theorem fcW1 {s : SG} {x : Int32} (h : RW K q) : xN sc (d + 1) 292 [.inr (.inr (.inl (some (q + 1)))), .inl x] (wl K s) = some (none, wl K (flS 200 s (q + 1) x)) := c_fill h.2 (by decide)
theorem fc55 {s : SG} {x : Int32} (h : SH K) : xN sc (d + 1) 292 [.inr (.inr (.inl (some 55))), .inl x] (wl K s) = some (none, wl K (flS 5 s 55 x)) := c_fill (K55 h) (by decide)
theorem fc58 {s : SG} {x : Int32} (h : SH K) : xN sc (d + 1) 292 [.inr (.inr (.inl (some 58))), .inl x] (wl K s) = some (none, wl K (flS 6 s 58 x)) := c_fill (K58 h) (by decide)
theorem fc63 {s : SG} {x : Int32} (h : SH K) : xN sc (d + 1) 292 [.inr (.inr (.inl (some 63))), .inl x] (wl K s) = some (none, wl K (flS 1000 s 63 x)) := c_fill (K63 h) (by decide)
def facF : Nat → Int32 := (xkx (0, fun _ => 0) 1).2
def facI (i : Int32) : Int32 := cl 7 facF i
theorem c_cellK1 {i : Int32} : xN sc (d + 1) 144 [.inr (.inr (.inr 1)), .inl i] w = some (some (.inl (facI i)), w) := by
  have e1 : xnn sc w (.inr (.inr (.inr 1))) = some 7 := rfl
  rw [mX6_cellK]
  simp only [uX6_cell_0, uX6_cell_4, uX6_cell_10, uX6_cell_16, uX6_cell_17, qX6_cellK_0, qX6_cellK_4, qX6_cellK_10, qX6_cellK_16, qX6_cellK_17, jX6_cell_4_16, jX6_cell_10_16, jX6_cell_16_17, e1, bd_eq]
  unfold facI cl
  split
  · rfl
  · split
    · rfl
    · rename_i h1 h2
      have e2 : xdi sc w i (.inr (.inr (.inr 1))) = some (facF i.toNatClampNeg) := by
        have e3 : xvb i 7 = true := xvb_of (by decide) h1 h2
        show (bif Nat.blt 1 3 && xvb i 7 then some (facF i.toNatClampNeg) else none) = _
        rw [e3]; rfl
      rw [e2]; rfl
def mosF : Nat → Int32 := (xkx (0, fun _ => 0) 0).2
def mosI (i : Int32) : Int32 := cl 6 mosF i
theorem c_cellK0 {i : Int32} : xN sc (d + 1) 144 [.inr (.inr (.inr 0)), .inl i] w = some (some (.inl (mosI i)), w) := by
  have e1 : xnn sc w (.inr (.inr (.inr 0))) = some 6 := rfl
  rw [mX6_cellK]
  simp only [uX6_cell_0, uX6_cell_4, uX6_cell_10, uX6_cell_16, uX6_cell_17, qX6_cellK_0, qX6_cellK_4, qX6_cellK_10, qX6_cellK_16, qX6_cellK_17, jX6_cell_4_16, jX6_cell_10_16, jX6_cell_16_17, e1, bd_eq]
  unfold mosI cl
  split
  · rfl
  · split
    · rfl
    · rename_i h1 h2
      have e2 : xdi sc w i (.inr (.inr (.inr 0))) = some (mosF i.toNatClampNeg) := by
        have e3 : xvb i 6 = true := xvb_of (by decide) h1 h2
        show (bif Nat.blt 0 3 && xvb i 6 then some (mosF i.toNatClampNeg) else none) = _
        rw [e3]; rfl
      rw [e2]; rfl
def bitI (x : Int32) : Int32 := (((((((x - ((Int32.toUInt32 x >>> (Int32.toUInt32 1 &&& Int32.toUInt32 31)).toInt32 &&& 1431655765)) &&& 858993459) + ((Int32.toUInt32 (x - ((Int32.toUInt32 x >>> (Int32.toUInt32 1 &&& Int32.toUInt32 31)).toInt32 &&& 1431655765)) >>> (Int32.toUInt32 2 &&& Int32.toUInt32 31)).toInt32 &&& 858993459)) + (Int32.toUInt32 (((x - ((Int32.toUInt32 x >>> (Int32.toUInt32 1 &&& Int32.toUInt32 31)).toInt32 &&& 1431655765)) &&& 858993459) + ((Int32.toUInt32 (x - ((Int32.toUInt32 x >>> (Int32.toUInt32 1 &&& Int32.toUInt32 31)).toInt32 &&& 1431655765)) >>> (Int32.toUInt32 2 &&& Int32.toUInt32 31)).toInt32 &&& 858993459)) >>> (Int32.toUInt32 4 &&& Int32.toUInt32 31)).toInt32) &&& 252645135) + (Int32.toUInt32 (((((x - ((Int32.toUInt32 x >>> (Int32.toUInt32 1 &&& Int32.toUInt32 31)).toInt32 &&& 1431655765)) &&& 858993459) + ((Int32.toUInt32 (x - ((Int32.toUInt32 x >>> (Int32.toUInt32 1 &&& Int32.toUInt32 31)).toInt32 &&& 1431655765)) >>> (Int32.toUInt32 2 &&& Int32.toUInt32 31)).toInt32 &&& 858993459)) + (Int32.toUInt32 (((x - ((Int32.toUInt32 x >>> (Int32.toUInt32 1 &&& Int32.toUInt32 31)).toInt32 &&& 1431655765)) &&& 858993459) + ((Int32.toUInt32 (x - ((Int32.toUInt32 x >>> (Int32.toUInt32 1 &&& Int32.toUInt32 31)).toInt32 &&& 1431655765)) >>> (Int32.toUInt32 2 &&& Int32.toUInt32 31)).toInt32 &&& 858993459)) >>> (Int32.toUInt32 4 &&& Int32.toUInt32 31)).toInt32) &&& 252645135) >>> (Int32.toUInt32 8 &&& Int32.toUInt32 31)).toInt32) + (Int32.toUInt32 ((((((x - ((Int32.toUInt32 x >>> (Int32.toUInt32 1 &&& Int32.toUInt32 31)).toInt32 &&& 1431655765)) &&& 858993459) + ((Int32.toUInt32 (x - ((Int32.toUInt32 x >>> (Int32.toUInt32 1 &&& Int32.toUInt32 31)).toInt32 &&& 1431655765)) >>> (Int32.toUInt32 2 &&& Int32.toUInt32 31)).toInt32 &&& 858993459)) + (Int32.toUInt32 (((x - ((Int32.toUInt32 x >>> (Int32.toUInt32 1 &&& Int32.toUInt32 31)).toInt32 &&& 1431655765)) &&& 858993459) + ((Int32.toUInt32 (x - ((Int32.toUInt32 x >>> (Int32.toUInt32 1 &&& Int32.toUInt32 31)).toInt32 &&& 1431655765)) >>> (Int32.toUInt32 2 &&& Int32.toUInt32 31)).toInt32 &&& 858993459)) >>> (Int32.toUInt32 4 &&& Int32.toUInt32 31)).toInt32) &&& 252645135) + (Int32.toUInt32 (((((x - ((Int32.toUInt32 x >>> (Int32.toUInt32 1 &&& Int32.toUInt32 31)).toInt32 &&& 1431655765)) &&& 858993459) + ((Int32.toUInt32 (x - ((Int32.toUInt32 x >>> (Int32.toUInt32 1 &&& Int32.toUInt32 31)).toInt32 &&& 1431655765)) >>> (Int32.toUInt32 2 &&& Int32.toUInt32 31)).toInt32 &&& 858993459)) + (Int32.toUInt32 (((x - ((Int32.toUInt32 x >>> (Int32.toUInt32 1 &&& Int32.toUInt32 31)).toInt32 &&& 1431655765)) &&& 858993459) + ((Int32.toUInt32 (x - ((Int32.toUInt32 x >>> (Int32.toUInt32 1 &&& Int32.toUInt32 31)).toInt32 &&& 1431655765)) >>> (Int32.toUInt32 2 &&& Int32.toUInt32 31)).toInt32 &&& 858993459)) >>> (Int32.toUInt32 4 &&& Int32.toUInt32 31)).toInt32) &&& 252645135) >>> (Int32.toUInt32 8 &&& Int32.toUInt32 31)).toInt32) >>> (Int32.toUInt32 16 &&& Int32.toUInt32 31)).toInt32) &&& 63
theorem c_bitCount {s : SG} {x : Int32}  : xN sc (d + 1) 291 [.inl x] (wl K s) = some (some (.inl (bitI x)), wl K s) := by
  rw [mJ6_bitCount_0f7a4]
  simp (decide := true) only [uJ6_bitCount_0f7a4_0, qJ6_bitCount_0f7a4_0, up_a, up_b, up_c, pt_c, fl_c, cp_c]
  first | done | (unfold bitI; first | done | with_reducible_and_instances rfl | ((repeat' split) <;> first | with_reducible_and_instances rfl | contradiction | exact absurd ‹(1 : Int32) = 0› (by decide) | exact absurd rfl ‹¬ (0 : Int32) = 0› | exact absurd rfl ‹¬ (1 : Int32) = 1› | (exfalso; rename_i h1 h2; exact h1 (by rw [h2]; exact Int32.le_refl _))))
def isbIW (s : SG) (q : Nat) (y1 : Int32) (y3 : Int32) (y4 : Int32) (y5 : Int32) (y6 : Int32) (y7 : Int32) (y8 : Int32) (p : Int32) : Int32 := if p = 0 then (if y8 = 0 then 0 else if (amtI y3 y5) ≤ y6 then 0 else 1) else if p = 1 then (if y8 = 0 then 0 else if y6 ≤ (amtI y3 y5) then 0 else 1) else if p = 2 then (if (((amtI y3 0) + (amtI y3 1)) + (amtI y3 2)) ≤ y5 then 0 else 1) else if p = 3 then (if y4 = (-1) then 0 else if (amtI y4 y5) < y6 then 0 else if (amtI y3 y7) ≤ (parI s q y1 4) then 0 else 1) else 0
theorem isbIW_rt {s : SG} {q : Nat} {y1 : Int32} {y3 : Int32} {y4 : Int32} {y5 : Int32} {y6 : Int32} {y7 : Int32} {y8 : Int32} {p : Int32} : xrt 4 (isbIW s q y1 y3 y4 y5 y6 y7 y8 p) = true := by
  unfold isbIW
  first | done | first | with_reducible_and_instances rfl | simp only [hasI_rt, minI_rt, isaI_rt, issI_rt, pasI_rt, arsI_rt, canI7_rt, canI0_rt, islIL_rt, islI_rt, xr40, xr41] | ((repeat' split) <;> first | with_reducible_and_instances rfl | simp only [hasI_rt, minI_rt, isaI_rt, issI_rt, pasI_rt, arsI_rt, canI7_rt, canI0_rt, islIL_rt, islI_rt, xr40, xr41])
theorem w_isBroken {s : SG} {b : Nat → XL → List EV → EW → XR} {y1 : Int32} {y2 : Int32} {y3 : Int32} {y4 : Int32} {y5 : Int32} {y6 : Int32} {y7 : Int32} {y8 : Int32} {p : Int32} (hq : RW K q) : fW sc 6 4 false 9 (xN sc (d + 2)) b kX6_isBroken_49 49 [some (.inr (.inr (.inl (some q)))), some (.inl y1), some (.inl y2), some (.inl y3), some (.inl y4), some (.inl y5), some (.inl y6), some (.inl y7), some (.inl y8)] [.inl p] (wl K s) = some (some (.inl (isbIW s q y1 y3 y4 y5 y6 y7 y8 p)), wl K s) := by
  unfold isbIW
  by_cases h0 : p = 0
  · subst h0
    rw [if_pos rfl]
    simp (decide := true) only [uX6_isBroken_49, qX6_isBroken_49_c0, uX6_isBroken_0, uX6_isBroken_30, uX6_isBroken_36, uX6_isBroken_40, uX6_isBroken_41, uX6_isBroken_80, uX6_isBroken_85, uX6_isBroken_96, uX6_isBroken_100, uX6_isBroken_101, uX6_isBroken_102, uX6_isBroken_107, uX6_isBroken_118, uX6_isBroken_122, uX6_isBroken_123, uX6_isBroken_124, uX6_isBroken_146, uX6_isBroken_150, uX6_isBroken_151, uX6_isBroken_152, uX6_isBroken_158, uX6_isBroken_170, uX6_isBroken_185, uX6_isBroken_189, uX6_isBroken_190, uX6_isBroken_191, qX6_isBroken_0, qX6_isBroken_30, qX6_isBroken_36, qX6_isBroken_40, qX6_isBroken_41, qX6_isBroken_80, qX6_isBroken_85, qX6_isBroken_96, qX6_isBroken_100, qX6_isBroken_101, qX6_isBroken_102, qX6_isBroken_107, qX6_isBroken_118, qX6_isBroken_122, qX6_isBroken_123, qX6_isBroken_124, qX6_isBroken_146, qX6_isBroken_150, qX6_isBroken_151, qX6_isBroken_152, qX6_isBroken_158, qX6_isBroken_170, qX6_isBroken_185, qX6_isBroken_189, qX6_isBroken_190, qX6_isBroken_191, jX6_isBroken_30_36, jX6_isBroken_36_40, jX6_isBroken_40_41, jX6_isBroken_80_102, jX6_isBroken_80_124, jX6_isBroken_80_152, jX6_isBroken_80_191, jX6_isBroken_85_100, jX6_isBroken_96_100, jX6_isBroken_100_101, jX6_isBroken_107_122, jX6_isBroken_118_122, jX6_isBroken_122_123, jX6_isBroken_146_150, jX6_isBroken_150_151, jX6_isBroken_158_189, jX6_isBroken_170_189, jX6_isBroken_185_189, jX6_isBroken_189_190, cond_true, xr40, xr41, c_amount, xci_eq, cW_v hq, c_part hq, up_a, up_b, up_c, pt_c, fl_c, cp_c]
    first | done | with_reducible_and_instances rfl | ((repeat' split) <;> first | with_reducible_and_instances rfl | contradiction | exact absurd ‹(1 : Int32) = 0› (by decide) | exact absurd rfl ‹¬ (0 : Int32) = 0› | exact absurd rfl ‹¬ (1 : Int32) = 1› | (exfalso; rename_i h1 h2; exact h1 (by rw [h2]; exact Int32.le_refl _)))
  rw [if_neg h0]
  by_cases h1 : p = 1
  · subst h1
    rw [if_pos rfl]
    simp (decide := true) only [uX6_isBroken_49, qX6_isBroken_49_c1, uX6_isBroken_0, uX6_isBroken_30, uX6_isBroken_36, uX6_isBroken_40, uX6_isBroken_41, uX6_isBroken_80, uX6_isBroken_85, uX6_isBroken_96, uX6_isBroken_100, uX6_isBroken_101, uX6_isBroken_102, uX6_isBroken_107, uX6_isBroken_118, uX6_isBroken_122, uX6_isBroken_123, uX6_isBroken_124, uX6_isBroken_146, uX6_isBroken_150, uX6_isBroken_151, uX6_isBroken_152, uX6_isBroken_158, uX6_isBroken_170, uX6_isBroken_185, uX6_isBroken_189, uX6_isBroken_190, uX6_isBroken_191, qX6_isBroken_0, qX6_isBroken_30, qX6_isBroken_36, qX6_isBroken_40, qX6_isBroken_41, qX6_isBroken_80, qX6_isBroken_85, qX6_isBroken_96, qX6_isBroken_100, qX6_isBroken_101, qX6_isBroken_102, qX6_isBroken_107, qX6_isBroken_118, qX6_isBroken_122, qX6_isBroken_123, qX6_isBroken_124, qX6_isBroken_146, qX6_isBroken_150, qX6_isBroken_151, qX6_isBroken_152, qX6_isBroken_158, qX6_isBroken_170, qX6_isBroken_185, qX6_isBroken_189, qX6_isBroken_190, qX6_isBroken_191, jX6_isBroken_30_36, jX6_isBroken_36_40, jX6_isBroken_40_41, jX6_isBroken_80_102, jX6_isBroken_80_124, jX6_isBroken_80_152, jX6_isBroken_80_191, jX6_isBroken_85_100, jX6_isBroken_96_100, jX6_isBroken_100_101, jX6_isBroken_107_122, jX6_isBroken_118_122, jX6_isBroken_122_123, jX6_isBroken_146_150, jX6_isBroken_150_151, jX6_isBroken_158_189, jX6_isBroken_170_189, jX6_isBroken_185_189, jX6_isBroken_189_190, cond_true, xr40, xr41, c_amount, xci_eq, cW_v hq, c_part hq, up_a, up_b, up_c, pt_c, fl_c, cp_c]
    first | done | with_reducible_and_instances rfl | ((repeat' split) <;> first | with_reducible_and_instances rfl | contradiction | exact absurd ‹(1 : Int32) = 0› (by decide) | exact absurd rfl ‹¬ (0 : Int32) = 0› | exact absurd rfl ‹¬ (1 : Int32) = 1› | (exfalso; rename_i h1 h2; exact h1 (by rw [h2]; exact Int32.le_refl _)))
  rw [if_neg h1]
  by_cases h2 : p = 2
  · subst h2
    rw [if_pos rfl]
    simp (decide := true) only [uX6_isBroken_49, qX6_isBroken_49_c2, uX6_isBroken_0, uX6_isBroken_30, uX6_isBroken_36, uX6_isBroken_40, uX6_isBroken_41, uX6_isBroken_80, uX6_isBroken_85, uX6_isBroken_96, uX6_isBroken_100, uX6_isBroken_101, uX6_isBroken_102, uX6_isBroken_107, uX6_isBroken_118, uX6_isBroken_122, uX6_isBroken_123, uX6_isBroken_124, uX6_isBroken_146, uX6_isBroken_150, uX6_isBroken_151, uX6_isBroken_152, uX6_isBroken_158, uX6_isBroken_170, uX6_isBroken_185, uX6_isBroken_189, uX6_isBroken_190, uX6_isBroken_191, qX6_isBroken_0, qX6_isBroken_30, qX6_isBroken_36, qX6_isBroken_40, qX6_isBroken_41, qX6_isBroken_80, qX6_isBroken_85, qX6_isBroken_96, qX6_isBroken_100, qX6_isBroken_101, qX6_isBroken_102, qX6_isBroken_107, qX6_isBroken_118, qX6_isBroken_122, qX6_isBroken_123, qX6_isBroken_124, qX6_isBroken_146, qX6_isBroken_150, qX6_isBroken_151, qX6_isBroken_152, qX6_isBroken_158, qX6_isBroken_170, qX6_isBroken_185, qX6_isBroken_189, qX6_isBroken_190, qX6_isBroken_191, jX6_isBroken_30_36, jX6_isBroken_36_40, jX6_isBroken_40_41, jX6_isBroken_80_102, jX6_isBroken_80_124, jX6_isBroken_80_152, jX6_isBroken_80_191, jX6_isBroken_85_100, jX6_isBroken_96_100, jX6_isBroken_100_101, jX6_isBroken_107_122, jX6_isBroken_118_122, jX6_isBroken_122_123, jX6_isBroken_146_150, jX6_isBroken_150_151, jX6_isBroken_158_189, jX6_isBroken_170_189, jX6_isBroken_185_189, jX6_isBroken_189_190, cond_true, xr40, xr41, c_amount, xci_eq, cW_v hq, c_part hq, up_a, up_b, up_c, pt_c, fl_c, cp_c]
    first | done | with_reducible_and_instances rfl | ((repeat' split) <;> first | with_reducible_and_instances rfl | contradiction | exact absurd ‹(1 : Int32) = 0› (by decide) | exact absurd rfl ‹¬ (0 : Int32) = 0› | exact absurd rfl ‹¬ (1 : Int32) = 1› | (exfalso; rename_i h1 h2; exact h1 (by rw [h2]; exact Int32.le_refl _)))
  rw [if_neg h2]
  by_cases h3 : p = 3
  · subst h3
    rw [if_pos rfl]
    simp (decide := true) only [uX6_isBroken_49, qX6_isBroken_49_c3, uX6_isBroken_0, uX6_isBroken_30, uX6_isBroken_36, uX6_isBroken_40, uX6_isBroken_41, uX6_isBroken_80, uX6_isBroken_85, uX6_isBroken_96, uX6_isBroken_100, uX6_isBroken_101, uX6_isBroken_102, uX6_isBroken_107, uX6_isBroken_118, uX6_isBroken_122, uX6_isBroken_123, uX6_isBroken_124, uX6_isBroken_146, uX6_isBroken_150, uX6_isBroken_151, uX6_isBroken_152, uX6_isBroken_158, uX6_isBroken_170, uX6_isBroken_185, uX6_isBroken_189, uX6_isBroken_190, uX6_isBroken_191, qX6_isBroken_0, qX6_isBroken_30, qX6_isBroken_36, qX6_isBroken_40, qX6_isBroken_41, qX6_isBroken_80, qX6_isBroken_85, qX6_isBroken_96, qX6_isBroken_100, qX6_isBroken_101, qX6_isBroken_102, qX6_isBroken_107, qX6_isBroken_118, qX6_isBroken_122, qX6_isBroken_123, qX6_isBroken_124, qX6_isBroken_146, qX6_isBroken_150, qX6_isBroken_151, qX6_isBroken_152, qX6_isBroken_158, qX6_isBroken_170, qX6_isBroken_185, qX6_isBroken_189, qX6_isBroken_190, qX6_isBroken_191, jX6_isBroken_30_36, jX6_isBroken_36_40, jX6_isBroken_40_41, jX6_isBroken_80_102, jX6_isBroken_80_124, jX6_isBroken_80_152, jX6_isBroken_80_191, jX6_isBroken_85_100, jX6_isBroken_96_100, jX6_isBroken_100_101, jX6_isBroken_107_122, jX6_isBroken_118_122, jX6_isBroken_122_123, jX6_isBroken_146_150, jX6_isBroken_150_151, jX6_isBroken_158_189, jX6_isBroken_170_189, jX6_isBroken_185_189, jX6_isBroken_189_190, cond_true, xr40, xr41, c_amount, xci_eq, cW_v hq, c_part hq, up_a, up_b, up_c, pt_c, fl_c, cp_c]
    first | done | with_reducible_and_instances rfl | ((repeat' split) <;> first | with_reducible_and_instances rfl | contradiction | exact absurd ‹(1 : Int32) = 0› (by decide) | exact absurd rfl ‹¬ (0 : Int32) = 0› | exact absurd rfl ‹¬ (1 : Int32) = 1› | (exfalso; rename_i h1 h2; exact h1 (by rw [h2]; exact Int32.le_refl _)))
  rw [if_neg h3]
  have hd : Int32.toInt p < 0 ∨ 3 < Int32.toInt p := by
    have g0 : Int32.toInt p ≠ 0 := fun e => h0 (Int32.toInt_inj.mp (e.trans (by decide)))
    have g1 : Int32.toInt p ≠ 1 := fun e => h1 (Int32.toInt_inj.mp (e.trans (by decide)))
    have g2 : Int32.toInt p ≠ 2 := fun e => h2 (Int32.toInt_inj.mp (e.trans (by decide)))
    have g3 : Int32.toInt p ≠ 3 := fun e => h3 (Int32.toInt_inj.mp (e.trans (by decide)))
    omega
  simp (decide := true) only [uX6_isBroken_49, qX6_isBroken_49_d hd, uX6_isBroken_0, uX6_isBroken_30, uX6_isBroken_36, uX6_isBroken_40, uX6_isBroken_41, uX6_isBroken_80, uX6_isBroken_85, uX6_isBroken_96, uX6_isBroken_100, uX6_isBroken_101, uX6_isBroken_102, uX6_isBroken_107, uX6_isBroken_118, uX6_isBroken_122, uX6_isBroken_123, uX6_isBroken_124, uX6_isBroken_146, uX6_isBroken_150, uX6_isBroken_151, uX6_isBroken_152, uX6_isBroken_158, uX6_isBroken_170, uX6_isBroken_185, uX6_isBroken_189, uX6_isBroken_190, uX6_isBroken_191, qX6_isBroken_0, qX6_isBroken_30, qX6_isBroken_36, qX6_isBroken_40, qX6_isBroken_41, qX6_isBroken_80, qX6_isBroken_85, qX6_isBroken_96, qX6_isBroken_100, qX6_isBroken_101, qX6_isBroken_102, qX6_isBroken_107, qX6_isBroken_118, qX6_isBroken_122, qX6_isBroken_123, qX6_isBroken_124, qX6_isBroken_146, qX6_isBroken_150, qX6_isBroken_151, qX6_isBroken_152, qX6_isBroken_158, qX6_isBroken_170, qX6_isBroken_185, qX6_isBroken_189, qX6_isBroken_190, qX6_isBroken_191, jX6_isBroken_30_36, jX6_isBroken_36_40, jX6_isBroken_40_41, jX6_isBroken_80_102, jX6_isBroken_80_124, jX6_isBroken_80_152, jX6_isBroken_80_191, jX6_isBroken_85_100, jX6_isBroken_96_100, jX6_isBroken_100_101, jX6_isBroken_107_122, jX6_isBroken_118_122, jX6_isBroken_122_123, jX6_isBroken_146_150, jX6_isBroken_150_151, jX6_isBroken_158_189, jX6_isBroken_170_189, jX6_isBroken_185_189, jX6_isBroken_189_190, cond_true, xr40, xr41, c_amount, xci_eq, cW_v hq, c_part hq, up_a, up_b, up_c, pt_c, fl_c, cp_c]
  first | done | with_reducible_and_instances rfl | ((repeat' split) <;> first | with_reducible_and_instances rfl | contradiction | exact absurd ‹(1 : Int32) = 0› (by decide) | exact absurd rfl ‹¬ (0 : Int32) = 0› | exact absurd rfl ‹¬ (1 : Int32) = 1› | (exfalso; rename_i h1 h2; exact h1 (by rw [h2]; exact Int32.le_refl _)))
def isbI (s : SG) (q : Nat) (k : Int32) (se : Int32) (day : Int32) (ahead : Int32) : Int32 := if (parI s q k 3) = (-1) then isbIW s q k day ahead (parI s q k 1) (parI s q k 2) (parI s q k 3) 1 (parI s q k 0) else if (parI s q k 3) = se then isbIW s q k day ahead (parI s q k 1) (parI s q k 2) (parI s q k 3) 1 (parI s q k 0) else isbIW s q k day ahead (parI s q k 1) (parI s q k 2) (parI s q k 3) 0 (parI s q k 0)
theorem isbI_rt {s : SG} {q : Nat} {k : Int32} {se : Int32} {day : Int32} {ahead : Int32} : xrt 4 (isbI s q k se day ahead) = true := by
  unfold isbI
  first | done | first | with_reducible_and_instances rfl | simp only [hasI_rt, minI_rt, isaI_rt, issI_rt, pasI_rt, arsI_rt, canI7_rt, canI0_rt, islIL_rt, islI_rt, isbIW_rt, xr40, xr41] | ((repeat' split) <;> first | with_reducible_and_instances rfl | simp only [hasI_rt, minI_rt, isaI_rt, issI_rt, pasI_rt, arsI_rt, canI7_rt, canI0_rt, islIL_rt, islI_rt, isbIW_rt, xr40, xr41])
theorem c_isBroken {s : SG} {k : Int32} {se : Int32} {day : Int32} {ahead : Int32} (hq : RW K q) : xN sc (d + 3) 96 [.inr (.inr (.inl (some q))), .inl k, .inl se, .inl day, .inl ahead] (wl K s) = some (some (.inl (isbI s q k se day ahead)), wl K s) := by
  rw [mX6_isBroken]
  simp (decide := true) only [uX6_isBroken_0, uX6_isBroken_30, uX6_isBroken_36, uX6_isBroken_40, uX6_isBroken_41, uX6_isBroken_80, uX6_isBroken_85, uX6_isBroken_96, uX6_isBroken_100, uX6_isBroken_101, uX6_isBroken_102, uX6_isBroken_107, uX6_isBroken_118, uX6_isBroken_122, uX6_isBroken_123, uX6_isBroken_124, uX6_isBroken_146, uX6_isBroken_150, uX6_isBroken_151, uX6_isBroken_152, uX6_isBroken_158, uX6_isBroken_170, uX6_isBroken_185, uX6_isBroken_189, uX6_isBroken_190, uX6_isBroken_191, qX6_isBroken_0, qX6_isBroken_30, qX6_isBroken_36, qX6_isBroken_40, qX6_isBroken_41, qX6_isBroken_80, qX6_isBroken_85, qX6_isBroken_96, qX6_isBroken_100, qX6_isBroken_101, qX6_isBroken_102, qX6_isBroken_107, qX6_isBroken_118, qX6_isBroken_122, qX6_isBroken_123, qX6_isBroken_124, qX6_isBroken_146, qX6_isBroken_150, qX6_isBroken_151, qX6_isBroken_152, qX6_isBroken_158, qX6_isBroken_170, qX6_isBroken_185, qX6_isBroken_189, qX6_isBroken_190, qX6_isBroken_191, jX6_isBroken_30_36, jX6_isBroken_36_40, jX6_isBroken_40_41, jX6_isBroken_80_102, jX6_isBroken_80_124, jX6_isBroken_80_152, jX6_isBroken_80_191, jX6_isBroken_85_100, jX6_isBroken_96_100, jX6_isBroken_100_101, jX6_isBroken_107_122, jX6_isBroken_118_122, jX6_isBroken_122_123, jX6_isBroken_146_150, jX6_isBroken_150_151, jX6_isBroken_158_189, jX6_isBroken_170_189, jX6_isBroken_185_189, jX6_isBroken_189_190, cW_v hq, cond_true, c_part hq, xci_eq, w_isBroken hq, up_a, up_b, up_c, pt_c, fl_c, cp_c]
  first | done | (unfold isbI; first | done | with_reducible_and_instances rfl | ((repeat' split) <;> first | with_reducible_and_instances rfl | contradiction | exact absurd ‹(1 : Int32) = 0› (by decide) | exact absurd rfl ‹¬ (0 : Int32) = 0› | exact absurd rfl ‹¬ (1 : Int32) = 1› | (exfalso; rename_i h1 h2; exact h1 (by rw [h2]; exact Int32.le_refl _))))
def fibIL (s : SG) (q : Nat) : Nat → Nat → Int32 → Int32 → Int32 → Int32
  | 0, _, _, _, _ => -1
  | n + 1, j, y1, y2, y3 => if (isbI s q (nI j) y1 y2 y3) = 0 then fibIL s q n (j + 1) y1 y2 y3 else nI j
theorem l_firstBroken {s : SG} (hq : RW K q) (zq : RZ s q)  {i : Nat → List EV → EW → XR} (hi : i = xN sc (d + 3)) : ∀ (n j k : Nat) (y1 : Int32) (y2 : Int32) (y3 : Int32), j + n = rz s q → n ≤ k → fW sc 6 1 false 5 i (ex sc 6 1 false 5 i kX6_firstBroken_0 k) kX6_firstBroken_9 9 [some (.inr (.inr (.inl (some q)))), some (.inl y1), some (.inl y2), some (.inl y3), some (.inl (nI j))] [] (wl K s) = some (some (.inl (fibIL s q n j y1 y2 y3)), wl K s) := by
  subst hi
  intro n
  induction n with
  | zero =>
    intro j k y1 y2 y3 hj hk
    have hx : (s q 0) ≤ (nI j) := by
      exact rz_ge zq hj
    simp (decide := true) only [uX6_firstBroken_9, qX6_firstBroken_9, jX6_firstBroken_4_6, jX6_firstBroken_18_39, jX6_firstBroken_30_33, jX6_firstBroken_0_9, cW_g0 hq, bd_eq, c_isBroken hq, xci_eq, zq, up_a, up_b, up_c, pt_c, fl_c, cp_c, if_pos hx]
    try simp (decide := true) only [uX6_firstBroken_0, uX6_firstBroken_4, uX6_firstBroken_6, uX6_firstBroken_18, uX6_firstBroken_30, uX6_firstBroken_33, uX6_firstBroken_39, qX6_firstBroken_0, qX6_firstBroken_4, qX6_firstBroken_6, qX6_firstBroken_18, qX6_firstBroken_30, qX6_firstBroken_33, qX6_firstBroken_39, jX6_firstBroken_4_6, jX6_firstBroken_18_39, jX6_firstBroken_30_33, jX6_firstBroken_0_9, cW_g0 hq, bd_eq, c_isBroken hq, xci_eq, zq, up_a, up_b, up_c, pt_c, fl_c, cp_c]
    first | done | (unfold fibIL; first | done | (repeat' split) <;> first | with_reducible_and_instances rfl | contradiction)
  | succ n ih =>
    intro j k y1 y2 y3 hj hk
    obtain ⟨k, rfl⟩ : ∃ k', k = k' + 1 := ⟨k - 1, by omega⟩
    have hx : ¬ ((s q 0) ≤ (nI j)) := by
      exact rz_lt zq hj
    have e := fun (y1 : Int32) (y2 : Int32) (y3 : Int32) => ih (j + 1) k y1 y2 y3 (by omega) (by omega)
    simp only [nI_succ] at e
    simp (decide := true) only [uX6_firstBroken_9, qX6_firstBroken_9, jX6_firstBroken_4_6, jX6_firstBroken_18_39, jX6_firstBroken_30_33, jX6_firstBroken_0_9, cW_g0 hq, bd_eq, c_isBroken hq, xci_eq, zq, up_a, up_b, up_c, pt_c, fl_c, cp_c, if_neg hx]
    simp (decide := true) only [uX6_firstBroken_0, uX6_firstBroken_4, uX6_firstBroken_6, uX6_firstBroken_18, uX6_firstBroken_30, uX6_firstBroken_33, uX6_firstBroken_39, qX6_firstBroken_0, qX6_firstBroken_4, qX6_firstBroken_6, qX6_firstBroken_18, qX6_firstBroken_30, qX6_firstBroken_33, qX6_firstBroken_39, jX6_firstBroken_4_6, jX6_firstBroken_18_39, jX6_firstBroken_30_33, jX6_firstBroken_0_9, cW_g0 hq, bd_eq, c_isBroken hq, xci_eq, zq, up_a, up_b, up_c, pt_c, fl_c, cp_c, eX_eq]
    rw [fibIL]
    repeat' split
    all_goals first | exact e _ _ _ | with_reducible_and_instances rfl | contradiction | exact absurd ‹(1 : Int32) = 0› (by decide) | exact absurd rfl ‹¬ (0 : Int32) = 0› | exact absurd rfl ‹¬ (1 : Int32) = 1›
def fibI (s : SG) (q : Nat) (se : Int32) (day : Int32) (ahead : Int32) : Int32 := fibIL s q (rz s q) 0 se day ahead
theorem c_firstBroken {s : SG} {se : Int32} {day : Int32} {ahead : Int32} (hq : RW K q) (zq : RZ s q) : xN sc (d + 4) 95 [.inr (.inr (.inl (some q))), .inl se, .inl day, .inl ahead] (wl K s) = some (some (.inl (fibI s q se day ahead)), wl K s) := by
  rw [mX6_firstBroken]
  have L9 : ∀ (y1 : Int32) (y2 : Int32) (y3 : Int32), fW sc 6 1 false 5 (xN sc (d + 3)) (ex sc 6 1 false 5 (xN sc (d + 3)) kX6_firstBroken_0 xF) kX6_firstBroken_9 9 [some (.inr (.inr (.inl (some q)))), some (.inl y1), some (.inl y2), some (.inl y3), some (.inl 0)] [] (wl K s) = some (some (.inl (fibIL s q (rz s q) 0 y1 y2 y3)), wl K s) := fun y1 y2 y3 => l_firstBroken hq zq (hi := rfl) (rz s q) 0 xF y1 y2 y3  (by omega) (by have := xF_ge; have := zq.2; omega)
  simp (decide := true) only [uX6_firstBroken_0, uX6_firstBroken_4, uX6_firstBroken_6, uX6_firstBroken_18, uX6_firstBroken_30, uX6_firstBroken_33, uX6_firstBroken_39, qX6_firstBroken_0, qX6_firstBroken_4, qX6_firstBroken_6, qX6_firstBroken_18, qX6_firstBroken_30, qX6_firstBroken_33, qX6_firstBroken_39, jX6_firstBroken_4_6, jX6_firstBroken_18_39, jX6_firstBroken_30_33, jX6_firstBroken_0_9, Option.isNone_some, Option.isNone_none, cond_true, cond_false, zq, up_a, up_b, up_c, pt_c, fl_c, cp_c, L9]
  first | done | (unfold fibI; first | done | with_reducible_and_instances rfl | ((repeat' split) <;> first | with_reducible_and_instances rfl | contradiction | exact absurd ‹(1 : Int32) = 0› (by decide) | exact absurd rfl ‹¬ (0 : Int32) = 0› | exact absurd rfl ‹¬ (1 : Int32) = 1› | (exfalso; rename_i h1 h2; exact h1 (by rw [h2]; exact Int32.le_refl _))))
def fib0 : Int32 := -1
theorem c_firstBroken0 {s : SG} {se : Int32} {day : Int32} {ahead : Int32}  : xN sc (d + 1) 95 [.inr (.inr (.inl none)), .inl se, .inl day, .inl ahead] (wl K s) = some (some (.inl fib0), wl K s) := by
  rw [mX6_firstBroken]
  simp (decide := true) only [uX6_firstBroken_0, uX6_firstBroken_4, uX6_firstBroken_6, uX6_firstBroken_9, uX6_firstBroken_18, uX6_firstBroken_30, uX6_firstBroken_33, uX6_firstBroken_39, qX6_firstBroken_0, qX6_firstBroken_4, qX6_firstBroken_6, qX6_firstBroken_9, qX6_firstBroken_18, qX6_firstBroken_30, qX6_firstBroken_33, qX6_firstBroken_39, jX6_firstBroken_4_6, jX6_firstBroken_18_39, jX6_firstBroken_30_33, jX6_firstBroken_0_9, Option.isNone_some, Option.isNone_none, cond_true, cond_false, up_a, up_b, up_c, pt_c, fl_c, cp_c]
  first | done | (unfold fib0; first | done | with_reducible_and_instances rfl | ((repeat' split) <;> first | with_reducible_and_instances rfl | contradiction | exact absurd ‹(1 : Int32) = 0› (by decide) | exact absurd rfl ‹¬ (0 : Int32) = 0› | exact absurd rfl ‹¬ (1 : Int32) = 1› | (exfalso; rename_i h1 h2; exact h1 (by rw [h2]; exact Int32.le_refl _))))
def rodIL (s : SG) (r : Nat) : Nat → Nat → Int32 → Int32 → Int32
  | 0, _, _, y2 => y2
  | n + 1, j, y1, y2 => if (hasI (nI j) y1) = 0 then (if (s r 9) ≤ (votT s r (nI j)) then rodIL s r n (j + 1) y1 y2 else if (votT s r ((nI j) ||| (1 <<< (y1 &&& 31)))) < (s r 9) then rodIL s r n (j + 1) y1 y2 else rodIL s r n (j + 1) y1 (y2 + ((facI (bitI (nI j))) * (facI (((s r 0) - (bitI (nI j))) - 1))))) else rodIL s r n (j + 1) y1 y2
theorem l_rowsDecided {s : SG} (hr : RP K r) (zr : SZ s r)  {i : Nat → List EV → EW → XR} (hi : i = xN sc (d + 2)) : ∀ (n j k : Nat) (y1 : Int32) (y2 : Int32) (z4 : Option EV) (z5 : Option EV), j + n = al s r + 1 → n ≤ k → fW sc 6 1 false 6 i (ex sc 6 1 false 6 i kX6_rowsDecided_0 k) kX6_rowsDecided_4 4 [some (.inr (.inr (.inl (some r)))), some (.inl y1), some (.inl y2), some (.inl (nI j)), z4, z5] [] (wl K s) = some (some (.inl (rodIL s r n j y1 y2)), wl K s) := by
  subst hi
  intro n
  induction n with
  | zero =>
    intro j k y1 y2 z4 z5 hj hk
    have hx : (allI s r) < (nI j) := by
      exact al_gt zr hj
    simp (decide := true) only [uX6_rowsDecided_4, qX6_rowsDecided_4, jX6_rowsDecided_12_99, jX6_rowsDecided_20_52, jX6_rowsDecided_32_52, jX6_rowsDecided_48_52, jX6_rowsDecided_52_53, jX6_rowsDecided_60_93, jX6_rowsDecided_0_4, cR_v hr, cond_true, c_everybody hr, xci_eq, c_has, c_votesOf hr, zr, cR_g9 hr, bd_eq, c_bitCount, c_cellK1, cR_g0 hr, zr, up_a, up_b, up_c, pt_c, fl_c, cp_c, if_pos hx]
    try simp (decide := true) only [uX6_rowsDecided_0, uX6_rowsDecided_12, uX6_rowsDecided_20, uX6_rowsDecided_32, uX6_rowsDecided_48, uX6_rowsDecided_52, uX6_rowsDecided_53, uX6_rowsDecided_60, uX6_rowsDecided_93, uX6_rowsDecided_99, qX6_rowsDecided_0, qX6_rowsDecided_12, qX6_rowsDecided_20, qX6_rowsDecided_32, qX6_rowsDecided_48, qX6_rowsDecided_52, qX6_rowsDecided_53, qX6_rowsDecided_60, qX6_rowsDecided_93, qX6_rowsDecided_99, jX6_rowsDecided_12_99, jX6_rowsDecided_20_52, jX6_rowsDecided_32_52, jX6_rowsDecided_48_52, jX6_rowsDecided_52_53, jX6_rowsDecided_60_93, jX6_rowsDecided_0_4, cR_v hr, cond_true, c_everybody hr, xci_eq, c_has, c_votesOf hr, zr, cR_g9 hr, bd_eq, c_bitCount, c_cellK1, cR_g0 hr, zr, up_a, up_b, up_c, pt_c, fl_c, cp_c]
    first | done | (unfold rodIL; first | done | (repeat' split) <;> first | with_reducible_and_instances rfl | contradiction)
  | succ n ih =>
    intro j k y1 y2 z4 z5 hj hk
    obtain ⟨k, rfl⟩ : ∃ k', k = k' + 1 := ⟨k - 1, by omega⟩
    have hx : ¬ ((allI s r) < (nI j)) := by
      exact al_le zr hj
    have e := fun (y1 : Int32) (y2 : Int32) (z4 : Option EV) (z5 : Option EV) => ih (j + 1) k y1 y2 z4 z5 (by omega) (by omega)
    simp only [nI_succ] at e
    simp (decide := true) only [uX6_rowsDecided_4, qX6_rowsDecided_4, jX6_rowsDecided_12_99, jX6_rowsDecided_20_52, jX6_rowsDecided_32_52, jX6_rowsDecided_48_52, jX6_rowsDecided_52_53, jX6_rowsDecided_60_93, jX6_rowsDecided_0_4, cR_v hr, cond_true, c_everybody hr, xci_eq, c_has, c_votesOf hr, zr, cR_g9 hr, bd_eq, c_bitCount, c_cellK1, cR_g0 hr, zr, up_a, up_b, up_c, pt_c, fl_c, cp_c, if_neg hx]
    simp (decide := true) only [uX6_rowsDecided_0, uX6_rowsDecided_12, uX6_rowsDecided_20, uX6_rowsDecided_32, uX6_rowsDecided_48, uX6_rowsDecided_52, uX6_rowsDecided_53, uX6_rowsDecided_60, uX6_rowsDecided_93, uX6_rowsDecided_99, qX6_rowsDecided_0, qX6_rowsDecided_12, qX6_rowsDecided_20, qX6_rowsDecided_32, qX6_rowsDecided_48, qX6_rowsDecided_52, qX6_rowsDecided_53, qX6_rowsDecided_60, qX6_rowsDecided_93, qX6_rowsDecided_99, jX6_rowsDecided_12_99, jX6_rowsDecided_20_52, jX6_rowsDecided_32_52, jX6_rowsDecided_48_52, jX6_rowsDecided_52_53, jX6_rowsDecided_60_93, jX6_rowsDecided_0_4, cR_v hr, cond_true, c_everybody hr, xci_eq, c_has, c_votesOf hr, zr, cR_g9 hr, bd_eq, c_bitCount, c_cellK1, cR_g0 hr, zr, up_a, up_b, up_c, pt_c, fl_c, cp_c, eX_eq]
    rw [rodIL]
    repeat' split
    all_goals first | exact e _ _ _ _ | with_reducible_and_instances rfl | contradiction | exact absurd ‹(1 : Int32) = 0› (by decide) | exact absurd rfl ‹¬ (0 : Int32) = 0› | exact absurd rfl ‹¬ (1 : Int32) = 1›
def rodI (s : SG) (r : Nat) (m : Int32) : Int32 := rodIL s r (al s r + 1) 0 m 0
theorem c_rowsDecided {s : SG} {m : Int32} (hr : RP K r) (zr : SZ s r) : xN sc (d + 3) 107 [.inr (.inr (.inl (some r))), .inl m] (wl K s) = some (some (.inl (rodI s r m)), wl K s) := by
  rw [mX6_rowsDecided]
  have L4 : ∀ (y1 : Int32) (y2 : Int32) (z4 : Option EV) (z5 : Option EV), fW sc 6 1 false 6 (xN sc (d + 2)) (ex sc 6 1 false 6 (xN sc (d + 2)) kX6_rowsDecided_0 xF) kX6_rowsDecided_4 4 [some (.inr (.inr (.inl (some r)))), some (.inl y1), some (.inl y2), some (.inl 0), z4, z5] [] (wl K s) = some (some (.inl (rodIL s r (al s r + 1) 0 y1 y2)), wl K s) := fun y1 y2 z4 z5 => l_rowsDecided hr zr (hi := rfl) (al s r + 1) 0 xF y1 y2 z4 z5  (by omega) (by have := xF_ge; have := al_63 zr; omega)
  simp (decide := true) only [uX6_rowsDecided_0, uX6_rowsDecided_12, uX6_rowsDecided_20, uX6_rowsDecided_32, uX6_rowsDecided_48, uX6_rowsDecided_52, uX6_rowsDecided_53, uX6_rowsDecided_60, uX6_rowsDecided_93, uX6_rowsDecided_99, qX6_rowsDecided_0, qX6_rowsDecided_12, qX6_rowsDecided_20, qX6_rowsDecided_32, qX6_rowsDecided_48, qX6_rowsDecided_52, qX6_rowsDecided_53, qX6_rowsDecided_60, qX6_rowsDecided_93, qX6_rowsDecided_99, jX6_rowsDecided_12_99, jX6_rowsDecided_20_52, jX6_rowsDecided_32_52, jX6_rowsDecided_48_52, jX6_rowsDecided_52_53, jX6_rowsDecided_60_93, jX6_rowsDecided_0_4, zr, up_a, up_b, up_c, pt_c, fl_c, cp_c, L4]
  first | done | (unfold rodI; first | done | with_reducible_and_instances rfl | ((repeat' split) <;> first | with_reducible_and_instances rfl | contradiction | exact absurd ‹(1 : Int32) = 0› (by decide) | exact absurd rfl ‹¬ (0 : Int32) = 0› | exact absurd rfl ‹¬ (1 : Int32) = 1› | (exfalso; rename_i h1 h2; exact h1 (by rw [h2]; exact Int32.le_refl _))))
def comIL : Nat → Nat → Int32 → Int32 → Int32 → Int32 → Int32
  | 0, _, _, _, y2, _ => y2
  | n + 1, j, y0, y1, y2, y3 => if y3 = 0 then y2 else comIL n (j + 1) y0 y1 y3 (y2 - y2 / y3 * y3)
theorem l_commonDivisor {s : SG}    {i : Nat → List EV → EW → XR} (hi : i = xN sc d) : ∀ (n j k : Nat) (y0 : Int32) (y1 : Int32) (y2 : Int32) (y3 : Int32) (z5 : Option EV), j + n = 64 → n ≤ k → fW sc 6 1 false 6 i (ex sc 6 1 false 6 i kX6_commonDivisor_0 k) kX6_commonDivisor_7 7 [some (.inl y0), some (.inl y1), some (.inl y2), some (.inl y3), some (.inl (nI j)), z5] [] (wl K s) = some (some (.inl (comIL n j y0 y1 y2 y3)), wl K s) := by
  subst hi
  intro n
  induction n with
  | zero =>
    intro j k y0 y1 y2 y3 z5 hj hk
    have hx : 64 ≤ (nI j) := by
      exact k_ge (m := 64) hj
    simp (decide := true) only [uX6_commonDivisor_7, qX6_commonDivisor_7, jX6_commonDivisor_14_34, jX6_commonDivisor_18_34, jX6_commonDivisor_0_7, up_a, up_b, up_c, pt_c, fl_c, cp_c, if_pos hx]
    try simp (decide := true) only [uX6_commonDivisor_0, uX6_commonDivisor_14, uX6_commonDivisor_18, uX6_commonDivisor_34, qX6_commonDivisor_0, qX6_commonDivisor_14, qX6_commonDivisor_18, qX6_commonDivisor_34, jX6_commonDivisor_14_34, jX6_commonDivisor_18_34, jX6_commonDivisor_0_7, up_a, up_b, up_c, pt_c, fl_c, cp_c]
    first | done | (unfold comIL; first | done | (repeat' split) <;> first | with_reducible_and_instances rfl | contradiction)
  | succ n ih =>
    intro j k y0 y1 y2 y3 z5 hj hk
    obtain ⟨k, rfl⟩ : ∃ k', k = k' + 1 := ⟨k - 1, by omega⟩
    have hx : ¬ (64 ≤ (nI j)) := by
      exact k_lt (m := 64) hj (by decide)
    have e := fun (y0 : Int32) (y1 : Int32) (y2 : Int32) (y3 : Int32) (z5 : Option EV) => ih (j + 1) k y0 y1 y2 y3 z5 (by omega) (by omega)
    simp only [nI_succ] at e
    simp (decide := true) only [uX6_commonDivisor_7, qX6_commonDivisor_7, jX6_commonDivisor_14_34, jX6_commonDivisor_18_34, jX6_commonDivisor_0_7, up_a, up_b, up_c, pt_c, fl_c, cp_c, if_neg hx]
    simp (decide := true) only [uX6_commonDivisor_0, uX6_commonDivisor_14, uX6_commonDivisor_18, uX6_commonDivisor_34, qX6_commonDivisor_0, qX6_commonDivisor_14, qX6_commonDivisor_18, qX6_commonDivisor_34, jX6_commonDivisor_14_34, jX6_commonDivisor_18_34, jX6_commonDivisor_0_7, up_a, up_b, up_c, pt_c, fl_c, cp_c, eX_eq]
    rw [comIL]
    repeat' split
    all_goals first | exact e _ _ _ _ _ | with_reducible_and_instances rfl | contradiction | exact absurd ‹(1 : Int32) = 0› (by decide) | exact absurd rfl ‹¬ (0 : Int32) = 0› | exact absurd rfl ‹¬ (1 : Int32) = 1›
def comI (x : Int32) (y : Int32) : Int32 := comIL 64 0 x y x y
theorem c_commonDivisor {s : SG} {x : Int32} {y : Int32}  : xN sc (d + 1) 148 [.inl x, .inl y] (wl K s) = some (some (.inl (comI x y)), wl K s) := by
  rw [mX6_commonDivisor]
  have L7 : ∀ (y0 : Int32) (y1 : Int32) (y2 : Int32) (y3 : Int32) (z5 : Option EV), fW sc 6 1 false 6 (xN sc d) (ex sc 6 1 false 6 (xN sc d) kX6_commonDivisor_0 xF) kX6_commonDivisor_7 7 [some (.inl y0), some (.inl y1), some (.inl y2), some (.inl y3), some (.inl 0), z5] [] (wl K s) = some (some (.inl (comIL 64 0 y0 y1 y2 y3)), wl K s) := fun y0 y1 y2 y3 z5 => l_commonDivisor   (hi := rfl) 64 0 xF y0 y1 y2 y3 z5  (by omega) (by have := xF_ge;  omega)
  simp (decide := true) only [uX6_commonDivisor_0, uX6_commonDivisor_14, uX6_commonDivisor_18, uX6_commonDivisor_34, qX6_commonDivisor_0, qX6_commonDivisor_14, qX6_commonDivisor_18, qX6_commonDivisor_34, jX6_commonDivisor_14_34, jX6_commonDivisor_18_34, jX6_commonDivisor_0_7, up_a, up_b, up_c, pt_c, fl_c, cp_c, L7]
  first | done | (unfold comI; first | done | with_reducible_and_instances rfl | ((repeat' split) <;> first | with_reducible_and_instances rfl | contradiction | exact absurd ‹(1 : Int32) = 0› (by decide) | exact absurd rfl ‹¬ (0 : Int32) = 0› | exact absurd rfl ‹¬ (1 : Int32) = 1› | (exfalso; rename_i h1 h2; exact h1 (by rw [h2]; exact Int32.le_refl _))))
def fraI (x : Int32) (y : Int32) (u : Int32) : Int32 := if (comI x y) = 0 then -1 else if u = 0 then x / (comI x y) else y / (comI x y)
theorem c_fraction {s : SG} {x : Int32} {y : Int32} {u : Int32}  : xN sc (d + 2) 147 [.inl x, .inl y, .inl u] (wl K s) = some (some (.inl (fraI x y u)), wl K s) := by
  rw [mX6_fraction]
  simp (decide := true) only [uX6_fraction_0, uX6_fraction_10, uX6_fraction_12, uX6_fraction_16, uX6_fraction_20, uX6_fraction_21, qX6_fraction_0, qX6_fraction_10, qX6_fraction_12, qX6_fraction_16, qX6_fraction_20, qX6_fraction_21, jX6_fraction_10_12, jX6_fraction_16_20, jX6_fraction_20_21, c_commonDivisor, xci_eq, up_a, up_b, up_c, pt_c, fl_c, cp_c]
  first | done | (unfold fraI; first | done | with_reducible_and_instances rfl | ((repeat' split) <;> first | with_reducible_and_instances rfl | contradiction | exact absurd ‹(1 : Int32) = 0› (by decide) | exact absurd rfl ‹¬ (0 : Int32) = 0› | exact absurd rfl ‹¬ (1 : Int32) = 1› | (exfalso; rename_i h1 h2; exact h1 (by rw [h2]; exact Int32.le_refl _))))
def lecIL (s : SG) (r : Nat) : Nat → Nat → Int32 → Int32 → Int32
  | 0, _, y1, y2 => if y1 = (-1) then y2 else -3
  | n + 1, j, y1, y2 => if (islI s r (nI j)) = 0 then lecIL s r n (j + 1) y1 y2 else if y2 = y1 then nI j else lecIL s r n (j + 1) y1 (y2 + 1)
theorem l_leastCoalition {s : SG} (hr : RP K r) (zr : SZ s r)  {i : Nat → List EV → EW → XR} (hi : i = xN sc (d + 3)) : ∀ (n j k : Nat) (y1 : Int32) (y2 : Int32), j + n = al s r + 1 → n ≤ k → fW sc 6 1 false 4 i (ex sc 6 1 false 4 i kX6_leastCoalition_0 k) kX6_leastCoalition_4 4 [some (.inr (.inr (.inl (some r)))), some (.inl y1), some (.inl y2), some (.inl (nI j))] [] (wl K s) = some (some (.inl (lecIL s r n j y1 y2)), wl K s) := by
  subst hi
  intro n
  induction n with
  | zero =>
    intro j k y1 y2 hj hk
    have hx : (allI s r) < (nI j) := by
      exact al_gt zr hj
    simp (decide := true) only [uX6_leastCoalition_4, qX6_leastCoalition_4, jX6_leastCoalition_12_36, jX6_leastCoalition_20_30, jX6_leastCoalition_25_27, jX6_leastCoalition_41_45, jX6_leastCoalition_45_47, jX6_leastCoalition_0_4, cR_v hr, cond_true, c_everybody hr, xci_eq, c_isLeastCoalition hr, zr, zr, up_a, up_b, up_c, pt_c, fl_c, cp_c, if_pos hx]
    try simp (decide := true) only [uX6_leastCoalition_0, uX6_leastCoalition_12, uX6_leastCoalition_20, uX6_leastCoalition_25, uX6_leastCoalition_27, uX6_leastCoalition_30, uX6_leastCoalition_36, uX6_leastCoalition_41, uX6_leastCoalition_45, uX6_leastCoalition_47, qX6_leastCoalition_0, qX6_leastCoalition_12, qX6_leastCoalition_20, qX6_leastCoalition_25, qX6_leastCoalition_27, qX6_leastCoalition_30, qX6_leastCoalition_36, qX6_leastCoalition_41, qX6_leastCoalition_45, qX6_leastCoalition_47, jX6_leastCoalition_12_36, jX6_leastCoalition_20_30, jX6_leastCoalition_25_27, jX6_leastCoalition_41_45, jX6_leastCoalition_45_47, jX6_leastCoalition_0_4, cR_v hr, cond_true, c_everybody hr, xci_eq, c_isLeastCoalition hr, zr, zr, up_a, up_b, up_c, pt_c, fl_c, cp_c]
    first | done | (unfold lecIL; first | done | (repeat' split) <;> first | with_reducible_and_instances rfl | contradiction)
  | succ n ih =>
    intro j k y1 y2 hj hk
    obtain ⟨k, rfl⟩ : ∃ k', k = k' + 1 := ⟨k - 1, by omega⟩
    have hx : ¬ ((allI s r) < (nI j)) := by
      exact al_le zr hj
    have e := fun (y1 : Int32) (y2 : Int32) => ih (j + 1) k y1 y2 (by omega) (by omega)
    simp only [nI_succ] at e
    simp (decide := true) only [uX6_leastCoalition_4, qX6_leastCoalition_4, jX6_leastCoalition_12_36, jX6_leastCoalition_20_30, jX6_leastCoalition_25_27, jX6_leastCoalition_41_45, jX6_leastCoalition_45_47, jX6_leastCoalition_0_4, cR_v hr, cond_true, c_everybody hr, xci_eq, c_isLeastCoalition hr, zr, zr, up_a, up_b, up_c, pt_c, fl_c, cp_c, if_neg hx]
    simp (decide := true) only [uX6_leastCoalition_0, uX6_leastCoalition_12, uX6_leastCoalition_20, uX6_leastCoalition_25, uX6_leastCoalition_27, uX6_leastCoalition_30, uX6_leastCoalition_36, uX6_leastCoalition_41, uX6_leastCoalition_45, uX6_leastCoalition_47, qX6_leastCoalition_0, qX6_leastCoalition_12, qX6_leastCoalition_20, qX6_leastCoalition_25, qX6_leastCoalition_27, qX6_leastCoalition_30, qX6_leastCoalition_36, qX6_leastCoalition_41, qX6_leastCoalition_45, qX6_leastCoalition_47, jX6_leastCoalition_12_36, jX6_leastCoalition_20_30, jX6_leastCoalition_25_27, jX6_leastCoalition_41_45, jX6_leastCoalition_45_47, jX6_leastCoalition_0_4, cR_v hr, cond_true, c_everybody hr, xci_eq, c_isLeastCoalition hr, zr, zr, up_a, up_b, up_c, pt_c, fl_c, cp_c, eX_eq]
    rw [lecIL]
    repeat' split
    all_goals first | exact e _ _ | with_reducible_and_instances rfl | contradiction | exact absurd ‹(1 : Int32) = 0› (by decide) | exact absurd rfl ‹¬ (0 : Int32) = 0› | exact absurd rfl ‹¬ (1 : Int32) = 1›
def lecI (s : SG) (r : Nat) (k : Int32) : Int32 := lecIL s r (al s r + 1) 0 k 0
theorem c_leastCoalition {s : SG} {k : Int32} (hr : RP K r) (zr : SZ s r) : xN sc (d + 4) 110 [.inr (.inr (.inl (some r))), .inl k] (wl K s) = some (some (.inl (lecI s r k)), wl K s) := by
  rw [mX6_leastCoalition]
  have L4 : ∀ (y1 : Int32) (y2 : Int32), fW sc 6 1 false 4 (xN sc (d + 3)) (ex sc 6 1 false 4 (xN sc (d + 3)) kX6_leastCoalition_0 xF) kX6_leastCoalition_4 4 [some (.inr (.inr (.inl (some r)))), some (.inl y1), some (.inl y2), some (.inl 0)] [] (wl K s) = some (some (.inl (lecIL s r (al s r + 1) 0 y1 y2)), wl K s) := fun y1 y2 => l_leastCoalition hr zr (hi := rfl) (al s r + 1) 0 xF y1 y2  (by omega) (by have := xF_ge; have := al_63 zr; omega)
  simp (decide := true) only [uX6_leastCoalition_0, uX6_leastCoalition_12, uX6_leastCoalition_20, uX6_leastCoalition_25, uX6_leastCoalition_27, uX6_leastCoalition_30, uX6_leastCoalition_36, uX6_leastCoalition_41, uX6_leastCoalition_45, uX6_leastCoalition_47, qX6_leastCoalition_0, qX6_leastCoalition_12, qX6_leastCoalition_20, qX6_leastCoalition_25, qX6_leastCoalition_27, qX6_leastCoalition_30, qX6_leastCoalition_36, qX6_leastCoalition_41, qX6_leastCoalition_45, qX6_leastCoalition_47, jX6_leastCoalition_12_36, jX6_leastCoalition_20_30, jX6_leastCoalition_25_27, jX6_leastCoalition_41_45, jX6_leastCoalition_45_47, jX6_leastCoalition_0_4, zr, up_a, up_b, up_c, pt_c, fl_c, cp_c, L4]
  first | done | (unfold lecI; first | done | with_reducible_and_instances rfl | ((repeat' split) <;> first | with_reducible_and_instances rfl | contradiction | exact absurd ‹(1 : Int32) = 0› (by decide) | exact absurd rfl ‹¬ (0 : Int32) = 0› | exact absurd rfl ‹¬ (1 : Int32) = 1› | (exfalso; rename_i h1 h2; exact h1 (by rw [h2]; exact Int32.le_refl _))))
def isrIL (s : SG) (r : Nat) : Nat → Nat → Int32 → Int32 → Int32 → Int32 → Int32 → Int32
  | 0, _, _, _, _, _, _ => 1
  | n + 1, j, y1, y2, y3, y4, y5 => if y4 < (gaiI s r y1 (nI j) y3 1) then 0 else if (gaiI s r y1 y2 (nI j) 0) ≤ y5 then isrIL s r n (j + 1) y1 y2 y3 y4 y5 else 0
theorem isrIL_rt {s : SG} {r : Nat} : ∀ (n j : Nat) (y1 : Int32) (y2 : Int32) (y3 : Int32) (y4 : Int32) (y5 : Int32), xrt 4 (isrIL s r n j y1 y2 y3 y4 y5) = true := by
  intro n
  induction n with
  | zero =>
    intro j y1 y2 y3 y4 y5
    rw [isrIL]
    first | done | first | with_reducible_and_instances rfl | simp only [hasI_rt, minI_rt, isaI_rt, issI_rt, pasI_rt, arsI_rt, canI7_rt, canI0_rt, islIL_rt, islI_rt, isbIW_rt, isbI_rt, xr40, xr41] | ((repeat' split) <;> first | with_reducible_and_instances rfl | simp only [hasI_rt, minI_rt, isaI_rt, issI_rt, pasI_rt, arsI_rt, canI7_rt, canI0_rt, islIL_rt, islI_rt, isbIW_rt, isbI_rt, xr40, xr41])
  | succ n ih =>
    intro j y1 y2 y3 y4 y5
    rw [isrIL]
    first | done | first | with_reducible_and_instances rfl | simp only [ih, hasI_rt, minI_rt, isaI_rt, issI_rt, pasI_rt, arsI_rt, canI7_rt, canI0_rt, islIL_rt, islI_rt, isbIW_rt, isbI_rt, xr40, xr41] | ((repeat' split) <;> first | with_reducible_and_instances rfl | simp only [ih, hasI_rt, minI_rt, isaI_rt, issI_rt, pasI_rt, arsI_rt, canI7_rt, canI0_rt, islIL_rt, islI_rt, isbIW_rt, isbI_rt, xr40, xr41])
theorem l_isRest {s : SG} (hr : RP K r) (zr : SZ s r)  {i : Nat → List EV → EW → XR} (hi : i = xN sc (d + 4)) : ∀ (n j k : Nat) (y1 : Int32) (y2 : Int32) (y3 : Int32) (y4 : Int32) (y5 : Int32), j + n = sz s r + 1 → n ≤ k → fW sc 6 4 false 7 i (ex sc 6 4 false 7 i kX6_isRest_0 k) kX6_isRest_23 23 [some (.inr (.inr (.inl (some r)))), some (.inl y1), some (.inl y2), some (.inl y3), some (.inl y4), some (.inl y5), some (.inl (nI j))] [] (wl K s) = some (some (.inl (isrIL s r n j y1 y2 y3 y4 y5)), wl K s) := by
  subst hi
  intro n
  induction n with
  | zero =>
    intro j k y1 y2 y3 y4 y5 hj hk
    have hx : (s r 0) < (nI j) := by
      exact sz_gt zr hj
    simp (decide := true) only [uX6_isRest_23, qX6_isRest_23, jX6_isRest_32_68, jX6_isRest_46_60, jX6_isRest_60_62, jX6_isRest_0_23, cR_g0 hr, bd_eq, c_gain hr, zr, xci_eq, zr, up_a, up_b, up_c, pt_c, fl_c, cp_c, if_pos hx]
    try simp (decide := true) only [uX6_isRest_0, uX6_isRest_32, uX6_isRest_46, uX6_isRest_60, uX6_isRest_62, uX6_isRest_68, qX6_isRest_0, qX6_isRest_32, qX6_isRest_46, qX6_isRest_60, qX6_isRest_62, qX6_isRest_68, jX6_isRest_32_68, jX6_isRest_46_60, jX6_isRest_60_62, jX6_isRest_0_23, cR_g0 hr, bd_eq, c_gain hr, zr, xci_eq, zr, up_a, up_b, up_c, pt_c, fl_c, cp_c]
    first | done | (unfold isrIL; first | done | (repeat' split) <;> first | with_reducible_and_instances rfl | contradiction)
  | succ n ih =>
    intro j k y1 y2 y3 y4 y5 hj hk
    obtain ⟨k, rfl⟩ : ∃ k', k = k' + 1 := ⟨k - 1, by omega⟩
    have hx : ¬ ((s r 0) < (nI j)) := by
      exact sz_le zr hj
    have e := fun (y1 : Int32) (y2 : Int32) (y3 : Int32) (y4 : Int32) (y5 : Int32) => ih (j + 1) k y1 y2 y3 y4 y5 (by omega) (by omega)
    simp only [nI_succ] at e
    simp (decide := true) only [uX6_isRest_23, qX6_isRest_23, jX6_isRest_32_68, jX6_isRest_46_60, jX6_isRest_60_62, jX6_isRest_0_23, cR_g0 hr, bd_eq, c_gain hr, zr, xci_eq, zr, up_a, up_b, up_c, pt_c, fl_c, cp_c, if_neg hx]
    simp (decide := true) only [uX6_isRest_0, uX6_isRest_32, uX6_isRest_46, uX6_isRest_60, uX6_isRest_62, uX6_isRest_68, qX6_isRest_0, qX6_isRest_32, qX6_isRest_46, qX6_isRest_60, qX6_isRest_62, qX6_isRest_68, jX6_isRest_32_68, jX6_isRest_46_60, jX6_isRest_60_62, jX6_isRest_0_23, cR_g0 hr, bd_eq, c_gain hr, zr, xci_eq, zr, up_a, up_b, up_c, pt_c, fl_c, cp_c, eX_eq]
    rw [isrIL]
    repeat' split
    all_goals first | exact e _ _ _ _ _ | with_reducible_and_instances rfl | contradiction | exact absurd ‹(1 : Int32) = 0› (by decide) | exact absurd rfl ‹¬ (0 : Int32) = 0› | exact absurd rfl ‹¬ (1 : Int32) = 1›
def isrI (s : SG) (r : Nat) (agree : Int32) (f : Int32) (b : Int32) : Int32 := isrIL s r (sz s r + 1) 0 agree f b (gaiI s r agree f b 1) (gaiI s r agree f b 0)
theorem isrI_rt {s : SG} {r : Nat} {agree : Int32} {f : Int32} {b : Int32} : xrt 4 (isrI s r agree f b) = true := by
  unfold isrI
  first | done | first | with_reducible_and_instances rfl | simp only [hasI_rt, minI_rt, isaI_rt, issI_rt, pasI_rt, arsI_rt, canI7_rt, canI0_rt, islIL_rt, islI_rt, isbIW_rt, isbI_rt, isrIL_rt, xr40, xr41] | ((repeat' split) <;> first | with_reducible_and_instances rfl | simp only [hasI_rt, minI_rt, isaI_rt, issI_rt, pasI_rt, arsI_rt, canI7_rt, canI0_rt, islIL_rt, islI_rt, isbIW_rt, isbI_rt, isrIL_rt, xr40, xr41])
theorem c_isRest {s : SG} {agree : Int32} {f : Int32} {b : Int32} (hr : RP K r) (zr : SZ s r) : xN sc (d + 5) 115 [.inr (.inr (.inl (some r))), .inl agree, .inl f, .inl b] (wl K s) = some (some (.inl (isrI s r agree f b)), wl K s) := by
  rw [mX6_isRest]
  have L23 : ∀ (y1 : Int32) (y2 : Int32) (y3 : Int32) (y4 : Int32) (y5 : Int32), fW sc 6 4 false 7 (xN sc (d + 4)) (ex sc 6 4 false 7 (xN sc (d + 4)) kX6_isRest_0 xF) kX6_isRest_23 23 [some (.inr (.inr (.inl (some r)))), some (.inl y1), some (.inl y2), some (.inl y3), some (.inl y4), some (.inl y5), some (.inl 0)] [] (wl K s) = some (some (.inl (isrIL s r (sz s r + 1) 0 y1 y2 y3 y4 y5)), wl K s) := fun y1 y2 y3 y4 y5 => l_isRest hr zr (hi := rfl) (sz s r + 1) 0 xF y1 y2 y3 y4 y5  (by omega) (by have := xF_ge; have := zr.2; omega)
  simp (decide := true) only [uX6_isRest_0, uX6_isRest_32, uX6_isRest_46, uX6_isRest_60, uX6_isRest_62, uX6_isRest_68, qX6_isRest_0, qX6_isRest_32, qX6_isRest_46, qX6_isRest_60, qX6_isRest_62, qX6_isRest_68, jX6_isRest_32_68, jX6_isRest_46_60, jX6_isRest_60_62, jX6_isRest_0_23, c_gain hr, zr, xci_eq, zr, up_a, up_b, up_c, pt_c, fl_c, cp_c, L23]
  first | done | (unfold isrI; first | done | with_reducible_and_instances rfl | ((repeat' split) <;> first | with_reducible_and_instances rfl | contradiction | exact absurd ‹(1 : Int32) = 0› (by decide) | exact absurd rfl ‹¬ (0 : Int32) = 0› | exact absurd rfl ‹¬ (1 : Int32) = 1› | (exfalso; rename_i h1 h2; exact h1 (by rw [h2]; exact Int32.le_refl _))))
end XCB
