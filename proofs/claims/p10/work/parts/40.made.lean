section XCP
variable {sc : Nat × (Nat → Int32)} {d : Nat} {K : List KD} {r q t a B m : Nat} {w : EW}
/-! new objects: what the constructors make behind a world -/
theorem xpA {w L : EW} {ci j k : Nat} {v : EV} {fs : List EV} (hk : L[k]? = some (cO ci fs)) (hj : Nat.blt j fs.length = true) : xp (w ++ L) ci j v (.inr (.inr (.inl (some (w.length + k))))) = some (w ++ L.set k (cO ci (fs.set j v))) := by
  have e : (w ++ L)[w.length + k]? = some (cO ci fs) := by
    rw [List.getElem?_append_right (by omega), Nat.add_sub_cancel_left]; exact hk
  unfold xp
  simp only [e, Nat.beq_refl, hj, Bool.and_self, cond_true, Option.some.injEq]
  rw [List.set_append_right _ _ (by omega), Nat.add_sub_cancel_left]
theorem xgaA {w L : EW} {ci j k : Nat} {u : Option Nat} {fs : List EV} (hk : L[k]? = some (cO ci fs)) (hj : fs[j]? = some (eO u)) : xga (w ++ L) ci j (.inr (.inr (.inl (some (w.length + k))))) = some u := by
  have e : (w ++ L)[w.length + k]? = some (cO ci fs) := by
    rw [List.getElem?_append_right (by omega), Nat.add_sub_cancel_left]; exact hk
  unfold xga
  simp only [e, Nat.beq_refl, cond_true, hj]
theorem xnnA {w L : EW} {k t n : Nat} {f : Nat → Option Nat} (hk : L[k]? = some (cQ t n f)) (ht : Nat.blt t 5 = true) : xnn sc (w ++ L) (.inr (.inr (.inl (some (w.length + k))))) = some n := by
  have e : (w ++ L)[w.length + k]? = some (cQ t n f) := by
    rw [List.getElem?_append_right (by omega), Nat.add_sub_cancel_left]; exact hk
  unfold xnn
  simp only [e, ht, cond_true]
theorem xtqA {w L : EW} {k t n ci q j : Nat} {f : Nat → Option Nat} {fs : List EV} (hk : L[k]? = some (cQ t n f)) (hq : L[q]? = some (cO ci fs)) (ht : (Nat.ble 2 t && Nat.ble t 4) = true) (hj : j < n) (hn : n < 2 ^ 31) (hc : Nat.beq ci (xco_of t) = true) : xtq (w ++ L) (nI j) (.inr (.inr (.inl (some (w.length + q))))) (.inr (.inr (.inl (some (w.length + k))))) = some (w ++ L.set k (cQ t n (va_up f j (some (w.length + q))))) := by
  have e : (w ++ L)[w.length + k]? = some (cQ t n f) := by
    rw [List.getElem?_append_right (by omega), Nat.add_sub_cancel_left]; exact hk
  have e2 : (w ++ L)[w.length + q]? = some (cO ci fs) := by
    rw [List.getElem?_append_right (by omega), Nat.add_sub_cancel_left]; exact hq
  unfold xtq
  simp only [e, e2, xvb_nI hj hn, hc, ht, Bool.and_self, cond_true, Option.some.injEq]
  rw [List.set_append_right _ _ (by omega), Nat.add_sub_cancel_left, nI_clamp (by omega)]
abbrev z0 : Nat → Int32 := fun _ => 0
def row0 (n : Nat) : EW := [cO 3 [eI 0, eR (n + 1)], cI 0 200 z0]
def rep0 (n : Nat) : EW := [cO 2 [eI 0, eR (n + 1), eR (n + 2), eR (n + 3), eR (n + 4), eR (n + 5), eR (n + 6), eR (n + 7), eI 0, eI 0, eI 0, eI 0, eI 0, eI 0], cI 0 6 z0, cI 0 6 z0, cI 0 6 z0, cI 0 6 z0, cI 0 72 z0, cI 0 6 z0, cI 0 3 z0]
theorem c_init3 {w : EW} : xN sc (d + 1) 56 [.inr (.inr (.inl (some w.length)))] (w ++ [cO 3 [eI 0, eN]]) = some (none, w ++ row0 w.length) := by
  rw [mX3_init]
  have e1 : xp (w ++ [cO 3 [eI 0, eN], cI 0 200 z0]) 3 1 (.inr (.inr (.inl (some (w.length + 1))))) (.inr (.inr (.inl (some w.length)))) = some (w ++ row0 w.length) := xpA (k := 0) (fs := [eI 0, eN]) rfl rfl
  simp only [uX3_init_0, qX3_init_0, List.append_assoc, List.cons_append, List.nil_append, List.length_append, List.length_cons, List.length_nil, Nat.zero_add, Nat.reduceAdd, e1, bd_eq]
theorem c_init2 {w : EW} : xN sc (d + 1) 40 [.inr (.inr (.inl (some w.length)))] (w ++ [cO 2 [eI 0, eN, eN, eN, eN, eN, eN, eN, eI 0, eI 0, eI 0, eI 0, eI 0, eI 0]]) = some (none, w ++ rep0 w.length) := by
  rw [mX2_init]
  have e1 : xp (w ++ [cO 2 [eI 0, eN, eN, eN, eN, eN, eN, eN, eI 0, eI 0, eI 0, eI 0, eI 0, eI 0], cI 0 6 z0]) 2 1 (.inr (.inr (.inl (some (w.length + 1))))) (.inr (.inr (.inl (some w.length)))) = some (w ++ [cO 2 [eI 0, eR (w.length + 1), eN, eN, eN, eN, eN, eN, eI 0, eI 0, eI 0, eI 0, eI 0, eI 0], cI 0 6 z0]) := xpA (k := 0) (fs := [eI 0, eN, eN, eN, eN, eN, eN, eN, eI 0, eI 0, eI 0, eI 0, eI 0, eI 0]) rfl rfl
  have e2 : xp (w ++ [cO 2 [eI 0, eR (w.length + 1), eN, eN, eN, eN, eN, eN, eI 0, eI 0, eI 0, eI 0, eI 0, eI 0], cI 0 6 z0, cI 0 6 z0]) 2 2 (.inr (.inr (.inl (some (w.length + 2))))) (.inr (.inr (.inl (some w.length)))) = some (w ++ [cO 2 [eI 0, eR (w.length + 1), eR (w.length + 2), eN, eN, eN, eN, eN, eI 0, eI 0, eI 0, eI 0, eI 0, eI 0], cI 0 6 z0, cI 0 6 z0]) := xpA (k := 0) (fs := [eI 0, eR (w.length + 1), eN, eN, eN, eN, eN, eN, eI 0, eI 0, eI 0, eI 0, eI 0, eI 0]) rfl rfl
  have e3 : xp (w ++ [cO 2 [eI 0, eR (w.length + 1), eR (w.length + 2), eN, eN, eN, eN, eN, eI 0, eI 0, eI 0, eI 0, eI 0, eI 0], cI 0 6 z0, cI 0 6 z0, cI 0 6 z0]) 2 3 (.inr (.inr (.inl (some (w.length + 3))))) (.inr (.inr (.inl (some w.length)))) = some (w ++ [cO 2 [eI 0, eR (w.length + 1), eR (w.length + 2), eR (w.length + 3), eN, eN, eN, eN, eI 0, eI 0, eI 0, eI 0, eI 0, eI 0], cI 0 6 z0, cI 0 6 z0, cI 0 6 z0]) := xpA (k := 0) (fs := [eI 0, eR (w.length + 1), eR (w.length + 2), eN, eN, eN, eN, eN, eI 0, eI 0, eI 0, eI 0, eI 0, eI 0]) rfl rfl
  have e4 : xp (w ++ [cO 2 [eI 0, eR (w.length + 1), eR (w.length + 2), eR (w.length + 3), eN, eN, eN, eN, eI 0, eI 0, eI 0, eI 0, eI 0, eI 0], cI 0 6 z0, cI 0 6 z0, cI 0 6 z0, cI 0 6 z0]) 2 4 (.inr (.inr (.inl (some (w.length + 4))))) (.inr (.inr (.inl (some w.length)))) = some (w ++ [cO 2 [eI 0, eR (w.length + 1), eR (w.length + 2), eR (w.length + 3), eR (w.length + 4), eN, eN, eN, eI 0, eI 0, eI 0, eI 0, eI 0, eI 0], cI 0 6 z0, cI 0 6 z0, cI 0 6 z0, cI 0 6 z0]) := xpA (k := 0) (fs := [eI 0, eR (w.length + 1), eR (w.length + 2), eR (w.length + 3), eN, eN, eN, eN, eI 0, eI 0, eI 0, eI 0, eI 0, eI 0]) rfl rfl
  have e5 : xp (w ++ [cO 2 [eI 0, eR (w.length + 1), eR (w.length + 2), eR (w.length + 3), eR (w.length + 4), eN, eN, eN, eI 0, eI 0, eI 0, eI 0, eI 0, eI 0], cI 0 6 z0, cI 0 6 z0, cI 0 6 z0, cI 0 6 z0, cI 0 72 z0]) 2 5 (.inr (.inr (.inl (some (w.length + 5))))) (.inr (.inr (.inl (some w.length)))) = some (w ++ [cO 2 [eI 0, eR (w.length + 1), eR (w.length + 2), eR (w.length + 3), eR (w.length + 4), eR (w.length + 5), eN, eN, eI 0, eI 0, eI 0, eI 0, eI 0, eI 0], cI 0 6 z0, cI 0 6 z0, cI 0 6 z0, cI 0 6 z0, cI 0 72 z0]) := xpA (k := 0) (fs := [eI 0, eR (w.length + 1), eR (w.length + 2), eR (w.length + 3), eR (w.length + 4), eN, eN, eN, eI 0, eI 0, eI 0, eI 0, eI 0, eI 0]) rfl rfl
  have e6 : xp (w ++ [cO 2 [eI 0, eR (w.length + 1), eR (w.length + 2), eR (w.length + 3), eR (w.length + 4), eR (w.length + 5), eN, eN, eI 0, eI 0, eI 0, eI 0, eI 0, eI 0], cI 0 6 z0, cI 0 6 z0, cI 0 6 z0, cI 0 6 z0, cI 0 72 z0, cI 0 6 z0]) 2 6 (.inr (.inr (.inl (some (w.length + 6))))) (.inr (.inr (.inl (some w.length)))) = some (w ++ [cO 2 [eI 0, eR (w.length + 1), eR (w.length + 2), eR (w.length + 3), eR (w.length + 4), eR (w.length + 5), eR (w.length + 6), eN, eI 0, eI 0, eI 0, eI 0, eI 0, eI 0], cI 0 6 z0, cI 0 6 z0, cI 0 6 z0, cI 0 6 z0, cI 0 72 z0, cI 0 6 z0]) := xpA (k := 0) (fs := [eI 0, eR (w.length + 1), eR (w.length + 2), eR (w.length + 3), eR (w.length + 4), eR (w.length + 5), eN, eN, eI 0, eI 0, eI 0, eI 0, eI 0, eI 0]) rfl rfl
  have e7 : xp (w ++ [cO 2 [eI 0, eR (w.length + 1), eR (w.length + 2), eR (w.length + 3), eR (w.length + 4), eR (w.length + 5), eR (w.length + 6), eN, eI 0, eI 0, eI 0, eI 0, eI 0, eI 0], cI 0 6 z0, cI 0 6 z0, cI 0 6 z0, cI 0 6 z0, cI 0 72 z0, cI 0 6 z0, cI 0 3 z0]) 2 7 (.inr (.inr (.inl (some (w.length + 7))))) (.inr (.inr (.inl (some w.length)))) = some (w ++ [cO 2 [eI 0, eR (w.length + 1), eR (w.length + 2), eR (w.length + 3), eR (w.length + 4), eR (w.length + 5), eR (w.length + 6), eR (w.length + 7), eI 0, eI 0, eI 0, eI 0, eI 0, eI 0], cI 0 6 z0, cI 0 6 z0, cI 0 6 z0, cI 0 6 z0, cI 0 72 z0, cI 0 6 z0, cI 0 3 z0]) := xpA (k := 0) (fs := [eI 0, eR (w.length + 1), eR (w.length + 2), eR (w.length + 3), eR (w.length + 4), eR (w.length + 5), eR (w.length + 6), eN, eI 0, eI 0, eI 0, eI 0, eI 0, eI 0]) rfl rfl
  simp only [uX2_init_0, qX2_init_0, List.append_assoc, List.cons_append, List.nil_append, List.length_append, List.length_cons, List.length_nil, Nat.zero_add, Nat.reduceAdd, e1, e2, e3, e4, e5, e6, e7, bd_eq]
  rfl
def tlh (n j k : Nat) : EW := [cO 5 [eR (n + 1), eI 0, eI 0, eI (-1), eR (n + 2), eR (n + 3), eR (n + 4)], cI 0 600 z0, cI 0 6 z0, cQ 2 2 (fun i => if i < j then some (n + 5 + 8 * i) else none), cQ 3 10 (fun i => if i < k then some (n + 21 + 2 * i) else none)]
def rps (n : Nat) : Nat → EW
  | 0 => []
  | j + 1 => rps n j ++ rep0 (n + 5 + 8 * j)
def rws (n : Nat) : Nat → EW
  | 0 => []
  | j + 1 => rws n j ++ row0 (n + 21 + 2 * j)
theorem rps_len {n : Nat} : ∀ j, (rps n j).length = 8 * j := by
  intro j
  induction j with
  | zero => rfl
  | succ j ih => rw [rps, List.length_append, ih]; show 8 * j + 8 = _; omega
theorem rws_len {n : Nat} : ∀ j, (rws n j).length = 2 * j := by
  intro j
  induction j with
  | zero => rfl
  | succ j ih => rw [rws, List.length_append, ih]; show 2 * j + 2 = _; omega
theorem va_lt {g : Nat → Nat} {j : Nat} : va_up (fun i => if i < j then some (g i) else none) j (some (g j)) = (fun i => if i < j + 1 then some (g i) else none) := by
  funext i
  unfold va_up
  by_cases e : i = j
  · subst e; simp
  · by_cases h : i < j
    · simp [e, h, show i < j + 1 by omega]
    · simp [e, h, show ¬ i < j + 1 by omega]
theorem l_init5a {w : EW} : ∀ (n j k : Nat), j + n = 2 → n ≤ k → ∃ k', k ≤ k' + n ∧ fW sc 5 0 true 2 (xN sc (d + 1)) (ex sc 5 0 true 2 (xN sc (d + 1)) kX5_init_0 k) kX5_init_45 45 [some (.inr (.inr (.inl (some w.length)))), some (.inl (nI j))] [] (w ++ (tlh w.length j 0 ++ rps w.length j)) = fW sc 5 0 true 2 (xN sc (d + 1)) (ex sc 5 0 true 2 (xN sc (d + 1)) kX5_init_0 k') kX5_init_73 73 [some (.inr (.inr (.inl (some w.length)))), some (.inl (nI 2))] [] (w ++ (tlh w.length 2 0 ++ rps w.length 2)) := by
  intro n
  induction n with
  | zero =>
    intro j k hj hk
    have e : j = 2 := by omega
    subst e
    refine ⟨k, by omega, ?_⟩
    have e1 : xga (w ++ (tlh w.length 2 0 ++ rps w.length 2)) 5 5 (.inr (.inr (.inl (some w.length)))) = some (some (w.length + 3)) := xgaA (k := 0) rfl rfl
    have e2 : xnn sc (w ++ (tlh w.length 2 0 ++ rps w.length 2)) (.inr (.inr (.inl (some (w.length + 3))))) = some 2 := xnnA (k := 3) rfl rfl
    simp only [uX5_init_45, qX5_init_45, jX5_init_54_73, jX5_init_84_103, jX5_init_0_45, jX5_init_0_75, e1, e2, bd_eq, if_pos (Int32.le_refl (nI 2))]
  | succ n ih =>
    intro j k hj hk
    obtain ⟨k, rfl⟩ : ∃ k', k = k' + 1 := ⟨k - 1, by omega⟩
    obtain ⟨k2, hk2, e⟩ := ih (j + 1) k (by omega) (by omega)
    refine ⟨k2, by omega, ?_⟩
    rw [nI_succ] at e
    have hl : (w ++ (tlh w.length j 0 ++ rps w.length j)).length = w.length + (5 + 8 * j) := by
      rw [List.length_append, List.length_append, rps_len]; rfl
    have e1 : xga (w ++ (tlh w.length j 0 ++ rps w.length j)) 5 5 (.inr (.inr (.inl (some w.length)))) = some (some (w.length + 3)) := xgaA (k := 0) rfl rfl
    have e2 : xnn sc (w ++ (tlh w.length j 0 ++ rps w.length j)) (.inr (.inr (.inl (some (w.length + 3))))) = some 2 := xnnA (k := 3) rfl rfl
    have e3 := c_init2 (sc := sc) (d := d) (w := w ++ (tlh w.length j 0 ++ rps w.length j))
    rw [hl] at e3
    simp only [List.append_assoc] at e3
    have e4 : xtq (w ++ (tlh w.length j 0 ++ (rps w.length j ++ rep0 (w.length + (5 + 8 * j))))) (nI j) (.inr (.inr (.inl (some (w.length + (5 + 8 * j)))))) (.inr (.inr (.inl (some (w.length + 3))))) = some (w ++ (tlh w.length (j + 1) 0 ++ (rps w.length j ++ rep0 (w.length + (5 + 8 * j))))) := by
      refine (xtqA (k := 3) (q := 5 + 8 * j) (t := 2) (n := 2) (ci := 2) (f := fun i => if i < j then some (w.length + 5 + 8 * i) else none) (fs := [eI 0, eR (w.length + (5 + 8 * j) + 1), eR (w.length + (5 + 8 * j) + 2), eR (w.length + (5 + 8 * j) + 3), eR (w.length + (5 + 8 * j) + 4), eR (w.length + (5 + 8 * j) + 5), eR (w.length + (5 + 8 * j) + 6), eR (w.length + (5 + 8 * j) + 7), eI 0, eI 0, eI 0, eI 0, eI 0, eI 0]) rfl ?_ rfl (by omega) (by decide) rfl).trans ?_
      · rw [List.getElem?_append_right (by show 5 ≤ _; omega)]
        show (rps w.length j ++ rep0 (w.length + (5 + 8 * j)))[5 + 8 * j - 5]? = _
        rw [show 5 + 8 * j - 5 = 8 * j by omega, List.getElem?_append_right (by rw [rps_len]; omega), rps_len, Nat.sub_self]
        rfl
      · have ev := va_lt (g := fun i => w.length + 5 + 8 * i) (j := j)
        have ea : w.length + (5 + 8 * j) = w.length + 5 + 8 * j := by omega
        rw [ea, ev]
        rfl
    simp only [uX5_init_45, qX5_init_45, jX5_init_54_73, jX5_init_84_103, jX5_init_0_45, jX5_init_0_75, e1, e2, bd_eq, if_neg (k_lt hj (show 2 < 2 ^ 31 by decide))]
    simp only [uX5_init_54, qX5_init_54, jX5_init_54_73, jX5_init_84_103, jX5_init_0_45, jX5_init_0_75, e1, bd_eq, hl, e3, xcv_eq, List.append_assoc, e4, eX_eq]
    rw [rps, show w.length + 5 + 8 * j = w.length + (5 + 8 * j) by omega] at e
    exact e
theorem l_init5b {w : EW} : ∀ (n j k : Nat), j + n = 10 → n ≤ k → fW sc 5 0 true 2 (xN sc (d + 1)) (ex sc 5 0 true 2 (xN sc (d + 1)) kX5_init_0 k) kX5_init_75 75 [some (.inr (.inr (.inl (some w.length)))), some (.inl (nI j))] [] (w ++ (tlh w.length 2 j ++ (rps w.length 2 ++ rws w.length j))) = some (none, w ++ (tlh w.length 2 10 ++ (rps w.length 2 ++ rws w.length 10))) := by
  intro n
  induction n with
  | zero =>
    intro j k hj hk
    have e : j = 10 := by omega
    subst e
    have e1 : xga (w ++ (tlh w.length 2 10 ++ (rps w.length 2 ++ rws w.length 10))) 5 6 (.inr (.inr (.inl (some w.length)))) = some (some (w.length + 4)) := xgaA (k := 0) rfl rfl
    have e2 : xnn sc (w ++ (tlh w.length 2 10 ++ (rps w.length 2 ++ rws w.length 10))) (.inr (.inr (.inl (some (w.length + 4))))) = some 10 := xnnA (k := 4) rfl rfl
    simp only [uX5_init_75, qX5_init_75, jX5_init_54_73, jX5_init_84_103, jX5_init_0_45, jX5_init_0_75, e1, e2, bd_eq, if_pos (Int32.le_refl (nI 10))]
    simp only [uX5_init_103, qX5_init_103, jX5_init_54_73, jX5_init_84_103, jX5_init_0_45, jX5_init_0_75]
  | succ n ih =>
    intro j k hj hk
    obtain ⟨k, rfl⟩ : ∃ k', k = k' + 1 := ⟨k - 1, by omega⟩
    have e := ih (j + 1) k (by omega) (by omega)
    rw [nI_succ] at e
    have hl : (w ++ (tlh w.length 2 j ++ (rps w.length 2 ++ rws w.length j))).length = w.length + (21 + 2 * j) := by
      rw [List.length_append, List.length_append, List.length_append, rps_len, rws_len]
      show w.length + (5 + (8 * 2 + 2 * j)) = _
      omega
    have e1 : xga (w ++ (tlh w.length 2 j ++ (rps w.length 2 ++ rws w.length j))) 5 6 (.inr (.inr (.inl (some w.length)))) = some (some (w.length + 4)) := xgaA (k := 0) rfl rfl
    have e2 : xnn sc (w ++ (tlh w.length 2 j ++ (rps w.length 2 ++ rws w.length j))) (.inr (.inr (.inl (some (w.length + 4))))) = some 10 := xnnA (k := 4) rfl rfl
    have e3 := c_init3 (sc := sc) (d := d) (w := w ++ (tlh w.length 2 j ++ (rps w.length 2 ++ rws w.length j)))
    rw [hl] at e3
    simp only [List.append_assoc] at e3
    have e4 : xtq (w ++ (tlh w.length 2 j ++ (rps w.length 2 ++ (rws w.length j ++ row0 (w.length + (21 + 2 * j)))))) (nI j) (.inr (.inr (.inl (some (w.length + (21 + 2 * j)))))) (.inr (.inr (.inl (some (w.length + 4))))) = some (w ++ (tlh w.length 2 (j + 1) ++ (rps w.length 2 ++ (rws w.length j ++ row0 (w.length + (21 + 2 * j)))))) := by
      refine (xtqA (k := 4) (q := 21 + 2 * j) (t := 3) (n := 10) (ci := 3) (f := fun i => if i < j then some (w.length + 21 + 2 * i) else none) (fs := [eI 0, eR (w.length + (21 + 2 * j) + 1)]) rfl ?_ rfl (by omega) (by decide) rfl).trans ?_
      · rw [List.getElem?_append_right (by show 5 ≤ _; omega)]
        show (rps w.length 2 ++ (rws w.length j ++ row0 (w.length + (21 + 2 * j))))[21 + 2 * j - 5]? = _
        rw [List.getElem?_append_right (by rw [rps_len]; omega), rps_len, show 21 + 2 * j - 5 - 8 * 2 = 2 * j by omega, List.getElem?_append_right (by rw [rws_len]; omega), rws_len, Nat.sub_self]
        rfl
      · have ev := va_lt (g := fun i => w.length + 21 + 2 * i) (j := j)
        have ea : w.length + (21 + 2 * j) = w.length + 21 + 2 * j := by omega
        rw [ea, ev]
        rfl
    simp only [uX5_init_75, qX5_init_75, jX5_init_54_73, jX5_init_84_103, jX5_init_0_45, jX5_init_0_75, e1, e2, bd_eq, if_neg (k_lt hj (show 10 < 2 ^ 31 by decide))]
    simp only [uX5_init_84, qX5_init_84, jX5_init_54_73, jX5_init_84_103, jX5_init_0_45, jX5_init_0_75, e1, bd_eq, hl, e3, xcv_eq, List.append_assoc, e4, eX_eq]
    rw [rws, show w.length + 21 + 2 * j = w.length + (21 + 2 * j) by omega] at e
    exact e
def tld0 (n : Nat) : EW := tlh n 2 10 ++ (rps n 2 ++ rws n 10)
theorem c_init5 {w : EW} : xN sc (d + 2) 67 [.inr (.inr (.inl (some w.length)))] (w ++ [cO 5 [eN, eI 0, eI 0, eI 0, eN, eN, eN]]) = some (none, w ++ tld0 w.length) := by
  rw [mX5_init]
  have e1 : xp (w ++ [cO 5 [eN, eI 0, eI 0, eI 0, eN, eN, eN], cI 0 600 z0]) 5 0 (.inr (.inr (.inl (some (w.length + 1))))) (.inr (.inr (.inl (some w.length)))) = some (w ++ [cO 5 [eR (w.length + 1), eI 0, eI 0, eI 0, eN, eN, eN], cI 0 600 z0]) := xpA (k := 0) (fs := [eN, eI 0, eI 0, eI 0, eN, eN, eN]) rfl rfl
  have e2 : xp (w ++ [cO 5 [eR (w.length + 1), eI 0, eI 0, eI 0, eN, eN, eN], cI 0 600 z0]) 5 3 (.inl (-1)) (.inr (.inr (.inl (some w.length)))) = some (w ++ [cO 5 [eR (w.length + 1), eI 0, eI 0, eI (-1), eN, eN, eN], cI 0 600 z0]) := xpA (k := 0) (fs := [eR (w.length + 1), eI 0, eI 0, eI 0, eN, eN, eN]) rfl rfl
  have e3 : xp (w ++ [cO 5 [eR (w.length + 1), eI 0, eI 0, eI (-1), eN, eN, eN], cI 0 600 z0, cI 0 6 z0]) 5 4 (.inr (.inr (.inl (some (w.length + 2))))) (.inr (.inr (.inl (some w.length)))) = some (w ++ [cO 5 [eR (w.length + 1), eI 0, eI 0, eI (-1), eR (w.length + 2), eN, eN], cI 0 600 z0, cI 0 6 z0]) := xpA (k := 0) (fs := [eR (w.length + 1), eI 0, eI 0, eI (-1), eN, eN, eN]) rfl rfl
  have e4 : xp (w ++ [cO 5 [eR (w.length + 1), eI 0, eI 0, eI (-1), eR (w.length + 2), eN, eN], cI 0 600 z0, cI 0 6 z0, cQ 2 2 (fun _ => none)]) 5 5 (.inr (.inr (.inl (some (w.length + 3))))) (.inr (.inr (.inl (some w.length)))) = some (w ++ [cO 5 [eR (w.length + 1), eI 0, eI 0, eI (-1), eR (w.length + 2), eR (w.length + 3), eN], cI 0 600 z0, cI 0 6 z0, cQ 2 2 (fun _ => none)]) := xpA (k := 0) (fs := [eR (w.length + 1), eI 0, eI 0, eI (-1), eR (w.length + 2), eN, eN]) rfl rfl
  have e5 : xp (w ++ [cO 5 [eR (w.length + 1), eI 0, eI 0, eI (-1), eR (w.length + 2), eR (w.length + 3), eN], cI 0 600 z0, cI 0 6 z0, cQ 2 2 (fun _ => none), cQ 3 10 (fun _ => none)]) 5 6 (.inr (.inr (.inl (some (w.length + 4))))) (.inr (.inr (.inl (some w.length)))) = some (w ++ [cO 5 [eR (w.length + 1), eI 0, eI 0, eI (-1), eR (w.length + 2), eR (w.length + 3), eR (w.length + 4)], cI 0 600 z0, cI 0 6 z0, cQ 2 2 (fun _ => none), cQ 3 10 (fun _ => none)]) := xpA (k := 0) (fs := [eR (w.length + 1), eI 0, eI 0, eI (-1), eR (w.length + 2), eR (w.length + 3), eN]) rfl rfl
  simp only [uX5_init_0, qX5_init_0, jX5_init_54_73, jX5_init_84_103, jX5_init_0_45, jX5_init_0_75, List.append_assoc, List.cons_append, List.nil_append, List.length_append, List.length_cons, List.length_nil, Nat.zero_add, Nat.reduceAdd, e1, e2, e3, e4, e5, bd_eq]
  have hF := xF_ge
  obtain ⟨k, hk, e⟩ := l_init5a (sc := sc) (d := d) (w := w) 2 0 xF rfl (by omega)
  have t0 : [cO 5 [eR (w.length + 1), eI 0, eI 0, eI (-1), eR (w.length + 2), eR (w.length + 3), eR (w.length + 4)], cI 0 600 z0, cI 0 6 z0, cQ 2 2 (fun _ => none), cQ 3 10 (fun _ => none)] = tlh w.length 0 0 ++ rps w.length 0 := by
    have f0 : (fun i => if i < 0 then some (w.length + 5 + 8 * i) else none) = (fun _ => (none : Option Nat)) := by
      funext i; rw [if_neg (by omega)]
    have f1 : (fun i => if i < 0 then some (w.length + 21 + 2 * i) else none) = (fun _ => (none : Option Nat)) := by
      funext i; rw [if_neg (by omega)]
    unfold tlh rps
    rw [f0, f1, List.append_nil]
  rw [t0]
  refine e.trans ?_
  simp only [uX5_init_73, qX5_init_73, jX5_init_54_73, jX5_init_84_103, jX5_init_0_45, jX5_init_0_75]
  exact l_init5b (sc := sc) (d := d) (w := w) 10 0 k rfl (by omega)
end XCP
