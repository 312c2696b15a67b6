section XCD
variable {sc : Nat × (Nat → Int32)} {d : Nat} {K : List KD} {r q t a B m : Nat} {w : EW}
/-! the class: what is told, and the queries -/
def kepO (x : Int32) : Option Nat := if x < 0 then none else if 2 ≤ x then none else if x.toNatClampNeg < 2 then some (1 + 5 + 8 * x.toNatClampNeg) else none
theorem c_republicKept {s : SG} {x : Int32} (h : SH K) : xN sc (d + 1) 68 [.inr (.inr (.inl (some 1))), .inl x] (wl K s) = some (some (.inr (.inr (.inl (kepO x)))), wl K s) := by
  have n4 : xnn sc (wl K s) (.inr (.inr (.inl (some 4)))) = some 2 := cT3_n (cS_t h)
  rw [mX5_republicKept]
  simp only [uX5_republicKept_0, uX5_republicKept_4, uX5_republicKept_13, uX5_republicKept_22, uX5_republicKept_23, qX5_republicKept_0, qX5_republicKept_4, qX5_republicKept_13, qX5_republicKept_22, qX5_republicKept_23, jX5_republicKept_4_22, jX5_republicKept_13_22, jX5_republicKept_22_23, c1_g5 h, n4, bd_eq]
  unfold kepO
  split
  · rfl
  · split
    · rename_i h1 h2
      rw [if_pos (show (2 : Int32) ≤ x from h2)]
    · rename_i h1 h2
      rw [if_neg (show ¬ (2 : Int32) ≤ x from h2)]
      have n5 : xdq (wl K s) x (.inr (.inr (.inl (some 4)))) = some (if x.toNatClampNeg < 2 then some (1 + 5 + 8 * x.toNatClampNeg) else none) := cT3_d (cS_t h) (xvb_of (n := 2) (by decide) h1 h2)
      simp only [n5, bd_eq]
def rkpO (x : Int32) : Option Nat := if x < 0 then none else if 10 ≤ x then none else if x.toNatClampNeg < 10 then some (1 + 21 + 2 * x.toNatClampNeg) else none
theorem c_rowsKept {s : SG} {x y : Int32} (h : SH K) : xN sc (d + 1) 69 [.inr (.inr (.inl (some 1))), .inl x, .inl y] (wl K s) = some (some (.inr (.inr (.inl (rkpO ((x - 1) * 2 + y))))), wl K s) := by
  have n4 : xnn sc (wl K s) (.inr (.inr (.inl (some 5)))) = some 10 := cT4_n (cS_t h)
  rw [mX5_rowsKept]
  simp only [uX5_rowsKept_0, uX5_rowsKept_12, uX5_rowsKept_21, uX5_rowsKept_30, uX5_rowsKept_31, qX5_rowsKept_0, qX5_rowsKept_12, qX5_rowsKept_21, qX5_rowsKept_30, qX5_rowsKept_31, jX5_rowsKept_12_30, jX5_rowsKept_21_30, jX5_rowsKept_30_31, c1_g6 h, n4, bd_eq]
  generalize (x - 1) * 2 + y = z
  unfold rkpO
  split
  · rfl
  · split
    · rename_i h1 h2
      rw [if_pos (show (10 : Int32) ≤ z from h2)]
    · rename_i h1 h2
      rw [if_neg (show ¬ (10 : Int32) ≤ z from h2)]
      have n5 : xdq (wl K s) z (.inr (.inr (.inl (some 5)))) = some (if z.toNatClampNeg < 10 then some (1 + 21 + 2 * z.toNatClampNeg) else none) := cT4_d (cS_t h) (xvb_of (n := 10) (by decide) h1 h2)
      simp only [n5, bd_eq]
def repO (s : SG) (x : Int32) : Option Nat := if x < 0 then none else if cl 6 (s 3) 0 ≤ x then none else kepO x
theorem c_republicAt {s : SG} {x : Int32} (h : SH K) : xN sc (d + 2) 82 [.inr (.inr (.inl (some 0))), .inl x] (wl K s) = some (some (.inr (.inr (.inl (repO s x)))), wl K s) := by
  rw [mX6_republicAt]
  simp only [uX6_republicAt_0, uX6_republicAt_4, uX6_republicAt_19, uX6_republicAt_30, uX6_republicAt_31, qX6_republicAt_0, qX6_republicAt_4, qX6_republicAt_19, qX6_republicAt_30, qX6_republicAt_31, jX6_republicAt_4_30, jX6_republicAt_19_30, jX6_republicAt_30_31, c0_g0 h, c1_g4 h, bd_eq, lc3 h, xci_eq, c1_v h, cond_true, c_republicKept h, xco_eq]
  unfold repO
  repeat' split
  all_goals first | rfl | contradiction
def rowO (s : SG) (so x : Int32) : Option Nat := if x < 0 then none else if cl 6 (s 3) so ≤ x then none else rkpO ((so - 1) * 2 + x)
theorem c_rowsAt {s : SG} {so x : Int32} (h : SH K) : xN sc (d + 2) 83 [.inr (.inr (.inl (some 0))), .inl so, .inl x] (wl K s) = some (some (.inr (.inr (.inl (rowO s so x)))), wl K s) := by
  rw [mX6_rowsAt]
  simp only [uX6_rowsAt_0, uX6_rowsAt_4, uX6_rowsAt_19, uX6_rowsAt_31, uX6_rowsAt_32, qX6_rowsAt_0, qX6_rowsAt_4, qX6_rowsAt_19, qX6_rowsAt_31, qX6_rowsAt_32, jX6_rowsAt_4_31, jX6_rowsAt_19_31, jX6_rowsAt_31_32, c0_g0 h, c1_g4 h, bd_eq, lc3 h, xci_eq, c1_v h, cond_true, c_rowsKept h, xco_eq]
  unfold rowO
  repeat' split
  all_goals first | rfl | contradiction
/-- what is told is as a text can tell it -/
def TV (s : SG) : Prop := SZ s 6 ∧ SZ s 14 ∧ ∀ j, j < 10 → RZ s (22 + 2 * j)
theorem kepO_c {x : Int32} : kepO x = none ∨ kepO x = some 6 ∨ kepO x = some 14 := by
  unfold kepO
  split
  · exact Or.inl rfl
  · split
    · exact Or.inl rfl
    · split
      · rename_i hh
        rcases (by omega : x.toNatClampNeg = 0 ∨ x.toNatClampNeg = 1) with e | e <;> rw [e]
        · exact Or.inr (Or.inl rfl)
        · exact Or.inr (Or.inr rfl)
      · exact Or.inl rfl
theorem RP6 (h : SH K) : RP K 6 := cT_r5 (cS_t h)
theorem RP14 (h : SH K) : RP K 14 := cT_r13 (cS_t h)
theorem repO_c {s : SG} {x : Int32} (h : SH K) (tv : TV s) : repO s x = none ∨ ∃ r, repO s x = some r ∧ RP K r ∧ r + 8 ≤ 42 ∧ SZ s r := by
  unfold repO
  split
  · exact Or.inl rfl
  · split
    · exact Or.inl rfl
    · rcases kepO_c (x := x) with e | e | e
      · exact Or.inl e
      · exact Or.inr ⟨6, e, RP6 h, by decide, tv.1⟩
      · exact Or.inr ⟨14, e, RP14 h, by decide, tv.2.1⟩
theorem RW2 (h : SH K) : ∀ j, j < 10 → RW K (22 + 2 * j) := by
  intro j hj
  have t := cS_t h
  rcases (by omega : j = 0 ∨ j = 1 ∨ j = 2 ∨ j = 3 ∨ j = 4 ∨ j = 5 ∨ j = 6 ∨ j = 7 ∨ j = 8 ∨ j = 9) with e | e | e | e | e | e | e | e | e | e <;> subst e
  · exact cT_w0 t
  · exact cT_w1 t
  · exact cT_w2 t
  · exact cT_w3 t
  · exact cT_w4 t
  · exact cT_w5 t
  · exact cT_w6 t
  · exact cT_w7 t
  · exact cT_w8 t
  · exact cT_w9 t
theorem rkpO_c {x : Int32} : rkpO x = none ∨ ∃ j, j < 10 ∧ rkpO x = some (22 + 2 * j) := by
  unfold rkpO
  split
  · exact Or.inl rfl
  · split
    · exact Or.inl rfl
    · split
      · rename_i hh
        exact Or.inr ⟨_, hh, rfl⟩
      · exact Or.inl rfl
theorem rowO_c {s : SG} {so x : Int32} (h : SH K) (tv : TV s) : rowO s so x = none ∨ ∃ q, rowO s so x = some q ∧ RW K q ∧ q + 2 ≤ 42 ∧ RZ s q := by
  unfold rowO
  split
  · exact Or.inl rfl
  · split
    · exact Or.inl rfl
    · rcases rkpO_c (x := (so - 1) * 2 + x) with e | ⟨j, hj, e⟩
      · exact Or.inl e
      · exact Or.inr ⟨_, e, RW2 h j hj, by omega, tv.2.2 j hj⟩
def movI (s : SG) (r : Nat) (who se day : Int32) : Option Nat := if minI s r who = 0 then none else if issI se = 0 then none else if day = -1 then none else some r
def movF (s : SG) (a who se day : Int32) : Option Nat := match repO s a with
  | none => none
  | some r => movI s r who se day
theorem c_movedIn {s : SG} {a who se day : Int32} (h : SH K) (tv : TV s) : xN sc (d + 3) 91 [.inr (.inr (.inl (some 0))), .inl a, .inl who, .inl se, .inl day] (wl K s) = some (some (.inr (.inr (.inl (movF s a who se day)))), wl K s) := by
  unfold movF
  rcases repO_c (x := a) h tv with e | ⟨r, e, hr, br, zr⟩
  · rw [mX6_movedIn]
    simp only [uX6_movedIn_0, uX6_movedIn_12, uX6_movedIn_21, uX6_movedIn_28, uX6_movedIn_34, uX6_movedIn_39, uX6_movedIn_40, qX6_movedIn_0, qX6_movedIn_12, qX6_movedIn_21, qX6_movedIn_28, qX6_movedIn_34, qX6_movedIn_39, qX6_movedIn_40, jX6_movedIn_12_39, jX6_movedIn_21_39, jX6_movedIn_28_39, jX6_movedIn_34_39, jX6_movedIn_39_40, c0_v h, cond_true, c_republicAt h, e, xco_eq, Option.isNone_none]
  · rw [mX6_movedIn, e]
    simp only [uX6_movedIn_0, uX6_movedIn_12, uX6_movedIn_21, uX6_movedIn_28, uX6_movedIn_34, uX6_movedIn_39, uX6_movedIn_40, qX6_movedIn_0, qX6_movedIn_12, qX6_movedIn_21, qX6_movedIn_28, qX6_movedIn_34, qX6_movedIn_39, qX6_movedIn_40, jX6_movedIn_12_39, jX6_movedIn_21_39, jX6_movedIn_28_39, jX6_movedIn_34_39, jX6_movedIn_39_40, c0_v h, cond_true, c_republicAt h, e, xco_eq, Option.isNone_some, cond_false, cR_v hr, c_isMinister hr, xci_eq, c_isSeason]
    unfold movI
    repeat' split
    all_goals first | rfl | contradiction
theorem movF_c {s : SG} {a who se day : Int32} (h : SH K) (tv : TV s) : movF s a who se day = none ∨ ∃ r, movF s a who se day = some r ∧ RP K r ∧ r + 8 ≤ 42 ∧ SZ s r := by
  unfold movF
  rcases repO_c (x := a) h tv with e | ⟨r, e, hr, br, zr⟩
  · rw [e]; exact Or.inl rfl
  · rw [e]
    show movI s r who se day = none ∨ ∃ q, movI s r who se day = some q ∧ _
    unfold movI
    repeat' split
    all_goals first | exact Or.inl rfl | exact Or.inr ⟨r, rfl, hr, br, zr⟩
end XCD
