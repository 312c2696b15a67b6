section XCA
variable {sc : Nat × (Nat → Int32)} {d : Nat} {K : List KD} {r q t a B m : Nat} {w : EW}
theorem xr40 : xrt 4 0 = true := rfl
theorem xr41 : xrt 4 1 = true := rfl
theorem hasI_rt {x k : Int32} : xrt 4 (hasI x k) = true := by
  unfold hasI
  (repeat' split) <;> rfl
theorem minI_rt {s : SG} {x : Int32} : xrt 4 (minI s r x) = true := by
  unfold minI
  (repeat' split) <;> rfl
theorem isaI_rt {x : Int32} : xrt 4 (isaI x) = true := by
  unfold isaI
  (repeat' split) <;> rfl
theorem issI_rt {x : Int32} : xrt 4 (issI x) = true := by
  unfold issI
  (repeat' split) <;> rfl
theorem pasI_rt {s : SG} {x y : Int32} : xrt 4 (pasI s r x y) = true := by
  unfold pasI
  (repeat' split) <;> rfl
theorem arsI_rt {s : SG} {x : Int32} : xrt 4 (arsI s r x) = true := by
  unfold arsI
  (repeat' split) <;> rfl
def rz (s : SG) (q : Nat) : Nat := (s q 0).toNatClampNeg
/-- rows are no more than a text can tell -/
def RZ (s : SG) (q : Nat) : Prop := s q 0 = nI (rz s q) ∧ rz s q ≤ 40
theorem sz_ge {s : SG} {j : Nat} (h : SZ s r) (hj : j + 0 = sz s r) : s r 0 ≤ nI j := by
  rw [h.1, ← hj]; exact Int32.le_refl _
theorem sz_lt {s : SG} {j n : Nat} (h : SZ s r) (hj : j + (n + 1) = sz s r) : ¬ s r 0 ≤ nI j := by
  have := h.2
  rw [h.1]; exact nI_ge (by omega) (by omega)
theorem rz_ge {s : SG} {j : Nat} (h : RZ s q) (hj : j + 0 = rz s q) : s q 0 ≤ nI j := by
  rw [h.1, ← hj]; exact Int32.le_refl _
theorem rz_lt {s : SG} {j n : Nat} (h : RZ s q) (hj : j + (n + 1) = rz s q) : ¬ s q 0 ≤ nI j := by
  have := h.2
  rw [h.1]; exact nI_ge (by omega) (by omega)
theorem up_a {s : SG} {k j : Nat} {x : Int32} : up s k j x k j = x := by rw [up_s, pk_us]
theorem up_b {s : SG} {k i j : Nat} {x : Int32} (h : (i == j) = false) : up s k j x k i = s k i := by rw [up_s, pk_un (by simpa using h)]
theorem up_c {s : SG} {a k j : Nat} {x : Int32} (h : (a == k) = false) : up s k j x a = s a := up_n (by simpa using h)
theorem pt_n {n : Nat} {s : SG} {a k : Nat} {i x : Int32} (h : a ≠ k) : pt n s k i x a = s a := by
  unfold pt
  split
  · rfl
  · split
    · rfl
    · exact up_n h
theorem pt_c {n : Nat} {s : SG} {a k : Nat} {i x : Int32} (h : (a == k) = false) : pt n s k i x a = s a := pt_n (by simpa using h)
def sF (s : SG) (k : Nat) (f : Nat → Int32) : SG := fun a => if a = k then f else s a
def flS (n : Nat) (s : SG) (k : Nat) (x : Int32) : SG := sF s k (fun j => if j < n then x else s k j)
def cpS (n : Nat) (s : SG) (a b : Nat) : SG := sF s b (fun j => if j < n then s a j else s b j)
theorem sF_s {s : SG} {k : Nat} {f : Nat → Int32} : sF s k f k = f := if_pos rfl
theorem sF_n {s : SG} {a k : Nat} {f : Nat → Int32} (h : a ≠ k) : sF s k f a = s a := if_neg h
theorem fl_n {n : Nat} {s : SG} {a k : Nat} {x : Int32} (h : a ≠ k) : flS n s k x a = s a := if_neg h
theorem cp_n {n : Nat} {s : SG} {e a k : Nat} (h : a ≠ k) : cpS n s e k a = s a := if_neg h
theorem fl_c {n : Nat} {s : SG} {a k : Nat} {x : Int32} (h : (a == k) = false) : flS n s k x a = s a := fl_n (by simpa using h)
theorem cp_c {n : Nat} {s : SG} {e a k : Nat} (h : (a == k) = false) : cpS n s e k a = s a := cp_n (by simpa using h)
theorem up_lo2 {s : SG} {k j : Nat} {x : Int32} {c : Nat} (ha : c < 42 ∨ 64 ≤ c) (h1 : 42 ≤ k) (h2 : k < 64) : up s k j x c = s c := up_n (by omega)
theorem up_lr {s : SG} {k j : Nat} {x : Int32} {e : Nat} (hb : r + 8 ≤ 42) (h1 : 42 ≤ k) (h2 : e < 8) : up s k j x (r + e) = s (r + e) := up_n (by omega)
theorem up_l0 {s : SG} {k j : Nat} {x : Int32} (hb : r + 8 ≤ 42) (h1 : 42 ≤ k) : up s k j x r = s r := up_n (by omega)
theorem SZ_up {s : SG} {k j : Nat} {x : Int32} (hb : r + 8 ≤ 42) (h1 : 42 ≤ k) : SZ (up s k j x) r ↔ SZ s r := by unfold SZ sz; rw [up_l0 hb h1]
theorem sz_up {s : SG} {k j : Nat} {x : Int32} (hb : r + 8 ≤ 42) (h1 : 42 ≤ k) : sz (up s k j x) r = sz s r := by unfold sz; rw [up_l0 hb h1]
theorem up_lq {s : SG} {k j : Nat} {x : Int32} {e : Nat} (hb : q + 2 ≤ 42) (h1 : 42 ≤ k) (h2 : e < 2) : up s k j x (q + e) = s (q + e) := up_n (by omega)
theorem up_k0 {s : SG} {k j : Nat} {x : Int32} (hb : q + 2 ≤ 42) (h1 : 42 ≤ k) : up s k j x q = s q := up_n (by omega)
theorem RZ_up {s : SG} {k j : Nat} {x : Int32} (hb : q + 2 ≤ 42) (h1 : 42 ≤ k) : RZ (up s k j x) q ↔ RZ s q := by unfold RZ rz; rw [up_k0 hb h1]
theorem rz_up {s : SG} {k j : Nat} {x : Int32} (hb : q + 2 ≤ 42) (h1 : 42 ≤ k) : rz (up s k j x) q = rz s q := by unfold rz; rw [up_k0 hb h1]
theorem pt_lo2 {n : Nat} {s : SG} {k : Nat} {i x : Int32} {c : Nat} (ha : c < 42 ∨ 64 ≤ c) (h1 : 42 ≤ k) (h2 : k < 64) : pt n s k i x c = s c := pt_n (by omega)
theorem pt_lr {n : Nat} {s : SG} {k : Nat} {i x : Int32} {e : Nat} (hb : r + 8 ≤ 42) (h1 : 42 ≤ k) (h2 : e < 8) : pt n s k i x (r + e) = s (r + e) := pt_n (by omega)
theorem pt_l0 {n : Nat} {s : SG} {k : Nat} {i x : Int32} (hb : r + 8 ≤ 42) (h1 : 42 ≤ k) : pt n s k i x r = s r := pt_n (by omega)
theorem SZ_pt {n : Nat} {s : SG} {k : Nat} {i x : Int32} (hb : r + 8 ≤ 42) (h1 : 42 ≤ k) : SZ (pt n s k i x) r ↔ SZ s r := by unfold SZ sz; rw [pt_l0 hb h1]
theorem sz_pt {n : Nat} {s : SG} {k : Nat} {i x : Int32} (hb : r + 8 ≤ 42) (h1 : 42 ≤ k) : sz (pt n s k i x) r = sz s r := by unfold sz; rw [pt_l0 hb h1]
theorem pt_lq {n : Nat} {s : SG} {k : Nat} {i x : Int32} {e : Nat} (hb : q + 2 ≤ 42) (h1 : 42 ≤ k) (h2 : e < 2) : pt n s k i x (q + e) = s (q + e) := pt_n (by omega)
theorem pt_k0 {n : Nat} {s : SG} {k : Nat} {i x : Int32} (hb : q + 2 ≤ 42) (h1 : 42 ≤ k) : pt n s k i x q = s q := pt_n (by omega)
theorem RZ_pt {n : Nat} {s : SG} {k : Nat} {i x : Int32} (hb : q + 2 ≤ 42) (h1 : 42 ≤ k) : RZ (pt n s k i x) q ↔ RZ s q := by unfold RZ rz; rw [pt_k0 hb h1]
theorem rz_pt {n : Nat} {s : SG} {k : Nat} {i x : Int32} (hb : q + 2 ≤ 42) (h1 : 42 ≤ k) : rz (pt n s k i x) q = rz s q := by unfold rz; rw [pt_k0 hb h1]
theorem fl_lo2 {n : Nat} {s : SG} {k : Nat} {x : Int32} {c : Nat} (ha : c < 42 ∨ 64 ≤ c) (h1 : 42 ≤ k) (h2 : k < 64) : flS n s k x c = s c := fl_n (by omega)
theorem fl_lr {n : Nat} {s : SG} {k : Nat} {x : Int32} {e : Nat} (hb : r + 8 ≤ 42) (h1 : 42 ≤ k) (h2 : e < 8) : flS n s k x (r + e) = s (r + e) := fl_n (by omega)
theorem fl_l0 {n : Nat} {s : SG} {k : Nat} {x : Int32} (hb : r + 8 ≤ 42) (h1 : 42 ≤ k) : flS n s k x r = s r := fl_n (by omega)
theorem SZ_fl {n : Nat} {s : SG} {k : Nat} {x : Int32} (hb : r + 8 ≤ 42) (h1 : 42 ≤ k) : SZ (flS n s k x) r ↔ SZ s r := by unfold SZ sz; rw [fl_l0 hb h1]
theorem sz_fl {n : Nat} {s : SG} {k : Nat} {x : Int32} (hb : r + 8 ≤ 42) (h1 : 42 ≤ k) : sz (flS n s k x) r = sz s r := by unfold sz; rw [fl_l0 hb h1]
theorem fl_lq {n : Nat} {s : SG} {k : Nat} {x : Int32} {e : Nat} (hb : q + 2 ≤ 42) (h1 : 42 ≤ k) (h2 : e < 2) : flS n s k x (q + e) = s (q + e) := fl_n (by omega)
theorem fl_k0 {n : Nat} {s : SG} {k : Nat} {x : Int32} (hb : q + 2 ≤ 42) (h1 : 42 ≤ k) : flS n s k x q = s q := fl_n (by omega)
theorem RZ_fl {n : Nat} {s : SG} {k : Nat} {x : Int32} (hb : q + 2 ≤ 42) (h1 : 42 ≤ k) : RZ (flS n s k x) q ↔ RZ s q := by unfold RZ rz; rw [fl_k0 hb h1]
theorem rz_fl {n : Nat} {s : SG} {k : Nat} {x : Int32} (hb : q + 2 ≤ 42) (h1 : 42 ≤ k) : rz (flS n s k x) q = rz s q := by unfold rz; rw [fl_k0 hb h1]
theorem cp_lo2 {n : Nat} {s : SG} {u k : Nat} {c : Nat} (ha : c < 42 ∨ 64 ≤ c) (h1 : 42 ≤ k) (h2 : k < 64) : cpS n s u k c = s c := cp_n (by omega)
theorem cp_lr {n : Nat} {s : SG} {u k : Nat} {e : Nat} (hb : r + 8 ≤ 42) (h1 : 42 ≤ k) (h2 : e < 8) : cpS n s u k (r + e) = s (r + e) := cp_n (by omega)
theorem cp_l0 {n : Nat} {s : SG} {u k : Nat} (hb : r + 8 ≤ 42) (h1 : 42 ≤ k) : cpS n s u k r = s r := cp_n (by omega)
theorem SZ_cp {n : Nat} {s : SG} {u k : Nat} (hb : r + 8 ≤ 42) (h1 : 42 ≤ k) : SZ (cpS n s u k) r ↔ SZ s r := by unfold SZ sz; rw [cp_l0 hb h1]
theorem sz_cp {n : Nat} {s : SG} {u k : Nat} (hb : r + 8 ≤ 42) (h1 : 42 ≤ k) : sz (cpS n s u k) r = sz s r := by unfold sz; rw [cp_l0 hb h1]
theorem cp_lq {n : Nat} {s : SG} {u k : Nat} {e : Nat} (hb : q + 2 ≤ 42) (h1 : 42 ≤ k) (h2 : e < 2) : cpS n s u k (q + e) = s (q + e) := cp_n (by omega)
theorem cp_k0 {n : Nat} {s : SG} {u k : Nat} (hb : q + 2 ≤ 42) (h1 : 42 ≤ k) : cpS n s u k q = s q := cp_n (by omega)
theorem RZ_cp {n : Nat} {s : SG} {u k : Nat} (hb : q + 2 ≤ 42) (h1 : 42 ≤ k) : RZ (cpS n s u k) q ↔ RZ s q := by unfold RZ rz; rw [cp_k0 hb h1]
theorem rz_cp {n : Nat} {s : SG} {u k : Nat} (hb : q + 2 ≤ 42) (h1 : 42 ≤ k) : rz (cpS n s u k) q = rz s q := by unfold rz; rw [cp_k0 hb h1]
def setS7 (s : SG) (r : Nat) : SG := up (up (up s 57 0 (s r 11)) 57 1 (s r 12)) 57 2 (s r 13)
theorem setS7_lo {s : SG} {r : Nat}  {c : Nat} (ha : c < 42 ∨ 64 ≤ c) : (setS7 s r) c = s c := by
  unfold setS7
  first | done | with_reducible rfl | simp (decide := true) only [up_lo2 ha, pt_lo2 ha, fl_lo2 ha, cp_lo2 ha] | ((repeat' split) <;> first | with_reducible rfl | simp (decide := true) only [up_lo2 ha, pt_lo2 ha, fl_lo2 ha, cp_lo2 ha])
theorem setS7_SZ {s : SG} {r : Nat}  {c : Nat} (hc : c + 8 ≤ 42) : SZ ((setS7 s r)) c ↔ SZ s c := by unfold SZ sz; rw [setS7_lo (Or.inl (by omega))]
theorem setS7_sz {s : SG} {r : Nat}  {c : Nat} (hc : c + 8 ≤ 42) : sz ((setS7 s r)) c = sz s c := by unfold sz; rw [setS7_lo (Or.inl (by omega))]
theorem setS7_RZ {s : SG} {r : Nat}  {c : Nat} (hc : c + 2 ≤ 42) : RZ ((setS7 s r)) c ↔ RZ s c := by unfold RZ rz; rw [setS7_lo (Or.inl (by omega))]
theorem setS7_rz {s : SG} {r : Nat}  {c : Nat} (hc : c + 2 ≤ 42) : rz ((setS7 s r)) c = rz s c := by unfold rz; rw [setS7_lo (Or.inl (by omega))]
theorem c_settle7 {s : SG} (hr : RP K r) (h : SH K) (br : r + 8 ≤ 42) : xN sc (d + 1) 64 [.inr (.inr (.inl (some 57))), .inr (.inr (.inl (some r)))] (wl K s) = some (none, wl K (setS7 s r)) := by
  rw [mX4_settle]
  simp (decide := true) only [uX4_settle_0, qX4_settle_0, cR_g11 hr, bd_eq, c57_p0 h, cR_g12 hr, c57_p1 h, cR_g13 hr, c57_p2 h, up_a, up_b, up_c, pt_c, fl_c, cp_c, up_lr br, up_l0 br, SZ_up br, sz_up br, pt_lr br, pt_l0 br, SZ_pt br, sz_pt br, fl_lr br, fl_l0 br, SZ_fl br, sz_fl br, cp_lr br, cp_l0 br, SZ_cp br, sz_cp br, setS7_SZ br, setS7_sz br]
  first | done | (unfold setS7; first | done | with_reducible_and_instances rfl | ((repeat' split) <;> first | with_reducible_and_instances rfl | contradiction | exact absurd ‹(1 : Int32) = 0› (by decide) | exact absurd rfl ‹¬ (0 : Int32) = 0› | exact absurd rfl ‹¬ (1 : Int32) = 1› | (exfalso; rename_i h1 h2; exact h1 (by rw [h2]; exact Int32.le_refl _))))
def setS0 (s : SG) (r : Nat) : SG := up (up (up s 60 0 (s r 11)) 60 1 (s r 12)) 60 2 (s r 13)
theorem setS0_lo {s : SG} {r : Nat}  {c : Nat} (ha : c < 42 ∨ 64 ≤ c) : (setS0 s r) c = s c := by
  unfold setS0
  first | done | with_reducible rfl | simp (decide := true) only [up_lo2 ha, pt_lo2 ha, fl_lo2 ha, cp_lo2 ha, setS7_lo ha] | ((repeat' split) <;> first | with_reducible rfl | simp (decide := true) only [up_lo2 ha, pt_lo2 ha, fl_lo2 ha, cp_lo2 ha, setS7_lo ha])
theorem setS0_SZ {s : SG} {r : Nat}  {c : Nat} (hc : c + 8 ≤ 42) : SZ ((setS0 s r)) c ↔ SZ s c := by unfold SZ sz; rw [setS0_lo (Or.inl (by omega))]
theorem setS0_sz {s : SG} {r : Nat}  {c : Nat} (hc : c + 8 ≤ 42) : sz ((setS0 s r)) c = sz s c := by unfold sz; rw [setS0_lo (Or.inl (by omega))]
theorem setS0_RZ {s : SG} {r : Nat}  {c : Nat} (hc : c + 2 ≤ 42) : RZ ((setS0 s r)) c ↔ RZ s c := by unfold RZ rz; rw [setS0_lo (Or.inl (by omega))]
theorem setS0_rz {s : SG} {r : Nat}  {c : Nat} (hc : c + 2 ≤ 42) : rz ((setS0 s r)) c = rz s c := by unfold rz; rw [setS0_lo (Or.inl (by omega))]
theorem c_settle0 {s : SG} (hr : RP K r) (h : SH K) (br : r + 8 ≤ 42) : xN sc (d + 1) 64 [.inr (.inr (.inl (some 60))), .inr (.inr (.inl (some r)))] (wl K s) = some (none, wl K (setS0 s r)) := by
  rw [mX4_settle]
  simp (decide := true) only [uX4_settle_0, qX4_settle_0, cR_g11 hr, bd_eq, c60_p0 h, cR_g12 hr, c60_p1 h, cR_g13 hr, c60_p2 h, up_a, up_b, up_c, pt_c, fl_c, cp_c, up_lr br, up_l0 br, SZ_up br, sz_up br, pt_lr br, pt_l0 br, SZ_pt br, sz_pt br, fl_lr br, fl_l0 br, SZ_fl br, sz_fl br, cp_lr br, cp_l0 br, SZ_cp br, sz_cp br, setS7_SZ br, setS7_sz br, setS0_SZ br, setS0_sz br]
  first | done | (unfold setS0; first | done | with_reducible_and_instances rfl | ((repeat' split) <;> first | with_reducible_and_instances rfl | contradiction | exact absurd ‹(1 : Int32) = 0› (by decide) | exact absurd rfl ‹¬ (0 : Int32) = 0› | exact absurd rfl ‹¬ (1 : Int32) = 1› | (exfalso; rename_i h1 h2; exact h1 (by rw [h2]; exact Int32.le_refl _))))
def canI7 (s : SG) (day : Int32) : Int32 := if (s 57 0) < (amtI day 0) then 0 else if (((s 57 2) + (amtI day 2)) - (amtI day 1)) < 0 then 0 else if 99 < (((s 57 2) + (amtI day 2)) - (amtI day 1)) then 0 else 1
theorem canI7_rt {s : SG} {day : Int32} : xrt 4 (canI7 s day) = true := by
  unfold canI7
  first | done | first | with_reducible_and_instances rfl | simp only [hasI_rt, minI_rt, isaI_rt, issI_rt, pasI_rt, arsI_rt, xr40, xr41] | ((repeat' split) <;> first | with_reducible_and_instances rfl | simp only [hasI_rt, minI_rt, isaI_rt, issI_rt, pasI_rt, arsI_rt, xr40, xr41])
theorem c_can7 {s : SG} {day : Int32}  (h : SH K) : xN sc (d + 2) 65 [.inr (.inr (.inl (some 57))), .inl day] (wl K s) = some (some (.inl (canI7 s day)), wl K s) := by
  rw [mX4_can]
  simp (decide := true) only [uX4_can_0, uX4_can_29, uX4_can_33, uX4_can_39, uX4_can_43, uX4_can_44, qX4_can_0, qX4_can_29, qX4_can_33, qX4_can_39, qX4_can_43, qX4_can_44, jX4_can_29_43, jX4_can_33_43, jX4_can_39_43, jX4_can_43_44, c57_g2 h, bd_eq, c_amount, xci_eq, c57_g0 h, cond_true, xr40, xr41, up_a, up_b, up_c, pt_c, fl_c, cp_c]
  first | done | (unfold canI7; first | done | with_reducible_and_instances rfl | ((repeat' split) <;> first | with_reducible_and_instances rfl | contradiction | exact absurd ‹(1 : Int32) = 0› (by decide) | exact absurd rfl ‹¬ (0 : Int32) = 0› | exact absurd rfl ‹¬ (1 : Int32) = 1› | (exfalso; rename_i h1 h2; exact h1 (by rw [h2]; exact Int32.le_refl _))))
def canI0 (s : SG) (day : Int32) : Int32 := if (s 60 0) < (amtI day 0) then 0 else if (((s 60 2) + (amtI day 2)) - (amtI day 1)) < 0 then 0 else if 99 < (((s 60 2) + (amtI day 2)) - (amtI day 1)) then 0 else 1
theorem canI0_rt {s : SG} {day : Int32} : xrt 4 (canI0 s day) = true := by
  unfold canI0
  first | done | first | with_reducible_and_instances rfl | simp only [hasI_rt, minI_rt, isaI_rt, issI_rt, pasI_rt, arsI_rt, canI7_rt, xr40, xr41] | ((repeat' split) <;> first | with_reducible_and_instances rfl | simp only [hasI_rt, minI_rt, isaI_rt, issI_rt, pasI_rt, arsI_rt, canI7_rt, xr40, xr41])
theorem c_can0 {s : SG} {day : Int32}  (h : SH K) : xN sc (d + 2) 65 [.inr (.inr (.inl (some 60))), .inl day] (wl K s) = some (some (.inl (canI0 s day)), wl K s) := by
  rw [mX4_can]
  simp (decide := true) only [uX4_can_0, uX4_can_29, uX4_can_33, uX4_can_39, uX4_can_43, uX4_can_44, qX4_can_0, qX4_can_29, qX4_can_33, qX4_can_39, qX4_can_43, qX4_can_44, jX4_can_29_43, jX4_can_33_43, jX4_can_39_43, jX4_can_43_44, c60_g2 h, bd_eq, c_amount, xci_eq, c60_g0 h, cond_true, xr40, xr41, up_a, up_b, up_c, pt_c, fl_c, cp_c]
  first | done | (unfold canI0; first | done | with_reducible_and_instances rfl | ((repeat' split) <;> first | with_reducible_and_instances rfl | contradiction | exact absurd ‹(1 : Int32) = 0› (by decide) | exact absurd rfl ‹¬ (0 : Int32) = 0› | exact absurd rfl ‹¬ (1 : Int32) = 1› | (exfalso; rename_i h1 h2; exact h1 (by rw [h2]; exact Int32.le_refl _))))
def briS7 (s : SG) (day : Int32) : SG := up (up (up s 57 0 ((s 57 0) + ((if ((s 57 1) + (amtI day 0)) < (amtI day 2) then ((s 57 1) + (amtI day 0)) else (amtI day 2)) - (amtI day 0)))) 57 1 (((s 57 1) + (amtI day 0)) - (if ((s 57 1) + (amtI day 0)) < (amtI day 2) then ((s 57 1) + (amtI day 0)) else (amtI day 2)))) 57 2 ((s 57 2) + ((amtI day 2) - (amtI day 1)))
theorem briS7_lo {s : SG} {day : Int32}  {c : Nat} (ha : c < 42 ∨ 64 ≤ c) : (briS7 s day) c = s c := by
  unfold briS7
  first | done | with_reducible rfl | simp (decide := true) only [up_lo2 ha, pt_lo2 ha, fl_lo2 ha, cp_lo2 ha, setS7_lo ha, setS0_lo ha] | ((repeat' split) <;> first | with_reducible rfl | simp (decide := true) only [up_lo2 ha, pt_lo2 ha, fl_lo2 ha, cp_lo2 ha, setS7_lo ha, setS0_lo ha])
theorem briS7_SZ {s : SG} {day : Int32}  {c : Nat} (hc : c + 8 ≤ 42) : SZ ((briS7 s day)) c ↔ SZ s c := by unfold SZ sz; rw [briS7_lo (Or.inl (by omega))]
theorem briS7_sz {s : SG} {day : Int32}  {c : Nat} (hc : c + 8 ≤ 42) : sz ((briS7 s day)) c = sz s c := by unfold sz; rw [briS7_lo (Or.inl (by omega))]
theorem briS7_RZ {s : SG} {day : Int32}  {c : Nat} (hc : c + 2 ≤ 42) : RZ ((briS7 s day)) c ↔ RZ s c := by unfold RZ rz; rw [briS7_lo (Or.inl (by omega))]
theorem briS7_rz {s : SG} {day : Int32}  {c : Nat} (hc : c + 2 ≤ 42) : rz ((briS7 s day)) c = rz s c := by unfold rz; rw [briS7_lo (Or.inl (by omega))]
theorem c_bring7 {s : SG} {day : Int32}  (h : SH K) : xN sc (d + 2) 66 [.inr (.inr (.inl (some 57))), .inl day] (wl K s) = some (none, wl K (briS7 s day)) := by
  rw [mX4_bring]
  simp (decide := true) only [uX4_bring_0, qX4_bring_0, c57_g1 h, bd_eq, c_amount, xci_eq, c57_g0 h, c57_p0 h, c57_p1 h, c57_g2 h, c57_p2 h, up_a, up_b, up_c, pt_c, fl_c, cp_c]
  first | done | (unfold briS7; first | done | with_reducible_and_instances rfl | ((repeat' split) <;> first | with_reducible_and_instances rfl | contradiction | exact absurd ‹(1 : Int32) = 0› (by decide) | exact absurd rfl ‹¬ (0 : Int32) = 0› | exact absurd rfl ‹¬ (1 : Int32) = 1› | (exfalso; rename_i h1 h2; exact h1 (by rw [h2]; exact Int32.le_refl _))))
def briS0 (s : SG) (day : Int32) : SG := up (up (up s 60 0 ((s 60 0) + ((if ((s 60 1) + (amtI day 0)) < (amtI day 2) then ((s 60 1) + (amtI day 0)) else (amtI day 2)) - (amtI day 0)))) 60 1 (((s 60 1) + (amtI day 0)) - (if ((s 60 1) + (amtI day 0)) < (amtI day 2) then ((s 60 1) + (amtI day 0)) else (amtI day 2)))) 60 2 ((s 60 2) + ((amtI day 2) - (amtI day 1)))
theorem briS0_lo {s : SG} {day : Int32}  {c : Nat} (ha : c < 42 ∨ 64 ≤ c) : (briS0 s day) c = s c := by
  unfold briS0
  first | done | with_reducible rfl | simp (decide := true) only [up_lo2 ha, pt_lo2 ha, fl_lo2 ha, cp_lo2 ha, setS7_lo ha, setS0_lo ha, briS7_lo ha] | ((repeat' split) <;> first | with_reducible rfl | simp (decide := true) only [up_lo2 ha, pt_lo2 ha, fl_lo2 ha, cp_lo2 ha, setS7_lo ha, setS0_lo ha, briS7_lo ha])
theorem briS0_SZ {s : SG} {day : Int32}  {c : Nat} (hc : c + 8 ≤ 42) : SZ ((briS0 s day)) c ↔ SZ s c := by unfold SZ sz; rw [briS0_lo (Or.inl (by omega))]
theorem briS0_sz {s : SG} {day : Int32}  {c : Nat} (hc : c + 8 ≤ 42) : sz ((briS0 s day)) c = sz s c := by unfold sz; rw [briS0_lo (Or.inl (by omega))]
theorem briS0_RZ {s : SG} {day : Int32}  {c : Nat} (hc : c + 2 ≤ 42) : RZ ((briS0 s day)) c ↔ RZ s c := by unfold RZ rz; rw [briS0_lo (Or.inl (by omega))]
theorem briS0_rz {s : SG} {day : Int32}  {c : Nat} (hc : c + 2 ≤ 42) : rz ((briS0 s day)) c = rz s c := by unfold rz; rw [briS0_lo (Or.inl (by omega))]
theorem c_bring0 {s : SG} {day : Int32}  (h : SH K) : xN sc (d + 2) 66 [.inr (.inr (.inl (some 60))), .inl day] (wl K s) = some (none, wl K (briS0 s day)) := by
  rw [mX4_bring]
  simp (decide := true) only [uX4_bring_0, qX4_bring_0, c60_g1 h, bd_eq, c_amount, xci_eq, c60_g0 h, c60_p0 h, c60_p1 h, c60_g2 h, c60_p2 h, up_a, up_b, up_c, pt_c, fl_c, cp_c]
  first | done | (unfold briS0; first | done | with_reducible_and_instances rfl | ((repeat' split) <;> first | with_reducible_and_instances rfl | contradiction | exact absurd ‹(1 : Int32) = 0› (by decide) | exact absurd rfl ‹¬ (0 : Int32) = 0› | exact absurd rfl ‹¬ (1 : Int32) = 1› | (exfalso; rename_i h1 h2; exact h1 (by rw [h2]; exact Int32.le_refl _))))
def parI (s : SG) (q : Nat) (x : Int32) (y : Int32) : Int32 := cl 200 (s (q + 1)) ((x * 5) + y)
theorem c_part {s : SG} {x : Int32} {y : Int32} (hq : RW K q) : xN sc (d + 2) 59 [.inr (.inr (.inl (some q))), .inl x, .inl y] (wl K s) = some (some (.inl (parI s q x y)), wl K s) := by
  rw [mX3_part]
  simp (decide := true) only [uX3_part_0, qX3_part_0, cW_g1 hq, bd_eq, xci_eq, lcW1 hq, up_a, up_b, up_c, pt_c, fl_c, cp_c]
  first | done | (unfold parI; first | done | with_reducible_and_instances rfl | ((repeat' split) <;> first | with_reducible_and_instances rfl | contradiction | exact absurd ‹(1 : Int32) = 0› (by decide) | exact absurd rfl ‹¬ (0 : Int32) = 0› | exact absurd rfl ‹¬ (1 : Int32) = 1› | (exfalso; rename_i h1 h2; exact h1 (by rw [h2]; exact Int32.le_refl _))))
def dafI (s : SG) (q : Nat) (x : Int32) (y : Int32) : Int32 := numI (parI s q x y) (parI s q x (y + 1)) (parI s q x (y + 2))
theorem c_dayFrom {s : SG} {x : Int32} {y : Int32} (hq : RW K q) : xN sc (d + 3) 61 [.inr (.inr (.inl (some q))), .inl x, .inl y] (wl K s) = some (some (.inl (dafI s q x y)), wl K s) := by
  rw [mX3_dayFrom]
  simp (decide := true) only [uX3_dayFrom_0, qX3_dayFrom_0, cW_v hq, cond_true, c_part hq, xci_eq, c_numberOf, up_a, up_b, up_c, pt_c, fl_c, cp_c]
  first | done | (unfold dafI; first | done | with_reducible_and_instances rfl | ((repeat' split) <;> first | with_reducible_and_instances rfl | contradiction | exact absurd ‹(1 : Int32) = 0› (by decide) | exact absurd rfl ‹¬ (0 : Int32) = 0› | exact absurd rfl ‹¬ (1 : Int32) = 1› | (exfalso; rename_i h1 h2; exact h1 (by rw [h2]; exact Int32.le_refl _))))
def ranI (day : Int32) (wet : Int32) : Int32 := if wet = 0 then numI (amtI day 2) (9 - (amtI day 0)) (9 - (amtI day 1)) else numI (amtI day 0) (9 - (amtI day 1)) (9 - (amtI day 2))
theorem c_rank {s : SG} {day : Int32} {wet : Int32}  : xN sc (d + 2) 105 [.inl day, .inl wet] (wl K s) = some (some (.inl (ranI day wet)), wl K s) := by
  rw [mX6_rank]
  simp (decide := true) only [uX6_rank_0, uX6_rank_26, uX6_rank_37, qX6_rank_0, qX6_rank_26, qX6_rank_37, jX6_rank_26_37, c_amount, xci_eq, c_numberOf, up_a, up_b, up_c, pt_c, fl_c, cp_c]
  first | done | (unfold ranI; first | done | with_reducible_and_instances rfl | ((repeat' split) <;> first | with_reducible_and_instances rfl | contradiction | exact absurd ‹(1 : Int32) = 0› (by decide) | exact absurd rfl ‹¬ (0 : Int32) = 0› | exact absurd rfl ‹¬ (1 : Int32) = 1› | (exfalso; rename_i h1 h2; exact h1 (by rw [h2]; exact Int32.le_refl _))))
def bouI (s : SG) (r : Nat) (agree : Int32) (f : Int32) (b : Int32) : Int32 := if f = b then agree else if (minI s r f) = 0 then (if (minI s r b) = 0 then (agree ||| (0 : Int32)) &&& ((0 : Int32) ^^^ (-1)) else (agree ||| (0 : Int32)) &&& ((1 <<< (b &&& 31)) ^^^ (-1))) else if (minI s r b) = 0 then (agree ||| (1 <<< (f &&& 31))) &&& ((0 : Int32) ^^^ (-1)) else (agree ||| (1 <<< (f &&& 31))) &&& ((1 <<< (b &&& 31)) ^^^ (-1))
theorem c_boughtBy {s : SG} {agree : Int32} {f : Int32} {b : Int32} (hr : RP K r) : xN sc (d + 2) 117 [.inr (.inr (.inl (some r))), .inl agree, .inl f, .inl b] (wl K s) = some (some (.inl (bouI s r agree f b)), wl K s) := by
  rw [mX6_boughtBy]
  simp (decide := true) only [uX6_boughtBy_0, uX6_boughtBy_5, uX6_boughtBy_7, uX6_boughtBy_15, uX6_boughtBy_21, uX6_boughtBy_22, uX6_boughtBy_32, uX6_boughtBy_38, uX6_boughtBy_39, qX6_boughtBy_0, qX6_boughtBy_5, qX6_boughtBy_7, qX6_boughtBy_15, qX6_boughtBy_21, qX6_boughtBy_22, qX6_boughtBy_32, qX6_boughtBy_38, qX6_boughtBy_39, jX6_boughtBy_5_7, jX6_boughtBy_15_21, jX6_boughtBy_21_22, jX6_boughtBy_32_38, jX6_boughtBy_38_39, cR_v hr, cond_true, c_isMinister hr, xci_eq, up_a, up_b, up_c, pt_c, fl_c, cp_c]
  first | done | (unfold bouI; first | done | with_reducible_and_instances rfl | ((repeat' split) <;> first | with_reducible_and_instances rfl | contradiction | exact absurd ‹(1 : Int32) = 0› (by decide) | exact absurd rfl ‹¬ (0 : Int32) = 0› | exact absurd rfl ‹¬ (1 : Int32) = 1› | (exfalso; rename_i h1 h2; exact h1 (by rw [h2]; exact Int32.le_refl _))))
def gaiI (s : SG) (r : Nat) (agree : Int32) (f : Int32) (b : Int32) (o : Int32) : Int32 := if o = 0 then (if (minI s r b) = 0 then (if (pasI s r (allI s r) (bouI s r agree f b)) = o then (20 : Int32) - (0 : Int32) else (0 : Int32) - (0 : Int32)) else if (pasI s r (allI s r) (bouI s r agree f b)) = o then (20 : Int32) - (cl 6 (s (r + 4)) b) else (0 : Int32) - (cl 6 (s (r + 4)) b)) else if (minI s r f) = 0 then (if (pasI s r (allI s r) (bouI s r agree f b)) = o then (20 : Int32) - (0 : Int32) else (0 : Int32) - (0 : Int32)) else if (pasI s r (allI s r) (bouI s r agree f b)) = o then (20 : Int32) - (cl 6 (s (r + 4)) f) else (0 : Int32) - (cl 6 (s (r + 4)) f)
theorem c_gain {s : SG} {agree : Int32} {f : Int32} {b : Int32} {o : Int32} (hr : RP K r) (zr : SZ s r) : xN sc (d + 4) 116 [.inr (.inr (.inl (some r))), .inl agree, .inl f, .inl b, .inl o] (wl K s) = some (some (.inl (gaiI s r agree f b o)), wl K s) := by
  rw [mX6_gain]
  simp (decide := true) only [uX6_gain_0, uX6_gain_22, uX6_gain_26, uX6_gain_27, uX6_gain_38, uX6_gain_50, uX6_gain_51, uX6_gain_60, uX6_gain_65, uX6_gain_66, qX6_gain_0, qX6_gain_22, qX6_gain_26, qX6_gain_27, qX6_gain_38, qX6_gain_50, qX6_gain_51, qX6_gain_60, qX6_gain_65, qX6_gain_66, jX6_gain_22_26, jX6_gain_26_27, jX6_gain_38_50, jX6_gain_50_51, jX6_gain_60_65, jX6_gain_65_66, cR_v hr, cond_true, c_everybody hr, xci_eq, c_boughtBy hr, c_isPassed hr, zr, c_isMinister hr, cR_g4 hr, bd_eq, lcR4 hr, zr, up_a, up_b, up_c, pt_c, fl_c, cp_c]
  first | done | (unfold gaiI; first | done | with_reducible_and_instances rfl | ((repeat' split) <;> first | with_reducible_and_instances rfl | contradiction | exact absurd ‹(1 : Int32) = 0› (by decide) | exact absurd rfl ‹¬ (0 : Int32) = 0› | exact absurd rfl ‹¬ (1 : Int32) = 1› | (exfalso; rename_i h1 h2; exact h1 (by rw [h2]; exact Int32.le_refl _))))
def briIL (s : SG) (r : Nat) : Nat → Nat → Int32 → Int32 → Int32 → Int32 → Int32 → Int32
  | 0, _, _, _, _, _, y5 => y5
  | n + 1, j, y1, y2, y3, y4, y5 => if (hasI y1 (nI j)) = 0 then briIL s r n (j + 1) y1 y2 y3 y4 y5 else briIL s r n (j + 1) y1 y2 y3 y4 (y5 + ((cl 6 (s (r + 4)) (nI j)) * ((disI s r (nI j) y3 y4 3) - (patI s r (nI j) y2))))
theorem l_bribeOf {s : SG} (hr : RP K r) (zr : SZ s r)  {i : Nat → List EV → EW → XR} (hi : i = xN sc (d + 2)) : ∀ (n j k : Nat) (y1 : Int32) (y2 : Int32) (y3 : Int32) (y4 : Int32) (y5 : Int32), j + n = sz s r → n ≤ k → fW sc 6 1 false 7 i (ex sc 6 1 false 7 i kX6_bribeOf_0 k) kX6_bribeOf_6 6 [some (.inr (.inr (.inl (some r)))), some (.inl y1), some (.inl y2), some (.inl y3), some (.inl y4), some (.inl y5), some (.inl (nI j))] [] (wl K s) = some (some (.inl (briIL s r n j y1 y2 y3 y4 y5)), wl K s) := by
  subst hi
  intro n
  induction n with
  | zero =>
    intro j k y1 y2 y3 y4 y5 hj hk
    have hx : (s r 0) ≤ (nI j) := by
      exact sz_ge zr hj
    simp (decide := true) only [uX6_bribeOf_6, qX6_bribeOf_6, jX6_bribeOf_15_62, jX6_bribeOf_24_56, jX6_bribeOf_0_6, cR_g0 hr, bd_eq, c_has, xci_eq, cR_g4 hr, lcR4 hr, cR_v hr, cond_true, c_distance hr, c_patience hr, zr, up_a, up_b, up_c, pt_c, fl_c, cp_c, if_pos hx]
    try simp (decide := true) only [uX6_bribeOf_0, uX6_bribeOf_15, uX6_bribeOf_24, uX6_bribeOf_56, uX6_bribeOf_62, qX6_bribeOf_0, qX6_bribeOf_15, qX6_bribeOf_24, qX6_bribeOf_56, qX6_bribeOf_62, jX6_bribeOf_15_62, jX6_bribeOf_24_56, jX6_bribeOf_0_6, cR_g0 hr, bd_eq, c_has, xci_eq, cR_g4 hr, lcR4 hr, cR_v hr, cond_true, c_distance hr, c_patience hr, zr, up_a, up_b, up_c, pt_c, fl_c, cp_c]
    first | done | (unfold briIL; first | done | (repeat' split) <;> first | with_reducible_and_instances rfl | contradiction)
  | succ n ih =>
    intro j k y1 y2 y3 y4 y5 hj hk
    obtain ⟨k, rfl⟩ : ∃ k', k = k' + 1 := ⟨k - 1, by omega⟩
    have hx : ¬ ((s r 0) ≤ (nI j)) := by
      exact sz_lt zr hj
    have e := fun (y1 : Int32) (y2 : Int32) (y3 : Int32) (y4 : Int32) (y5 : Int32) => ih (j + 1) k y1 y2 y3 y4 y5 (by omega) (by omega)
    simp only [nI_succ] at e
    simp (decide := true) only [uX6_bribeOf_6, qX6_bribeOf_6, jX6_bribeOf_15_62, jX6_bribeOf_24_56, jX6_bribeOf_0_6, cR_g0 hr, bd_eq, c_has, xci_eq, cR_g4 hr, lcR4 hr, cR_v hr, cond_true, c_distance hr, c_patience hr, zr, up_a, up_b, up_c, pt_c, fl_c, cp_c, if_neg hx]
    simp (decide := true) only [uX6_bribeOf_0, uX6_bribeOf_15, uX6_bribeOf_24, uX6_bribeOf_56, uX6_bribeOf_62, qX6_bribeOf_0, qX6_bribeOf_15, qX6_bribeOf_24, qX6_bribeOf_56, qX6_bribeOf_62, jX6_bribeOf_15_62, jX6_bribeOf_24_56, jX6_bribeOf_0_6, cR_g0 hr, bd_eq, c_has, xci_eq, cR_g4 hr, lcR4 hr, cR_v hr, cond_true, c_distance hr, c_patience hr, zr, up_a, up_b, up_c, pt_c, fl_c, cp_c, eX_eq]
    rw [briIL]
    repeat' split
    all_goals first | exact e _ _ _ _ _ | with_reducible_and_instances rfl | contradiction | exact absurd ‹(1 : Int32) = 0› (by decide) | exact absurd rfl ‹¬ (0 : Int32) = 0› | exact absurd rfl ‹¬ (1 : Int32) = 1›
def briI (s : SG) (r : Nat) (st : Int32) (m : Int32) (se : Int32) (day : Int32) : Int32 := briIL s r (sz s r) 0 st m se day 0
theorem c_bribeOf {s : SG} {st : Int32} {m : Int32} {se : Int32} {day : Int32} (hr : RP K r) (zr : SZ s r) : xN sc (d + 3) 113 [.inr (.inr (.inl (some r))), .inl st, .inl m, .inl se, .inl day] (wl K s) = some (some (.inl (briI s r st m se day)), wl K s) := by
  rw [mX6_bribeOf]
  have L6 : ∀ (y1 : Int32) (y2 : Int32) (y3 : Int32) (y4 : Int32) (y5 : Int32), fW sc 6 1 false 7 (xN sc (d + 2)) (ex sc 6 1 false 7 (xN sc (d + 2)) kX6_bribeOf_0 xF) kX6_bribeOf_6 6 [some (.inr (.inr (.inl (some r)))), some (.inl y1), some (.inl y2), some (.inl y3), some (.inl y4), some (.inl y5), some (.inl 0)] [] (wl K s) = some (some (.inl (briIL s r (sz s r) 0 y1 y2 y3 y4 y5)), wl K s) := fun y1 y2 y3 y4 y5 => l_bribeOf hr zr (hi := rfl) (sz s r) 0 xF y1 y2 y3 y4 y5  (by omega) (by have := xF_ge; have := zr.2; omega)
  simp (decide := true) only [uX6_bribeOf_0, uX6_bribeOf_15, uX6_bribeOf_24, uX6_bribeOf_56, uX6_bribeOf_62, qX6_bribeOf_0, qX6_bribeOf_15, qX6_bribeOf_24, qX6_bribeOf_56, qX6_bribeOf_62, jX6_bribeOf_15_62, jX6_bribeOf_24_56, jX6_bribeOf_0_6, zr, up_a, up_b, up_c, pt_c, fl_c, cp_c, L6]
  first | done | (unfold briI; first | done | with_reducible_and_instances rfl | ((repeat' split) <;> first | with_reducible_and_instances rfl | contradiction | exact absurd ‹(1 : Int32) = 0› (by decide) | exact absurd rfl ‹¬ (0 : Int32) = 0› | exact absurd rfl ‹¬ (1 : Int32) = 1› | (exfalso; rename_i h1 h2; exact h1 (by rw [h2]; exact Int32.le_refl _))))
def keyIL (s : SG) (r : Nat) : Nat → Nat → Int32 → Int32
  | 0, _, y1 => y1
  | n + 1, j, y1 => if (s r 9) ≤ (votT s r ((allI s r) &&& ((1 <<< ((nI j) &&& 31)) ^^^ (-1)))) then keyIL s r n (j + 1) y1 else keyIL s r n (j + 1) (y1 ||| (1 <<< ((nI j) &&& 31)))
theorem l_keyMinisters {s : SG} (hr : RP K r) (zr : SZ s r)  {i : Nat → List EV → EW → XR} (hi : i = xN sc (d + 2)) : ∀ (n j k : Nat) (y1 : Int32), j + n = sz s r → n ≤ k → fW sc 6 1 false 3 i (ex sc 6 1 false 3 i kX6_keyMinisters_0 k) kX6_keyMinisters_4 4 [some (.inr (.inr (.inl (some r)))), some (.inl y1), some (.inl (nI j))] [] (wl K s) = some (some (.inl (keyIL s r n j y1)), wl K s) := by
  subst hi
  intro n
  induction n with
  | zero =>
    intro j k y1 hj hk
    have hx : (s r 0) ≤ (nI j) := by
      exact sz_ge zr hj
    simp (decide := true) only [uX6_keyMinisters_4, qX6_keyMinisters_4, jX6_keyMinisters_12_45, jX6_keyMinisters_33_39, jX6_keyMinisters_0_4, cR_g0 hr, bd_eq, cR_v hr, cond_true, c_everybody hr, xci_eq, c_votesOf hr, zr, cR_g9 hr, zr, up_a, up_b, up_c, pt_c, fl_c, cp_c, if_pos hx]
    try simp (decide := true) only [uX6_keyMinisters_0, uX6_keyMinisters_12, uX6_keyMinisters_33, uX6_keyMinisters_39, uX6_keyMinisters_45, qX6_keyMinisters_0, qX6_keyMinisters_12, qX6_keyMinisters_33, qX6_keyMinisters_39, qX6_keyMinisters_45, jX6_keyMinisters_12_45, jX6_keyMinisters_33_39, jX6_keyMinisters_0_4, cR_g0 hr, bd_eq, cR_v hr, cond_true, c_everybody hr, xci_eq, c_votesOf hr, zr, cR_g9 hr, zr, up_a, up_b, up_c, pt_c, fl_c, cp_c]
    first | done | (unfold keyIL; first | done | (repeat' split) <;> first | with_reducible_and_instances rfl | contradiction)
  | succ n ih =>
    intro j k y1 hj hk
    obtain ⟨k, rfl⟩ : ∃ k', k = k' + 1 := ⟨k - 1, by omega⟩
    have hx : ¬ ((s r 0) ≤ (nI j)) := by
      exact sz_lt zr hj
    have e := fun (y1 : Int32) => ih (j + 1) k y1 (by omega) (by omega)
    simp only [nI_succ] at e
    simp (decide := true) only [uX6_keyMinisters_4, qX6_keyMinisters_4, jX6_keyMinisters_12_45, jX6_keyMinisters_33_39, jX6_keyMinisters_0_4, cR_g0 hr, bd_eq, cR_v hr, cond_true, c_everybody hr, xci_eq, c_votesOf hr, zr, cR_g9 hr, zr, up_a, up_b, up_c, pt_c, fl_c, cp_c, if_neg hx]
    simp (decide := true) only [uX6_keyMinisters_0, uX6_keyMinisters_12, uX6_keyMinisters_33, uX6_keyMinisters_39, uX6_keyMinisters_45, qX6_keyMinisters_0, qX6_keyMinisters_12, qX6_keyMinisters_33, qX6_keyMinisters_39, qX6_keyMinisters_45, jX6_keyMinisters_12_45, jX6_keyMinisters_33_39, jX6_keyMinisters_0_4, cR_g0 hr, bd_eq, cR_v hr, cond_true, c_everybody hr, xci_eq, c_votesOf hr, zr, cR_g9 hr, zr, up_a, up_b, up_c, pt_c, fl_c, cp_c, eX_eq]
    rw [keyIL]
    repeat' split
    all_goals first | exact e _ | with_reducible_and_instances rfl | contradiction | exact absurd ‹(1 : Int32) = 0› (by decide) | exact absurd rfl ‹¬ (0 : Int32) = 0› | exact absurd rfl ‹¬ (1 : Int32) = 1›
def keyI (s : SG) (r : Nat) : Int32 := keyIL s r (sz s r) 0 0
theorem c_keyMinisters {s : SG} (hr : RP K r) (zr : SZ s r) : xN sc (d + 3) 109 [.inr (.inr (.inl (some r)))] (wl K s) = some (some (.inl (keyI s r)), wl K s) := by
  rw [mX6_keyMinisters]
  have L4 : ∀ (y1 : Int32), fW sc 6 1 false 3 (xN sc (d + 2)) (ex sc 6 1 false 3 (xN sc (d + 2)) kX6_keyMinisters_0 xF) kX6_keyMinisters_4 4 [some (.inr (.inr (.inl (some r)))), some (.inl y1), some (.inl 0)] [] (wl K s) = some (some (.inl (keyIL s r (sz s r) 0 y1)), wl K s) := fun y1 => l_keyMinisters hr zr (hi := rfl) (sz s r) 0 xF y1  (by omega) (by have := xF_ge; have := zr.2; omega)
  simp (decide := true) only [uX6_keyMinisters_0, uX6_keyMinisters_12, uX6_keyMinisters_33, uX6_keyMinisters_39, uX6_keyMinisters_45, qX6_keyMinisters_0, qX6_keyMinisters_12, qX6_keyMinisters_33, qX6_keyMinisters_39, qX6_keyMinisters_45, jX6_keyMinisters_12_45, jX6_keyMinisters_33_39, jX6_keyMinisters_0_4, zr, up_a, up_b, up_c, pt_c, fl_c, cp_c, L4]
  first | done | (unfold keyI; first | done | with_reducible_and_instances rfl | ((repeat' split) <;> first | with_reducible_and_instances rfl | contradiction | exact absurd ‹(1 : Int32) = 0› (by decide) | exact absurd rfl ‹¬ (0 : Int32) = 0› | exact absurd rfl ‹¬ (1 : Int32) = 1› | (exfalso; rename_i h1 h2; exact h1 (by rw [h2]; exact Int32.le_refl _))))
def islIL (s : SG) (r : Nat) : Nat → Nat → Int32 → Int32
  | 0, _, _ => 1
  | n + 1, j, y1 => if (hasI y1 (nI j)) = 0 then islIL s r n (j + 1) y1 else if (votT s r (y1 &&& ((1 <<< ((nI j) &&& 31)) ^^^ (-1)))) < (s r 9) then islIL s r n (j + 1) y1 else 0
theorem islIL_rt {s : SG} {r : Nat} : ∀ (n j : Nat) (y1 : Int32), xrt 4 (islIL s r n j y1) = true := by
  intro n
  induction n with
  | zero =>
    intro j y1
    rw [islIL]
    first | done | first | with_reducible_and_instances rfl | simp only [hasI_rt, minI_rt, isaI_rt, issI_rt, pasI_rt, arsI_rt, canI7_rt, canI0_rt, xr40, xr41] | ((repeat' split) <;> first | with_reducible_and_instances rfl | simp only [hasI_rt, minI_rt, isaI_rt, issI_rt, pasI_rt, arsI_rt, canI7_rt, canI0_rt, xr40, xr41])
  | succ n ih =>
    intro j y1
    rw [islIL]
    first | done | first | with_reducible_and_instances rfl | simp only [ih, hasI_rt, minI_rt, isaI_rt, issI_rt, pasI_rt, arsI_rt, canI7_rt, canI0_rt, xr40, xr41] | ((repeat' split) <;> first | with_reducible_and_instances rfl | simp only [ih, hasI_rt, minI_rt, isaI_rt, issI_rt, pasI_rt, arsI_rt, canI7_rt, canI0_rt, xr40, xr41])
theorem l_isLeastCoalition {s : SG} (hr : RP K r) (zr : SZ s r)  {i : Nat → List EV → EW → XR} (hi : i = xN sc (d + 2)) : ∀ (n j k : Nat) (y1 : Int32), j + n = sz s r → n ≤ k → fW sc 6 4 false 3 i (ex sc 6 4 false 3 i kX6_isLeastCoalition_0 k) kX6_isLeastCoalition_16 16 [some (.inr (.inr (.inl (some r)))), some (.inl y1), some (.inl (nI j))] [] (wl K s) = some (some (.inl (islIL s r n j y1)), wl K s) := by
  subst hi
  intro n
  induction n with
  | zero =>
    intro j k y1 hj hk
    have hx : (s r 0) ≤ (nI j) := by
      exact sz_ge zr hj
    simp (decide := true) only [uX6_isLeastCoalition_16, qX6_isLeastCoalition_16, jX6_isLeastCoalition_12_14, jX6_isLeastCoalition_24_58, jX6_isLeastCoalition_32_52, jX6_isLeastCoalition_50_52, jX6_isLeastCoalition_0_16, cR_g0 hr, bd_eq, c_has, xci_eq, cR_v hr, cond_true, c_votesOf hr, zr, cR_g9 hr, zr, up_a, up_b, up_c, pt_c, fl_c, cp_c, if_pos hx]
    try simp (decide := true) only [uX6_isLeastCoalition_0, uX6_isLeastCoalition_12, uX6_isLeastCoalition_14, uX6_isLeastCoalition_24, uX6_isLeastCoalition_32, uX6_isLeastCoalition_50, uX6_isLeastCoalition_52, uX6_isLeastCoalition_58, qX6_isLeastCoalition_0, qX6_isLeastCoalition_12, qX6_isLeastCoalition_14, qX6_isLeastCoalition_24, qX6_isLeastCoalition_32, qX6_isLeastCoalition_50, qX6_isLeastCoalition_52, qX6_isLeastCoalition_58, jX6_isLeastCoalition_12_14, jX6_isLeastCoalition_24_58, jX6_isLeastCoalition_32_52, jX6_isLeastCoalition_50_52, jX6_isLeastCoalition_0_16, cR_g0 hr, bd_eq, c_has, xci_eq, cR_v hr, cond_true, c_votesOf hr, zr, cR_g9 hr, zr, up_a, up_b, up_c, pt_c, fl_c, cp_c]
    first | done | (unfold islIL; first | done | (repeat' split) <;> first | with_reducible_and_instances rfl | contradiction)
  | succ n ih =>
    intro j k y1 hj hk
    obtain ⟨k, rfl⟩ : ∃ k', k = k' + 1 := ⟨k - 1, by omega⟩
    have hx : ¬ ((s r 0) ≤ (nI j)) := by
      exact sz_lt zr hj
    have e := fun (y1 : Int32) => ih (j + 1) k y1 (by omega) (by omega)
    simp only [nI_succ] at e
    simp (decide := true) only [uX6_isLeastCoalition_16, qX6_isLeastCoalition_16, jX6_isLeastCoalition_12_14, jX6_isLeastCoalition_24_58, jX6_isLeastCoalition_32_52, jX6_isLeastCoalition_50_52, jX6_isLeastCoalition_0_16, cR_g0 hr, bd_eq, c_has, xci_eq, cR_v hr, cond_true, c_votesOf hr, zr, cR_g9 hr, zr, up_a, up_b, up_c, pt_c, fl_c, cp_c, if_neg hx]
    simp (decide := true) only [uX6_isLeastCoalition_0, uX6_isLeastCoalition_12, uX6_isLeastCoalition_14, uX6_isLeastCoalition_24, uX6_isLeastCoalition_32, uX6_isLeastCoalition_50, uX6_isLeastCoalition_52, uX6_isLeastCoalition_58, qX6_isLeastCoalition_0, qX6_isLeastCoalition_12, qX6_isLeastCoalition_14, qX6_isLeastCoalition_24, qX6_isLeastCoalition_32, qX6_isLeastCoalition_50, qX6_isLeastCoalition_52, qX6_isLeastCoalition_58, jX6_isLeastCoalition_12_14, jX6_isLeastCoalition_24_58, jX6_isLeastCoalition_32_52, jX6_isLeastCoalition_50_52, jX6_isLeastCoalition_0_16, cR_g0 hr, bd_eq, c_has, xci_eq, cR_v hr, cond_true, c_votesOf hr, zr, cR_g9 hr, zr, up_a, up_b, up_c, pt_c, fl_c, cp_c, eX_eq]
    rw [islIL]
    repeat' split
    all_goals first | exact e _ | with_reducible_and_instances rfl | contradiction | exact absurd ‹(1 : Int32) = 0› (by decide) | exact absurd rfl ‹¬ (0 : Int32) = 0› | exact absurd rfl ‹¬ (1 : Int32) = 1›
def islI (s : SG) (r : Nat) (st : Int32) : Int32 := if (s r 9) ≤ (votT s r st) then islIL s r (sz s r) 0 st else 0
theorem islI_rt {s : SG} {r : Nat} {st : Int32} : xrt 4 (islI s r st) = true := by
  unfold islI
  first | done | first | with_reducible_and_instances rfl | simp only [hasI_rt, minI_rt, isaI_rt, issI_rt, pasI_rt, arsI_rt, canI7_rt, canI0_rt, islIL_rt, xr40, xr41] | ((repeat' split) <;> first | with_reducible_and_instances rfl | simp only [hasI_rt, minI_rt, isaI_rt, issI_rt, pasI_rt, arsI_rt, canI7_rt, canI0_rt, islIL_rt, xr40, xr41])
theorem c_isLeastCoalition {s : SG} {st : Int32} (hr : RP K r) (zr : SZ s r) : xN sc (d + 3) 111 [.inr (.inr (.inl (some r))), .inl st] (wl K s) = some (some (.inl (islI s r st)), wl K s) := by
  rw [mX6_isLeastCoalition]
  have L16 : ∀ (y1 : Int32), fW sc 6 4 false 3 (xN sc (d + 2)) (ex sc 6 4 false 3 (xN sc (d + 2)) kX6_isLeastCoalition_0 xF) kX6_isLeastCoalition_16 16 [some (.inr (.inr (.inl (some r)))), some (.inl y1), some (.inl 0)] [] (wl K s) = some (some (.inl (islIL s r (sz s r) 0 y1)), wl K s) := fun y1 => l_isLeastCoalition hr zr (hi := rfl) (sz s r) 0 xF y1  (by omega) (by have := xF_ge; have := zr.2; omega)
  simp (decide := true) only [uX6_isLeastCoalition_0, uX6_isLeastCoalition_12, uX6_isLeastCoalition_14, uX6_isLeastCoalition_24, uX6_isLeastCoalition_32, uX6_isLeastCoalition_50, uX6_isLeastCoalition_52, uX6_isLeastCoalition_58, qX6_isLeastCoalition_0, qX6_isLeastCoalition_12, qX6_isLeastCoalition_14, qX6_isLeastCoalition_24, qX6_isLeastCoalition_32, qX6_isLeastCoalition_50, qX6_isLeastCoalition_52, qX6_isLeastCoalition_58, jX6_isLeastCoalition_12_14, jX6_isLeastCoalition_24_58, jX6_isLeastCoalition_32_52, jX6_isLeastCoalition_50_52, jX6_isLeastCoalition_0_16, cR_v hr, cond_true, c_votesOf hr, zr, xci_eq, cR_g9 hr, bd_eq, zr, up_a, up_b, up_c, pt_c, fl_c, cp_c, L16]
  first | done | (unfold islI; first | done | with_reducible_and_instances rfl | ((repeat' split) <;> first | with_reducible_and_instances rfl | contradiction | exact absurd ‹(1 : Int32) = 0› (by decide) | exact absurd rfl ‹¬ (0 : Int32) = 0› | exact absurd rfl ‹¬ (1 : Int32) = 1› | (exfalso; rename_i h1 h2; exact h1 (by rw [h2]; exact Int32.le_refl _))))
end XCA
