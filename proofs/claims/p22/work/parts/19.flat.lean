/-! A FLAT MEMORY: what kinds the cells are (K), what numbers they hold (s) -/
abbrev KD : Type := (Nat × List (Option EV)) ⊕ ((Nat × Nat) ⊕ (Nat × Nat × (Nat → Option Nat)))
abbrev kO (ci : Nat) (fs : List (Option EV)) : KD := .inl (ci, fs)
abbrev kI (t n : Nat) : KD := .inr (.inl (t, n))
abbrev kQ (t n : Nat) (f : Nat → Option Nat) : KD := .inr (.inr (t, n, f))
abbrev SG : Type := Nat → Nat → Int32
def fc (s : Nat → Int32) : KD → EC
  | .inl (ci, fs) => cO ci (fs.mapIdx (fun j fd => fd.getD (eI (s j))))
  | .inr (.inl (t, n)) => cI t n s
  | .inr (.inr (t, n, f)) => cQ t n f
def wl (K : List KD) (s : SG) : EW := K.mapIdx (fun k kd => fc (s k) kd)
def up (s : SG) (k j : Nat) (x : Int32) : SG := fun a => if a = k then upd (s k) j x else s a
theorem up_s {s : SG} {k j : Nat} {x : Int32} : up s k j x k = upd (s k) j x := if_pos rfl
theorem up_n {s : SG} {k j a : Nat} {x : Int32} (h : a ≠ k) : up s k j x a = s a := if_neg h
theorem wl_get {K : List KD} {s : SG} {k : Nat} {kd : KD} (h : K[k]? = some kd) : (wl K s)[k]? = some (fc (s k) kd) := by
  simp [wl, List.getElem?_mapIdx, h]
theorem wl_len {K : List KD} {s : SG} : (wl K s).length = K.length := by simp [wl]
theorem wl_set {K : List KD} {s : SG} {k j : Nat} {x : Int32} {kd : KD} (h : K[k]? = some kd) : (wl K s).set k (fc (upd (s k) j x) kd) = wl K (up s k j x) := by
  apply List.ext_getElem?
  intro a
  rw [List.getElem?_set]
  simp only [wl, List.getElem?_mapIdx, List.length_mapIdx]
  by_cases e : k = a
  · subst e
    obtain ⟨hl, hh⟩ := List.getElem?_eq_some_iff.mp h
    rw [if_pos rfl, if_pos hl, h]
    simp [up_s]
  · rw [if_neg e, up_n (fun q => e q.symm)]
theorem xgi_wl {K : List KD} {s : SG} {k ci j : Nat} {fs : List (Option EV)} (hk : K[k]? = some (kO ci fs)) (hj : fs[j]? = some none) : xgi (wl K s) ci j (.inr (.inr (.inl (some k)))) = some (s k j) := by
  unfold xgi
  simp only [wl_get hk, fc]
  rw [Nat.beq_refl]
  simp [List.getElem?_mapIdx, hj]
theorem xga_wl {K : List KD} {s : SG} {k ci j : Nat} {u : Option Nat} {fs : List (Option EV)} (hk : K[k]? = some (kO ci fs)) (hj : fs[j]? = some (some (eO u))) : xga (wl K s) ci j (.inr (.inr (.inl (some k)))) = some u := by
  unfold xga
  simp only [wl_get hk, fc]
  rw [Nat.beq_refl]
  simp [List.getElem?_mapIdx, hj]
theorem xp_wl {K : List KD} {s : SG} {k ci j : Nat} {x : Int32} {fs : List (Option EV)} (hk : K[k]? = some (kO ci fs)) (hj : fs[j]? = some none) : xp (wl K s) ci j (.inl x) (.inr (.inr (.inl (some k)))) = some (wl K (up s k j x)) := by
  unfold xp
  obtain ⟨hl, hh⟩ := List.getElem?_eq_some_iff.mp hj
  simp only [wl_get hk, fc]
  rw [Nat.beq_refl]
  have h1 : Nat.blt j (fs.mapIdx (fun j fd => fd.getD (eI (s k j)))).length = true := by
    rw [List.length_mapIdx]; simpa using hl
  rw [h1]
  simp only [Bool.and_self, cond_true, Option.some.injEq]
  rw [← wl_set hk]
  congr 1
  simp only [fc]
  congr 2
  apply List.ext_getElem?
  intro a
  rw [List.getElem?_set, List.getElem?_mapIdx, List.getElem?_mapIdx]
  by_cases e : j = a
  · subst e
    rw [if_pos rfl, List.length_mapIdx, if_pos hl, hj]
    simp [pk_us]
  · rw [if_neg e]
    congr 1
    funext fd
    rw [pk_un (fun q => e q.symm)]
theorem xvb_iff {i : Int32} {n : Nat} : xvb i n = true ↔ 0 ≤ i.toInt ∧ i.toInt < n := by
  rw [← vp_in_iff]
  constructor
  · exact xvb_in
  · intro h
    unfold vp_in at h
    simp only [xvb, Bool.and_eq_true, Bool.not_eq_true', decide_eq_false_iff_not, decide_eq_true_eq]
    exact ⟨fun q => h (Or.inl q), Nat.not_le.mp (fun q => h (Or.inr q))⟩
theorem xdi_wl {sc : Nat × (Nat → Int32)} {K : List KD} {s : SG} {k n : Nat} {i : Int32} (hk : K[k]? = some (kI 0 n)) (hi : xvb i n = true) : xdi sc (wl K s) i (.inr (.inr (.inl (some k)))) = some (s k i.toNatClampNeg) := by
  unfold xdi
  simp only [wl_get hk, fc]
  rw [hi]; rfl
theorem xdb_wl {K : List KD} {s : SG} {k n : Nat} {i : Int32} (hk : K[k]? = some (kI 1 n)) (hi : xvb i n = true) : xdb (wl K s) i (.inr (.inr (.inl (some k)))) = some (s k i.toNatClampNeg) := by
  unfold xdb
  simp only [wl_get hk, fc]
  rw [hi]; rfl
theorem xdq_wl {K : List KD} {s : SG} {k t n : Nat} {f : Nat → Option Nat} {i : Int32} (hk : K[k]? = some (kQ t n f)) (ht : (Nat.ble 2 t && Nat.ble t 4) = true) (hi : xvb i n = true) : xdq (wl K s) i (.inr (.inr (.inl (some k)))) = some (f i.toNatClampNeg) := by
  unfold xdq
  simp only [wl_get hk, fc]
  rw [hi, ht]; rfl
theorem xti_wl {K : List KD} {s : SG} {k n : Nat} {i x : Int32} (hk : K[k]? = some (kI 0 n)) (hi : xvb i n = true) : xti (wl K s) i x (.inr (.inr (.inl (some k)))) = some (wl K (up s k i.toNatClampNeg x)) := by
  unfold xti
  simp only [wl_get hk, fc]
  rw [hi, ← wl_set hk]; rfl
theorem xtb_wl {K : List KD} {s : SG} {k n : Nat} {i x : Int32} (hk : K[k]? = some (kI 1 n)) (hi : xvb i n = true) : xtb (wl K s) i x (.inr (.inr (.inl (some k)))) = some (wl K (up s k i.toNatClampNeg (vp_nar .boolean x))) := by
  unfold xtb
  simp only [wl_get hk, fc]
  rw [hi, ← wl_set hk]; rfl
theorem xnn_wl {sc : Nat × (Nat → Int32)} {K : List KD} {s : SG} {k t n : Nat} (hk : K[k]? = some (kI t n)) (ht : Nat.blt t 5 = true) : xnn sc (wl K s) (.inr (.inr (.inl (some k)))) = some n := by
  unfold xnn
  simp only [wl_get hk, fc]
  rw [ht]; rfl
theorem xnq_wl {sc : Nat × (Nat → Int32)} {K : List KD} {s : SG} {k t n : Nat} {f : Nat → Option Nat} (hk : K[k]? = some (kQ t n f)) (ht : Nat.blt t 5 = true) : xnn sc (wl K s) (.inr (.inr (.inl (some k)))) = some n := by
  unfold xnn
  simp only [wl_get hk, fc]
  rw [ht]; rfl
theorem xrv_wl {K : List KD} {s : SG} {k ci : Nat} {fs : List (Option EV)} (hk : K[k]? = some (kO ci fs)) : xrv (wl K s) ci (.inr (.inr (.inl (some k)))) = true := by
  unfold xrv
  simp only [wl_get hk, fc]
  exact Nat.beq_refl ci
theorem xcv_eq {w : EW} {f : EW → XR} : xcv (some (none, w)) f = f w := rfl
theorem xci_eq {x : Int32} {w : EW} {f : Int32 → EW → XR} : xci (some (some (.inl x), w)) f = f x w := rfl
theorem xcj_eq {x : Int64} {w : EW} {f : Int64 → EW → XR} : xcj (some (some (.inr (.inl x)), w)) f = f x w := rfl
theorem xco_eq {x : Option Nat} {w : EW} {f : Option Nat → EW → XR} : xco (some (some (.inr (.inr (.inl x))), w)) f = f x w := rfl
theorem xck_eq {x : Nat} {w : EW} {f : Nat → EW → XR} : xck (some (some (.inr (.inr (.inr x))), w)) f = f x w := rfl
theorem bd_eq {α : Type} {a : α} {f : α → XR} : (some a).bind f = f a := rfl
theorem ex_eq {sc : Nat × (Nat → Int32)} {o rt : Nat} {ini : Bool} {nL : Nat} {i : Nat → List EV → EW → XR} {C : XC} {k : Nat} : ex sc o rt ini nL i C (k + 1) = fw sc o rt ini nL i (ex sc o rt ini nL i C k) C := rfl
