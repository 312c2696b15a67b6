section
section XRH
variable {sc : Nat × (Nat → Int32)} {d : Nat} {K : List KD} {r q t a B m : Nat} {w : EW}
/-! the reference: summers -/
def OKs (t : SG) (k : Nat) : Prop := t 64 30 = nI (1364 + 33 * k)
theorem isSummer_ok {t : SG} {x : Int32} (r : RI t) : ok (RisSummer t x) (fun p => QI t p.2 ∧ (∀ j, j ≠ 30 → p.2 64 j = t 64 j) ∧ (p.1 = 0 ∨ ∃ k, k < 2 ∧ OKs p.2 k)) := by
  unfold RisSummer
  refine ok_be (q_isOf rfl (by decide)) ?_
  refine ok_i (fun _ => ok_s ⟨QI_rfl, fun _ _ => rfl, Or.inl rfl⟩) (fun c => ?_)
  obtain ⟨j, e, hj⟩ := isOf_k r (by decide) c
  refine ok_s ⟨QI_up QI_rfl (by omega) (by omega), fun i hi => by
    show up t 64 30 (RplaceOf 4 x) 64 i = _
    exact up_bn hi, Or.inr ⟨j, hj, ?_⟩⟩
  show up t 64 30 (RplaceOf 4 x) 64 30 = _
  rw [up_a, e, place4]
theorem dayOf_eq {t : SG} {x y : Int32} {k j a : Nat} (e : OKs t k) (hk : k < 2) (ex : x = nI j) (ey : y = nI a) (hj : j < 8) (ha : a < 4) : RdayOf t x y = some (t 65 (1364 + 33 * k + 1 + 4 * j + a)) := by
  unfold RdayOf
  unfold OKs at e
  have e2 : t 64 30 + 1 + 4 * x + y = nI (1364 + 33 * k + 1 + 4 * j + a) := by
    rw [e, ex, ey]
    show nI _ + nI 1 + nI 4 * nI j + nI a = _
    rw [nI_mulx, nI_add, nI_add, nI_add]
  rw [rd_nI e2 (by omega) (by decide)]; rfl
theorem summerDays_eq {t : SG} {k : Nat} (e : OKs t k) (hk : k < 2) : RsummerDays t = some (t 65 (1364 + 33 * k)) := by
  unfold RsummerDays
  unfold OKs at e
  rw [rd_nI e (by omega) (by decide)]; rfl
theorem was_ok {s : SG} {x y z : Int32} (r : RI s) : ok (Rwas s x y z) (fun p => QI s p.2) := by
  unfold Rwas
  refine ok_b (isSummer_ok r) (fun p hp => ok_i (fun _ => ok_s hp.1) (fun c => ?_))
  obtain ⟨k, hk, e⟩ := hp.2.2.resolve_left c
  have r2 := QI_RI hp.1 r
  obtain ⟨n, en, hn⟩ := (r2.1.2.2 k hk).2.2.2.2.1
  have dd := summerDays_eq e hk
  rw [en] at dd
  refine ok_i (fun _ => ok_i (fun _ => ok_be dd (ok_s hp.1)) (fun _ => ok_s hp.1)) (fun _ => ok_be dd (ok_i (fun _ => ok_s hp.1) (fun c2 => ?_)))
  obtain ⟨j, ej, hj⟩ := inI_sub (by omega) c2
  refine ok_i (fun _ => ok_s hp.1) (fun c3 => ?_)
  obtain ⟨a, ea, ha⟩ := inI_nI (b := 3) (by decide) c3
  exact ok_be (dayOf_eq e hk ej ea (by omega) (by omega)) (ok_s hp.1)
/-- a summer's numbers: how many days, who sat when, rain, wind, sun -/
theorem summer_n {t : SG} {k : Nat} (r : RI t) (hk : k < 2) (e : OKs t k) : ∃ (D : Nat) (f : Nat → Nat → Nat), D ≤ 8 ∧ RsummerDays t = some (nI D) ∧ ∀ j, j < 8 → f j 0 ≤ 3 ∧ (∀ a, a < 4 → f j a ≤ 9) ∧ ∀ (a : Nat) (x y : Int32), a < 4 → x = nI j → y = nI a → RdayOf t x y = some (nI (f j a)) := by
  obtain ⟨⟨D, eD, hD⟩, hr⟩ := (r.1.2.2 k hk).2.2.2.2
  refine ⟨D, fun j a => (t 65 (1364 + 33 * k + 1 + 4 * j + a)).toNatClampNeg, hD, by rw [summerDays_eq e hk, eD], fun j hj => ?_⟩
  have h := hr j hj
  have cl : ∀ {x : Int32} {n : Nat}, NB x n → n < 2 ^ 31 → x = nI x.toNatClampNeg ∧ x.toNatClampNeg ≤ n := by
    intro x n hx hn
    obtain ⟨a, ea, ha⟩ := hx
    rw [ea, nI_clamp (by omega)]; exact ⟨rfl, ha⟩
  refine ⟨(cl h.1 (by decide)).2, fun a ha => ?_, fun a x y ha ex ey => ?_⟩
  · rcases (by omega : a = 0 ∨ a = 1 ∨ a = 2 ∨ a = 3) with g | g | g | g <;> subst g
    · exact Nat.le_trans (cl h.1 (by decide)).2 (by decide)
    · exact (cl h.2.1 (by decide)).2
    · exact (cl h.2.2.1 (by decide)).2
    · exact (cl h.2.2.2 (by decide)).2
  · rw [dayOf_eq e hk ex ey hj ha]
    congr 1
    rcases (by omega : a = 0 ∨ a = 1 ∨ a = 2 ∨ a = 3) with g | g | g | g <;> subst g
    · exact (cl h.1 (by decide)).1
    · exact (cl h.2.1 (by decide)).1
    · exact (cl h.2.2.1 (by decide)).1
    · exact (cl h.2.2.2 (by decide)).1
theorem OKs_KQ {t u : SG} {k : Nat} (h : KQ t u) (e : OKs t k) : OKs u k := by
  unfold OKs at *
  rw [h.2 30 (by unfold KJ; omega)]; exact e
theorem numberOf_ok {t : SG} {k j : Nat} {x : Int32} (e : OKs t k) (hk : k < 2) (ex : x = nI j) (hj : j < 8) : ok (RnumberOf t x) (fun _ => True) := by
  unfold RnumberOf
  exact ok_be (dayOf_eq (y := 1) (a := 1) e hk ex rfl hj (by decide)) (ok_be (dayOf_eq (y := 2) (a := 2) e hk ex rfl hj (by decide)) (ok_be (dayOf_eq (y := 3) (a := 3) e hk ex rfl hj (by decide)) (ok_s trivial)))
theorem wrongDay_l {k : Nat} (hk : k < 2) : ∀ (n j z : Nat) (t : SG), RI t → OKs t k → j + n = 8 → n ≤ z → ok (RwrongDay_2 (RwrongDay_R z) t (nI j)) (fun p => QI t p.2) := by
  intro n
  induction n with
  | zero =>
    intro j z t r e hj hz
    obtain ⟨D, f, hD, eD, _⟩ := summer_n r hk e
    unfold RwrongDay_2
    refine ok_be eD ?_
    rw [if_pos (nI_le2 (by omega) (by omega))]
    exact ok_s QI_rfl
  | succ n ih =>
    intro j z t r e hj hz
    obtain ⟨z, rfl⟩ : ∃ z', z = z' + 1 := ⟨z - 1, by omega⟩
    obtain ⟨D, f, hD, eD, _⟩ := summer_n r hk e
    unfold RwrongDay_2
    refine ok_be eD (ok_i (fun _ => ok_s QI_rfl) (fun _ => ok_b (numberOf_ok e hk rfl (by omega)) (fun q _ => ?_)))
    refine ok_i (fun _ => ok_s talks_KQ.1) (fun _ => ?_)
    have kq : KQ t (Rgoes (RtalksOf t q)) := KQ_tr talks_KQ goes_KQ
    show ok (RwrongDay_2 (RwrongDay_R z) (Rgoes (RtalksOf t q)) (nI j + 1)) _
    rw [← nI_succ]
    exact ok_w (ih (j + 1) z _ (QI_RI kq.1 r) (OKs_KQ kq e) (by omega) (by omega)) (fun p hp => QI_tr kq.1 hp)
theorem isHeatRight_l {t : SG} {k D : Nat} {f : Nat → Nat → Nat} (hk : k < 2) (hD : D ≤ 8) (eD : RsummerDays t = some (nI D)) (ef : ∀ j, j < 8 → f j 0 ≤ 3 ∧ (∀ a, a < 4 → f j a ≤ 9) ∧ ∀ (a : Nat) (x y : Int32), a < 4 → x = nI j → y = nI a → RdayOf t x y = some (nI (f j a))) : ∀ (n j z : Nat) (y1 y2 : Int32), (y2 = 0 ∨ y2 = 1) → j + n = D → n ≤ z → ok (RisHeatRight_10 (RisHeatRight_R z) t y1 y2 (nI j)) (fun _ => True) := by
  intro n
  induction n with
  | zero =>
    intro j z y1 y2 hy hj hz
    have e4 : xrt 4 y2 = true := by rcases hy with g | g <;> rw [g] <;> rfl
    unfold RisHeatRight_10
    refine ok_be eD ?_
    rw [if_pos (nI_le2 (by omega) (by omega)), e4]
    exact ok_s trivial
  | succ n ih =>
    intro j z y1 y2 hy hj hz
    obtain ⟨z, rfl⟩ : ∃ z', z = z' + 1 := ⟨z - 1, by omega⟩
    have next : ∀ a b : Int32, (b = 0 ∨ b = 1) → ok (RisHeatRight_R (z + 1) t a b (nI j + 1)) (fun _ => True) := by
      intro a b hb
      show ok (RisHeatRight_10 (RisHeatRight_R z) t a b (nI j + 1)) _
      rw [← nI_succ]
      exact ih (j + 1) z a b hb (by omega) (by omega)
    unfold RisHeatRight_10
    refine ok_be eD ?_
    rw [if_neg (nI_ge (a := j) (b := D) (by omega) (by omega))]
    have h := (ef j (by omega)).2.2
    exact ok_be (h 3 (nI j) 3 (by decide) rfl rfl) (ok_be (h 2 (nI j) 2 (by decide) rfl rfl) (ok_i (fun _ => next _ _ (Or.inl rfl)) (fun _ => ok_i (fun _ => next _ _ (Or.inl rfl)) (fun _ => next _ _ (Or.inr rfl)))))
theorem nI_subn {a b : Nat} (h : b ≤ a) : nI a - nI b = nI (a - b) := by
  have e : nI a = nI (a - b) + nI b := by rw [nI_add]; congr 1; omega
  rw [e, Int32.add_sub_cancel]
/-- the clouds after a day -/
def cAf (S d c f : Nat) : Nat := if S - c + f ≤ d then (c - f) + (S - c + f) else (c - f) + d
theorem cAf_le {S d c f : Nat} (hc : c ≤ S) (hf : f ≤ c) : cAf S d c f ≤ S := by
  unfold cAf
  split <;> omega
theorem cloudAfter_eq {t : SG} {C G d c f : Nat} {x y z : Int32} (eC : Rof t 3 = some (nI C)) (eG : Rof t 4 = some (nI G)) (ed : RdayOf t z 3 = some (nI d)) (hC : C ≤ 99) (hG : G ≤ 99) (hd : d ≤ 9) (ex : x = nI c) (ey : y = nI f) (hc : c ≤ C + G) (hf : f ≤ c) : RcloudAfter t x y z = some (nI (cAf (C + G) d c f)) := by
  subst ex; subst ey
  unfold RcloudAfter
  rw [eC, eG, ed]
  simp only [bd2]
  rw [nI_add, nI_subn hc, nI_add, nI_subn hf]
  unfold cAf
  by_cases h : C + G - c + f ≤ d
  · rw [if_pos (nI_le2 h (by omega)), if_pos h, nI_add]
  · rw [if_neg (nI_ge (by omega) (by omega)), if_neg h, nI_add]
theorem mR37 {z : Nat} {u : SG} {a b : Int32} : (Rmends_R (z + 1)).2.1 u a b = Rmends_37 (Rmends_R z).1 (Rmends_R z).2.1 (Rmends_R z).2.2.1 (Rmends_R z).2.2.2 u a b := rfl
/-- what is known of less at a day: each number is one that some rain gives -/
def PL (u : SG) (S D : Nat) (f : Nat → Nat → Nat) (k : Nat) : Prop := ∀ c, c ≤ S → ∃ v, u 70 (199 * k + c) = nI v ∧ v ≤ 9 * (D - k) ∧ (k < D → ∃ g, g ≤ c ∧ g ≤ f k 1 ∧ ∃ v', u 70 (199 * (k + 1) + cAf S (f k 3) c g) = nI v' ∧ f k 1 - g + v' ≤ v)
section MENDS
variable {t0 : SG} {C G D : Nat} {f : Nat → Nat → Nat}
/-- all that mends looks at, on a state that differs in less alone -/
def MH (t0 u : SG) : Prop := QI t0 u ∧ u 64 = t0 64
theorem MH_up {u : SG} {j : Nat} {x : Int32} (h : MH t0 u) : MH t0 (up u 70 j x) := ⟨QI_up h.1 (by omega) (by omega), by rw [up_n (by omega)]; exact h.2⟩
theorem MH_Rof {u : SG} {x : Int32} (h : MH t0 u) : Rof u x = Rof t0 x := by
  unfold Rof rdI; rw [h.1.1, h.2]
theorem MH_day {u : SG} {x y : Int32} (h : MH t0 u) : RdayOf u x y = RdayOf t0 x y := by
  unfold RdayOf rdI; rw [h.1.1, h.2]
def MC (t0 : SG) (C G D : Nat) (f : Nat → Nat → Nat) : Prop := Rof t0 3 = some (nI C) ∧ Rof t0 4 = some (nI G) ∧ C ≤ 99 ∧ G ≤ 99 ∧ D ≤ 8 ∧ RsummerDays t0 = some (nI D) ∧ ∀ j, j < 8 → f j 0 ≤ 3 ∧ (∀ a, a < 4 → f j a ≤ 9) ∧ ∀ (a : Nat) (x y : Int32), a < 4 → x = nI j → y = nI a → RdayOf t0 x y = some (nI (f j a))
theorem MC_cloud {u : SG} {k c g : Nat} {x y z : Int32} (m : MC t0 C G D f) (h : MH t0 u) (hk : k < 8) (ex : x = nI c) (ey : y = nI g) (ez : z = nI k) (hc : c ≤ C + G) (hg : g ≤ c) : RcloudAfter u x y z = some (nI (cAf (C + G) (f k 3) c g)) := by
  obtain ⟨eC, eG, hC, hG, hD, eD, ef⟩ := m
  have d := (ef k hk)
  exact cloudAfter_eq (by rw [MH_Rof h]; exact eC) (by rw [MH_Rof h]; exact eG) (by rw [MH_day h]; exact d.2.2 3 z 3 (by decide) ez rfl) hC hG (d.2.1 3 (by decide)) ex ey hc hg
/-- the inner row: the least over the rain that may fall -/
theorem mends66 {y1 : Int32} {k c R : Nat} {u : SG} (m : MC t0 C G D f) (h : MH t0 u) (hk : k < D) (hc : c ≤ C + G) (pl : PL u (C + G) D f (k + 1))
    (hcont : ∀ (z v : Nat), R ≤ z → v ≤ 9 * (D - k) → (∃ g, g ≤ c ∧ g ≤ f k 1 ∧ ∃ v', u 70 (199 * (k + 1) + cAf (C + G) (f k 3) c g) = nI v' ∧ f k 1 - g + v' ≤ v) → ok (Rmends_43 (Rmends_R z).1 (Rmends_R z).2.1 (Rmends_R z).2.2.1 (Rmends_R z).2.2.2 (up u 70 (199 * k + c) (nI v)) y1 (nI k) (nI c + 1)) (fun w => MH t0 w ∧ ∀ k, k ≤ D → PL w (C + G) D f k)) :
    ∀ (n j z b : Nat), j + n = min (f k 1) c + 1 → n + R + 1 ≤ z → (j = 0 → b = 1000) → (0 < j → b ≤ 9 * (D - k) ∧ ∃ g, g ≤ c ∧ g ≤ f k 1 ∧ ∃ v', u 70 (199 * (k + 1) + cAf (C + G) (f k 3) c g) = nI v' ∧ f k 1 - g + v' ≤ b) → ok (Rmends_66 (Rmends_R z).1 (Rmends_R z).2.1 (Rmends_R z).2.2.1 (Rmends_R z).2.2.2 u y1 (nI k) (nI c) (nI b) (nI j)) (fun w => MH t0 w ∧ ∀ k, k ≤ D → PL w (C + G) D f k) := by
  have m' := m
  obtain ⟨eC, eG, hC, hG, hD, eD, ef⟩ := m'
  have fk := ef k (by omega)
  have f9 := fk.2.1 1 (by decide)
  have day1 : RdayOf u (nI k) 1 = some (nI (f k 1)) := by rw [MH_day h]; exact fk.2.2 1 (nI k) 1 (by decide) rfl rfl
  have e138 : ∀ (z b : Nat) (y5 : Int32), R + 1 ≤ z → (b ≤ 9 * (D - k) ∧ ∃ g, g ≤ c ∧ g ≤ f k 1 ∧ ∃ v', u 70 (199 * (k + 1) + cAf (C + G) (f k 3) c g) = nI v' ∧ f k 1 - g + v' ≤ b) → ok (Rmends_138 (Rmends_R z).1 (Rmends_R z).2.1 (Rmends_R z).2.2.1 (Rmends_R z).2.2.2 u y1 (nI k) (nI c) (nI b) y5) (fun w => MH t0 w ∧ ∀ k, k ≤ D → PL w (C + G) D f k) := by
    intro z b y5 hz hb
    obtain ⟨z, rfl⟩ : ∃ z', z = z' + 1 := ⟨z - 1, by omega⟩
    unfold Rmends_138
    refine ok_be (wr_nI (e := 199 * k + c) (by show nI 199 * nI k + nI c = _; rw [nI_mulx, nI_add]) (by omega) (by decide)) ?_
    exact hcont z b (by omega) hb.1 hb.2
  intro n
  induction n with
  | zero =>
    intro j z b hj hz _ hb
    have hb2 := hb (by omega)
    unfold Rmends_66
    refine ok_be day1 ?_
    by_cases q : f k 1 < j
    · rw [if_pos (nI_lt2 q (by omega))]
      exact e138 z b _ (by omega) hb2
    · rw [if_neg (by rw [Int32.not_lt]; exact nI_le2 (by omega) (by omega)), if_pos (nI_lt2 (by omega) (by omega))]
      exact e138 z b _ (by omega) hb2
  | succ n ih =>
    intro j z b hj hz h0 hb
    obtain ⟨z, rfl⟩ : ∃ z', z = z' + 1 := ⟨z - 1, by omega⟩
    have hj1 : j ≤ f k 1 := by omega
    have hj2 : j ≤ c := by omega
    have ca := cAf_le (S := C + G) (d := f k 3) hc hj2
    obtain ⟨v', ev, hv, _⟩ := pl _ ca
    have rdv : rdI u 70 1791 (199 * (nI k + 1) + nI (cAf (C + G) (f k 3) c j)) = some (nI v') := by
      rw [rd_nI (e := 199 * (k + 1) + cAf (C + G) (f k 3) c j) (by show nI 199 * (nI k + nI 1) + _ = _; rw [nI_add, nI_mulx, nI_add]) (by omega) (by decide), ev]
    have ce : (nI (f k 1) - nI j + nI v') = nI (f k 1 - j + v') := by rw [nI_subn hj1, nI_add]
    have next : ∀ b2 : Nat, (b2 ≤ 9 * (D - k) ∧ ∃ g, g ≤ c ∧ g ≤ f k 1 ∧ ∃ v', u 70 (199 * (k + 1) + cAf (C + G) (f k 3) c g) = nI v' ∧ f k 1 - g + v' ≤ b2) → ok ((Rmends_R (z + 1)).2.2.2 u y1 (nI k) (nI c) (nI b2) (nI j + 1)) (fun w => MH t0 w ∧ ∀ k, k ≤ D → PL w (C + G) D f k) := by
      intro b2 h2
      show ok (Rmends_66 (Rmends_R z).1 (Rmends_R z).2.1 (Rmends_R z).2.2.1 (Rmends_R z).2.2.2 u y1 (nI k) (nI c) (nI b2) (nI j + 1)) _
      rw [← nI_succ]
      exact ih (j + 1) z b2 (by omega) (by omega) (fun q => absurd q (by omega)) (fun _ => h2)
    unfold Rmends_66
    refine ok_be day1 ?_
    rw [if_neg (by rw [Int32.not_lt]; exact nI_le2 hj1 (by omega)), if_neg (by rw [Int32.not_lt]; exact nI_le2 hj2 (by omega))]
    refine ok_be day1 (ok_be (MC_cloud m h (by omega) rfl rfl rfl hc hj2) (ok_be rdv ?_))
    rw [ce]
    have here : f k 1 - j + v' ≤ 9 * (D - k) ∨ 0 < j := by
      rcases Nat.eq_zero_or_pos j with q | q
      · left; omega
      · right; exact q
    by_cases q : b ≤ f k 1 - j + v'
    · have hbs : b < 2 ^ 31 := by
        rcases Nat.eq_zero_or_pos j with e | e
        · have := h0 e; omega
        · have := (hb e).1; omega
      rw [if_pos (nI_le2 q (by omega))]
      rcases Nat.eq_zero_or_pos j with e | e
      · have e1 := h0 e
        exfalso
        omega
      · exact next b (hb e)
    · rw [if_neg (nI_ge (by omega) (by
        rcases Nat.eq_zero_or_pos j with e | e
        · have := h0 e; omega
        · have := (hb e).1; omega))]
      refine next _ ⟨?_, j, hj2, hj1, v', ev, Nat.le_refl _⟩
      rcases here with e | e
      · exact e
      · have := (hb e).1; omega
theorem PL_up {u : SG} {k k2 c v : Nat} (hk : k < k2) (hS : C + G ≤ 198) (hc : c ≤ C + G) (h : PL u (C + G) D f k2) : PL (up u 70 (199 * k + c) (nI v)) (C + G) D f k2 := by
  intro a ha
  obtain ⟨w, e, hw, hh⟩ := h a ha
  refine ⟨w, by rw [up_bn (by omega)]; exact e, hw, fun q => ?_⟩
  obtain ⟨g, g1, g2, v', e2, h2⟩ := hh q
  exact ⟨g, g1, g2, v', by rw [up_bn (by omega)]; exact e2, h2⟩
theorem mends43 {y1 : Int32} {k R : Nat} (m : MC t0 C G D f) (hk : k < D)
    (hcont : ∀ (z : Nat) (u : SG), R ≤ z → MH t0 u → (∀ k2, k ≤ k2 → k2 ≤ D → PL u (C + G) D f k2) → ok (Rmends_37 (Rmends_R z).1 (Rmends_R z).2.1 (Rmends_R z).2.2.1 (Rmends_R z).2.2.2 u y1 (nI k + -1)) (fun w => MH t0 w ∧ ∀ k, k ≤ D → PL w (C + G) D f k)) :
    ∀ (n j z : Nat) (u : SG), MH t0 u → (∀ k2, k + 1 ≤ k2 → k2 ≤ D → PL u (C + G) D f k2) → (∀ c, c < j → ∃ v, u 70 (199 * k + c) = nI v ∧ v ≤ 9 * (D - k) ∧ ∃ g, g ≤ c ∧ g ≤ f k 1 ∧ ∃ v', u 70 (199 * (k + 1) + cAf (C + G) (f k 3) c g) = nI v' ∧ f k 1 - g + v' ≤ v) → j + n = C + G + 1 → n * 12 + R + 1 ≤ z → ok (Rmends_43 (Rmends_R z).1 (Rmends_R z).2.1 (Rmends_R z).2.2.1 (Rmends_R z).2.2.2 u y1 (nI k) (nI j)) (fun w => MH t0 w ∧ ∀ k, k ≤ D → PL w (C + G) D f k) := by
  have m' := m
  obtain ⟨eC, eG, hC, hG, hD, eD, ef⟩ := m'
  intro n
  induction n with
  | zero =>
    intro j z u h pl row hj hz
    obtain ⟨z, rfl⟩ : ∃ z', z = z' + 1 := ⟨z - 1, by omega⟩
    unfold Rmends_43
    refine ok_be (by rw [MH_Rof h]; exact eC) (ok_be (by rw [MH_Rof h]; exact eG) ?_)
    rw [nI_add, if_pos (nI_lt2 (by omega) (by omega))]
    rw [mR37]
    refine hcont z u (by omega) h (fun k2 h1 h2 => ?_)
    by_cases e : k2 = k
    · subst e
      intro c hc
      obtain ⟨v, e1, e2, e3⟩ := row c (by omega)
      exact ⟨v, e1, e2, fun _ => e3⟩
    · exact pl k2 (by omega) h2
  | succ n ih =>
    intro j z u h pl row hj hz
    have f9 := (ef k (by omega)).2.1 1 (by decide)
    unfold Rmends_43
    refine ok_be (by rw [MH_Rof h]; exact eC) (ok_be (by rw [MH_Rof h]; exact eG) ?_)
    rw [nI_add, if_neg (by rw [Int32.not_lt]; exact nI_le2 (by omega) (by omega))]
    refine mends66 (R := n * 12 + R + 1) m h hk (by omega) (pl (k + 1) (by omega) (by omega)) (fun z2 v hz2 hv hg => ?_) (min (f k 1) j + 1) 0 z 1000 (by omega) (by omega) (fun _ => rfl) (fun q => absurd q (by omega))
    rw [← nI_succ]
    refine ih (j + 1) z2 _ (MH_up h) (fun k2 h1 h2 => PL_up (by omega) (by omega) (by omega) (pl k2 h1 h2)) (fun c hc => ?_) (by omega) hz2
    by_cases e : c = j
    · subst e
      obtain ⟨g, g1, g2, v', e2, h2⟩ := hg
      exact ⟨v, up_a, hv, g, g1, g2, v', by rw [up_bn (by omega)]; exact e2, h2⟩
    · obtain ⟨w, e1, e2, g, g1, g2, v', e3, e4⟩ := row c (by omega)
      exact ⟨w, by rw [up_bn (by omega)]; exact e1, e2, g, g1, g2, v', by rw [up_bn (by omega)]; exact e3, e4⟩
theorem mends37 {y1 : Int32} (m : MC t0 C G D f) : ∀ (n z : Nat) (u : SG), MH t0 u → n ≤ D → (∀ k2, n ≤ k2 → k2 ≤ D → PL u (C + G) D f k2) → n * 2390 ≤ z → ok (Rmends_37 (Rmends_R z).1 (Rmends_R z).2.1 (Rmends_R z).2.2.1 (Rmends_R z).2.2.2 u y1 (nI n - 1)) (fun w => MH t0 w ∧ ∀ k, k ≤ D → PL w (C + G) D f k) := by
  have m' := m
  obtain ⟨eC, eG, hC, hG, hD, eD, ef⟩ := m'
  intro n
  induction n with
  | zero =>
    intro z u h hn pl hz
    unfold Rmends_37
    rw [if_pos (by decide)]
    exact ok_s ⟨h, fun k hk => pl k (by omega) hk⟩
  | succ n ih =>
    intro z u h hn pl hz
    have e1 : nI (n + 1) - 1 = nI n := by rw [nI_succ, Int32.add_sub_cancel]
    unfold Rmends_37
    rw [e1, if_neg (nI_pos (by omega))]
    refine mends43 (R := n * 2390) m (by omega) (fun z2 u2 hz2 h2 pl2 => ?_) (C + G + 1) 0 z u h pl (fun c hc => absurd hc (by omega)) (by omega) (by omega)
    have e2 : nI n + -1 = nI n - 1 := by rw [Int32.sub_eq_add_neg]
    rw [e2]
    exact ih z2 u2 h2 (by omega) pl2 hz2
theorem mends7 (m : MC t0 C G D f) : ∀ (n j z : Nat) (u : SG), MH t0 u → (∀ c, c < j → u 70 (199 * D + c) = nI 0) → j + n = 199 → n + 8 * 2390 ≤ z → ok (Rmends_7 (Rmends_R z).1 (Rmends_R z).2.1 (Rmends_R z).2.2.1 (Rmends_R z).2.2.2 u (nI D) (nI j)) (fun w => MH t0 w ∧ ∀ k, k ≤ D → PL w (C + G) D f k) := by
  have m' := m
  obtain ⟨eC, eG, hC, hG, hD, eD, ef⟩ := m'
  intro n
  induction n with
  | zero =>
    intro j z u h row hj hz
    unfold Rmends_7
    rw [if_pos (show (199 : Int32) ≤ nI j from k_ge (m := 199) hj)]
    refine mends37 m D z u h (Nat.le_refl _) (fun k2 h1 h2 => ?_) (by omega)
    have e : k2 = D := by omega
    subst e
    exact fun c hc => ⟨0, row c (by omega), by omega, fun q => absurd q (by omega)⟩
  | succ n ih =>
    intro j z u h row hj hz
    obtain ⟨z, rfl⟩ : ∃ z', z = z' + 1 := ⟨z - 1, by omega⟩
    unfold Rmends_7
    rw [if_neg (show ¬ (199 : Int32) ≤ nI j from k_lt (m := 199) hj (by decide))]
    refine ok_be (wr_nI (e := 199 * D + j) (by show nI 199 * nI D + nI j = _; rw [nI_mulx, nI_add]) (by omega) (by decide)) ?_
    show ok (Rmends_7 (Rmends_R z).1 (Rmends_R z).2.1 (Rmends_R z).2.2.1 (Rmends_R z).2.2.2 (up u 70 (199 * D + j) 0) (nI D) (nI j + 1)) _
    rw [← nI_succ]
    refine ih (j + 1) z _ (MH_up h) (fun c hc => ?_) (by omega) (by omega)
    by_cases e : c = j
    · subst e; rw [up_a]; rfl
    · rw [up_bn (by omega)]; exact row c (by omega)
theorem mends_ok (m : MC t0 C G D f) : ok (Rmends t0) (fun w => MH t0 w ∧ ∀ k, k ≤ D → PL w (C + G) D f k) := by
  unfold Rmends
  exact ok_be m.2.2.2.2.2.1 (mends7 m 199 0 xF t0 ⟨QI_rfl, rfl⟩ (fun c hc => absurd hc (by omega)) rfl (by have := xF_ge; omega))
theorem fallsOn40 {u : SG} {y1 : Int32} {k c R : Nat} (m : MC t0 C G D f) (h : MH t0 u) (hk : k < D) (hc : c ≤ C + G) (pl : ∀ k, k ≤ D → PL u (C + G) D f k) (hcont : ∀ (z c2 : Nat) (y3 : Int32), R ≤ z → c2 ≤ C + G → ok (RfallsOn_11 (RfallsOn_R z).1 (RfallsOn_R z).2 u y1 (nI c2) y3 (nI k + 1)) (fun _ => True)) {v g : Nat} (ev : u 70 (199 * k + c) = nI v) (hv : v ≤ 72) (hg : g ≤ c) (hg1 : g ≤ f k 1) {w : Nat} (ew : u 70 (199 * (k + 1) + cAf (C + G) (f k 3) c g) = nI w) (hw : f k 1 - g + w ≤ v) : ∀ (n z : Nat), g + n ≤ c → g + n ≤ f k 1 → n + R + 1 ≤ z → ok (RfallsOn_40 (RfallsOn_R z).1 (RfallsOn_R z).2 u y1 (nI c) (nI (g + n)) (nI k)) (fun _ => True) := by
  have m' := m
  obtain ⟨eC, eG, hC, hG, hD, eD, ef⟩ := m'
  have fk := ef k (by omega)
  have f9 := fk.2.1 1 (by decide)
  have day1 : RdayOf u (nI k) 1 = some (nI (f k 1)) := by rw [MH_day h]; exact fk.2.2 1 (nI k) 1 (by decide) rfl rfl
  have r4 : rdI u 70 1791 (199 * nI k + nI c) = some (nI v) := by
    rw [rd_nI (e := 199 * k + c) (by show nI 199 * nI k + nI c = _; rw [nI_mulx, nI_add]) (by omega) (by decide), ev]
  intro n
  induction n with
  | zero =>
    intro z h1 h2 hz
    obtain ⟨z, rfl⟩ : ∃ z', z = z' + 1 := ⟨z - 1, by omega⟩
    have ca := cAf_le (S := C + G) (d := f k 3) hc (by omega : g + 0 ≤ c)
    have cl := MC_cloud m h (by omega : k < 8) (x := nI c) (y := nI (g + 0)) (z := nI k) rfl rfl rfl hc (by omega : g + 0 ≤ c)
    have r3 : rdI u 70 1791 (199 * (nI k + 1) + nI (cAf (C + G) (f k 3) c (g + 0))) = some (nI w) := by
      rw [rd_nI (e := 199 * (k + 1) + cAf (C + G) (f k 3) c (g + 0)) (by show nI 199 * (nI k + nI 1) + _ = _; rw [nI_add, nI_mulx, nI_add]) (by omega) (by decide)]
      show some (u 70 (199 * (k + 1) + cAf (C + G) (f k 3) c g)) = _
      rw [ew]
    unfold RfallsOn_40
    refine ok_be day1 (ok_be cl (ok_be r3 (ok_be r4 ?_)))
    rw [nI_subn (by omega : g + 0 ≤ f k 1), nI_add, if_pos (nI_le2 (by omega) (by omega))]
    exact ok_be cl (hcont z _ _ (by omega) ca)
  | succ n ih =>
    intro z h1 h2 hz
    obtain ⟨z, rfl⟩ : ∃ z', z = z' + 1 := ⟨z - 1, by omega⟩
    have ca := cAf_le (S := C + G) (d := f k 3) hc (by omega : g + (n + 1) ≤ c)
    have cl := MC_cloud m h (by omega : k < 8) (x := nI c) (y := nI (g + (n + 1))) (z := nI k) rfl rfl rfl hc (by omega : g + (n + 1) ≤ c)
    obtain ⟨w2, ew2, hw2, _⟩ := pl (k + 1) (by omega) _ ca
    have r3 : rdI u 70 1791 (199 * (nI k + 1) + nI (cAf (C + G) (f k 3) c (g + (n + 1)))) = some (nI w2) := by
      rw [rd_nI (e := 199 * (k + 1) + cAf (C + G) (f k 3) c (g + (n + 1))) (by show nI 199 * (nI k + nI 1) + _ = _; rw [nI_add, nI_mulx, nI_add]) (by omega) (by decide), ew2]
    unfold RfallsOn_40
    refine ok_be day1 (ok_be cl (ok_be r3 (ok_be r4 (ok_i (fun _ => ok_be cl (hcont z _ _ (by omega) ca)) (fun _ => ?_)))))
    have e2 : nI (g + (n + 1)) + -1 = nI (g + n) := by
      rw [show g + (n + 1) = (g + n) + 1 by omega, nI_succ, ← Int32.sub_eq_add_neg, Int32.add_sub_cancel]
    rw [e2]
    exact ih z (by omega) (by omega) (by omega)
theorem fallsOn11 {u : SG} {a : Nat} (m : MC t0 C G D f) (h : MH t0 u) (ha : a < D) (pl : ∀ k, k ≤ D → PL u (C + G) D f k) : ∀ (n j z c : Nat) (y3 : Int32), j + n = a + 1 → n * 20 ≤ z → c ≤ C + G → ok (RfallsOn_11 (RfallsOn_R z).1 (RfallsOn_R z).2 u (nI a) (nI c) y3 (nI j)) (fun _ => True) := by
  have m' := m
  obtain ⟨eC, eG, hC, hG, hD, eD, ef⟩ := m'
  intro n
  induction n with
  | zero =>
    intro j z c y3 hj hz hc
    unfold RfallsOn_11
    rw [if_pos (nI_lt2 (by omega) (by omega))]
    exact ok_s trivial
  | succ n ih =>
    intro j z c y3 hj hz hc
    have fk := ef j (by omega)
    have f9 := fk.2.1 1 (by decide)
    have day1 : RdayOf u (nI j) 1 = some (nI (f j 1)) := by rw [MH_day h]; exact fk.2.2 1 (nI j) 1 (by decide) rfl rfl
    obtain ⟨v, ev, hv, hw⟩ := pl j (by omega) c hc
    obtain ⟨g, g1, g2, w, ew, hgw⟩ := hw (by omega)
    clear hw
    have cont : ∀ (z c2 : Nat) (y3 : Int32), n * 20 ≤ z → c2 ≤ C + G → ok (RfallsOn_11 (RfallsOn_R z).1 (RfallsOn_R z).2 u (nI a) (nI c2) y3 (nI j + 1)) (fun _ => True) := by
      intro z c2 y3 hz2 hc2
      rw [← nI_succ]
      exact ih (j + 1) z c2 y3 (by omega) hz2 hc2
    have go : ∀ x, x = min (f j 1) c → ok (RfallsOn_40 (RfallsOn_R z).1 (RfallsOn_R z).2 u (nI a) (nI c) (nI x) (nI j)) (fun _ => True) := by
      intro x hx
      have e : x = g + (x - g) := by omega
      rw [e]
      exact fallsOn40 (R := n * 20) m h (by omega) hc pl cont ev (by omega) g1 g2 ew hgw (x - g) z (by omega) (by omega) (by omega)
    unfold RfallsOn_11
    rw [if_neg (by rw [Int32.not_lt]; exact nI_le2 (by omega) (by omega))]
    refine ok_be day1 ?_
    by_cases q : c ≤ f j 1
    · rw [if_pos (nI_le2 q (by omega))]
      exact go c (by omega)
    · rw [if_neg (nI_ge (by omega) (by omega))]
      exact ok_be day1 (go (f j 1) (by omega))
theorem fallsOn_ok {u : SG} {a : Nat} (m : MC t0 C G D f) (h : MH t0 u) (ha : a < D) (pl : ∀ k, k ≤ D → PL u (C + G) D f k) : ok (RfallsOn u (nI a)) (fun _ => True) := by
  have m' := m
  obtain ⟨eC, eG, hC, hG, hD, eD, ef⟩ := m'
  unfold RfallsOn
  exact ok_be (by rw [MH_Rof h]; exact eC) (fallsOn11 m h ha pl (a + 1) 0 xF C 0 (by omega) (by have := xF_ge; omega) (by omega))
end MENDS
theorem nature_ok {s : SG} {x y z : Int32} (r : RI s) : ok (Rnature s x y z) (fun p => QI s p.2) := by
  unfold Rnature
  refine ok_b (isRepublic_ok r) (fun p hp => ok_i (fun _ => ok_s hp.1) (fun c => ?_))
  have q : QS p.2 := (hp.2.resolve_left c).1
  have r2 := QI_RI hp.1 r
  refine ok_b (isSummer_ok r2) (fun w hw => ok_i (fun _ => ok_s (QI_tr hp.1 hw.1)) (fun c2 => ?_))
  obtain ⟨k, hk, e⟩ := hw.2.2.resolve_left c2
  have q1 := QI_tr hp.1 hw.1
  have r3 := QI_RI q1 r
  have q3 : QS w.2 := by
    unfold QS at *
    rw [hw.2.1 11 (by omega), hw.2.1 16 (by omega), hw.2.1 18 (by omega)]; exact q
  obtain ⟨D, f, hD, eD, ef⟩ := summer_n r3 hk e
  refine ok_i (fun _ => ?_) (fun _ => ?_)
  · unfold RwrongDay
    exact ok_b (wrongDay_l hk 8 0 xF w.2 r3 e rfl (by have := xF_ge; omega)) (fun v hv => ok_s (QI_tr q1 hv))
  · obtain ⟨i, hi, ei⟩ := QS_rh q3
    have rr := (r3.1.2.2 i hi).1
    obtain ⟨C, eC, hC⟩ := rr.2.1
    obtain ⟨G, eG, hG⟩ := rr.2.2.1
    have m : MC w.2 C G D f := by
      refine ⟨?_, ?_, hC, hG, hD, eD, ef⟩
      · rw [q_of (x := 3) (a := 3) (QS_RH q3) rfl (by decide)]; unfold ofN; rw [ei, eC]
      · rw [q_of (x := 4) (a := 4) (QS_RH q3) rfl (by decide)]; unfold ofN; rw [ei, eG]
    have e75 : ∀ v : Int32, (z = 1 ∨ ∃ a, z = nI (10 + a) ∧ a < D) → ok (Rnature_75 w.2 x y z v) (fun p => QI s p.2) := by
      intro v hz
      unfold Rnature_75
      refine ok_b (mends_ok m) (fun u hu => ok_i (fun _ => ?_) (fun c5 => ?_))
      · refine ok_be (by rw [MH_Rof hu.1]; exact m.1) (ok_be (rd_nI (e := C) rfl (by omega) (by decide)) (ok_s (QI_tr q1 hu.1.1)))
      · obtain ⟨a, ea, ha⟩ := hz.resolve_left c5
        have ez : z - 10 = nI a := by rw [ea]; exact nI_subl (a := 10)
        rw [ez]
        exact ok_b (fallsOn_ok m hu.1 ha hu.2) (fun _ _ => ok_s (QI_tr q1 hu.1.1))
    have e46 : ∀ v : Int32, ok (Rnature_46 w.2 x y z v) (fun p => QI s p.2) := by
      intro v
      unfold Rnature_46
      refine ok_i (fun c6 => e75 v (Or.inl c6)) (fun _ => ok_i (fun _ => ok_s q1) (fun _ => ok_be eD (ok_i (fun _ => ok_s q1) (fun c7 => e75 v (Or.inr ?_)))))
      have c8 : ¬ inI z (nI 10) (nI (9 + D)) = 0 := by
        rw [← nI_add]; exact c7
      by_cases d0 : D = 0
      · exfalso
        apply c8
        unfold inI
        subst d0
        by_cases d1 : z < nI 10
        · rw [if_pos d1]
        · rw [if_neg d1, if_pos]
          rw [Int32.lt_iff_toInt_lt, nI_toInt (by decide)]
          have := Int32.le_iff_toInt_le.mp (Int32.not_lt.mp d1)
          rw [nI_toInt (by decide)] at this
          omega
      · obtain ⟨a, ea, ha⟩ := inI_lo (a := 10) (b := 9 + D) (by omega) (by omega) c8
        exact ⟨a, ea, by omega⟩
    unfold RisHeatRight
    have eh := isHeatRight_l (f := f) hk hD eD ef D 0 xF (w.2 65 (rh w.2 + 5)) 1 (Or.inr rfl) (by omega) (by have := xF_ge; omega)
    refine ok_b (ok_be (q_of (a := 5) (QS_RH q3) rfl (by decide)) eh) (fun v _ => ?_)
    exact ok_i (fun _ => ok_i (fun _ => ok_s q1) (fun _ => e46 v)) (fun _ => e46 v)
end XRH
end
section
section XRI
variable {sc : Nat × (Nat → Int32)} {d : Nat} {K : List KD} {r q t a B m : Nat} {w : EW}
/-! the reference: seats, leaks -/
def MH2 (t u : SG) : Prop := QI t u ∧ u 64 = t 64
theorem MH2_rfl {t : SG} : MH2 t t := ⟨QI_rfl, rfl⟩
theorem MH2_tr {s t u : SG} (h : MH2 s t) (g : MH2 t u) : MH2 s u := ⟨QI_tr h.1 g.1, g.2.trans h.2⟩
theorem MH2_QS {t u : SG} (h : MH2 t u) (q : QS t) : QS u := by
  unfold QS at *
  rw [h.2]; exact q
theorem MH2_OKs {t u : SG} {k : Nat} (h : MH2 t u) (e : OKs t k) : OKs u k := by
  unfold OKs at *
  rw [h.2]; exact e
theorem MH2_msz {t u : SG} (h : MH2 t u) : msz u = msz t := by
  unfold msz ofN rh
  rw [h.1.1, h.2]
/-- a republic is looked at, whatever the season -/
def QR (t : SG) : Prop := ∃ k, k < 2 ∧ t 64 11 = nI (610 + 118 * k)
theorem QR_rh {t : SG} (h : QR t) : ∃ k, k < 2 ∧ rh t = 610 + 118 * k := by
  obtain ⟨k, hk, e⟩ := h
  exact ⟨k, hk, by unfold rh; rw [e, nI_clamp (by omega)]⟩
theorem QR_RH {t : SG} (h : QR t) : RH t := by
  obtain ⟨k, hk, e⟩ := h
  have : rh t = 610 + 118 * k := by unfold rh; rw [e, nI_clamp (by omega)]
  exact ⟨by rw [this]; exact e, by omega⟩
theorem QR_MZ {t : SG} (r : RI t) (h : QR t) : MZ t := by
  obtain ⟨k, hk, e⟩ := QR_rh h
  obtain ⟨a, ea, ha⟩ := (r.1.2.2 k hk).1.1
  have e1 : ofN t 0 = nI a := by unfold ofN; rw [e]; exact ea
  have e2 : msz t = a := by unfold msz; rw [e1, nI_clamp (by omega)]
  exact ⟨by rw [e2]; exact e1, by omega⟩
theorem mn_r {t : SG} {m : Int32} (r : RI t) (q : QR t) (h : ¬ mnN t m = 0) : ∃ j, m = nI j ∧ j < 6 := by
  obtain ⟨e, h6⟩ := QR_MZ r q
  unfold mnN at h
  rw [e] at h
  obtain ⟨j, ej, hj⟩ := inI_sub (by omega) h
  exact ⟨j, ej, by omega⟩
/-- who sits where, by a code -/
theorem code_n {c : Nat} (hc : c < 216) : (nI c / 36 = nI (c / 36)) ∧ (nI c / 6 - nI c / 6 / 6 * 6 = nI (c / 6 % 6)) ∧ (nI c - nI c / 6 * 6 = nI (c % 6)) := by
  refine ⟨nI_div (b := 36) (by omega) (by decide) (by decide), ?_, nI_mod (b := 6) (by omega) (by decide) (by decide)⟩
  have e : nI c / 6 = nI (c / 6) := nI_div (b := 6) (by omega) (by decide) (by decide)
  rw [e]
  exact nI_mod (b := 6) (by omega) (by decide) (by decide)
def ST (c : Nat) : Prop := c / 36 < 6 ∧ c / 6 % 6 < 6 ∧ c % 6 < 6
theorem ST_ok {c : Nat} (h : c < 216) : ST c := ⟨by omega, by omega, by omega⟩
theorem areSeats_ok {t : SG} {x : Int32} (q : QR t) : ok (RareSeats t x) (fun v => v = 0 ∨ v = 1) := by
  unfold RareSeats
  refine ok_be (q_isMinister (QR_RH q)) (ok_i (fun _ => ok_s (Or.inl rfl)) (fun _ => ok_be (q_isMinister (QR_RH q)) (ok_i (fun _ => ok_s (Or.inl rfl)) (fun _ => ok_be (q_isMinister (QR_RH q)) (ok_i (fun _ => ok_s (Or.inl rfl)) (fun _ => ?_))))))
  exact ok_i (fun _ => ok_s (Or.inl rfl)) (fun _ => ok_i (fun _ => ok_s (Or.inl rfl)) (fun _ => ok_i (fun _ => ok_s (Or.inl rfl)) (fun _ => ok_s (Or.inr rfl))))
theorem want_n {t : SG} {m a b : Nat} (r : RI t) (q : QR t) (hm : m < 6) (ha : a < 4) (hb : b < 3) : NB (ofN t (16 + 18 * m + 3 * a + b)) 9 := by
  obtain ⟨k, hk, e⟩ := QR_rh q
  have h := (r.1.2.2 k hk).1.2.2.2 m (3 * a + b) hm (by omega)
  unfold ofN
  rw [e, show 610 + 118 * k + (16 + 18 * m + 3 * a + b) = 610 + 118 * k + 16 + 18 * m + (3 * a + b) by omega]
  exact h
theorem proposal_ok {t : SG} {x y : Int32} {c a : Nat} (r : RI t) (q : QR t) (ex : x = nI c) (hc : c < 216) (ey : y = nI a) (ha : a < 4) : ok (Rproposal t x y) (fun v => ∃ p, v = nI p ∧ p < 1000) := by
  obtain ⟨e1, e2, e3⟩ := code_n hc
  subst ex
  have s := ST_ok hc
  obtain ⟨a1, w1, h1⟩ := want_n r q s.1 ha (by decide : 0 < 3)
  obtain ⟨a2, w2, h2⟩ := want_n r q s.2.1 ha (by decide : 1 < 3)
  obtain ⟨a3, w3, h3⟩ := want_n r q s.2.2 ha (by decide : 2 < 3)
  unfold Rproposal
  refine ok_be (q_wants (z := 0) (b := 0) (QR_RH q) e1 ey rfl s.1 ha (by decide)) (ok_be (q_wants (z := 1) (b := 1) (QR_RH q) e2 ey rfl s.2.1 ha (by decide)) (ok_be (q_wants (z := 2) (b := 2) (QR_RH q) e3 ey rfl s.2.2 ha (by decide)) (ok_s ?_)))
  rw [w1, w2, w3]
  refine ⟨100 * a1 + 10 * a2 + a3, ?_, by omega⟩
  show nI 100 * nI a1 + nI 10 * nI a2 + nI a3 = _
  rw [nI_mulx, nI_mulx, nI_add, nI_add]
theorem isSat_l {t : SG} {k c D : Nat} {f : Nat → Nat → Nat} (r : RI t) (q : QR t) (hk : k < 2) (e : OKs t k) (hc : c < 216) (hD : D ≤ 8) (eD : RsummerDays t = some (nI D)) (ef : ∀ j, j < 8 → f j 0 ≤ 3 ∧ (∀ a, a < 4 → f j a ≤ 9) ∧ ∀ (a : Nat) (x y : Int32), a < 4 → x = nI j → y = nI a → RdayOf t x y = some (nI (f j a))) : ∀ (n j z : Nat) (y : Int32), (y = 0 ∨ y = 1) → j + n = D → n ≤ z → ok (RisSat_8 (RisSat_R z) t (nI c) y (nI j)) (fun _ => True) := by
  intro n
  induction n with
  | zero =>
    intro j z y hy hj hz
    have e4 : xrt 4 y = true := by rcases hy with g | g <;> rw [g] <;> rfl
    unfold RisSat_8
    refine ok_be eD ?_
    rw [if_pos (nI_le2 (by omega) (by omega)), e4]
    exact ok_s trivial
  | succ n ih =>
    intro j z y hy hj hz
    obtain ⟨z, rfl⟩ : ∃ z', z = z' + 1 := ⟨z - 1, by omega⟩
    have e4 : xrt 4 y = true := by rcases hy with g | g <;> rw [g] <;> rfl
    have next : ∀ a : Int32, (a = 0 ∨ a = 1) → ok (RisSat_R (z + 1) t (nI c) a (nI j + 1)) (fun _ => True) := by
      intro a ha
      show ok (RisSat_8 (RisSat_R z) t (nI c) a (nI j + 1)) _
      rw [← nI_succ]
      exact ih (j + 1) z a ha (by omega) (by omega)
    have fj := ef j (by omega)
    unfold RisSat_8
    refine ok_be eD ?_
    rw [if_neg (nI_ge (a := j) (b := D) (by omega) (by omega))]
    refine ok_i (fun _ => ?_) (fun _ => ?_)
    · rw [e4]; exact ok_s trivial
    · refine ok_be (fj.2.2 0 (nI j) 0 (by decide) rfl rfl) (ok_b (proposal_ok r q rfl hc rfl (by have := fj.1; omega)) (fun v _ => ok_b (numberOf_ok e hk rfl (by omega)) (fun w _ => ok_i (fun _ => next _ (Or.inr rfl)) (fun _ => next _ (Or.inl rfl)))))
theorem isSat_ok {t : SG} {k c : Nat} (r : RI t) (q : QR t) (hk : k < 2) (e : OKs t k) (hc : c < 216) : ok (RisSat t (nI c)) (fun _ => True) := by
  obtain ⟨D, f, hD, eD, ef⟩ := summer_n r hk e
  unfold RisSat
  exact ok_b (areSeats_ok q) (fun v hv => isSat_l r q hk e hc hD eD ef D 0 xF v hv (by omega) (by have := xF_ge; omega))
theorem wrB_nI {s : SG} {k n e : Nat} {x v : Int32} (hx : x = nI e) (he : e < n) (hn : n < 2 ^ 31) : ∃ u, wrB s k n x v = some (up s k e u) := by
  refine ⟨vp_nar .boolean v, ?_⟩
  unfold wrB
  rw [hx, xvb_nI he hn, nI_clamp (by omega)]; rfl
theorem MH2_71 {t : SG} {j : Nat} {x : Int32} : MH2 t (up t 71 j x) := ⟨QI_up QI_rfl (by omega) (by omega), up_n (by omega)⟩
theorem unlike26 {a k : Nat} (ha : a < 4) (hk : k < 2) : ∀ (n j z : Nat) (t : SG) (y : Int32), RI t → QR t → OKs t k → j + n = 216 → n ≤ z → ok (Runlike_26 (Runlike_R z).1 (Runlike_R z).2 t (nI a) y (nI j)) (fun p => MH2 t p.2) := by
  intro n
  induction n with
  | zero =>
    intro j z t y r q e hj hz
    unfold Runlike_26
    rw [if_pos (show (216 : Int32) ≤ nI j from k_ge (m := 216) hj)]
    exact ok_s MH2_rfl
  | succ n ih =>
    intro j z t y r q e hj hz
    obtain ⟨z, rfl⟩ : ∃ z', z = z' + 1 := ⟨z - 1, by omega⟩
    have next : ∀ (u : SG) (b : Int32), MH2 t u → ok ((Runlike_R (z + 1)).2 u (nI a) b (nI j + 1)) (fun p => MH2 t p.2) := by
      intro u b hu
      show ok (Runlike_26 (Runlike_R z).1 (Runlike_R z).2 u (nI a) b (nI j + 1)) _
      rw [← nI_succ]
      have qu : QR u := by unfold QR at *; rw [hu.2]; exact q
      exact ok_w (ih (j + 1) z u b (QI_RI hu.1 r) qu (MH2_OKs hu e) (by omega) (by omega)) (fun p hp => MH2_tr hu hp)
    have e68 : ∀ (p : Nat) (v0 v1 : Int32), p < 1000 → ok (Runlike_68 (Runlike_R (z + 1)).1 (Runlike_R (z + 1)).2 t (nI a) y (nI j) (nI p) v0 v1) (fun p => MH2 t p.2) := by
      intro p v0 v1 hp
      unfold Runlike_68
      obtain ⟨u, eu⟩ := wrB_nI (s := t) (k := 71) (v := 1) (rfl : nI p = nI p) hp (by decide)
      exact ok_be eu (next _ _ MH2_71)
    unfold Runlike_26
    rw [if_neg (show ¬ (216 : Int32) ≤ nI j from k_lt (m := 216) hj (by decide))]
    refine ok_b (isSat_ok r q hk e (by omega)) (fun _ _ => ok_i (fun _ => next t _ MH2_rfl) (fun _ => ?_))
    refine ok_b (proposal_ok r q rfl (by omega) rfl ha) (fun v hv => ?_)
    obtain ⟨p, ep, hp⟩ := hv
    rw [ep]
    exact ok_be (rd_nI rfl hp (by decide)) (ok_i (fun _ => e68 p _ _ hp) (fun _ => e68 p _ _ hp))
theorem unlike2 {a k : Nat} (ha : a < 4) (hk : k < 2) : ∀ (n j z : Nat) (t : SG), RI t → QR t → OKs t k → j + n = 1000 → n + 216 ≤ z → ok (Runlike_2 (Runlike_R z).1 (Runlike_R z).2 t (nI a) (nI j)) (fun p => MH2 t p.2) := by
  intro n
  induction n with
  | zero =>
    intro j z t r q e hj hz
    unfold Runlike_2
    rw [if_pos (show (1000 : Int32) ≤ nI j from k_ge (m := 1000) hj)]
    exact unlike26 ha hk 216 0 z t 0 r q e rfl (by omega)
  | succ n ih =>
    intro j z t r q e hj hz
    obtain ⟨z, rfl⟩ : ∃ z', z = z' + 1 := ⟨z - 1, by omega⟩
    unfold Runlike_2
    rw [if_neg (show ¬ (1000 : Int32) ≤ nI j from k_lt (m := 1000) hj (by decide))]
    obtain ⟨u, eu⟩ := wrB_nI (s := t) (k := 71) (v := 0) (rfl : nI j = nI j) (by omega : j < 1000) (by decide)
    refine ok_be eu ?_
    show ok (Runlike_2 (Runlike_R z).1 (Runlike_R z).2 (up t 71 j u) (nI a) (nI j + 1)) _
    rw [← nI_succ]
    have m1 : MH2 t (up t 71 j u) := MH2_71
    have qu : QR (up t 71 j u) := by unfold QR at *; rw [m1.2]; exact q
    exact ok_w (ih (j + 1) z _ (QI_RI m1.1 r) qu (MH2_OKs m1 e) (by omega) (by omega)) (fun p hp => MH2_tr m1 hp)
theorem unlike_ok {t : SG} {a k : Nat} {x : Int32} (r : RI t) (q : QR t) (hk : k < 2) (e : OKs t k) (ex : x = nI a) (ha : a < 4) : ok (Runlike t x) (fun p => MH2 t p.2) := by
  subst ex
  unfold Runlike
  exact unlike2 ha hk 1000 0 xF t r q e rfl (by have := xF_ge; omega)
theorem seats109 {t : SG} {k : Nat} {y1 y2 y3 : Int32} (r : RI t) (q : QR t) (hk : k < 2) (e : OKs t k) : ∀ (n j z : Nat) (y : Int32), j + n = 216 → n ≤ z → ok (Rseats_109 (Rseats_R z).1 (Rseats_R z).2 t y1 y2 y3 y (nI j)) (fun p => QI t p.2) := by
  intro n
  induction n with
  | zero =>
    intro j z y hj hz
    unfold Rseats_109
    rw [if_pos (show (216 : Int32) ≤ nI j from k_ge (m := 216) hj)]
    exact ok_i (fun _ => ok_s QI_rfl) (fun _ => ok_s QI_rfl)
  | succ n ih =>
    intro j z y hj hz
    obtain ⟨z, rfl⟩ : ∃ z', z = z' + 1 := ⟨z - 1, by omega⟩
    have next : ∀ (b : Int32), ok ((Rseats_R (z + 1)).2 t y1 y2 y3 b (nI j + 1)) (fun p => QI t p.2) := by
      intro b
      show ok (Rseats_109 (Rseats_R z).1 (Rseats_R z).2 t y1 y2 y3 b (nI j + 1)) _
      rw [← nI_succ]
      exact ih (j + 1) z b (by omega) (by omega)
    unfold Rseats_109
    rw [if_neg (show ¬ (216 : Int32) ≤ nI j from k_lt (m := 216) hj (by decide))]
    exact ok_b (isSat_ok r q hk e (by omega)) (fun _ _ => ok_i (fun _ => next _) (fun _ => ok_i (fun _ => ok_s QI_rfl) (fun _ => next _)))
theorem seats36 {k : Nat} {y1 y2 y3 : Int32} (hk : k < 2) : ∀ (n j z b : Nat) (t : SG), RI t → QR t → OKs t k → b < 4 → j + n = 4 → n ≤ z → ok (Rseats_36 (Rseats_R z).1 (Rseats_R z).2 t y1 y2 y3 (nI b) (nI j)) (fun p => QI t p.2) := by
  intro n
  induction n with
  | zero =>
    intro j z b t r q e hb hj hz
    unfold Rseats_36
    rw [if_pos (show (4 : Int32) ≤ nI j from k_ge (m := 4) hj)]
    refine ok_b (unlike_ok r q hk e rfl hb) (fun p hp => ok_i (fun _ => ok_s hp.1) (fun _ => ok_i (fun _ => ok_s hp.1) (fun _ => ?_)))
    have qu : QR p.2 := by unfold QR at *; rw [hp.2]; exact q
    exact ok_b (unlike_ok (QI_RI hp.1 r) qu hk (MH2_OKs hp e) rfl hb) (fun w hw => ok_s (QI_tr hp.1 hw.1))
  | succ n ih =>
    intro j z b t r q e hb hj hz
    obtain ⟨z, rfl⟩ : ∃ z', z = z' + 1 := ⟨z - 1, by omega⟩
    unfold Rseats_36
    rw [if_neg (show ¬ (4 : Int32) ≤ nI j from k_lt (m := 4) hj (by decide))]
    refine ok_b (unlike_ok r q hk e rfl (by omega : j < 4)) (fun p hp => ?_)
    have qp : QR p.2 := by unfold QR at *; rw [hp.2]; exact q
    have rp := QI_RI hp.1 r
    have ep := MH2_OKs hp e
    refine ok_b (unlike_ok rp qp hk ep rfl hb) (fun w hw => ?_)
    have qw : QR w.2 := by unfold QR at *; rw [hw.2]; exact qp
    have next : ∀ b2, b2 < 4 → ok ((Rseats_R (z + 1)).1 w.2 y1 y2 y3 (nI b2) (nI j + 1)) (fun p => QI t p.2) := by
      intro b2 h2
      show ok (Rseats_36 (Rseats_R z).1 (Rseats_R z).2 w.2 y1 y2 y3 (nI b2) (nI j + 1)) _
      rw [← nI_succ]
      exact ok_w (ih (j + 1) z b2 w.2 (QI_RI hw.1 rp) qw (MH2_OKs hw ep) h2 (by omega) (by omega)) (fun v hv => QI_tr hp.1 (QI_tr hw.1 hv))
    exact ok_i (fun _ => next b hb) (fun _ => next j (by omega))
theorem seats_ok {s : SG} {x y z : Int32} (r : RI s) : ok (Rseats s x y z) (fun p => QI s p.2) := by
  have hF := xF_ge
  unfold Rseats
  refine ok_b (isRepublic_ok r) (fun p hp => ok_i (fun _ => ok_s hp.1) (fun c => ?_))
  have q : QS p.2 := (hp.2.resolve_left c).1
  have r2 := QI_RI hp.1 r
  refine ok_b (isSummer_ok r2) (fun w hw => ok_i (fun _ => ok_s (QI_tr hp.1 hw.1)) (fun c2 => ?_))
  obtain ⟨k, hk, e⟩ := hw.2.2.resolve_left c2
  have q1 := QI_tr hp.1 hw.1
  have r3 := QI_RI q1 r
  have q3 : QR w.2 := by
    unfold QR
    rw [hw.2.1 11 (by omega)]; exact q.1
  refine ok_i (fun _ => ok_i (fun _ => ?_) (fun _ => ?_)) (fun _ => ok_s q1)
  · exact ok_w (seats109 r3 q3 hk e 216 0 xF 0 rfl (by omega)) (fun v hv => QI_tr q1 hv)
  · exact ok_w (seats36 hk 3 1 xF 0 w.2 r3 q3 e (by decide) rfl (by omega)) (fun v hv => QI_tr q1 hv)
/-- what rainy leaves: all but the talk, the mover and the season -/
def RYq (t u : SG) : Prop := QI t u ∧ u 64 11 = t 64 11
theorem rainy_l {c : Nat} (hc : c < 216) : ∀ (n a z : Nat) (t : SG) (y : Int32), RI t → QR t → NB (t 64 18) 63 → t 64 16 = nI a → a + n = 4 → n ≤ z → ok (Rrainy_15 (Rrainy_R z) t (nI c) y) (fun p => RYq t p.2 ∧ p.2 64 18 = t 64 18) := by
  intro n
  induction n with
  | zero =>
    intro a z t y r q b e ha hz
    unfold Rrainy_15
    rw [e, if_pos (show (4 : Int32) ≤ nI a from k_ge (m := 4) ha)]
    exact ok_s ⟨⟨QI_rfl, rfl⟩, rfl⟩
  | succ n ih =>
    intro a z t y r q b e ha hz
    obtain ⟨z, rfl⟩ : ∃ z', z = z' + 1 := ⟨z - 1, by omega⟩
    unfold Rrainy_15
    rw [e, if_neg (show ¬ (4 : Int32) ≤ nI a from k_lt (m := 4) ha (by decide))]
    refine ok_b (proposal_ok r q rfl hc rfl (by omega)) (fun v _ => ?_)
    have kq : KQ t (RtalksOf t v) := talks_KQ
    have r2 := QI_RI kq.1 r
    have q2 : QS (RtalksOf t v) := by
      refine ⟨?_, ?_, ?_⟩
      · rw [kq.2 11 (by unfold KJ; omega)]; exact q
      · rw [kq.2 16 (by unfold KJ; omega), e]; exact ⟨a, rfl, by omega⟩
      · rw [kq.2 18 (by unfold KJ; omega)]; exact b
    have next : ∀ v0 v1 : Int32, ok (Rrainy_60 (Rrainy_R (z + 1)) (RtalksOf t v) (nI c) y v0 v1) (fun p => RYq t p.2 ∧ p.2 64 18 = t 64 18) := by
      intro v0 v1
      unfold Rrainy_60
      have qi : QI (RtalksOf t v) (up (RtalksOf t v) 64 16 (RtalksOf t v 64 16 + 1)) := QI_up QI_rfl (by omega) (by omega)
      show ok (Rrainy_15 (Rrainy_R z) (up (RtalksOf t v) 64 16 (RtalksOf t v 64 16 + 1)) (nI c) _) _
      refine ok_w (ih (a + 1) z _ _ (QI_RI qi r2) ?_ ?_ ?_ (by omega) (by omega)) (fun p hp => ⟨⟨QI_tr kq.1 (QI_tr qi hp.1.1), ?_⟩, ?_⟩)
      · unfold QR
        rw [up_b (by decide)]; exact q2.1
      · rw [up_b (by decide)]; exact q2.2.2
      · rw [up_a, kq.2 16 (by unfold KJ; omega), e, nI_succ]
      · rw [hp.1.2, up_b (by decide), kq.2 11 (by unfold KJ; omega)]
      · rw [hp.2, up_b (by decide), kq.2 18 (by unfold KJ; omega)]
    refine ok_i (fun _ => next _ _) (fun _ => ok_be (q_agreeing (QS_RH q2) (QS_SE q2) (QS_MZ r2 q2)) (ok_be (q_isPassed (QS_RH q2) (QS_MZ r2 q2)) (ok_i (fun _ => next _ _) (fun _ => next _ _))))
theorem reshuffle_l {y1 y2 : Int32} : ∀ (n j z : Nat) (t : SG) (a b : Int32), RI t → QR t → NB (t 64 18) 63 → j + n = 216 → n ≤ z → ok (Rreshuffle_18 (Rreshuffle_R z) t y1 y2 a b (nI j)) (fun p => QI t p.2) := by
  intro n
  induction n with
  | zero =>
    intro j z t a b r q e hj hz
    unfold Rreshuffle_18
    rw [if_pos (show (216 : Int32) ≤ nI j from k_ge (m := 216) hj)]
    exact ok_i (fun _ => ok_s QI_rfl) (fun _ => ok_s QI_rfl)
  | succ n ih =>
    intro j z t a b r q e hj hz
    obtain ⟨z, rfl⟩ : ∃ z', z = z' + 1 := ⟨z - 1, by omega⟩
    have next : ∀ (u : SG) (a b : Int32), RYq t u → u 64 18 = t 64 18 → ok (Rreshuffle_R (z + 1) u y1 y2 a b (nI j + 1)) (fun p => QI t p.2) := by
      intro u a b hu h18
      show ok (Rreshuffle_18 (Rreshuffle_R z) u y1 y2 a b (nI j + 1)) _
      rw [← nI_succ]
      have qu : QR u := by unfold QR at *; rw [hu.2]; exact q
      exact ok_w (ih (j + 1) z u a b (QI_RI hu.1 r) qu (by rw [h18]; exact e) (by omega) (by omega)) (fun p hp => QI_tr hu.1 hp)
    unfold Rreshuffle_18
    rw [if_neg (show ¬ (216 : Int32) ≤ nI j from k_lt (m := 216) hj (by decide))]
    refine ok_b (areSeats_ok q) (fun _ _ => ok_i (fun _ => next t _ _ ⟨QI_rfl, rfl⟩ rfl) (fun _ => ?_))
    have qi : QI t (up (up t 64 15 (nI j / 36)) 64 16 0) := QI_up (QI_up QI_rfl (by omega) (by omega)) (by omega) (by omega)
    have q2 : QR (up (up t 64 15 (nI j / 36)) 64 16 0) := by
      unfold QR
      rw [up_b (by decide), up_b (by decide)]; exact q
    unfold Rrainy
    refine ok_b (rainy_l (c := j) (by omega) 4 0 xF _ 0 (QI_RI qi r) q2 (by rw [up_b (by decide), up_b (by decide)]; exact e) (by rw [up_a]; rfl) rfl (by have := xF_ge; omega)) (fun p hp => ?_)
    have hu : RYq t p.2 := ⟨QI_tr qi hp.1.1, by rw [hp.1.2, up_b (by decide), up_b (by decide)]⟩
    have h18 : p.2 64 18 = t 64 18 := by rw [hp.2, up_b (by decide), up_b (by decide)]
    unfold Rreshuffle_59
    exact ok_i (fun _ => ok_i (fun _ => next _ _ _ hu h18) (fun _ => next _ _ _ hu h18)) (fun _ => ok_i (fun _ => next _ _ _ hu h18) (fun _ => next _ _ _ hu h18))
theorem reshuffle_ok {s : SG} {x y : Int32} (r : RI s) : ok (Rreshuffle s x y) (fun p => QI s p.2) := by
  unfold Rreshuffle
  refine ok_b (isRepublic_ok r) (fun p hp => ok_i (fun _ => ok_s hp.1) (fun c => ?_))
  have q : QS p.2 := (hp.2.resolve_left c).1
  exact ok_w (reshuffle_l 216 0 xF p.2 (-1) (-1) (QI_RI hp.1 r) q.1 q.2.2 rfl (by have := xF_ge; omega)) (fun v hv => QI_tr hp.1 hv)
/-! leaks -/
def OKl (t : SG) (k : Nat) : Prop := t 64 33 = nI (1330 + 17 * k)
theorem leakOf_eq {t : SG} {x y : Int32} {k j a : Nat} (e : OKl t k) (hk : k < 2) (ex : x = nI j) (ey : y = nI a) (hj : j < 8) (ha : a < 2) : RleakOf t x y = some (t 65 (1330 + 17 * k + 1 + 2 * j + a)) := by
  unfold RleakOf
  unfold OKl at e
  have e2 : t 64 33 + 1 + 2 * x + y = nI (1330 + 17 * k + 1 + 2 * j + a) := by
    rw [e, ex, ey]
    show nI _ + nI 1 + nI 2 * nI j + nI a = _
    rw [nI_mulx, nI_add, nI_add, nI_add]
  rw [rd_nI e2 (by omega) (by decide)]; rfl
theorem leak_ok {s : SG} {x y z : Int32} (r : RI s) : ok (Rleak s x y z) (fun p => QI s p.2) := by
  unfold Rleak
  refine ok_be (q_isOf rfl (by decide)) (ok_i (fun _ => ok_s QI_rfl) (fun c => ?_))
  obtain ⟨k, ek, hk⟩ := isOf_k r (by decide) c
  have q1 : QI s (up s 64 33 (RplaceOf 3 x)) := QI_up QI_rfl (by omega) (by omega)
  have r2 := QI_RI q1 r
  have e : OKl (up s 64 33 (RplaceOf 3 x)) k := by unfold OKl; rw [up_a, ek, place3]
  obtain ⟨n, en, hn⟩ := (r2.1.2.2 k hk).2.2.2.1
  have rd : rdI (up s 64 33 (RplaceOf 3 x)) 65 5768 (RplaceOf 3 x) = some (nI n) := by rw [rd_nI (e := 1330 + 17 * k) (by rw [ek, place3]) (by omega) (by decide), en]
  refine ok_i (fun _ => ok_i (fun _ => ok_be rd (ok_s q1)) (fun _ => ok_s q1)) (fun _ => ok_be rd (ok_i (fun _ => ok_s q1) (fun c2 => ?_)))
  obtain ⟨j, ej, hj⟩ := inI_sub (by omega) c2
  refine ok_i (fun _ => ok_s q1) (fun c3 => ?_)
  obtain ⟨a, ea, ha⟩ := inI_nI (b := 1) (by decide) c3
  exact ok_be (leakOf_eq e hk ej ea (by omega) (by omega)) (ok_s q1)
/-- all leaks tell of ministers that there are -/
def LK (t : SG) (k n : Nat) : Prop := ∀ j, j < n → ∃ m, m < 6 ∧ t 65 (1330 + 17 * k + 1 + 2 * j) = nI m
theorem isFit_l {t : SG} {k n0 : Nat} {y1 y2 : Int32} (r : RI t) (q : QS t) (hk : k < 2) (e : OKl t k) (en : t 65 (1330 + 17 * k) = nI n0) (hn : n0 ≤ 8) (lk : LK t k n0) : ∀ (n j z : Nat) (y : Int32), (y = 0 ∨ y = 1) → j + n = n0 → n ≤ z → ok (RisFit_10 (RisFit_R z) t y1 y2 y (nI j)) (fun p => p.2 = t) := by
  have rd : rdI t 65 5768 (t 64 33) = some (nI n0) := by unfold OKl at e; rw [rd_nI e (by omega) (by decide), en]
  intro n
  induction n with
  | zero =>
    intro j z y hy hj hz
    have e4 : xrt 4 y = true := by rcases hy with g | g <;> rw [g] <;> rfl
    unfold RisFit_10
    refine ok_be rd ?_
    rw [if_pos (nI_le2 (by omega) (by omega)), e4]
    exact ok_s rfl
  | succ n ih =>
    intro j z y hy hj hz
    obtain ⟨z, rfl⟩ : ∃ z', z = z' + 1 := ⟨z - 1, by omega⟩
    have e4 : xrt 4 y = true := by rcases hy with g | g <;> rw [g] <;> rfl
    have next : ∀ a : Int32, (a = 0 ∨ a = 1) → ok (RisFit_R (z + 1) t y1 y2 a (nI j + 1)) (fun p => p.2 = t) := by
      intro a ha
      show ok (RisFit_10 (RisFit_R z) t y1 y2 a (nI j + 1)) _
      rw [← nI_succ]
      exact ih (j + 1) z a ha (by omega) (by omega)
    have e61 : ∀ v0 v1 : Int32, ok (RisFit_61 (RisFit_R (z + 1)) t y1 y2 y (nI j) v0 v1) (fun p => p.2 = t) := by
      intro v0 v1
      unfold RisFit_61
      exact ok_i (fun _ => next _ (Or.inr rfl)) (fun _ => next _ (Or.inl rfl))
    obtain ⟨m, hm, em⟩ := lk j (by omega)
    unfold RisFit_10
    refine ok_be rd ?_
    rw [if_neg (nI_ge (a := j) (b := n0) (by omega) (by omega))]
    refine ok_i (fun _ => ?_) (fun _ => ok_i (fun _ => next _ (Or.inr rfl)) (fun _ => ?_))
    · rw [e4]; exact ok_s rfl
    · refine ok_be (leakOf_eq (y := 0) (a := 0) e hk rfl rfl (by omega) (by decide)) ?_
      rw [Nat.add_zero, em]
      exact ok_be (q_agrees (QS_RH q) (QS_SE q) rfl hm) (ok_be (leakOf_eq (y := 1) (a := 1) e hk rfl rfl (by omega) (by decide)) (ok_i (fun _ => e61 _ _) (fun _ => e61 _ _)))
theorem isFit_ok {t : SG} {k n0 : Nat} {x y : Int32} (r : RI t) (q : QS t) (hk : k < 2) (e : OKl t k) (en : t 65 (1330 + 17 * k) = nI n0) (hn : n0 ≤ 8) (lk : LK t k n0) : ok (RisFit t x y) (fun p => KQ t p.2) := by
  have kq : KQ t (RtalksOf t x) := talks_KQ
  unfold RisFit
  refine ok_w (isFit_l (n0 := n0) (QI_RI kq.1 r) (KQ_QS kq q) hk (by unfold OKl at *; rw [kq.2 33 (by unfold KJ; omega)]; exact e) (by rw [kq.1.1]; exact en) hn (by unfold LK at *; rw [kq.1.1]; exact lk) n0 0 xF 1 (Or.inr rfl) (by omega) (by have := xF_ge; omega)) (fun p hp => by rw [hp]; exact kq)
/-- a query of leaks goes on -/
def LQ (t : SG) (k n0 : Nat) : Prop := RI t ∧ QS t ∧ OKl t k ∧ t 65 (1330 + 17 * k) = nI n0 ∧ LK t k n0
theorem LQ_KQ {t u : SG} {k n0 : Nat} (h : KQ t u) (l : LQ t k n0) : LQ u k n0 := by
  obtain ⟨r, q, e, en, lk⟩ := l
  refine ⟨QI_RI h.1 r, KQ_QS h q, ?_, ?_, ?_⟩
  · unfold OKl at *; rw [h.2 33 (by unfold KJ; omega)]; exact e
  · rw [h.1.1]; exact en
  · unfold LK at *; rw [h.1.1]; exact lk
theorem fitting_l {k n0 : Nat} {y1 : Int32} (hk : k < 2) (hn : n0 ≤ 8) : ∀ (n j z c : Nat) (t : SG), LQ t k n0 → j + n = 1000 → n ≤ z → c ≤ j → ok (Rfitting_4 (Rfitting_R z) t y1 (nI c) (nI j)) (fun p => KQ t p.2 ∧ ∃ v, p.1 = nI v ∧ v ≤ 1000) := by
  intro n
  induction n with
  | zero =>
    intro j z c t l hj hz hc
    unfold Rfitting_4
    rw [if_pos (show (1000 : Int32) ≤ nI j from k_ge (m := 1000) hj)]
    exact ok_s ⟨KQ_rfl, c, rfl, by omega⟩
  | succ n ih =>
    intro j z c t l hj hz hc
    obtain ⟨z, rfl⟩ : ∃ z', z = z' + 1 := ⟨z - 1, by omega⟩
    have next : ∀ (u : SG) (c2 : Nat), KQ t u → c2 ≤ j + 1 → ok (Rfitting_R (z + 1) u y1 (nI c2) (nI j + 1)) (fun p => KQ t p.2 ∧ ∃ v, p.1 = nI v ∧ v ≤ 1000) := by
      intro u c2 hu h2
      show ok (Rfitting_4 (Rfitting_R z) u y1 (nI c2) (nI j + 1)) _
      rw [← nI_succ]
      exact ok_w (ih (j + 1) z c2 u (LQ_KQ hu l) (by omega) (by omega) h2) (fun p hp => ⟨KQ_tr hu hp.1, hp.2⟩)
    have l2 := l
    obtain ⟨r, q, e, en, lk⟩ := l2
    unfold Rfitting_4
    rw [if_neg (show ¬ (1000 : Int32) ≤ nI j from k_lt (m := 1000) hj (by decide))]
    refine ok_b (isFit_ok r q hk e en hn lk) (fun p hp => ok_i (fun _ => ?_) (fun _ => ?_))
    · have e0 : nI c + (0 : Int32) = nI c := by show nI c + nI 0 = _; rw [nI_add, Nat.add_zero]
      rw [e0]; exact next p.2 c hp (by omega)
    · have e1 : nI c + (1 : Int32) = nI (c + 1) := (nI_succ c).symm
      rw [e1]; exact next p.2 (c + 1) hp (by omega)
theorem rainyFit_l {k n0 : Nat} (hk : k < 2) (hn : n0 ≤ 8) : ∀ (n j z c : Nat) (t : SG), LQ t k n0 → j + n = 1000 → n ≤ z → c ≤ j → ok (RrainyFit_5 (RrainyFit_R z) t (nI c) (nI j)) (fun p => KQ t p.2 ∧ ∃ v, p.1 = nI v ∧ v ≤ 1000) := by
  intro n
  induction n with
  | zero =>
    intro j z c t l hj hz hc
    unfold RrainyFit_5
    rw [if_pos (show (1000 : Int32) ≤ nI j from k_ge (m := 1000) hj)]
    exact ok_s ⟨KQ_rfl, c, rfl, by omega⟩
  | succ n ih =>
    intro j z c t l hj hz hc
    obtain ⟨z, rfl⟩ : ∃ z', z = z' + 1 := ⟨z - 1, by omega⟩
    have next : ∀ (u : SG) (c2 : Nat), KQ t u → c2 ≤ j + 1 → ok (RrainyFit_R (z + 1) u (nI c2) (nI j + 1)) (fun p => KQ t p.2 ∧ ∃ v, p.1 = nI v ∧ v ≤ 1000) := by
      intro u c2 hu h2
      show ok (RrainyFit_5 (RrainyFit_R z) u (nI c2) (nI j + 1)) _
      rw [← nI_succ]
      exact ok_w (ih (j + 1) z c2 u (LQ_KQ hu l) (by omega) (by omega) h2) (fun p hp => ⟨KQ_tr hu hp.1, hp.2⟩)
    have l2 := l
    obtain ⟨r, q, e, en, lk⟩ := l2
    unfold RrainyFit_5
    rw [if_neg (show ¬ (1000 : Int32) ≤ nI j from k_lt (m := 1000) hj (by decide))]
    refine ok_b (isFit_ok r q hk e en hn lk) (fun p hp => ok_i (fun _ => ?_) (fun _ => ?_))
    · have e0 : nI c + (0 : Int32) = nI c := by show nI c + nI 0 = _; rw [nI_add, Nat.add_zero]
      rw [e0]; exact next p.2 c hp (by omega)
    · have e1 : nI c + (1 : Int32) = nI (c + 1) := (nI_succ c).symm
      rw [e1]; exact next p.2 (c + 1) hp (by omega)
theorem extreme_l {k n0 : Nat} {y1 y2 : Int32} (hk : k < 2) (hn : n0 ≤ 8) : ∀ (n j z : Nat) (t : SG) (y : Int32), LQ t k n0 → j + n = 1000 → n ≤ z → ok (Rextreme_5 (Rextreme_R z) t y1 y2 y (nI j)) (fun p => KQ t p.2) := by
  intro n
  induction n with
  | zero =>
    intro j z t y l hj hz
    unfold Rextreme_5
    rw [if_pos (show (1000 : Int32) ≤ nI j from k_ge (m := 1000) hj)]
    exact ok_s KQ_rfl
  | succ n ih =>
    intro j z t y l hj hz
    obtain ⟨z, rfl⟩ : ∃ z', z = z' + 1 := ⟨z - 1, by omega⟩
    have next : ∀ (u : SG) (b : Int32), KQ t u → ok (Rextreme_R (z + 1) u y1 y2 b (nI j + 1)) (fun p => KQ t p.2) := by
      intro u b hu
      show ok (Rextreme_5 (Rextreme_R z) u y1 y2 b (nI j + 1)) _
      rw [← nI_succ]
      exact ok_w (ih (j + 1) z u b (LQ_KQ hu l) (by omega) (by omega)) (fun p hp => KQ_tr hu hp)
    obtain ⟨r, q, e, en, lk⟩ := l
    unfold Rextreme_5
    rw [if_neg (show ¬ (1000 : Int32) ≤ nI j from k_lt (m := 1000) hj (by decide))]
    refine ok_b (isFit_ok r q hk e en hn lk) (fun p hp => ok_i (fun _ => next _ _ hp) (fun _ => ok_i (fun _ => next _ _ hp) (fun _ => ok_i (fun _ => ok_i (fun _ => next _ _ hp) (fun _ => next _ _ hp)) (fun _ => ok_i (fun _ => next _ _ hp) (fun _ => next _ _ hp)))))
theorem fits144 {k n0 : Nat} {y1 y2 y3 y4 y5 y6 : Int32} (hk : k < 2) (hn : n0 ≤ 8) : ∀ (n j z : Nat) (t : SG) (y : Int32), LQ t k n0 → j + n = n0 → n ≤ z → ok (Rfits_144 (Rfits_R z).1 (Rfits_R z).2 t y1 y2 y3 y4 y5 y6 y (nI j)) (fun p => QI t p.2) := by
  intro n
  induction n with
  | zero =>
    intro j z t y l hj hz
    obtain ⟨r, q, e, en, lk⟩ := l
    have rd : rdI t 65 5768 (t 64 33) = some (nI n0) := by unfold OKl at e; rw [rd_nI e (by omega) (by decide), en]
    unfold Rfits_144
    refine ok_be rd ?_
    rw [if_pos (nI_le2 (by omega) (by omega))]
    exact ok_s QI_rfl
  | succ n ih =>
    intro j z t y l hj hz
    obtain ⟨z, rfl⟩ : ∃ z', z = z' + 1 := ⟨z - 1, by omega⟩
    have l2 := l
    obtain ⟨r, q, e, en, lk⟩ := l2
    have rd : rdI t 65 5768 (t 64 33) = some (nI n0) := by unfold OKl at e; rw [rd_nI e (by omega) (by decide), en]
    unfold Rfits_144
    refine ok_be rd (ok_i (fun _ => ok_s QI_rfl) (fun _ => ok_i (fun _ => ?_) (fun _ => ok_s QI_rfl)))
    unfold Rfitting
    refine ok_b (fitting_l hk hn 1000 0 xF 0 t l rfl (by have := xF_ge; omega) (by omega)) (fun p hp => ?_)
    have next : ∀ (b : Int32), ok ((Rfits_R (z + 1)).2 p.2 y1 y2 y3 y4 y5 y6 b (nI j + 1)) (fun p => QI t p.2) := by
      intro b
      show ok (Rfits_144 (Rfits_R z).1 (Rfits_R z).2 p.2 y1 y2 y3 y4 y5 y6 b (nI j + 1)) _
      rw [← nI_succ]
      exact ok_w (ih (j + 1) z p.2 b (LQ_KQ hp.1 l) (by omega) (by omega)) (fun v hv => QI_tr hp.1.1 hv)
    exact ok_i (fun _ => next _) (fun _ => next _)
theorem fits38 {t : SG} {k n0 : Nat} {y1 y2 y3 y4 y5 : Int32} (r : RI t) (q : QS t) (hk : k < 2) (e : OKl t k) (en : t 65 (1330 + 17 * k) = nI n0) (hn : n0 ≤ 8) : ∀ (n j z : Nat), (∀ i, i < j → ∃ m, m < 6 ∧ t 65 (1330 + 17 * k + 1 + 2 * i) = nI m) → j + n = n0 → n + 8 ≤ z → ok (Rfits_38 (Rfits_R z).1 (Rfits_R z).2 t y1 y2 y3 y4 y5 (nI j)) (fun p => QI t p.2) := by
  have hF := xF_ge
  have rd : rdI t 65 5768 (t 64 33) = some (nI n0) := by unfold OKl at e; rw [rd_nI e (by omega) (by decide), en]
  intro n
  induction n with
  | zero =>
    intro j z lk hj hz
    have l : LQ t k n0 := ⟨r, q, e, en, fun i hi => lk i (by omega)⟩
    unfold Rfits_38
    refine ok_be rd ?_
    rw [if_pos (nI_le2 (by omega) (by omega))]
    unfold Rfitting
    refine ok_b (fitting_l hk hn 1000 0 xF 0 t l rfl (by omega) (by omega)) (fun p hp => ?_)
    obtain ⟨kq, v, ev, hv⟩ := hp
    have l2 := LQ_KQ kq l
    have e102 : ok (Rfits_102 (Rfits_R z).1 (Rfits_R z).2 p.2 y1 y2 y3 y4 y5 p.1) (fun p => QI t p.2) := by
      unfold Rfits_102
      refine ok_i (fun _ => ok_s kq.1) (fun c => ?_)
      unfold RrainyFit
      refine ok_b (rainyFit_l hk hn 900 100 xF 0 p.2 l2 rfl (by omega) (by omega)) (fun w hw => ?_)
      obtain ⟨kq2, b, eb, hb⟩ := hw
      have v0 : 0 < v := by
        rcases Nat.eq_zero_or_pos v with g | g
        · exfalso; apply c; rw [ev, g]; rfl
        · exact g
      have e128 : ∀ a : Int32, ok (Rfits_128 (Rfits_R z).1 (Rfits_R z).2 w.2 y1 y2 y3 y4 y5 p.1 a p.1 w.1) (fun p => QI t p.2) := by
        intro a
        unfold Rfits_128
        rw [ev, eb]
        exact ok_b (part_ok (by omega) v0 (by omega)) (fun _ _ => ok_s (QI_tr kq.1 kq2.1))
      exact ok_i (fun _ => e128 _) (fun _ => e128 _)
    refine ok_i (fun _ => ok_s kq.1) (fun _ => ok_i (fun _ => e102) (fun _ => ok_i (fun _ => e102) (fun _ => ok_i (fun _ => ?_) (fun _ => ok_i (fun _ => ok_i (fun _ => ok_s kq.1) (fun _ => ?_)) (fun _ => ?_)))))
    · exact ok_w (fits144 hk hn n0 0 z p.2 0 l2 (by omega) (by omega)) (fun v hv => QI_tr kq.1 hv)
    · unfold Rextreme
      exact ok_b (extreme_l hk hn 1000 0 xF p.2 (-1) l2 rfl (by omega)) (fun v hv => ok_s (QI_tr kq.1 hv.1))
    · unfold Rextreme
      exact ok_b (extreme_l hk hn 1000 0 xF p.2 (-1) l2 rfl (by omega)) (fun v hv => ok_s (QI_tr kq.1 hv.1))
  | succ n ih =>
    intro j z lk hj hz
    obtain ⟨z, rfl⟩ : ∃ z', z = z' + 1 := ⟨z - 1, by omega⟩
    unfold Rfits_38
    refine ok_be rd ?_
    rw [if_neg (nI_ge (a := j) (b := n0) (by omega) (by omega))]
    refine ok_be (leakOf_eq (y := 0) (a := 0) e hk rfl rfl (by omega) (by decide)) (ok_be (q_isMinister (QS_RH q)) (ok_i (fun _ => ok_s QI_rfl) (fun c => ?_)))
    obtain ⟨m, em, _, hm⟩ := mn_k r q c
    show ok (Rfits_38 (Rfits_R z).1 (Rfits_R z).2 t y1 y2 y3 y4 y5 (nI j + 1)) _
    rw [← nI_succ]
    refine ih (j + 1) z (fun i hi => ?_) (by omega) (by omega)
    by_cases ei : i = j
    · subst ei; exact ⟨m, hm, em⟩
    · exact lk i (by omega)
theorem fits_ok {s : SG} {x y z u v : Int32} (r : RI s) : ok (Rfits s x y z u v) (fun p => QI s p.2) := by
  unfold Rfits
  refine ok_b (isMotion_ok r) (fun p hp => ok_i (fun _ => ok_s hp.1) (fun c => ?_))
  obtain ⟨q, _⟩ := hp.2.resolve_left c
  have r2 := QI_RI hp.1 r
  refine ok_be (q_isOf rfl (by decide)) (ok_i (fun _ => ok_s hp.1) (fun c2 => ?_))
  obtain ⟨k, ek, hk⟩ := isOf_k r2 (by decide) c2
  have q1 : QI p.2 (up p.2 64 33 (RplaceOf 3 y)) := QI_up QI_rfl (by omega) (by omega)
  have r3 := QI_RI q1 r2
  obtain ⟨n, en, hn⟩ := (r3.1.2.2 k hk).2.2.2.1
  refine ok_w (fits38 r3 ?_ hk (by unfold OKl; rw [up_a, ek, place3]) en hn n 0 xF (fun i hi => absurd hi (by omega)) (by omega) (by have := xF_ge; omega)) (fun w hw => QI_tr hp.1 (QI_tr q1 hw))
  unfold QS at *
  rw [up_b (by decide), up_b (by decide), up_b (by decide)]; exact q
end XRI
end
section
section XRJ
variable {sc : Nat × (Nat → Int32)} {d : Nat} {K : List KD} {r q t a B m : Nat} {w : EW}
/-! the reference: decades, the tape, images -/
theorem shr16 (u : UInt32) : ∃ x, x < 65536 ∧ (u >>> (Int32.toUInt32 16 &&& Int32.toUInt32 31)).toInt32 = nI x := by
  have e : (Int32.toUInt32 16 &&& Int32.toUInt32 31) = 16 := by decide
  rw [e]
  have h : (u >>> 16).toNat = u.toNat / 65536 := by
    rw [UInt32.toNat_shiftRight, Nat.shiftRight_eq_div_pow]
    rfl
  have hl : (u >>> 16).toNat < 65536 := by
    rw [h]
    have := u.toNat_lt
    omega
  refine ⟨(u >>> 16).toNat, hl, ?_⟩
  apply Int32.toInt_inj.mp
  rw [nI_toInt (by omega)]
  show (u >>> 16).toBitVec.toInt = _
  have hb : (u >>> 16).toBitVec.toNat = (u >>> 16).toNat := rfl
  rw [BitVec.toInt_eq_toNat_of_lt (by rw [hb]; omega), hb]
theorem below_ok {t : SG} {n : Nat} {x : Int32} (ex : x = nI n) (h0 : 0 < n) (hn : n ≤ 40000) : ok (Rbelow t x) (fun p => (∃ k, p.1 = nI k ∧ k < n) ∧ QI t p.2 ∧ ∀ j, j ≠ 34 → p.2 64 j = t 64 j) := by
  subst ex
  unfold Rbelow
  rw [if_neg (fun h => by have := nI_inj (by omega) (by decide : (0 : Nat) < 2 ^ 31) h; omega)]
  obtain ⟨x, hx, ex⟩ := shr16 (Int32.toUInt32 (t 64 34 * 1103515245 + 12345))
  rw [ex]
  refine ok_s ⟨⟨x % n, nI_mod (by omega) h0 (by omega), Nat.mod_lt _ h0⟩, QI_up QI_rfl (by omega) (by omega), fun j hj => (up_bn hj : up t 64 34 (t 64 34 * 1103515245 + 12345) 64 j = t 64 j)⟩
def thL (x : Int32) : Nat → Int32 → Nat → Option Nat
  | 0, _, _ => none
  | n + 1, y, m => if (x >>> (nI m &&& 31)) &&& 1 = 0 then thL x n (y - ((x >>> (nI m &&& 31)) &&& 1)) (m + 1) else if y ≤ 0 then some m else thL x n (y - ((x >>> (nI m &&& 31)) &&& 1)) (m + 1)
theorem thereAt_l {t : SG} {y1 : Int32} : ∀ (n m k r : Nat) (y : Int32), thL (t 64 18) n y m = some r → n ≤ k → RthereAt_4 (RthereAt_R k) t y1 y (nI m) = some (nI r) := by
  intro n
  induction n with
  | zero => intro m k r y h; cases h
  | succ n ih =>
    intro m k r y h hk
    obtain ⟨k, rfl⟩ : ∃ k', k = k' + 1 := ⟨k - 1, by omega⟩
    have next : thL (t 64 18) n (y - ((t 64 18 >>> (nI m &&& 31)) &&& 1)) (m + 1) = some r → RthereAt_19 (RthereAt_R (k + 1)) t y1 y (nI m) = some (nI r) := by
      intro h2
      unfold RthereAt_19
      show RthereAt_4 (RthereAt_R k) t y1 _ (nI m + 1) = _
      rw [← nI_succ]
      exact ih (m + 1) k r _ h2 (by omega)
    rw [thL] at h
    unfold RthereAt_4
    by_cases c1 : (t 64 18 >>> (nI m &&& 31)) &&& 1 = 0
    · rw [if_pos c1] at h
      rw [if_pos c1]; exact next h
    · rw [if_neg c1] at h
      rw [if_neg c1]
      by_cases c2 : y ≤ 0
      · rw [if_pos c2] at h
        rw [if_pos c2]
        cases h; rfl
      · rw [if_neg c2] at h
        rw [if_neg c2]; exact next h
theorem th_all0 : ((List.range 64).all fun a => (List.range 7).all fun k => (List.range 7).all fun b => !(bsL (nI a) 31 0 0 == nI b) || !(decide (k < b)) || (match thL (nI a) 6 (nI k) 0 with
    | some m => decide (m < 6)
    | none => false)) = true := by decide +kernel
theorem th_all (a : Nat) (ha : a < 64) (k : Nat) (hk : k < 7) (b : Nat) (hb : b < 7) (e : bsL (nI a) 31 0 0 = nI b) (hkb : k < b) : ∃ m, m < 6 ∧ thL (nI a) 6 (nI k) 0 = some m := by
  have h := List.all_eq_true.mp (List.all_eq_true.mp (List.all_eq_true.mp th_all0 a (List.mem_range.mpr ha)) k (List.mem_range.mpr hk)) b (List.mem_range.mpr hb)
  have e1 : (bsL (nI a) 31 0 0 == nI b) = true := by rw [e]; exact beq_self_eq_true _
  rw [e1, decide_eq_true hkb] at h
  simp only [Bool.not_true, Bool.false_or] at h
  cases g : thL (nI a) 6 (nI k) 0 with
  | none => rw [g] at h; cases h
  | some m => rw [g] at h; exact ⟨m, of_decide_eq_true h, rfl⟩
theorem thereAt_ok {t : SG} {a k b : Nat} {x : Int32} (ea : t 64 18 = nI a) (ha : a ≤ 63) (hb : b ≤ 6) (eb : bsL (nI a) 31 0 0 = nI b) (hk : k < b) (ex : x = nI k) : ∃ m, m < 6 ∧ RthereAt t x = some (nI m) := by
  obtain ⟨m, hm, e⟩ := th_all a (by omega) k (by omega) b (by omega) eb hk
  refine ⟨m, hm, ?_⟩
  unfold RthereAt
  rw [ex]
  exact thereAt_l 6 0 xF m (nI k) (by rw [ea]; exact e) (by have := xF_ge; omega)
theorem bits_ok2 {a : Nat} (ha : a ≤ 63) : ∃ b, b ≤ 6 ∧ Rbits (nI a) = some (nI b) ∧ (0 < a → 0 < b) ∧ bsL (nI a) 31 0 0 = nI b := by
  obtain ⟨b, hb, e, h⟩ := bits_all a (by omega)
  refine ⟨b, by omega, ?_, h, e⟩
  unfold Rbits
  have l := bits_l (x := nI a) 31 0 xF 0 rfl (by have := xF_ge; omega)
  rw [e] at l
  exact l
/-- a decade goes on -/
def DQ (t u : SG) : Prop := QI t u ∧ (QS t → QS u)
theorem drawn147 {y1 y2 y3 y4 y5 y6 y7 y8 y9 : Int32} {r49 : SG → Int32 → Int32 → Int32 → Int32 → Int32 → Int32 → Int32 → Int32 → Option (Int32 × SG)} {t : SG} {P : Int32 × SG → Prop} (r : RI t) (q : QS t) (next : ∀ (u : SG) (a b c : Int32), QI t u → QS u → ok (r49 u y1 y2 y3 y4 a b c (y8 + 1)) P) : ok (Rdrawn_147 r49 t y1 y2 y3 y4 y5 y6 y7 y8 y9) P := by
  have e163 : ∀ u, QI t u → QS u → ok (Rdrawn_163 r49 u y1 y2 y3 y4 y5 y6 y7 y8 y9) P := by
    intro u hu qu
    have e192 : ∀ a v0, ok (Rdrawn_192 r49 u y1 y2 y3 y4 a y6 y7 y8 y9 v0) P := by
      intro a v0
      unfold Rdrawn_192
      exact ok_i (fun _ => next u _ _ _ hu qu) (fun _ => next u _ _ _ hu qu)
    unfold Rdrawn_163
    exact ok_i (fun _ => e192 _ _) (fun _ => e192 _ _)
  unfold Rdrawn_147
  refine ok_i (fun _ => e163 _ comm_KQ.1 (KQ_QS comm_KQ q)) (fun _ => ok_b (moves_ok r q) (fun u hu => e163 u hu.1 (MV_QS hu q)))
theorem drawn77 {y1 y2 y3 y4 y5 y6 y7 y8 v0 : Int32} {r49 : SG → Int32 → Int32 → Int32 → Int32 → Int32 → Int32 → Int32 → Int32 → Option (Int32 × SG)} {t : SG} {P : Int32 × SG → Prop} (r : RI t) (q : QS t) (h0 : ¬ v0 = 0 → ¬ t 64 18 = 0) (next : ∀ (u : SG) (a b c : Int32), QI t u → QS u → ok (r49 u y1 y2 y3 y4 a b c (y8 + 1)) P) : ok (Rdrawn_77 r49 t y1 y2 y3 y4 y5 y6 y7 y8 v0) P := by
  unfold Rdrawn_77
  refine ok_i (fun _ => drawn147 r q next) (fun c => ?_)
  obtain ⟨a, ea, ha⟩ := q.2.2
  have a0 : 0 < a := by
    rcases Nat.eq_zero_or_pos a with g | g
    · exact absurd (by rw [ea, g]; rfl) (h0 c)
    · exact g
  obtain ⟨b, hb, eb, hb0, ebs⟩ := bits_ok2 ha
  rw [ea]
  refine ok_be eb (ok_b (below_ok rfl (hb0 a0) (by omega)) (fun p hp => ?_))
  obtain ⟨⟨k, ek, hk⟩, qi, kp⟩ := hp
  obtain ⟨m, hm, em⟩ := thereAt_ok (t := p.2) (x := p.1) (by rw [kp 18 (by omega)]; exact ea) ha hb ebs hk ek
  refine ok_be em ?_
  have keep : ∀ {u w : SG}, QI t u → QS u → QI u w → (∀ j, j ≠ 34 → w 64 j = u 64 j) → QI t w ∧ QS w := by
    intro u w h1 h2 h3 h4
    refine ⟨QI_tr h1 h3, ?_⟩
    unfold QS at *
    rw [h4 11 (by omega), h4 16 (by omega), h4 18 (by omega)]; exact h2
  have k1 := keep QI_rfl q qi kp
  have q1 : QS (up p.2 64 15 (nI m)) := by
    have := k1.2
    unfold QS at *
    rw [up_b (by decide), up_b (by decide), up_b (by decide)]; exact this
  have qi1 : QI t (up p.2 64 15 (nI m)) := QI_up k1.1 (by omega) (by omega)
  refine ok_b (below_ok (n := 10) rfl (by decide) (by decide)) (fun p2 hp2 => ?_)
  have k2 := keep qi1 q1 hp2.2.1 hp2.2.2
  refine ok_b (below_ok (n := 10) rfl (by decide) (by decide)) (fun p3 hp3 => ?_)
  have k3 := keep k2.1 k2.2 hp3.2.1 hp3.2.2
  refine ok_b (below_ok (n := 10) rfl (by decide) (by decide)) (fun p4 hp4 => ?_)
  have k4 := keep k3.1 k3.2 hp4.2.1 hp4.2.2
  generalize 100 * p2.1 + 10 * p3.1 + p4.1 = day
  have kq : KQ p4.2 (RtalksOf p4.2 day) := talks_KQ
  have qz := QI_tr k4.1 kq.1
  exact drawn147 (QI_RI qz r) (KQ_QS kq k4.2) (fun u a b c hu hq => next u a b c (QI_tr qz hu) hq)
theorem drawn49 {y1 y2 y4 : Int32} {N : Nat} (hN : N ≤ 60) : ∀ (n j z : Nat) (t : SG) (a b c : Int32), RI t → QS t → j + n = N → n ≤ z → ok (Rdrawn_49 (Rdrawn_R z) t y1 y2 (nI N) y4 a b c (nI j)) (fun p => QI t p.2) := by
  intro n
  induction n with
  | zero =>
    intro j z t a b c r q hj hz
    unfold Rdrawn_49
    rw [if_pos (k_ge hj)]
    unfold Rdrawn_218
    repeat' (first | exact ok_s QI_rfl | refine ok_i (fun _ => ?_) (fun _ => ?_))
  | succ n ih =>
    intro j z t a b c r q hj hz
    obtain ⟨z, rfl⟩ : ∃ z', z = z' + 1 := ⟨z - 1, by omega⟩
    unfold Rdrawn_49
    rw [if_neg (k_lt hj (by omega))]
    have hs : nI j / 5 - nI j / 5 / 4 * 4 = nI (j / 5 % 4) := by
      have e : nI j / 5 = nI (j / 5) := nI_div (b := 5) (by omega) (by decide) (by decide)
      rw [e]
      exact nI_mod (b := 4) (by omega) (by decide) (by decide)
    rw [hs]
    have qi : QI t (up t 64 16 (nI (j / 5 % 4))) := QI_up QI_rfl (by omega) (by omega)
    have r2 := QI_RI qi r
    have q2 : QS (up t 64 16 (nI (j / 5 % 4))) := by
      refine ⟨?_, ?_, ?_⟩
      · rw [up_b (by decide)]; exact q.1
      · rw [up_a]; exact ⟨_, rfl, by omega⟩
      · rw [up_b (by decide)]; exact q.2.2
    have next : ∀ (u : SG) (a b c : Int32), QI (up t 64 16 (nI (j / 5 % 4))) u → QS u → ok (Rdrawn_R (z + 1) u y1 y2 (nI N) y4 a b c (nI j + 1)) (fun p => QI t p.2) := by
      intro u a b c hu qu
      show ok (Rdrawn_49 (Rdrawn_R z) u y1 y2 (nI N) y4 a b c (nI j + 1)) _
      rw [← nI_succ]
      exact ok_w (ih (j + 1) z u a b c (QI_RI hu r2) qu (by omega) (by omega)) (fun p hp => QI_tr qi (QI_tr hu hp))
    refine ok_i (fun c0 => drawn77 r2 q2 (fun h => absurd rfl h) next) (fun c0 => drawn77 r2 q2 (fun _ => ?_) next)
    rw [up_b (by decide)]; exact c0
theorem drawn_ok {s : SG} {x y z u : Int32} (r : RI s) : ok (Rdrawn s x y z u) (fun p => QI s p.2) := by
  unfold Rdrawn
  refine ok_b (isRepublic_ok r) (fun p hp => ok_i (fun _ => ok_s hp.1) (fun c => ?_))
  have q : QS p.2 := (hp.2.resolve_left c).1
  refine ok_i (fun _ => ok_s hp.1) (fun c2 => ok_i (fun _ => ok_s hp.1) (fun _ => ?_))
  obtain ⟨N, eN, hN⟩ := inI_nI (b := 60) (by decide) c2
  rw [eN]
  have qi : QI p.2 (up p.2 64 34 y) := QI_up QI_rfl (by omega) (by omega)
  refine ok_w (drawn49 hN N 0 xF _ 0 0 0 (QI_RI qi (QI_RI hp.1 r)) ?_ (by omega) (by have := xF_ge; omega)) (fun v hv => QI_tr hp.1 (QI_tr qi hv))
  unfold QS at *
  rw [up_b (by decide), up_b (by decide), up_b (by decide)]; exact q
theorem count_ok {s : SG} {x : Int32} : ok (Rcount s x) (fun _ => True) := by
  unfold Rcount
  refine ok_i (fun _ => ok_s trivial) (fun c => ?_)
  obtain ⟨a, ea, ha⟩ := inI_nI (b := 5) (by decide) c
  exact ok_be (rd_nI ea (by omega) (by decide)) (ok_s trivial)
theorem fault_ok {s : SG} {x : Int32} : ok (Rfault s x) (fun _ => True) := by
  unfold Rfault
  exact ok_i (fun _ => ok_be (rd_nI (e := 7) rfl (by decide) (by decide)) (ok_s trivial)) (fun _ => ok_i (fun _ => ok_be (rd_nI (e := 8) rfl (by decide) (by decide)) (ok_s trivial)) (fun _ => ok_s trivial))
/-! writes to what is told -/
theorem RB0_of {f g : Nat → Int32} (e : ∀ j, j < 6 ∨ (610 ≤ j ∧ j < 1442) → g j = f j) (h6 : NB (g 6) 600) (h : RB0 f) : RB0 g := by
  obtain ⟨h1, _, h3⟩ := h
  refine ⟨fun i hi => by rw [e i (by omega)]; exact h1 i hi, h6, fun k hk => ?_⟩
  obtain ⟨⟨a1, a2, a3, a4⟩, b, ⟨c1, c2⟩, d, ⟨e1, e2⟩⟩ := h3 k hk
  refine ⟨⟨?_, ?_, ?_, fun m i hm hi => ?_⟩, ?_, ⟨?_, fun j hj => ?_⟩, ?_, ⟨?_, fun j hj => ?_⟩⟩
  · rw [e _ (by omega)]; exact a1
  · rw [e _ (by omega)]; exact a2
  · rw [e _ (by omega)]; exact a3
  · rw [e _ (by omega)]; exact a4 m i hm hi
  · rw [e _ (by omega)]; exact b
  · rw [e _ (by omega)]; exact c1
  · rw [e _ (by omega), e _ (by omega)]; exact c2 j hj
  · rw [e _ (by omega)]; exact d
  · rw [e _ (by omega)]; exact e1
  · rw [e _ (by omega), e _ (by omega), e _ (by omega), e _ (by omega)]; exact e2 j hj
/-- off what is told now, nothing is changed -/
def QA (s t : SG) : Prop := (∀ j, 1442 ≤ j → t 65 j = s 65 j) ∧ t 66 = s 66 ∧ ∀ c, (c < 64 ∨ 72 ≤ c) → t c = s c
theorem QA_rfl {s : SG} : QA s s := ⟨fun _ _ => rfl, rfl, fun _ _ => rfl⟩
theorem QA_tr {s t u : SG} (h : QA s t) (g : QA t u) : QA s u := ⟨fun j hj => (g.1 j hj).trans (h.1 j hj), g.2.1.trans h.2.1, fun c hc => (g.2.2 c hc).trans (h.2.2 c hc)⟩
theorem QA_65 {s : SG} {j : Nat} {x : Int32} (hj : j < 1442) : QA s (up s 65 j x) := ⟨fun i hi => up_bn (by omega), up_n (by omega), fun c hc => up_n (by omega)⟩
theorem QA_QI {s t : SG} (h : QI s t) : QA s t := ⟨fun j _ => by rw [h.1], h.2.1, h.2.2⟩
theorem QA_RI {s t : SG} (h : QA s t) (b : RB0 (t 65)) (r : RI s) : RI t := by
  refine ⟨b, fun k hk => ?_⟩
  have e : (fun j => t 65 (1442 * (k + 1) + j)) = (fun j => s 65 (1442 * (k + 1) + j)) := by
    funext j
    exact h.1 _ (by omega)
  rw [e]; exact r.2 k hk
theorem end_ok {s : SG} {x : Int32} (r : RI s) : ok (Rend s x) (fun p => RI p.2 ∧ QA s p.2) := by
  obtain ⟨l, el, hl⟩ := r.1.2.1
  have rd : rdI s 65 5768 6 = some (nI l) := by rw [rd_nI (x := 6) (e := 6) rfl (by decide) (by decide), el]
  unfold Rend
  refine ok_i (fun _ => ok_s ⟨r, QA_rfl⟩) (fun c => ok_be rd (ok_i (fun c2 => ?_) (fun _ => ok_s ⟨r, QA_rfl⟩)))
  have qa : QA s (up s 65 6 x) := QA_65 (by decide)
  refine ok_be (wr_nI (e := 6) rfl (by decide) (by decide)) (ok_s ⟨QA_RI qa ?_ r, qa⟩)
  show RB0 (up s 65 6 x 65)
  refine RB0_of (f := s 65) (fun j hj => by rw [up_bn (by omega)]) ?_ r.1
  rw [up_a]
  have e := Int32.ofNat_toNatClampNeg x (Int32.not_lt.mp c)
  have e2 := Int32.cast_toNatClampNeg x (Int32.not_lt.mp c)
  refine ⟨x.toNatClampNeg, e.symm, ?_⟩
  rw [Int32.le_iff_toInt_le, nI_toInt (by omega)] at c2
  omega
theorem feed_l {y1 y2 y3 y4 y5 : Int32} {l : Nat} (hl : l + 20 ≤ 600) : ∀ (n j z : Nat) (t : SG), RI t → t 65 6 = nI (l + j) → j + n = 20 → n ≤ z → ok (Rfeed_21 (Rfeed_R z) t y1 y2 y3 y4 y5 (nI j)) (fun p => RI p.2 ∧ QA t p.2 ∧ p.2 65 6 = nI (l + 20)) := by
  intro n
  induction n with
  | zero =>
    intro j z t r e hj hz
    unfold Rfeed_21
    rw [if_pos (show (20 : Int32) ≤ nI j from k_ge (m := 20) hj)]
    refine ok_be (rd_nI (e := 6) rfl (by decide) (by decide)) (ok_s ⟨r, QA_rfl, ?_⟩)
    show t 65 6 = _
    rw [e, show l + j = l + 20 by omega]
  | succ n ih =>
    intro j z t r e hj hz
    obtain ⟨z, rfl⟩ : ∃ z', z = z' + 1 := ⟨z - 1, by omega⟩
    have e74 : ∀ v, ok (Rfeed_74 (Rfeed_R (z + 1)) t y1 y2 y3 y4 y5 (nI j) v) (fun p => RI p.2 ∧ QA t p.2 ∧ p.2 65 6 = nI (l + 20)) := by
      intro v
      unfold Rfeed_74
      generalize (v >>> (24 - 8 * (nI j - nI j / 4 * 4) &&& 31)) &&& 255 = w
      refine ok_be (rd_nI (e := 6) rfl (by decide) (by decide)) (ok_be (wr_nI (e := 10 + (l + j)) (by rw [e]; show nI 10 + nI (l + j) = _; rw [nI_add]) (by omega) (by decide)) ?_)
      refine ok_be (rd_nI (e := 6) rfl (by decide) (by decide)) (ok_be (wr_nI (e := 6) rfl (by decide) (by decide)) ?_)
      have e6 : up t 65 (10 + (l + j)) w 65 6 = nI (l + j) := by rw [up_bn (by omega)]; exact e
      rw [e6]
      have qa : QA t (up (up t 65 (10 + (l + j)) w) 65 6 (nI (l + j) + 1)) := QA_tr (QA_65 (by omega)) (QA_65 (by omega))
      show ok (Rfeed_21 (Rfeed_R z) (up (up t 65 (10 + (l + j)) w) 65 6 (nI (l + j) + 1)) y1 y2 y3 y4 y5 (nI j + 1)) _
      rw [← nI_succ, ← nI_succ] at *
      refine ok_w (ih (j + 1) z _ (QA_RI qa ?_ r) (by rw [up_a]; rfl) (by omega) (by omega)) (fun p hp => ⟨hp.1, QA_tr qa hp.2.1, hp.2.2⟩)
      refine RB0_of (f := t 65) (fun i hi => ?_) ?_ r.1
      · rw [up_bn (by omega), up_bn (by omega)]
      · rw [up_a]; exact ⟨_, rfl, by omega⟩
    unfold Rfeed_21
    rw [if_neg (show ¬ (20 : Int32) ≤ nI j from k_lt (m := 20) hj (by decide))]
    exact ok_i (fun _ => ok_i (fun _ => ok_i (fun _ => ok_i (fun _ => e74 _) (fun _ => e74 _)) (fun _ => e74 _)) (fun _ => e74 _)) (fun _ => e74 _)
theorem feed_ok {s : SG} {x y z u v : Int32} (r : RI s) : ok (Rfeed s x y z u v) (fun p => RI p.2 ∧ QA s p.2) := by
  obtain ⟨l, el, hl⟩ := r.1.2.1
  unfold Rfeed
  refine ok_be (rd_nI (e := 6) rfl (by decide) (by decide)) (ok_i (fun c => ?_) (fun _ => ok_s ⟨r, QA_rfl⟩))
  have hl2 : l + 20 ≤ 600 := by
    rw [el] at c
    have e : nI l + 20 = nI (l + 20) := by show nI l + nI 20 = _; rw [nI_add]
    rw [e, Int32.le_iff_toInt_le, nI_toInt (by omega)] at c
    have : (600 : Int32).toInt = 600 := by decide
    omega
  exact ok_w (feed_l hl2 20 0 xF s r el rfl (by have := xF_ge; omega)) (fun p hp => ⟨hp.1, hp.2.1⟩)
/-- off the images' rows, nothing is changed -/
def QM (s t : SG) (k : Nat) : Prop := (∀ j, (j < 1442 * (k + 1) ∨ 1442 * (k + 2) ≤ j) → t 65 j = s 65 j) ∧ ∀ c, (c < 64 ∨ 72 ≤ c) → t c = s c
theorem image_l {k : Nat} (hk : k < 3) {s0 : SG} : ∀ (n j z : Nat) (t : SG), QM s0 t k → t 66 = s0 66 → (∀ i, i < j → t 65 (1442 * (k + 1) + i) = s0 65 i) → j + n = 1442 → n ≤ z → ok (Rimage_20 (Rimage_R z) t (nI k) (nI j)) (fun p => p.1 = 1 ∧ QM s0 p.2 k ∧ p.2 66 = s0 66 ∧ ∀ i, i < 1442 → p.2 65 (1442 * (k + 1) + i) = s0 65 i) := by
  intro n
  induction n with
  | zero =>
    intro j z t qm e66 h hj hz
    unfold Rimage_20
    rw [if_pos (show (1442 : Int32) ≤ nI j from k_ge (m := 1442) hj)]
    exact ok_s ⟨rfl, qm, e66, fun i hi => h i (by omega)⟩
  | succ n ih =>
    intro j z t qm e66 h hj hz
    obtain ⟨z, rfl⟩ : ∃ z', z = z' + 1 := ⟨z - 1, by omega⟩
    unfold Rimage_20
    rw [if_neg (show ¬ (1442 : Int32) ≤ nI j from k_lt (m := 1442) hj (by decide))]
    refine ok_be (rd_nI rfl (by omega) (by decide)) (ok_be (wr_nI (e := 1442 * (k + 1) + j) (by show nI 1442 * (nI k + nI 1) + nI j = _; rw [nI_add, nI_mulx, nI_add]) (by omega) (by decide)) ?_)
    show ok (Rimage_20 (Rimage_R z) (up t 65 (1442 * (k + 1) + j) (t 65 j)) (nI k) (nI j + 1)) _
    rw [← nI_succ]
    refine ih (j + 1) z _ ⟨fun i hi => ?_, fun c hc => ?_⟩ ?_ (fun i hi => ?_) (by omega) (by omega)
    · rw [up_bn (by omega)]; exact qm.1 i hi
    · rw [up_n (by omega)]; exact qm.2 c hc
    · rw [up_n (by omega)]; exact e66
    · by_cases e : i = j
      · subst e; rw [up_a]; exact qm.1 i (by omega)
      · rw [up_bn (by omega)]; exact h i (by omega)
theorem image_ok {s : SG} {x : Int32} (r : RI s) : ok (Rimage s x) (fun p => p.1 = imgI x ∧ RI p.2 ∧ (∀ c, (c < 64 ∨ 72 ≤ c) → p.2 c = s c) ∧ ((imgI x = 0 ∧ p.2 = s) ∨ ∃ k, k < 3 ∧ x = nI k ∧ (∀ j, j < 1442 → p.2 65 j = s 65 j) ∧ (∀ j, j ≠ k → p.2 66 j = s 66 j) ∧ p.2 66 k = 1 ∧ (∀ i, i < 1442 → p.2 65 (1442 * (k + 1) + i) = s 65 i) ∧ ∀ m, m < 3 → m ≠ k → ∀ i, i < 1442 → p.2 65 (1442 * (m + 1) + i) = s 65 (1442 * (m + 1) + i))) := by
  unfold Rimage
  refine ok_i (fun c => ?_) (fun c => ?_)
  · have e : imgI x = 0 := by
      unfold inI at c
      unfold imgI
      by_cases c1 : x < 0
      · rw [if_pos c1]
      · rw [if_neg c1] at c ⊢
        by_cases c2 : 2 < x
        · rw [if_neg]
          rw [Int32.lt_iff_toInt_lt] at c2 ⊢
          have z2 : (2 : Int32).toInt = 2 := by decide
          have z3 : (3 : Int32).toInt = 3 := by decide
          omega
        · rw [if_neg c2] at c; exact absurd c (by decide)
    exact ok_s ⟨e.symm, r, fun _ _ => rfl, Or.inl ⟨e, rfl⟩⟩
  · obtain ⟨k, ek, hk⟩ := inI_nI (b := 2) (by decide) c
    have e : imgI x = 1 := by
      unfold imgI
      rw [ek, if_neg (nI_pos (by omega)), if_pos (show nI k < 3 from nI_lt2 (a := k) (b := 3) (by omega) (by decide))]
    have wb : wrB s 66 3 x 1 = some (up s 66 k 1) := by
      unfold wrB
      rw [ek, xvb_nI (by omega : k < 3) (by decide), nI_clamp (by omega)]; rfl
    refine ok_be wb ?_
    rw [ek]
    refine ok_w (image_l (k := k) (by omega) (s0 := up s 66 k 1) 1442 0 xF _ ⟨fun _ _ => rfl, fun _ _ => rfl⟩ rfl (fun i hi => absurd hi (by omega)) rfl (by have := xF_ge; omega)) (fun p hp => ?_)
    obtain ⟨h1, qm, e66, cp⟩ := hp
    have e65 : up s 66 k 1 65 = s 65 := up_n (by omega)
    rw [e65] at cp
    have other : ∀ j, (j < 1442 * (k + 1) ∨ 1442 * (k + 2) ≤ j) → p.2 65 j = s 65 j := fun j hj => by rw [qm.1 j hj, e65]
    refine ⟨by rw [h1, ← ek, e], ?_, fun c hc => by rw [qm.2 c hc, up_n (by omega)], Or.inr ⟨k, by omega, rfl, fun j hj => other j (by omega), fun j hj => by rw [e66, up_bn hj], by rw [e66, up_a], cp, fun m hm hne i hi => other _ (by omega)⟩⟩
    refine ⟨?_, fun m hm => ?_⟩
    · refine RB0_of (f := s 65) (fun j hj => other j (by omega)) ?_ r.1
      rw [other 6 (by omega)]; exact r.1.2.1
    · by_cases e : m = k
      · subst e
        refine RB0_of (f := s 65) (fun j hj => cp j (by omega)) ?_ r.1
        show NB (p.2 65 (1442 * (m + 1) + 6)) 600
        rw [cp 6 (by omega)]; exact r.1.2.1
      · refine RB0_of (f := fun j => s 65 (1442 * (m + 1) + j)) (fun j hj => other _ (by omega)) ?_ (r.2 m hm)
        show NB (p.2 65 (1442 * (m + 1) + 6)) 600
        rw [other _ (by omega)]; exact (r.2 m hm).2.1
theorem again_l {k : Nat} (hk : k < 3) {s0 : SG} : ∀ (n j z : Nat) (t : SG), QA s0 t → (∀ i, i < j → t 65 i = s0 65 (1442 * (k + 1) + i)) → j + n = 1442 → n ≤ z → ok (Ragain_22 (Ragain_R z) t (nI k) (nI j)) (fun p => QA s0 p.2 ∧ ∀ i, i < 1442 → p.2 65 i = s0 65 (1442 * (k + 1) + i)) := by
  intro n
  induction n with
  | zero =>
    intro j z t qa h hj hz
    unfold Ragain_22
    rw [if_pos (show (1442 : Int32) ≤ nI j from k_ge (m := 1442) hj)]
    exact ok_s ⟨qa, fun i hi => h i (by omega)⟩
  | succ n ih =>
    intro j z t qa h hj hz
    obtain ⟨z, rfl⟩ : ∃ z', z = z' + 1 := ⟨z - 1, by omega⟩
    unfold Ragain_22
    rw [if_neg (show ¬ (1442 : Int32) ≤ nI j from k_lt (m := 1442) hj (by decide))]
    refine ok_be (rd_nI (e := 1442 * (k + 1) + j) (by show nI 1442 * (nI k + nI 1) + nI j = _; rw [nI_add, nI_mulx, nI_add]) (by omega) (by decide)) (ok_be (wr_nI rfl (by omega) (by decide)) ?_)
    show ok (Ragain_22 (Ragain_R z) (up t 65 j (t 65 (1442 * (k + 1) + j))) (nI k) (nI j + 1)) _
    rw [← nI_succ]
    refine ih (j + 1) z _ (QA_tr qa (QA_65 (by omega))) (fun i hi => ?_) (by omega) (by omega)
    by_cases e : i = j
    · subst e; rw [up_a]; exact qa.1 _ (by omega)
    · rw [up_bn (by omega)]; exact h i (by omega)
theorem again_ok {s : SG} {x : Int32} (r : RI s) : ok (Ragain s x) (fun p => RI p.2 ∧ QA s p.2 ∧ (p.2 = s ∨ ∃ k, k < 3 ∧ x = nI k ∧ ¬ s 66 k = 0 ∧ ∀ i, i < 1442 → p.2 65 i = s 65 (1442 * (k + 1) + i))) := by
  unfold Ragain
  refine ok_i (fun _ => ok_s ⟨r, QA_rfl, Or.inl rfl⟩) (fun c => ?_)
  obtain ⟨k, ek, hk⟩ := inI_nI (b := 2) (by decide) c
  refine ok_be (rd_nI ek (by omega) (by decide)) (ok_i (fun _ => ok_s ⟨r, QA_rfl, Or.inl rfl⟩) (fun c2 => ?_))
  rw [ek]
  refine ok_w (again_l (k := k) (by omega) (s0 := s) 1442 0 xF s QA_rfl (fun i hi => absurd hi (by omega)) rfl (by have := xF_ge; omega)) (fun p hp => ⟨QA_RI hp.1 ?_ r, hp.1, Or.inr ⟨k, by omega, rfl, c2, hp.2⟩⟩)
  refine RB0_of (f := fun j => s 65 (1442 * (k + 1) + j)) (fun j hj => hp.2 j (by omega)) ?_ (r.2 k (by omega))
  rw [hp.2 6 (by omega)]; exact (r.2 k (by omega)).2.1
end XRJ
end
