section XRH
variable {sc : Nat × (Nat → Int32)} {d : Nat} {K : List KD} {r q t a B m : Nat} {w : EW}
/-! the reference: summers -/
def OKs (t : SG) (k : Nat) : Prop := t 64 30 = nI (1364 + 33 * k)
theorem isSummer_ok {t : SG} {x : Int32} (r : RI t) : ok (RisSummer t x) (fun p => QI t p.2 ∧ (∀ j, j ≠ 30 → p.2 64 j = t 64 j) ∧ (p.1 = 0 ∨ ∃ k, k < 2 ∧ OKs p.2 k)) := by
  unfold RisSummer
  refine ok_be (q_isOf rfl (by decide)) ?_
  refine ok_i (fun _ => ok_s ⟨QI_rfl, fun _ _ => rfl, Or.inl rfl⟩) (fun c => ?_)
  obtain ⟨j, e, hj⟩ := isOf_k r (by decide) c
  refine ok_s ⟨QI_up QI_rfl (by omega) (by omega), fun i hi => by
    show up t 64 30 (RplaceOf 4 x) 64 i = _
    exact up_bn hi, Or.inr ⟨j, hj, ?_⟩⟩
  show up t 64 30 (RplaceOf 4 x) 64 30 = _
  rw [up_a, e, place4]
theorem dayOf_eq {t : SG} {x y : Int32} {k j a : Nat} (e : OKs t k) (hk : k < 2) (ex : x = nI j) (ey : y = nI a) (hj : j < 8) (ha : a < 4) : RdayOf t x y = some (t 65 (1364 + 33 * k + 1 + 4 * j + a)) := by
  unfold RdayOf
  unfold OKs at e
  have e2 : t 64 30 + 1 + 4 * x + y = nI (1364 + 33 * k + 1 + 4 * j + a) := by
    rw [e, ex, ey]
    show nI _ + nI 1 + nI 4 * nI j + nI a = _
    rw [nI_mulx, nI_add, nI_add, nI_add]
  rw [rd_nI e2 (by omega) (by decide)]; rfl
theorem summerDays_eq {t : SG} {k : Nat} (e : OKs t k) (hk : k < 2) : RsummerDays t = some (t 65 (1364 + 33 * k)) := by
  unfold RsummerDays
  unfold OKs at e
  rw [rd_nI e (by omega) (by decide)]; rfl
theorem was_ok {s : SG} {x y z : Int32} (r : RI s) : ok (Rwas s x y z) (fun p => QI s p.2) := by
  unfold Rwas
  refine ok_b (isSummer_ok r) (fun p hp => ok_i (fun _ => ok_s hp.1) (fun c => ?_))
  obtain ⟨k, hk, e⟩ := hp.2.2.resolve_left c
  have r2 := QI_RI hp.1 r
  obtain ⟨n, en, hn⟩ := (r2.1.2.2 k hk).2.2.2.2.1
  have dd := summerDays_eq e hk
  rw [en] at dd
  refine ok_i (fun _ => ok_i (fun _ => ok_be dd (ok_s hp.1)) (fun _ => ok_s hp.1)) (fun _ => ok_be dd (ok_i (fun _ => ok_s hp.1) (fun c2 => ?_)))
  obtain ⟨j, ej, hj⟩ := inI_sub (by omega) c2
  refine ok_i (fun _ => ok_s hp.1) (fun c3 => ?_)
  obtain ⟨a, ea, ha⟩ := inI_nI (b := 3) (by decide) c3
  exact ok_be (dayOf_eq e hk ej ea (by omega) (by omega)) (ok_s hp.1)
/-- a summer's numbers: how many days, who sat when, rain, wind, sun -/
theorem summer_n {t : SG} {k : Nat} (r : RI t) (hk : k < 2) (e : OKs t k) : ∃ (D : Nat) (f : Nat → Nat → Nat), D ≤ 8 ∧ RsummerDays t = some (nI D) ∧ ∀ j, j < 8 → f j 0 ≤ 3 ∧ (∀ a, a < 4 → f j a ≤ 9) ∧ ∀ (a : Nat) (x y : Int32), a < 4 → x = nI j → y = nI a → RdayOf t x y = some (nI (f j a)) := by
  obtain ⟨⟨D, eD, hD⟩, hr⟩ := (r.1.2.2 k hk).2.2.2.2
  refine ⟨D, fun j a => (t 65 (1364 + 33 * k + 1 + 4 * j + a)).toNatClampNeg, hD, by rw [summerDays_eq e hk, eD], fun j hj => ?_⟩
  have h := hr j hj
  have cl : ∀ {x : Int32} {n : Nat}, NB x n → n < 2 ^ 31 → x = nI x.toNatClampNeg ∧ x.toNatClampNeg ≤ n := by
    intro x n hx hn
    obtain ⟨a, ea, ha⟩ := hx
    rw [ea, nI_clamp (by omega)]; exact ⟨rfl, ha⟩
  refine ⟨(cl h.1 (by decide)).2, fun a ha => ?_, fun a x y ha ex ey => ?_⟩
  · rcases (by omega : a = 0 ∨ a = 1 ∨ a = 2 ∨ a = 3) with g | g | g | g <;> subst g
    · exact Nat.le_trans (cl h.1 (by decide)).2 (by decide)
    · exact (cl h.2.1 (by decide)).2
    · exact (cl h.2.2.1 (by decide)).2
    · exact (cl h.2.2.2 (by decide)).2
  · rw [dayOf_eq e hk ex ey hj ha]
    congr 1
    rcases (by omega : a = 0 ∨ a = 1 ∨ a = 2 ∨ a = 3) with g | g | g | g <;> subst g
    · exact (cl h.1 (by decide)).1
    · exact (cl h.2.1 (by decide)).1
    · exact (cl h.2.2.1 (by decide)).1
    · exact (cl h.2.2.2 (by decide)).1
theorem OKs_KQ {t u : SG} {k : Nat} (h : KQ t u) (e : OKs t k) : OKs u k := by
  unfold OKs at *
  rw [h.2 30 (by unfold KJ; omega)]; exact e
theorem numberOf_ok {t : SG} {k j : Nat} {x : Int32} (e : OKs t k) (hk : k < 2) (ex : x = nI j) (hj : j < 8) : ok (RnumberOf t x) (fun _ => True) := by
  unfold RnumberOf
  exact ok_be (dayOf_eq (y := 1) (a := 1) e hk ex rfl hj (by decide)) (ok_be (dayOf_eq (y := 2) (a := 2) e hk ex rfl hj (by decide)) (ok_be (dayOf_eq (y := 3) (a := 3) e hk ex rfl hj (by decide)) (ok_s trivial)))
theorem wrongDay_l {k : Nat} (hk : k < 2) : ∀ (n j z : Nat) (t : SG), RI t → OKs t k → j + n = 8 → n ≤ z → ok (RwrongDay_2 (RwrongDay_R z) t (nI j)) (fun p => QI t p.2) := by
  intro n
  induction n with
  | zero =>
    intro j z t r e hj hz
    obtain ⟨D, f, hD, eD, _⟩ := summer_n r hk e
    unfold RwrongDay_2
    refine ok_be eD ?_
    rw [if_pos (nI_le2 (by omega) (by omega))]
    exact ok_s QI_rfl
  | succ n ih =>
    intro j z t r e hj hz
    obtain ⟨z, rfl⟩ : ∃ z', z = z' + 1 := ⟨z - 1, by omega⟩
    obtain ⟨D, f, hD, eD, _⟩ := summer_n r hk e
    unfold RwrongDay_2
    refine ok_be eD (ok_i (fun _ => ok_s QI_rfl) (fun _ => ok_b (numberOf_ok e hk rfl (by omega)) (fun q _ => ?_)))
    refine ok_i (fun _ => ok_s talks_KQ.1) (fun _ => ?_)
    have kq : KQ t (Rgoes (RtalksOf t q)) := KQ_tr talks_KQ goes_KQ
    show ok (RwrongDay_2 (RwrongDay_R z) (Rgoes (RtalksOf t q)) (nI j + 1)) _
    rw [← nI_succ]
    exact ok_w (ih (j + 1) z _ (QI_RI kq.1 r) (OKs_KQ kq e) (by omega) (by omega)) (fun p hp => QI_tr kq.1 hp)
theorem isHeatRight_l {t : SG} {k D : Nat} {f : Nat → Nat → Nat} (hk : k < 2) (hD : D ≤ 8) (eD : RsummerDays t = some (nI D)) (ef : ∀ j, j < 8 → f j 0 ≤ 3 ∧ (∀ a, a < 4 → f j a ≤ 9) ∧ ∀ (a : Nat) (x y : Int32), a < 4 → x = nI j → y = nI a → RdayOf t x y = some (nI (f j a))) : ∀ (n j z : Nat) (y1 y2 : Int32), (y2 = 0 ∨ y2 = 1) → j + n = D → n ≤ z → ok (RisHeatRight_10 (RisHeatRight_R z) t y1 y2 (nI j)) (fun _ => True) := by
  intro n
  induction n with
  | zero =>
    intro j z y1 y2 hy hj hz
    have e4 : xrt 4 y2 = true := by rcases hy with g | g <;> rw [g] <;> rfl
    unfold RisHeatRight_10
    refine ok_be eD ?_
    rw [if_pos (nI_le2 (by omega) (by omega)), e4]
    exact ok_s trivial
  | succ n ih =>
    intro j z y1 y2 hy hj hz
    obtain ⟨z, rfl⟩ : ∃ z', z = z' + 1 := ⟨z - 1, by omega⟩
    have next : ∀ a b : Int32, (b = 0 ∨ b = 1) → ok (RisHeatRight_R (z + 1) t a b (nI j + 1)) (fun _ => True) := by
      intro a b hb
      show ok (RisHeatRight_10 (RisHeatRight_R z) t a b (nI j + 1)) _
      rw [← nI_succ]
      exact ih (j + 1) z a b hb (by omega) (by omega)
    unfold RisHeatRight_10
    refine ok_be eD ?_
    rw [if_neg (nI_ge (a := j) (b := D) (by omega) (by omega))]
    have h := (ef j (by omega)).2.2
    exact ok_be (h 3 (nI j) 3 (by decide) rfl rfl) (ok_be (h 2 (nI j) 2 (by decide) rfl rfl) (ok_i (fun _ => next _ _ (Or.inl rfl)) (fun _ => ok_i (fun _ => next _ _ (Or.inl rfl)) (fun _ => next _ _ (Or.inr rfl)))))
theorem nI_subn {a b : Nat} (h : b ≤ a) : nI a - nI b = nI (a - b) := by
  have e : nI a = nI (a - b) + nI b := by rw [nI_add]; congr 1; omega
  rw [e, Int32.add_sub_cancel]
/-- the clouds after a day -/
def cAf (S d c f : Nat) : Nat := if S - c + f ≤ d then (c - f) + (S - c + f) else (c - f) + d
theorem cAf_le {S d c f : Nat} (hc : c ≤ S) (hf : f ≤ c) : cAf S d c f ≤ S := by
  unfold cAf
  split <;> omega
theorem cloudAfter_eq {t : SG} {C G d c f : Nat} {x y z : Int32} (eC : Rof t 3 = some (nI C)) (eG : Rof t 4 = some (nI G)) (ed : RdayOf t z 3 = some (nI d)) (hC : C ≤ 99) (hG : G ≤ 99) (hd : d ≤ 9) (ex : x = nI c) (ey : y = nI f) (hc : c ≤ C + G) (hf : f ≤ c) : RcloudAfter t x y z = some (nI (cAf (C + G) d c f)) := by
  subst ex; subst ey
  unfold RcloudAfter
  rw [eC, eG, ed]
  simp only [bd2]
  rw [nI_add, nI_subn hc, nI_add, nI_subn hf]
  unfold cAf
  by_cases h : C + G - c + f ≤ d
  · rw [if_pos (nI_le2 h (by omega)), if_pos h, nI_add]
  · rw [if_neg (nI_ge (by omega) (by omega)), if_neg h, nI_add]
theorem mR37 {z : Nat} {u : SG} {a b : Int32} : (Rmends_R (z + 1)).2.1 u a b = Rmends_37 (Rmends_R z).1 (Rmends_R z).2.1 (Rmends_R z).2.2.1 (Rmends_R z).2.2.2 u a b := rfl
/-- what is known of less at a day: each number is one that some rain gives -/
def PL (u : SG) (S D : Nat) (f : Nat → Nat → Nat) (k : Nat) : Prop := ∀ c, c ≤ S → ∃ v, u 70 (199 * k + c) = nI v ∧ v ≤ 9 * (D - k) ∧ (k < D → ∃ g, g ≤ c ∧ g ≤ f k 1 ∧ ∃ v', u 70 (199 * (k + 1) + cAf S (f k 3) c g) = nI v' ∧ f k 1 - g + v' ≤ v)
section MENDS
variable {t0 : SG} {C G D : Nat} {f : Nat → Nat → Nat}
/-- all that mends looks at, on a state that differs in less alone -/
def MH (t0 u : SG) : Prop := QI t0 u ∧ u 64 = t0 64
theorem MH_up {u : SG} {j : Nat} {x : Int32} (h : MH t0 u) : MH t0 (up u 70 j x) := ⟨QI_up h.1 (by omega) (by omega), by rw [up_n (by omega)]; exact h.2⟩
theorem MH_Rof {u : SG} {x : Int32} (h : MH t0 u) : Rof u x = Rof t0 x := by
  unfold Rof rdI; rw [h.1.1, h.2]
theorem MH_day {u : SG} {x y : Int32} (h : MH t0 u) : RdayOf u x y = RdayOf t0 x y := by
  unfold RdayOf rdI; rw [h.1.1, h.2]
def MC (t0 : SG) (C G D : Nat) (f : Nat → Nat → Nat) : Prop := Rof t0 3 = some (nI C) ∧ Rof t0 4 = some (nI G) ∧ C ≤ 99 ∧ G ≤ 99 ∧ D ≤ 8 ∧ RsummerDays t0 = some (nI D) ∧ ∀ j, j < 8 → f j 0 ≤ 3 ∧ (∀ a, a < 4 → f j a ≤ 9) ∧ ∀ (a : Nat) (x y : Int32), a < 4 → x = nI j → y = nI a → RdayOf t0 x y = some (nI (f j a))
theorem MC_cloud {u : SG} {k c g : Nat} {x y z : Int32} (m : MC t0 C G D f) (h : MH t0 u) (hk : k < 8) (ex : x = nI c) (ey : y = nI g) (ez : z = nI k) (hc : c ≤ C + G) (hg : g ≤ c) : RcloudAfter u x y z = some (nI (cAf (C + G) (f k 3) c g)) := by
  obtain ⟨eC, eG, hC, hG, hD, eD, ef⟩ := m
  have d := (ef k hk)
  exact cloudAfter_eq (by rw [MH_Rof h]; exact eC) (by rw [MH_Rof h]; exact eG) (by rw [MH_day h]; exact d.2.2 3 z 3 (by decide) ez rfl) hC hG (d.2.1 3 (by decide)) ex ey hc hg
/-- the inner row: the least over the rain that may fall -/
theorem mends66 {y1 : Int32} {k c R : Nat} {u : SG} (m : MC t0 C G D f) (h : MH t0 u) (hk : k < D) (hc : c ≤ C + G) (pl : PL u (C + G) D f (k + 1))
    (hcont : ∀ (z v : Nat), R ≤ z → v ≤ 9 * (D - k) → (∃ g, g ≤ c ∧ g ≤ f k 1 ∧ ∃ v', u 70 (199 * (k + 1) + cAf (C + G) (f k 3) c g) = nI v' ∧ f k 1 - g + v' ≤ v) → ok (Rmends_43 (Rmends_R z).1 (Rmends_R z).2.1 (Rmends_R z).2.2.1 (Rmends_R z).2.2.2 (up u 70 (199 * k + c) (nI v)) y1 (nI k) (nI c + 1)) (fun w => MH t0 w ∧ ∀ k, k ≤ D → PL w (C + G) D f k)) :
    ∀ (n j z b : Nat), j + n = min (f k 1) c + 1 → n + R + 1 ≤ z → (j = 0 → b = 1000) → (0 < j → b ≤ 9 * (D - k) ∧ ∃ g, g ≤ c ∧ g ≤ f k 1 ∧ ∃ v', u 70 (199 * (k + 1) + cAf (C + G) (f k 3) c g) = nI v' ∧ f k 1 - g + v' ≤ b) → ok (Rmends_66 (Rmends_R z).1 (Rmends_R z).2.1 (Rmends_R z).2.2.1 (Rmends_R z).2.2.2 u y1 (nI k) (nI c) (nI b) (nI j)) (fun w => MH t0 w ∧ ∀ k, k ≤ D → PL w (C + G) D f k) := by
  have m' := m
  obtain ⟨eC, eG, hC, hG, hD, eD, ef⟩ := m'
  have fk := ef k (by omega)
  have f9 := fk.2.1 1 (by decide)
  have day1 : RdayOf u (nI k) 1 = some (nI (f k 1)) := by rw [MH_day h]; exact fk.2.2 1 (nI k) 1 (by decide) rfl rfl
  have e138 : ∀ (z b : Nat) (y5 : Int32), R + 1 ≤ z → (b ≤ 9 * (D - k) ∧ ∃ g, g ≤ c ∧ g ≤ f k 1 ∧ ∃ v', u 70 (199 * (k + 1) + cAf (C + G) (f k 3) c g) = nI v' ∧ f k 1 - g + v' ≤ b) → ok (Rmends_138 (Rmends_R z).1 (Rmends_R z).2.1 (Rmends_R z).2.2.1 (Rmends_R z).2.2.2 u y1 (nI k) (nI c) (nI b) y5) (fun w => MH t0 w ∧ ∀ k, k ≤ D → PL w (C + G) D f k) := by
    intro z b y5 hz hb
    obtain ⟨z, rfl⟩ : ∃ z', z = z' + 1 := ⟨z - 1, by omega⟩
    unfold Rmends_138
    refine ok_be (wr_nI (e := 199 * k + c) (by show nI 199 * nI k + nI c = _; rw [nI_mulx, nI_add]) (by omega) (by decide)) ?_
    exact hcont z b (by omega) hb.1 hb.2
  intro n
  induction n with
  | zero =>
    intro j z b hj hz _ hb
    have hb2 := hb (by omega)
    unfold Rmends_66
    refine ok_be day1 ?_
    by_cases q : f k 1 < j
    · rw [if_pos (nI_lt2 q (by omega))]
      exact e138 z b _ (by omega) hb2
    · rw [if_neg (by rw [Int32.not_lt]; exact nI_le2 (by omega) (by omega)), if_pos (nI_lt2 (by omega) (by omega))]
      exact e138 z b _ (by omega) hb2
  | succ n ih =>
    intro j z b hj hz h0 hb
    obtain ⟨z, rfl⟩ : ∃ z', z = z' + 1 := ⟨z - 1, by omega⟩
    have hj1 : j ≤ f k 1 := by omega
    have hj2 : j ≤ c := by omega
    have ca := cAf_le (S := C + G) (d := f k 3) hc hj2
    obtain ⟨v', ev, hv, _⟩ := pl _ ca
    have rdv : rdI u 70 1791 (199 * (nI k + 1) + nI (cAf (C + G) (f k 3) c j)) = some (nI v') := by
      rw [rd_nI (e := 199 * (k + 1) + cAf (C + G) (f k 3) c j) (by show nI 199 * (nI k + nI 1) + _ = _; rw [nI_add, nI_mulx, nI_add]) (by omega) (by decide), ev]
    have ce : (nI (f k 1) - nI j + nI v') = nI (f k 1 - j + v') := by rw [nI_subn hj1, nI_add]
    have next : ∀ b2 : Nat, (b2 ≤ 9 * (D - k) ∧ ∃ g, g ≤ c ∧ g ≤ f k 1 ∧ ∃ v', u 70 (199 * (k + 1) + cAf (C + G) (f k 3) c g) = nI v' ∧ f k 1 - g + v' ≤ b2) → ok ((Rmends_R (z + 1)).2.2.2 u y1 (nI k) (nI c) (nI b2) (nI j + 1)) (fun w => MH t0 w ∧ ∀ k, k ≤ D → PL w (C + G) D f k) := by
      intro b2 h2
      show ok (Rmends_66 (Rmends_R z).1 (Rmends_R z).2.1 (Rmends_R z).2.2.1 (Rmends_R z).2.2.2 u y1 (nI k) (nI c) (nI b2) (nI j + 1)) _
      rw [← nI_succ]
      exact ih (j + 1) z b2 (by omega) (by omega) (fun q => absurd q (by omega)) (fun _ => h2)
    unfold Rmends_66
    refine ok_be day1 ?_
    rw [if_neg (by rw [Int32.not_lt]; exact nI_le2 hj1 (by omega)), if_neg (by rw [Int32.not_lt]; exact nI_le2 hj2 (by omega))]
    refine ok_be day1 (ok_be (MC_cloud m h (by omega) rfl rfl rfl hc hj2) (ok_be rdv ?_))
    rw [ce]
    have here : f k 1 - j + v' ≤ 9 * (D - k) ∨ 0 < j := by
      rcases Nat.eq_zero_or_pos j with q | q
      · left; omega
      · right; exact q
    by_cases q : b ≤ f k 1 - j + v'
    · have hbs : b < 2 ^ 31 := by
        rcases Nat.eq_zero_or_pos j with e | e
        · have := h0 e; omega
        · have := (hb e).1; omega
      rw [if_pos (nI_le2 q (by omega))]
      rcases Nat.eq_zero_or_pos j with e | e
      · have e1 := h0 e
        exfalso
        omega
      · exact next b (hb e)
    · rw [if_neg (nI_ge (by omega) (by
        rcases Nat.eq_zero_or_pos j with e | e
        · have := h0 e; omega
        · have := (hb e).1; omega))]
      refine next _ ⟨?_, j, hj2, hj1, v', ev, Nat.le_refl _⟩
      rcases here with e | e
      · exact e
      · have := (hb e).1; omega
theorem PL_up {u : SG} {k k2 c v : Nat} (hk : k < k2) (hS : C + G ≤ 198) (hc : c ≤ C + G) (h : PL u (C + G) D f k2) : PL (up u 70 (199 * k + c) (nI v)) (C + G) D f k2 := by
  intro a ha
  obtain ⟨w, e, hw, hh⟩ := h a ha
  refine ⟨w, by rw [up_bn (by omega)]; exact e, hw, fun q => ?_⟩
  obtain ⟨g, g1, g2, v', e2, h2⟩ := hh q
  exact ⟨g, g1, g2, v', by rw [up_bn (by omega)]; exact e2, h2⟩
theorem mends43 {y1 : Int32} {k R : Nat} (m : MC t0 C G D f) (hk : k < D)
    (hcont : ∀ (z : Nat) (u : SG), R ≤ z → MH t0 u → (∀ k2, k ≤ k2 → k2 ≤ D → PL u (C + G) D f k2) → ok (Rmends_37 (Rmends_R z).1 (Rmends_R z).2.1 (Rmends_R z).2.2.1 (Rmends_R z).2.2.2 u y1 (nI k + -1)) (fun w => MH t0 w ∧ ∀ k, k ≤ D → PL w (C + G) D f k)) :
    ∀ (n j z : Nat) (u : SG), MH t0 u → (∀ k2, k + 1 ≤ k2 → k2 ≤ D → PL u (C + G) D f k2) → (∀ c, c < j → ∃ v, u 70 (199 * k + c) = nI v ∧ v ≤ 9 * (D - k) ∧ ∃ g, g ≤ c ∧ g ≤ f k 1 ∧ ∃ v', u 70 (199 * (k + 1) + cAf (C + G) (f k 3) c g) = nI v' ∧ f k 1 - g + v' ≤ v) → j + n = C + G + 1 → n * 12 + R + 1 ≤ z → ok (Rmends_43 (Rmends_R z).1 (Rmends_R z).2.1 (Rmends_R z).2.2.1 (Rmends_R z).2.2.2 u y1 (nI k) (nI j)) (fun w => MH t0 w ∧ ∀ k, k ≤ D → PL w (C + G) D f k) := by
  have m' := m
  obtain ⟨eC, eG, hC, hG, hD, eD, ef⟩ := m'
  intro n
  induction n with
  | zero =>
    intro j z u h pl row hj hz
    obtain ⟨z, rfl⟩ : ∃ z', z = z' + 1 := ⟨z - 1, by omega⟩
    unfold Rmends_43
    refine ok_be (by rw [MH_Rof h]; exact eC) (ok_be (by rw [MH_Rof h]; exact eG) ?_)
    rw [nI_add, if_pos (nI_lt2 (by omega) (by omega))]
    rw [mR37]
    refine hcont z u (by omega) h (fun k2 h1 h2 => ?_)
    by_cases e : k2 = k
    · subst e
      intro c hc
      obtain ⟨v, e1, e2, e3⟩ := row c (by omega)
      exact ⟨v, e1, e2, fun _ => e3⟩
    · exact pl k2 (by omega) h2
  | succ n ih =>
    intro j z u h pl row hj hz
    have f9 := (ef k (by omega)).2.1 1 (by decide)
    unfold Rmends_43
    refine ok_be (by rw [MH_Rof h]; exact eC) (ok_be (by rw [MH_Rof h]; exact eG) ?_)
    rw [nI_add, if_neg (by rw [Int32.not_lt]; exact nI_le2 (by omega) (by omega))]
    refine mends66 (R := n * 12 + R + 1) m h hk (by omega) (pl (k + 1) (by omega) (by omega)) (fun z2 v hz2 hv hg => ?_) (min (f k 1) j + 1) 0 z 1000 (by omega) (by omega) (fun _ => rfl) (fun q => absurd q (by omega))
    rw [← nI_succ]
    refine ih (j + 1) z2 _ (MH_up h) (fun k2 h1 h2 => PL_up (by omega) (by omega) (by omega) (pl k2 h1 h2)) (fun c hc => ?_) (by omega) hz2
    by_cases e : c = j
    · subst e
      obtain ⟨g, g1, g2, v', e2, h2⟩ := hg
      exact ⟨v, up_a, hv, g, g1, g2, v', by rw [up_bn (by omega)]; exact e2, h2⟩
    · obtain ⟨w, e1, e2, g, g1, g2, v', e3, e4⟩ := row c (by omega)
      exact ⟨w, by rw [up_bn (by omega)]; exact e1, e2, g, g1, g2, v', by rw [up_bn (by omega)]; exact e3, e4⟩
theorem mends37 {y1 : Int32} (m : MC t0 C G D f) : ∀ (n z : Nat) (u : SG), MH t0 u → n ≤ D → (∀ k2, n ≤ k2 → k2 ≤ D → PL u (C + G) D f k2) → n * 2390 ≤ z → ok (Rmends_37 (Rmends_R z).1 (Rmends_R z).2.1 (Rmends_R z).2.2.1 (Rmends_R z).2.2.2 u y1 (nI n - 1)) (fun w => MH t0 w ∧ ∀ k, k ≤ D → PL w (C + G) D f k) := by
  have m' := m
  obtain ⟨eC, eG, hC, hG, hD, eD, ef⟩ := m'
  intro n
  induction n with
  | zero =>
    intro z u h hn pl hz
    unfold Rmends_37
    rw [if_pos (by decide)]
    exact ok_s ⟨h, fun k hk => pl k (by omega) hk⟩
  | succ n ih =>
    intro z u h hn pl hz
    have e1 : nI (n + 1) - 1 = nI n := by rw [nI_succ, Int32.add_sub_cancel]
    unfold Rmends_37
    rw [e1, if_neg (nI_pos (by omega))]
    refine mends43 (R := n * 2390) m (by omega) (fun z2 u2 hz2 h2 pl2 => ?_) (C + G + 1) 0 z u h pl (fun c hc => absurd hc (by omega)) (by omega) (by omega)
    have e2 : nI n + -1 = nI n - 1 := by rw [Int32.sub_eq_add_neg]
    rw [e2]
    exact ih z2 u2 h2 (by omega) pl2 hz2
theorem mends7 (m : MC t0 C G D f) : ∀ (n j z : Nat) (u : SG), MH t0 u → (∀ c, c < j → u 70 (199 * D + c) = nI 0) → j + n = 199 → n + 8 * 2390 ≤ z → ok (Rmends_7 (Rmends_R z).1 (Rmends_R z).2.1 (Rmends_R z).2.2.1 (Rmends_R z).2.2.2 u (nI D) (nI j)) (fun w => MH t0 w ∧ ∀ k, k ≤ D → PL w (C + G) D f k) := by
  have m' := m
  obtain ⟨eC, eG, hC, hG, hD, eD, ef⟩ := m'
  intro n
  induction n with
  | zero =>
    intro j z u h row hj hz
    unfold Rmends_7
    rw [if_pos (show (199 : Int32) ≤ nI j from k_ge (m := 199) hj)]
    refine mends37 m D z u h (Nat.le_refl _) (fun k2 h1 h2 => ?_) (by omega)
    have e : k2 = D := by omega
    subst e
    exact fun c hc => ⟨0, row c (by omega), by omega, fun q => absurd q (by omega)⟩
  | succ n ih =>
    intro j z u h row hj hz
    obtain ⟨z, rfl⟩ : ∃ z', z = z' + 1 := ⟨z - 1, by omega⟩
    unfold Rmends_7
    rw [if_neg (show ¬ (199 : Int32) ≤ nI j from k_lt (m := 199) hj (by decide))]
    refine ok_be (wr_nI (e := 199 * D + j) (by show nI 199 * nI D + nI j = _; rw [nI_mulx, nI_add]) (by omega) (by decide)) ?_
    show ok (Rmends_7 (Rmends_R z).1 (Rmends_R z).2.1 (Rmends_R z).2.2.1 (Rmends_R z).2.2.2 (up u 70 (199 * D + j) 0) (nI D) (nI j + 1)) _
    rw [← nI_succ]
    refine ih (j + 1) z _ (MH_up h) (fun c hc => ?_) (by omega) (by omega)
    by_cases e : c = j
    · subst e; rw [up_a]; rfl
    · rw [up_bn (by omega)]; exact row c (by omega)
theorem mends_ok (m : MC t0 C G D f) : ok (Rmends t0) (fun w => MH t0 w ∧ ∀ k, k ≤ D → PL w (C + G) D f k) := by
  unfold Rmends
  exact ok_be m.2.2.2.2.2.1 (mends7 m 199 0 xF t0 ⟨QI_rfl, rfl⟩ (fun c hc => absurd hc (by omega)) rfl (by have := xF_ge; omega))
theorem fallsOn40 {u : SG} {y1 : Int32} {k c R : Nat} (m : MC t0 C G D f) (h : MH t0 u) (hk : k < D) (hc : c ≤ C + G) (pl : ∀ k, k ≤ D → PL u (C + G) D f k) (hcont : ∀ (z c2 : Nat) (y3 : Int32), R ≤ z → c2 ≤ C + G → ok (RfallsOn_11 (RfallsOn_R z).1 (RfallsOn_R z).2 u y1 (nI c2) y3 (nI k + 1)) (fun _ => True)) {v g : Nat} (ev : u 70 (199 * k + c) = nI v) (hv : v ≤ 72) (hg : g ≤ c) (hg1 : g ≤ f k 1) {w : Nat} (ew : u 70 (199 * (k + 1) + cAf (C + G) (f k 3) c g) = nI w) (hw : f k 1 - g + w ≤ v) : ∀ (n z : Nat), g + n ≤ c → g + n ≤ f k 1 → n + R + 1 ≤ z → ok (RfallsOn_40 (RfallsOn_R z).1 (RfallsOn_R z).2 u y1 (nI c) (nI (g + n)) (nI k)) (fun _ => True) := by
  have m' := m
  obtain ⟨eC, eG, hC, hG, hD, eD, ef⟩ := m'
  have fk := ef k (by omega)
  have f9 := fk.2.1 1 (by decide)
  have day1 : RdayOf u (nI k) 1 = some (nI (f k 1)) := by rw [MH_day h]; exact fk.2.2 1 (nI k) 1 (by decide) rfl rfl
  have r4 : rdI u 70 1791 (199 * nI k + nI c) = some (nI v) := by
    rw [rd_nI (e := 199 * k + c) (by show nI 199 * nI k + nI c = _; rw [nI_mulx, nI_add]) (by omega) (by decide), ev]
  intro n
  induction n with
  | zero =>
    intro z h1 h2 hz
    obtain ⟨z, rfl⟩ : ∃ z', z = z' + 1 := ⟨z - 1, by omega⟩
    have ca := cAf_le (S := C + G) (d := f k 3) hc (by omega : g + 0 ≤ c)
    have cl := MC_cloud m h (by omega : k < 8) (x := nI c) (y := nI (g + 0)) (z := nI k) rfl rfl rfl hc (by omega : g + 0 ≤ c)
    have r3 : rdI u 70 1791 (199 * (nI k + 1) + nI (cAf (C + G) (f k 3) c (g + 0))) = some (nI w) := by
      rw [rd_nI (e := 199 * (k + 1) + cAf (C + G) (f k 3) c (g + 0)) (by show nI 199 * (nI k + nI 1) + _ = _; rw [nI_add, nI_mulx, nI_add]) (by omega) (by decide)]
      show some (u 70 (199 * (k + 1) + cAf (C + G) (f k 3) c g)) = _
      rw [ew]
    unfold RfallsOn_40
    refine ok_be day1 (ok_be cl (ok_be r3 (ok_be r4 ?_)))
    rw [nI_subn (by omega : g + 0 ≤ f k 1), nI_add, if_pos (nI_le2 (by omega) (by omega))]
    exact ok_be cl (hcont z _ _ (by omega) ca)
  | succ n ih =>
    intro z h1 h2 hz
    obtain ⟨z, rfl⟩ : ∃ z', z = z' + 1 := ⟨z - 1, by omega⟩
    have ca := cAf_le (S := C + G) (d := f k 3) hc (by omega : g + (n + 1) ≤ c)
    have cl := MC_cloud m h (by omega : k < 8) (x := nI c) (y := nI (g + (n + 1))) (z := nI k) rfl rfl rfl hc (by omega : g + (n + 1) ≤ c)
    obtain ⟨w2, ew2, hw2, _⟩ := pl (k + 1) (by omega) _ ca
    have r3 : rdI u 70 1791 (199 * (nI k + 1) + nI (cAf (C + G) (f k 3) c (g + (n + 1)))) = some (nI w2) := by
      rw [rd_nI (e := 199 * (k + 1) + cAf (C + G) (f k 3) c (g + (n + 1))) (by show nI 199 * (nI k + nI 1) + _ = _; rw [nI_add, nI_mulx, nI_add]) (by omega) (by decide), ew2]
    unfold RfallsOn_40
    refine ok_be day1 (ok_be cl (ok_be r3 (ok_be r4 (ok_i (fun _ => ok_be cl (hcont z _ _ (by omega) ca)) (fun _ => ?_)))))
    have e2 : nI (g + (n + 1)) + -1 = nI (g + n) := by
      rw [show g + (n + 1) = (g + n) + 1 by omega, nI_succ, ← Int32.sub_eq_add_neg, Int32.add_sub_cancel]
    rw [e2]
    exact ih z (by omega) (by omega) (by omega)
theorem fallsOn11 {u : SG} {a : Nat} (m : MC t0 C G D f) (h : MH t0 u) (ha : a < D) (pl : ∀ k, k ≤ D → PL u (C + G) D f k) : ∀ (n j z c : Nat) (y3 : Int32), j + n = a + 1 → n * 20 ≤ z → c ≤ C + G → ok (RfallsOn_11 (RfallsOn_R z).1 (RfallsOn_R z).2 u (nI a) (nI c) y3 (nI j)) (fun _ => True) := by
  have m' := m
  obtain ⟨eC, eG, hC, hG, hD, eD, ef⟩ := m'
  intro n
  induction n with
  | zero =>
    intro j z c y3 hj hz hc
    unfold RfallsOn_11
    rw [if_pos (nI_lt2 (by omega) (by omega))]
    exact ok_s trivial
  | succ n ih =>
    intro j z c y3 hj hz hc
    have fk := ef j (by omega)
    have f9 := fk.2.1 1 (by decide)
    have day1 : RdayOf u (nI j) 1 = some (nI (f j 1)) := by rw [MH_day h]; exact fk.2.2 1 (nI j) 1 (by decide) rfl rfl
    obtain ⟨v, ev, hv, hw⟩ := pl j (by omega) c hc
    obtain ⟨g, g1, g2, w, ew, hgw⟩ := hw (by omega)
    clear hw
    have cont : ∀ (z c2 : Nat) (y3 : Int32), n * 20 ≤ z → c2 ≤ C + G → ok (RfallsOn_11 (RfallsOn_R z).1 (RfallsOn_R z).2 u (nI a) (nI c2) y3 (nI j + 1)) (fun _ => True) := by
      intro z c2 y3 hz2 hc2
      rw [← nI_succ]
      exact ih (j + 1) z c2 y3 (by omega) hz2 hc2
    have go : ∀ x, x = min (f j 1) c → ok (RfallsOn_40 (RfallsOn_R z).1 (RfallsOn_R z).2 u (nI a) (nI c) (nI x) (nI j)) (fun _ => True) := by
      intro x hx
      have e : x = g + (x - g) := by omega
      rw [e]
      exact fallsOn40 (R := n * 20) m h (by omega) hc pl cont ev (by omega) g1 g2 ew hgw (x - g) z (by omega) (by omega) (by omega)
    unfold RfallsOn_11
    rw [if_neg (by rw [Int32.not_lt]; exact nI_le2 (by omega) (by omega))]
    refine ok_be day1 ?_
    by_cases q : c ≤ f j 1
    · rw [if_pos (nI_le2 q (by omega))]
      exact go c (by omega)
    · rw [if_neg (nI_ge (by omega) (by omega))]
      exact ok_be day1 (go (f j 1) (by omega))
theorem fallsOn_ok {u : SG} {a : Nat} (m : MC t0 C G D f) (h : MH t0 u) (ha : a < D) (pl : ∀ k, k ≤ D → PL u (C + G) D f k) : ok (RfallsOn u (nI a)) (fun _ => True) := by
  have m' := m
  obtain ⟨eC, eG, hC, hG, hD, eD, ef⟩ := m'
  unfold RfallsOn
  exact ok_be (by rw [MH_Rof h]; exact eC) (fallsOn11 m h ha pl (a + 1) 0 xF C 0 (by omega) (by have := xF_ge; omega) (by omega))
end MENDS
theorem nature_ok {s : SG} {x y z : Int32} (r : RI s) : ok (Rnature s x y z) (fun p => QI s p.2) := by
  unfold Rnature
  refine ok_b (isRepublic_ok r) (fun p hp => ok_i (fun _ => ok_s hp.1) (fun c => ?_))
  have q : QS p.2 := (hp.2.resolve_left c).1
  have r2 := QI_RI hp.1 r
  refine ok_b (isSummer_ok r2) (fun w hw => ok_i (fun _ => ok_s (QI_tr hp.1 hw.1)) (fun c2 => ?_))
  obtain ⟨k, hk, e⟩ := hw.2.2.resolve_left c2
  have q1 := QI_tr hp.1 hw.1
  have r3 := QI_RI q1 r
  have q3 : QS w.2 := by
    unfold QS at *
    rw [hw.2.1 11 (by omega), hw.2.1 16 (by omega), hw.2.1 18 (by omega)]; exact q
  obtain ⟨D, f, hD, eD, ef⟩ := summer_n r3 hk e
  refine ok_i (fun _ => ?_) (fun _ => ?_)
  · unfold RwrongDay
    exact ok_b (wrongDay_l hk 8 0 xF w.2 r3 e rfl (by have := xF_ge; omega)) (fun v hv => ok_s (QI_tr q1 hv))
  · obtain ⟨i, hi, ei⟩ := QS_rh q3
    have rr := (r3.1.2.2 i hi).1
    obtain ⟨C, eC, hC⟩ := rr.2.1
    obtain ⟨G, eG, hG⟩ := rr.2.2.1
    have m : MC w.2 C G D f := by
      refine ⟨?_, ?_, hC, hG, hD, eD, ef⟩
      · rw [q_of (x := 3) (a := 3) (QS_RH q3) rfl (by decide)]; unfold ofN; rw [ei, eC]
      · rw [q_of (x := 4) (a := 4) (QS_RH q3) rfl (by decide)]; unfold ofN; rw [ei, eG]
    have e75 : ∀ v : Int32, (z = 1 ∨ ∃ a, z = nI (10 + a) ∧ a < D) → ok (Rnature_75 w.2 x y z v) (fun p => QI s p.2) := by
      intro v hz
      unfold Rnature_75
      refine ok_b (mends_ok m) (fun u hu => ok_i (fun _ => ?_) (fun c5 => ?_))
      · refine ok_be (by rw [MH_Rof hu.1]; exact m.1) (ok_be (rd_nI (e := C) rfl (by omega) (by decide)) (ok_s (QI_tr q1 hu.1.1)))
      · obtain ⟨a, ea, ha⟩ := hz.resolve_left c5
        have ez : z - 10 = nI a := by rw [ea]; exact nI_subl (a := 10)
        rw [ez]
        exact ok_b (fallsOn_ok m hu.1 ha hu.2) (fun _ _ => ok_s (QI_tr q1 hu.1.1))
    have e46 : ∀ v : Int32, ok (Rnature_46 w.2 x y z v) (fun p => QI s p.2) := by
      intro v
      unfold Rnature_46
      refine ok_i (fun c6 => e75 v (Or.inl c6)) (fun _ => ok_i (fun _ => ok_s q1) (fun _ => ok_be eD (ok_i (fun _ => ok_s q1) (fun c7 => e75 v (Or.inr ?_)))))
      have c8 : ¬ inI z (nI 10) (nI (9 + D)) = 0 := by
        rw [← nI_add]; exact c7
      by_cases d0 : D = 0
      · exfalso
        apply c8
        unfold inI
        subst d0
        by_cases d1 : z < nI 10
        · rw [if_pos d1]
        · rw [if_neg d1, if_pos]
          rw [Int32.lt_iff_toInt_lt, nI_toInt (by decide)]
          have := Int32.le_iff_toInt_le.mp (Int32.not_lt.mp d1)
          rw [nI_toInt (by decide)] at this
          omega
      · obtain ⟨a, ea, ha⟩ := inI_lo (a := 10) (b := 9 + D) (by omega) (by omega) c8
        exact ⟨a, ea, by omega⟩
    unfold RisHeatRight
    have eh := isHeatRight_l (f := f) hk hD eD ef D 0 xF (w.2 65 (rh w.2 + 5)) 1 (Or.inr rfl) (by omega) (by have := xF_ge; omega)
    refine ok_b (ok_be (q_of (a := 5) (QS_RH q3) rfl (by decide)) eh) (fun v _ => ?_)
    exact ok_i (fun _ => ok_i (fun _ => ok_s q1) (fun _ => e46 v)) (fun _ => e46 v)
end XRH
