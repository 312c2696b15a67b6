section
section XRC
variable {sc : Nat × (Nat → Int32)} {d : Nat} {K : List KD} {r q t a B m : Nat} {w : EW}
/-! the reference by itself: what its functions answer -/
theorem oV_inj {o : Option Int32} {v : Int32} {w : EW} (h : oV o w = some (some (.inl v), w)) : o = some v := by
  cases o with
  | none => cases h
  | some x =>
    have e : (some (some (.inl x), w) : XR) = some (some (.inl v), w) := h
    simp only [Option.some.injEq, Prod.mk.injEq, Sum.inl.injEq, and_true] at e
    rw [e]
def KZ : List KD := KB (fun _ => none)
theorem h0 : SH KZ := ⟨fun _ => none, [], (List.append_nil _).symm⟩
def sc0 : Nat × (Nat → Int32) := (0, fun _ => 0)
theorem q_of {s : SG} {x : Int32} {a : Nat} (hr : RH s) (hx : x = nI a) (ha : a < 5000) : Rof s x = some (ofN s a) := oV_inj ((r_of (sc := sc0) (d := 0) h0).symm.trans (e_of (sc := sc0) (d := 0) h0 hr hx ha))
theorem q_ministers {s : SG} (hr : RH s) : Rministers s  = some (ofN s 0) := oV_inj ((r_ministers (sc := sc0) (d := 0) h0).symm.trans (e_ministers (sc := sc0) (d := 0) h0 hr))
theorem q_isMinister {s : SG} {m : Int32} (hr : RH s) : RisMinister s m = some (mnN s m) := oV_inj ((r_isMinister (sc := sc0) (d := 0) h0).symm.trans (e_isMinister (sc := sc0) (d := 0) h0 hr))
theorem q_ofMinister {s : SG} {x y : Int32} {m a : Nat} (hr : RH s) (hx : x = nI m) (hy : y = nI a) (hm : m < 6) (ha : a < 18) : RofMinister s x y = some (ofN s (10 + 18 * m + a)) := oV_inj ((r_ofMinister (sc := sc0) (d := 0) h0).symm.trans (e_ofMinister (sc := sc0) (d := 0) h0 hr hx hy hm ha))
theorem q_wants {s : SG} {x y z : Int32} {m a b : Nat} (hr : RH s) (hx : x = nI m) (hy : y = nI a) (hz : z = nI b) (hm : m < 6) (ha : a < 4) (hb : b < 3) : Rwants s x y z = some (ofN s (16 + 18 * m + 3 * a + b)) := oV_inj ((r_wants (sc := sc0) (d := 0) h0).symm.trans (e_wants (sc := sc0) (d := 0) h0 hr hx hy hz hm ha hb))
theorem q_offOf {s : SG} {x : Int32} {m : Nat} (hr : RH s) (hs : SE s) (hx : x = nI m) (hm : m < 6) : RoffOf s x = some (ofoN s m) := oV_inj ((r_offOf (sc := sc0) (d := 0) h0).symm.trans (e_offOf (sc := sc0) (d := 0) h0 hr hs hx hm))
theorem q_yields {s : SG} {x : Int32} {m : Nat} (hr : RH s) (hx : x = nI m) (hm : m < 6) : Ryields s x = some (yieN s m) := oV_inj ((r_yields (sc := sc0) (d := 0) h0).symm.trans (e_yields (sc := sc0) (d := 0) h0 hr hx hm))
theorem q_agrees {s : SG} {x : Int32} {m : Nat} (hr : RH s) (hs : SE s) (hx : x = nI m) (hm : m < 6) : Ragrees s x = some (agsN s m) := oV_inj ((r_agrees (sc := sc0) (d := 0) h0).symm.trans (e_agrees (sc := sc0) (d := 0) h0 hr hs hx hm))
theorem q_agreeing {s : SG} (hr : RH s) (hs : SE s) (hz : MZ s) : Ragreeing s  = some (agmT s) := oV_inj ((r_agreeing (sc := sc0) (d := 0) h0).symm.trans (e_agreeing (sc := sc0) (d := 0) h0 hr hs hz))
theorem q_votesOf {s : SG} {x : Int32} (hr : RH s) (hz : MZ s) : RvotesOf s x = some (vomT s x) := oV_inj ((r_votesOf (sc := sc0) (d := 0) h0).symm.trans (e_votesOf (sc := sc0) (d := 0) h0 hr hz))
theorem q_vetoes {s : SG} (hr : RH s) (hz : MZ s) : Rvetoes s  = some (vetT s) := oV_inj ((r_vetoes (sc := sc0) (d := 0) h0).symm.trans (e_vetoes (sc := sc0) (d := 0) h0 hr hz))
theorem q_isPassed {s : SG} {a : Int32} (hr : RH s) (hz : MZ s) : RisPassed s a = some (pasN s a) := oV_inj ((r_isPassed (sc := sc0) (d := 0) h0).symm.trans (e_isPassed (sc := sc0) (d := 0) h0 hr hz))
theorem q_isOf {s : SG} {x k : Int32} {a : Nat} (hx : x = nI a) (ha : a < 6) : RisOf s x k = some (iofN s a k) := oV_inj ((r_isOf (sc := sc0) (d := 0) h0).symm.trans (e_isOf (sc := sc0) (d := 0) h0 hx ha))
/-- an answer is there, and P holds of it -/
def ok {α : Type} (o : Option α) (P : α → Prop) : Prop := ∃ a, o = some a ∧ P a
theorem ok_b {α β : Type} {o : Option α} {f : α → Option β} {Q : α → Prop} {P : β → Prop} (h : ok o Q) (k : ∀ a, Q a → ok (f a) P) : ok (o.bind f) P := by
  obtain ⟨a, e, q⟩ := h
  rw [e]; exact k a q
theorem ok_be {α β : Type} {o : Option α} {f : α → Option β} {a : α} {P : β → Prop} (h : o = some a) (k : ok (f a) P) : ok (o.bind f) P := by
  rw [h]; exact k
theorem ok_s {α : Type} {a : α} {P : α → Prop} (h : P a) : ok (some a) P := ⟨a, rfl, h⟩
theorem ok_i {α : Type} {c : Prop} [Decidable c] {a b : Option α} {P : α → Prop} (h1 : c → ok a P) (h2 : ¬ c → ok b P) : ok (if c then a else b) P := by
  split
  · exact h1 ‹_›
  · exact h2 ‹_›
theorem ok_w {α : Type} {o : Option α} {Q P : α → Prop} (h : ok o Q) (k : ∀ a, Q a → P a) : ok o P := by
  obtain ⟨a, e, q⟩ := h
  exact ⟨a, e, k a q⟩
theorem rd_nI {s : SG} {k n e : Nat} {x : Int32} (hx : x = nI e) (he : e < n) (hn : n < 2 ^ 31) : rdI s k n x = some (s k e) := by
  unfold rdI
  rw [hx, xvb_nI he hn, nI_clamp (by omega)]; rfl
theorem wr_nI {s : SG} {k n e : Nat} {x v : Int32} (hx : x = nI e) (he : e < n) (hn : n < 2 ^ 31) : wrI s k n x v = some (up s k e v) := by
  unfold wrI
  rw [hx, xvb_nI he hn, nI_clamp (by omega)]; rfl
/-- one of 0 .. n -/
def NB (x : Int32) (n : Nat) : Prop := ∃ a, x = nI a ∧ a ≤ n
theorem NB_nI {a n : Nat} (h : a ≤ n) : NB (nI a) n := ⟨a, rfl, h⟩
theorem NB_mono {x : Int32} {m n : Nat} (h : NB x m) (hmn : m ≤ n) : NB x n := by
  obtain ⟨a, e, h⟩ := h
  exact ⟨a, e, by omega⟩
theorem inI_nI {x : Int32} {b : Nat} (hb : b < 2 ^ 31) (h : ¬ inI x 0 (nI b) = 0) : NB x b := by
  unfold inI at h
  by_cases c1 : x < 0
  · rw [if_pos c1] at h; exact absurd rfl h
  · rw [if_neg c1] at h
    by_cases c2 : nI b < x
    · rw [if_pos c2] at h; exact absurd rfl h
    · have e := Int32.ofNat_toNatClampNeg x (Int32.not_lt.mp c1)
      have e2 := Int32.cast_toNatClampNeg x (Int32.not_lt.mp c1)
      refine ⟨x.toNatClampNeg, e.symm, ?_⟩
      rw [Int32.not_lt, Int32.le_iff_toInt_le, nI_toInt hb] at c2
      omega
theorem inI_sub {x : Int32} {n : Nat} (hn : n < 2 ^ 31) (h : ¬ inI x 0 (nI n - 1) = 0) : ∃ j, x = nI j ∧ j < n := by
  cases n with
  | zero =>
    exfalso; apply h
    unfold inI
    by_cases c1 : x < 0
    · rw [if_pos c1]
    · rw [if_neg c1, if_pos]
      have : nI 0 - 1 = (-1 : Int32) := by decide
      rw [this]
      rw [Int32.lt_iff_toInt_lt]
      have := Int32.le_iff_toInt_le.mp (Int32.not_lt.mp c1)
      have z : (0 : Int32).toInt = 0 := by decide
      have z2 : (-1 : Int32).toInt = -1 := by decide
      omega
  | succ n =>
    have e : nI (n + 1) - 1 = nI n := by rw [nI_succ, Int32.add_sub_cancel]
    rw [e] at h
    obtain ⟨a, ea, ha⟩ := inI_nI (by omega) h
    exact ⟨a, ea, by omega⟩
theorem b63 {z : Int32} (h : z &&& 63 = z) : NB z 63 := by
  have e : (z &&& 63).toBitVec.toNat = z.toBitVec.toNat := by rw [h]
  rw [Int32.toBitVec_and, BitVec.toNat_and] at e
  have e3 : (63 : Int32).toBitVec.toNat = 63 := by decide
  rw [e3] at e
  have hl : z.toBitVec.toNat ≤ 63 := by rw [← e]; exact Nat.and_le_right
  refine ⟨z.toBitVec.toNat, ?_, hl⟩
  apply Int32.toInt_inj.mp
  rw [nI_toInt (by omega)]
  show z.toBitVec.toInt = _
  rw [BitVec.toInt_eq_toNat_of_lt (by omega)]
theorem b63' {z : Int32} (h : NB z 63) : z &&& 63 = z := by
  obtain ⟨a, e, ha⟩ := h
  subst e
  have all : ∀ a, a < 64 → nI a &&& 63 = nI a := by decide
  exact all a (by omega)
theorem NB_and {x y : Int32} (h : NB x 63) : NB (x &&& y) 63 := by
  refine b63 ?_
  have e := b63' h
  rw [Int32.and_assoc, Int32.and_comm y, ← Int32.and_assoc, e]
theorem NB_or {x y : Int32} (h : NB x 63) (h2 : NB y 63) : NB (x ||| y) 63 := by
  refine b63 ?_
  have e := b63' h
  have e2 := b63' h2
  apply Int32.toBitVec_inj.mp
  have f := congrArg Int32.toBitVec e
  have f2 := congrArg Int32.toBitVec e2
  rw [Int32.toBitVec_and] at f f2
  rw [Int32.toBitVec_and, Int32.toBitVec_or]
  apply BitVec.eq_of_getLsbD_eq
  intro i hi
  have g := congrArg (fun v => BitVec.getLsbD v i) f
  have g2 := congrArg (fun v => BitVec.getLsbD v i) f2
  simp only [BitVec.getLsbD_and] at g g2
  simp only [BitVec.getLsbD_and, BitVec.getLsbD_or]
  cases hx : x.toBitVec.getLsbD i <;> cases hy : y.toBitVec.getLsbD i <;> rw [hx] at g <;> rw [hy] at g2 <;> simp_all
theorem NB_bit {m : Nat} (h : m < 6) : NB ((1 : Int32) <<< (nI m &&& 31)) 63 := by
  have all : ∀ m, m < 6 → (1 : Int32) <<< (nI m &&& 31) = nI (2 ^ m) ∧ 2 ^ m ≤ 63 := by decide
  exact ⟨2 ^ m, (all m h).1, (all m h).2⟩
theorem NB_all {m : Nat} (h : m ≤ 6) : NB ((1 : Int32) <<< (nI m &&& 31) - 1) 63 := by
  have all : ∀ m, m < 7 → (1 : Int32) <<< (nI m &&& 31) - 1 = nI (2 ^ m - 1) ∧ 2 ^ m - 1 ≤ 63 := by decide
  exact ⟨2 ^ m - 1, (all m (by omega)).1, (all m (by omega)).2⟩
/-! what is told, as numbers -/
def RR (f : Nat → Int32) (r : Nat) : Prop := NB (f r) 6 ∧ NB (f (r + 3)) 99 ∧ NB (f (r + 4)) 99 ∧ ∀ m i, m < 6 → i < 12 → NB (f (r + 16 + 18 * m + i)) 9
def RYd (f : Nat → Int32) (y : Nat) : Prop := NB (f y) 40 ∧ ∀ j, j < 40 → (f (y + 1 + 5 * j) = 1 → NB (f (y + 1 + 5 * j + 1)) 3) ∧ (f (y + 1 + 5 * j) = 2 → NB (f (y + 1 + 5 * j + 1)) 2)
def RSu (f : Nat → Int32) (z : Nat) : Prop := NB (f z) 8 ∧ ∀ j, j < 8 → NB (f (z + 1 + 4 * j)) 3 ∧ NB (f (z + 1 + 4 * j + 1)) 9 ∧ NB (f (z + 1 + 4 * j + 2)) 9 ∧ NB (f (z + 1 + 4 * j + 3)) 9
def RB0 (f : Nat → Int32) : Prop := (∀ i, i < 6 → NB (f i) 2) ∧ NB (f 6) 600 ∧ (∀ k, k < 2 → RR f (610 + 118 * k) ∧ NB (f (846 + 41 * k)) 8 ∧ RYd f (928 + 201 * k) ∧ NB (f (1330 + 17 * k)) 8 ∧ RSu f (1364 + 33 * k))
/-- all that is told, and the images' -/
def RI (s : SG) : Prop := RB0 (s 65) ∧ ∀ k, k < 3 → RB0 (fun j => s 65 (1442 * (k + 1) + j))
/-- off the cells of what a query counts with, nothing has changed -/
def QI (s t : SG) : Prop := t 65 = s 65 ∧ t 66 = s 66 ∧ ∀ c, (c < 64 ∨ 72 ≤ c) → t c = s c
def PT (s t : SG) : Prop := t 64 11 = s 64 11 ∧ t 64 17 = s 64 17 ∧ t 64 29 = s 64 29 ∧ t 64 30 = s 64 30 ∧ t 64 33 = s 64 33
theorem QI_rfl {s : SG} : QI s s := ⟨rfl, rfl, fun _ _ => rfl⟩
theorem QI_tr {s t u : SG} (h : QI s t) (g : QI t u) : QI s u := ⟨g.1.trans h.1, g.2.1.trans h.2.1, fun c hc => (g.2.2 c hc).trans (h.2.2 c hc)⟩
theorem QI_up {s t : SG} {k j : Nat} {x : Int32} (h : QI s t) (hk : k = 64 ∨ 67 ≤ k) (hk2 : k < 72) : QI s (up t k j x) := QI_tr h ⟨up_n (by omega), up_n (by omega), fun c hc => up_n (by omega)⟩
theorem QI_RI {s t : SG} (h : QI s t) (r : RI s) : RI t := by
  unfold RI at *
  rw [h.1]; exact r
theorem PT_rfl {s : SG} : PT s s := ⟨rfl, rfl, rfl, rfl, rfl⟩
theorem PT_tr {s t u : SG} (h : PT s t) (g : PT t u) : PT s u := ⟨g.1.trans h.1, g.2.1.trans h.2.1, g.2.2.1.trans h.2.2.1, g.2.2.2.1.trans h.2.2.2.1, g.2.2.2.2.trans h.2.2.2.2⟩
theorem PT_up {s t : SG} {k j : Nat} {x : Int32} (h : PT s t) (hj : k ≠ 64 ∨ (j ≠ 11 ∧ j ≠ 17 ∧ j ≠ 29 ∧ j ≠ 30 ∧ j ≠ 33)) : PT s (up t k j x) := by
  refine PT_tr h ?_
  rcases hj with q | ⟨a, b, c, e, f⟩
  · refine ⟨?_, ?_, ?_, ?_, ?_⟩ <;> rw [up_n (fun e => q e.symm)]
  · by_cases q : k = 64
    · subst q; exact ⟨up_bn (fun e => a e.symm), up_bn (fun e => b e.symm), up_bn (fun e => c e.symm), up_bn (fun g => e g.symm), up_bn (fun e => f e.symm)⟩
    · refine ⟨?_, ?_, ?_, ?_, ?_⟩ <;> rw [up_n (fun e => q e.symm)]
/-- a republic is looked at -/
def QS (t : SG) : Prop := (∃ k, k < 2 ∧ t 64 11 = nI (610 + 118 * k)) ∧ NB (t 64 16) 3 ∧ NB (t 64 18) 63
theorem QS_RH {t : SG} (h : QS t) : RH t := by
  obtain ⟨⟨k, hk, e⟩, _⟩ := h
  have : rh t = 610 + 118 * k := by unfold rh; rw [e, nI_clamp (by omega)]
  exact ⟨by rw [this]; exact e, by omega⟩
theorem QS_rh {t : SG} (h : QS t) : ∃ k, k < 2 ∧ rh t = 610 + 118 * k := by
  obtain ⟨⟨k, hk, e⟩, _⟩ := h
  exact ⟨k, hk, by unfold rh; rw [e, nI_clamp (by omega)]⟩
theorem QS_MZ {t : SG} (r : RI t) (h : QS t) : MZ t := by
  obtain ⟨k, hk, e⟩ := QS_rh h
  obtain ⟨a, ea, ha⟩ := (r.1.2.2 k hk).1.1
  have e1 : ofN t 0 = nI a := by unfold ofN; rw [e]; exact ea
  have e2 : msz t = a := by unfold msz; rw [e1, nI_clamp (by omega)]
  exact ⟨by rw [e2]; exact e1, by omega⟩
theorem QS_SE {t : SG} (h : QS t) : SE t := by
  obtain ⟨_, ⟨a, e, ha⟩, _⟩ := h
  have e2 : seN t = a := by unfold seN; rw [e, nI_clamp (by omega)]
  exact ⟨by rw [e2]; exact e, by omega⟩
end XRC
end
section
section XRD
variable {sc : Nat × (Nat → Int32)} {d : Nat} {K : List KD} {r q t a B m : Nat} {w : EW}
/-! the reference: a republic is looked at; motions, orders, years -/
theorem isOf_k {s : SG} {a : Nat} {k : Int32} (r : RI s) (ha : a < 6) (h : ¬ iofN s a k = 0) : ∃ j, k = nI j ∧ j < 2 := by
  obtain ⟨c, e, hc⟩ := r.1.1 a ha
  unfold iofN at h
  rw [e] at h
  obtain ⟨j, e2, hj⟩ := inI_sub (by omega) h
  exact ⟨j, e2, by omega⟩
theorem RH_of {s t : SG} (e : t 64 11 = s 64 11) (h : RH s) : RH t := by
  unfold RH rh at *
  rw [e]; exact h
theorem place0 {j : Nat} : RplaceOf 0 (nI j) = nI (610 + 118 * j) := by
  show (nI 610 + nI 118 * nI j) = _
  rw [nI_mulx, nI_add]
theorem place1 {j : Nat} : RplaceOf 1 (nI j) = nI (846 + 41 * j) := by
  show (nI 846 + nI 41 * nI j) = _
  rw [nI_mulx, nI_add]
theorem place2 {j : Nat} : RplaceOf 2 (nI j) = nI (928 + 201 * j) := by
  show (nI 928 + nI 201 * nI j) = _
  rw [nI_mulx, nI_add]
theorem place3 {j : Nat} : RplaceOf 3 (nI j) = nI (1330 + 17 * j) := by
  show (nI 1330 + nI 17 * nI j) = _
  rw [nI_mulx, nI_add]
theorem place4 {j : Nat} : RplaceOf 4 (nI j) = nI (1364 + 33 * j) := by
  show (nI 1364 + nI 33 * nI j) = _
  rw [nI_mulx, nI_add]
theorem place5 {j : Nat} : RplaceOf 5 (nI j) = nI (1430 + 6 * j) := by
  show (nI 1430 + nI 6 * nI j) = _
  rw [nI_mulx, nI_add]
theorem begins98 : ∀ (n j k : Nat) (t : SG), j + n = 6 → n ≤ k → ok (Rbegins_98 (Rbegins_R k).1 (Rbegins_R k).2 t (nI j)) (fun u => QI t u ∧ u 64 = t 64) := by
  intro n
  induction n with
  | zero =>
    intro j k t hj hk
    unfold Rbegins_98
    rw [if_pos (show (6 : Int32) ≤ nI j from k_ge (m := 6) hj)]
    exact ok_s ⟨QI_rfl, rfl⟩
  | succ n ih =>
    intro j k t hj hk
    obtain ⟨k, rfl⟩ : ∃ k', k = k' + 1 := ⟨k - 1, by omega⟩
    unfold Rbegins_98
    rw [if_neg (show ¬ (6 : Int32) ≤ nI j from k_lt (m := 6) hj (by decide))]
    refine ok_be (wr_nI (e := j) rfl (by omega) (by decide)) ?_
    show ok (Rbegins_98 (Rbegins_R k).1 (Rbegins_R k).2 (up t 69 j 0) (nI j + 1)) _
    rw [← nI_succ]
    exact ok_w (ih (j + 1) k _ (by omega) (by omega)) fun u hu => ⟨QI_tr (QI_up QI_rfl (by omega) (by omega)) hu.1, hu.2.trans (up_n (by omega))⟩
theorem begins71 : ∀ (n j k : Nat) (t : SG), RH t → j + n = 3 → n + 6 ≤ k → ok (Rbegins_71 (Rbegins_R k).1 (Rbegins_R k).2 t (nI j)) (fun u => QI t u ∧ u 64 = t 64) := by
  intro n
  induction n with
  | zero =>
    intro j k t hr hj hk
    unfold Rbegins_71
    rw [if_pos (show (3 : Int32) ≤ nI j from k_ge (m := 3) hj)]
    exact begins98 6 0 k t rfl (by omega)
  | succ n ih =>
    intro j k t hr hj hk
    obtain ⟨k, rfl⟩ : ∃ k', k = k' + 1 := ⟨k - 1, by omega⟩
    unfold Rbegins_71
    rw [if_neg (show ¬ (3 : Int32) ≤ nI j from k_lt (m := 3) hj (by decide))]
    refine ok_be (q_of (a := 6 + j) hr (by show nI 6 + nI j = _; rw [nI_add]) (by omega)) ?_
    refine ok_be (wr_nI (e := j) rfl (by omega) (by decide)) ?_
    show ok (Rbegins_71 (Rbegins_R k).1 (Rbegins_R k).2 (up t 68 j _) (nI j + 1)) _
    rw [← nI_succ]
    exact ok_w (ih (j + 1) k _ (RH_of (by rw [up_n (by omega)]) hr) (by omega) (by omega)) fun u hu => ⟨QI_tr (QI_up QI_rfl (by omega) (by omega)) hu.1, hu.2.trans (up_n (by omega))⟩
theorem begins_ok {s : SG} (r : RI s) (h : ∃ k, k < 2 ∧ s 64 11 = nI (610 + 118 * k)) : ok (Rbegins s) (fun t => QI s t ∧ QS t ∧ t 64 26 = 0 ∧ t 64 11 = s 64 11) := by
  have hF := xF_ge
  have hr : RH s := by
    obtain ⟨k, hk, e⟩ := h
    have : rh s = 610 + 118 * k := by unfold rh; rw [e, nI_clamp (by omega)]
    exact ⟨by rw [this]; exact e, by omega⟩
  have hm : ∃ a, ofN s 0 = nI a ∧ a ≤ 6 := by
    obtain ⟨k, hk, e⟩ := h
    have : rh s = 610 + 118 * k := by unfold rh; rw [e, nI_clamp (by omega)]
    unfold ofN; rw [this]
    exact (r.1.2.2 k hk).1.1
  unfold Rbegins
  refine ok_be (q_ministers hr) ?_
  refine ok_be (q_of (a := 3) (RH_of (by simp (decide := true) only [up_b]) hr) rfl (by decide)) ?_
  refine ok_be (q_of (a := 4) (RH_of (by simp (decide := true) only [up_b]) hr) rfl (by decide)) ?_
  refine ok_be (q_of (a := 5) (RH_of (by simp (decide := true) only [up_b]) hr) rfl (by decide)) ?_
  refine ok_w (begins71 3 0 xF _ (RH_of (by simp (decide := true) only [up_b]) hr) rfl (by omega)) ?_
  intro u hu
  obtain ⟨h1, h2⟩ := hu
  refine ⟨QI_tr ?_ h1, ⟨?_, ?_, ?_⟩, ?_, ?_⟩
  · refine ⟨?_, ?_, ?_⟩
    · simp (decide := true) only [up_c]
    · simp (decide := true) only [up_c]
    · intro c hc
      simp (disch := omega) only [up_n]
  · rw [h2]
    simp (decide := true) only [up_b]
    exact h
  · rw [h2]
    simp (decide := true) only [up_b, up_a]
    exact ⟨0, rfl, by omega⟩
  · rw [h2]
    simp (decide := true) only [up_b, up_a]
    obtain ⟨a, e, ha⟩ := hm
    rw [e]
    exact NB_all ha
  · rw [h2]
    simp (decide := true) only [up_b, up_a]
  · rw [h2]
    simp (decide := true) only [up_b]
theorem isRepublic_ok {s : SG} {x : Int32} (r : RI s) : ok (RisRepublic s x) (fun p => QI s p.2 ∧ (p.1 = 0 ∨ QS p.2 ∧ p.2 64 26 = 0)) := by
  unfold RisRepublic
  refine ok_be (q_isOf rfl (by decide)) ?_
  refine ok_i (fun _ => ok_s ⟨QI_rfl, Or.inl rfl⟩) (fun c => ?_)
  obtain ⟨j, e, hj⟩ := isOf_k r (by decide) c
  have q1 : QI s (up s 64 11 (RplaceOf 0 x)) := QI_up QI_rfl (by omega) (by omega)
  refine ok_b (begins_ok (QI_RI q1 r) ⟨j, hj, by rw [up_a, e, place0]⟩) (fun t ht => ?_)
  exact ok_s ⟨QI_tr q1 ht.1, Or.inr ⟨ht.2.1, ht.2.2.1⟩⟩
theorem republic_ok {s : SG} {x y : Int32} (r : RI s) : ok (Rrepublic s x y) (fun p => QI s p.2) := by
  unfold Rrepublic
  refine ok_b (isRepublic_ok r) (fun p hp => ?_)
  refine ok_i (fun _ => ok_s hp.1) (fun c => ?_)
  have hq : QS p.2 := (hp.2.resolve_left c).1
  refine ok_i (fun _ => ok_i (fun _ => ok_s hp.1) (fun c2 => ?_)) (fun c2 => ?_)
  · have e : ∃ a, 6 + y - 10 = nI a ∧ a < 5000 := by
      unfold inI at c2
      by_cases d1 : y < 10
      · rw [if_pos d1] at c2; exact absurd rfl c2
      · rw [if_neg d1] at c2
        by_cases d2 : 12 < y
        · rw [if_pos d2] at c2; exact absurd rfl c2
        · have y1 := Int32.le_iff_toInt_le.mp (Int32.not_lt.mp d1)
          have y2 := Int32.le_iff_toInt_le.mp (Int32.not_lt.mp d2)
          have z1 : (10 : Int32).toInt = 10 := by decide
          have z2 : (12 : Int32).toInt = 12 := by decide
          rw [z1] at y1
          rw [z2] at y2
          have e1 : y = nI y.toInt.toNat := by
            apply Int32.toInt_inj.mp
            rw [nI_toInt (by omega)]; omega
          have e2 : y.toInt.toNat = 10 ∨ y.toInt.toNat = 11 ∨ y.toInt.toNat = 12 := by omega
          rcases e2 with g | g | g <;> rw [g] at e1 <;> rw [e1]
          · exact ⟨6, by decide, by omega⟩
          · exact ⟨7, by decide, by omega⟩
          · exact ⟨8, by decide, by omega⟩
    obtain ⟨a, e, ha⟩ := e
    exact ok_be (q_of (QS_RH hq) e ha) (ok_s hp.1)
  · obtain ⟨a, e, ha⟩ := inI_nI (b := 5) (by decide) c2
    exact ok_be (q_of (QS_RH hq) e (by omega)) (ok_s hp.1)
theorem inI_lo {y : Int32} {a b : Nat} (hb : b < 2 ^ 31) (hab : a ≤ b) (h : ¬ inI y (nI a) (nI b) = 0) : ∃ c, y = nI (a + c) ∧ a + c ≤ b := by
  unfold inI at h
  by_cases d1 : y < nI a
  · rw [if_pos d1] at h; exact absurd rfl h
  · rw [if_neg d1] at h
    by_cases d2 : nI b < y
    · rw [if_pos d2] at h; exact absurd rfl h
    · have y1 := Int32.le_iff_toInt_le.mp (Int32.not_lt.mp d1)
      have y2 := Int32.le_iff_toInt_le.mp (Int32.not_lt.mp d2)
      rw [nI_toInt (by omega)] at y1
      rw [nI_toInt (by omega)] at y2
      refine ⟨y.toInt.toNat - a, ?_, by omega⟩
      apply Int32.toInt_inj.mp
      rw [nI_toInt (by omega)]; omega
theorem nI_subl {a c : Nat} : nI (a + c) - nI a = nI c := by
  rw [Nat.add_comm, ← nI_add, Int32.add_sub_cancel]
theorem mn_k {t : SG} {m : Int32} (r : RI t) (q : QS t) (h : ¬ mnN t m = 0) : ∃ j, m = nI j ∧ j < msz t ∧ j < 6 := by
  obtain ⟨e, h6⟩ := QS_MZ r q
  unfold mnN at h
  rw [e] at h
  obtain ⟨j, ej, hj⟩ := inI_sub (by omega) h
  exact ⟨j, ej, hj, by omega⟩
theorem minister_ok {s : SG} {x y z : Int32} (r : RI s) : ok (Rminister s x y z) (fun p => QI s p.2) := by
  unfold Rminister
  refine ok_b (isRepublic_ok r) (fun p hp => ?_)
  refine ok_i (fun _ => ok_s hp.1) (fun c => ?_)
  have hq : QS p.2 := (hp.2.resolve_left c).1
  have r2 := QI_RI hp.1 r
  refine ok_be (q_isMinister (QS_RH hq)) ?_
  refine ok_i (fun _ => ok_s hp.1) (fun c2 => ?_)
  obtain ⟨j, e, hj, hj6⟩ := mn_k r2 hq c2
  refine ok_i (fun _ => ok_i (fun _ => ok_s hp.1) (fun c3 => ?_)) (fun c3 => ?_)
  · obtain ⟨a, ea, ha⟩ := inI_lo (a := 10) (b := 21) (by decide) (by decide) c3
    refine ok_be (q_ofMinister (a := 6 + a) (QS_RH hq) e ?_ hj6 (by omega)) (ok_s hp.1)
    rw [ea]
    show nI 6 + nI (10 + a) - nI 10 = _
    rw [nI_add, show 6 + (10 + a) = 10 + (6 + a) by omega, nI_subl]
  · obtain ⟨a, ea, ha⟩ := inI_nI (b := 5) (by decide) c3
    exact ok_be (q_ofMinister (QS_RH hq) e ea hj6 (by omega)) (ok_s hp.1)
/-- fields that talking of a day, and a day, leave -/
def KJ (j : Nat) : Prop := j < 12 ∨ (15 ≤ j ∧ j < 20) ∨ 26 ≤ j
def KQ (t u : SG) : Prop := QI t u ∧ ∀ j, KJ j → u 64 j = t 64 j
theorem KQ_rfl {t : SG} : KQ t t := ⟨QI_rfl, fun _ _ => rfl⟩
theorem KQ_tr {s t u : SG} (h : KQ s t) (g : KQ t u) : KQ s u := ⟨QI_tr h.1 g.1, fun j hj => (g.2 j hj).trans (h.2 j hj)⟩
theorem KQ_up {s t : SG} {j : Nat} {x : Int32} (h : KQ s t) (hj : ¬ KJ j) : KQ s (up t 64 j x) := ⟨QI_up h.1 (by omega) (by omega), fun i hi => by
  have ne : i ≠ j := fun e => hj (by rw [← e]; exact hi)
  rw [up_bn ne]; exact h.2 i hi⟩
theorem KQ_QS {t u : SG} (h : KQ t u) (q : QS t) : QS u := by
  unfold QS at *
  rw [h.2 11 (by unfold KJ; omega), h.2 16 (by unfold KJ; omega), h.2 18 (by unfold KJ; omega)]
  exact q
theorem talks_KQ {t : SG} {x : Int32} : KQ t (RtalksOf t x) := by
  unfold RtalksOf
  exact KQ_up (KQ_up (KQ_up KQ_rfl (by unfold KJ; omega)) (by unfold KJ; omega)) (by unfold KJ; omega)
theorem goes_KQ {t : SG} : KQ t (Rgoes t) := by
  unfold Rgoes Rgoes_48
  split <;> repeat (first | exact KQ_rfl | refine KQ_up ?_ (by unfold KJ; omega))
theorem comm_KQ {t : SG} : KQ t (Rcommittee t) := by
  unfold Rcommittee Rcommittee_14
  split <;> exact KQ_up (KQ_tr talks_KQ goes_KQ) (by unfold KJ; omega)
/-- where a query's rows lie -/
def OK1 (t : SG) : Prop := ∃ k, k < 2 ∧ t 64 17 = nI (846 + 41 * k)
def OK2 (t : SG) : Prop := ∃ k, k < 2 ∧ t 64 29 = nI (928 + 201 * k)
theorem areOrders_ok {t : SG} {x : Int32} (r : RI t) : ok (RareOrders t x) (fun p => QI t p.2 ∧ (∀ j, j ≠ 17 → p.2 64 j = t 64 j) ∧ (p.1 = 0 ∨ OK1 p.2)) := by
  unfold RareOrders
  refine ok_be (q_isOf rfl (by decide)) ?_
  refine ok_i (fun _ => ok_s ⟨QI_rfl, fun _ _ => rfl, Or.inl rfl⟩) (fun c => ?_)
  obtain ⟨j, e, hj⟩ := isOf_k r (by decide) c
  refine ok_s ⟨QI_up QI_rfl (by omega) (by omega), fun i hi => by
    show up t 64 17 (RplaceOf 1 x) 64 i = _
    exact up_bn hi, Or.inr ⟨j, hj, ?_⟩⟩
  show up t 64 17 (RplaceOf 1 x) 64 17 = _
  rw [up_a, e, place1]
theorem orderOf_eq {t : SG} {x y : Int32} {k j a : Nat} (e : t 64 17 = nI (846 + 41 * k)) (hk : k < 2) (ex : x = nI j) (ey : y = nI a) (hj : j ≤ 40) (ha : a < 6) : RorderOf t x y = some (t 65 (846 + 41 * k + 1 + 5 * j + a)) := by
  unfold RorderOf
  have e2 : t 64 17 + 1 + 5 * x + y = nI (846 + 41 * k + 1 + 5 * j + a) := by
    rw [e, ex, ey]
    show nI _ + nI 1 + nI 5 * nI j + nI a = _
    rw [nI_mulx, nI_add, nI_add, nI_add]
  rw [rd_nI e2 (by omega) (by decide)]; rfl
theorem order_ok {s : SG} {x y z : Int32} (r : RI s) : ok (Rorder s x y z) (fun p => QI s p.2) := by
  unfold Rorder
  refine ok_b (areOrders_ok r) (fun p hp => ?_)
  refine ok_i (fun _ => ok_s hp.1) (fun c => ?_)
  obtain ⟨k, hk, e⟩ := hp.2.2.resolve_left c
  have r2 := QI_RI hp.1 r
  obtain ⟨n, en, hn⟩ := (r2.1.2.2 k hk).2.1
  have rd : rdI p.2 65 5768 (p.2 64 17) = some (nI n) := by rw [rd_nI e (by omega) (by decide), en]
  refine ok_i (fun _ => ok_i (fun _ => ok_be rd (ok_s hp.1)) (fun _ => ok_s hp.1)) (fun _ => ?_)
  refine ok_be rd ?_
  refine ok_i (fun _ => ok_s hp.1) (fun c2 => ?_)
  obtain ⟨j, ej, hj⟩ := inI_sub (by omega) c2
  refine ok_i (fun _ => ok_s hp.1) (fun c3 => ?_)
  obtain ⟨a, ea, ha⟩ := inI_nI (b := 4) (by decide) c3
  exact ok_be (orderOf_eq e hk ej ea (by omega) (by omega)) (ok_s hp.1)
theorem isBroken_ok {t : SG} {x y : Int32} {k j : Nat} (e : t 64 17 = nI (846 + 41 * k)) (hk : k < 2) (ex : x = nI j) (hj : j ≤ 40) : ok (RisBroken t x y) (fun _ => True) := by
  have o := fun (z : Int32) (a : Nat) (ez : z = nI a) (ha : a < 6) => orderOf_eq e hk ex ez hj ha
  unfold RisBroken RisBroken_21
  refine ok_be (o 1 1 rfl (by decide)) (ok_be (o 2 2 rfl (by decide)) (ok_be (o 0 0 rfl (by decide)) ?_))
  have t3 := o 3 3 rfl (by decide)
  have t4 := o 4 4 rfl (by decide)
  rw [t3, t4]
  simp only [bd2]
  repeat' (first | exact ok_s trivial | refine ok_i (fun _ => ?_) (fun _ => ?_))
theorem firstBroken_l {t : SG} {y : Int32} {k : Nat} (r : RI t) (e : t 64 17 = nI (846 + 41 * k)) (hk : k < 2) : ∀ (n j z : Nat), j + n = 8 → n ≤ z → ok (RfirstBroken_2 (RfirstBroken_R z) t y (nI j)) (fun _ => True) := by
  obtain ⟨m, em, hm⟩ := (r.1.2.2 k hk).2.1
  have rd : rdI t 65 5768 (t 64 17) = some (nI m) := by rw [rd_nI e (by omega) (by decide), em]
  intro n
  induction n with
  | zero =>
    intro j z hj hz
    unfold RfirstBroken_2
    refine ok_be rd (ok_i (fun _ => ok_s trivial) (fun c => ?_))
    exfalso; apply c
    rw [Int32.le_iff_toInt_le, nI_toInt (by omega), nI_toInt (by omega)]; omega
  | succ n ih =>
    intro j z hj hz
    obtain ⟨z, rfl⟩ : ∃ z', z = z' + 1 := ⟨z - 1, by omega⟩
    unfold RfirstBroken_2
    refine ok_be rd (ok_i (fun _ => ok_s trivial) (fun c => ?_))
    refine ok_b (isBroken_ok e hk rfl (by omega)) (fun q _ => ok_i (fun _ => ?_) (fun _ => ok_s trivial))
    show ok (RfirstBroken_2 (RfirstBroken_R z) t y (nI j + 1)) _
    rw [← nI_succ]
    exact ih (j + 1) z (by omega) (by omega)
theorem firstBroken_ok {t : SG} {y : Int32} (r : RI t) (h : OK1 t) : ok (RfirstBroken t y) (fun _ => True) := by
  obtain ⟨k, hk, e⟩ := h
  exact firstBroken_l r e hk 8 0 xF rfl (by have := xF_ge; omega)
theorem broken_ok {s : SG} {x y u v w z : Int32} (r : RI s) : ok (Rbroken s x y u v w z) (fun p => QI s p.2) := by
  unfold Rbroken
  refine ok_b (areOrders_ok r) (fun p hp => ?_)
  refine ok_i (fun _ => ok_s hp.1) (fun c => ?_)
  obtain ⟨k, hk, e⟩ := hp.2.2.resolve_left c
  refine ok_i (fun _ => ok_s hp.1) (fun c2 => ?_)
  refine ok_i (fun _ => ok_s hp.1) (fun c3 => ?_)
  refine ok_i (fun _ => ok_s hp.1) (fun c4 => ?_)
  have q : QI s (RtalksOf (up p.2 64 16 y) (100 * u + 10 * v + w)) := QI_tr (QI_up hp.1 (by omega) (by omega)) talks_KQ.1
  refine ok_b (firstBroken_ok (QI_RI q r) ⟨k, hk, ?_⟩) (fun _ _ => ok_s q)
  rw [talks_KQ.2 17 (by unfold KJ; omega), up_b (by decide)]; exact e
theorem isMotion_ok {s : SG} {x b se u v w : Int32} (r : RI s) : ok (RisMotion s x b se u v w) (fun p => QI s p.2 ∧ (p.1 = 0 ∨ QS p.2 ∧ ∃ m, m < 6 ∧ b = nI m ∧ m < msz p.2)) := by
  unfold RisMotion
  refine ok_b (isRepublic_ok r) (fun p hp => ?_)
  refine ok_i (fun _ => ok_s ⟨hp.1, Or.inl rfl⟩) (fun c => ?_)
  have hq : QS p.2 := (hp.2.resolve_left c).1
  have r2 := QI_RI hp.1 r
  refine ok_be (q_isMinister (QS_RH hq)) ?_
  refine ok_i (fun _ => ok_s ⟨hp.1, Or.inl rfl⟩) (fun c2 => ?_)
  obtain ⟨j, e, hj, hj6⟩ := mn_k r2 hq c2
  refine ok_i (fun _ => ok_s ⟨hp.1, Or.inl rfl⟩) (fun c3 => ?_)
  refine ok_i (fun _ => ok_s ⟨hp.1, Or.inl rfl⟩) (fun c4 => ?_)
  have q1 : QI p.2 (up (up p.2 64 15 b) 64 16 se) := QI_up (QI_up QI_rfl (by omega) (by omega)) (by omega) (by omega)
  have q2 : QS (up (up p.2 64 15 b) 64 16 se) := by
    refine ⟨?_, ?_, ?_⟩
    · simp (decide := true) only [up_b]; exact hq.1
    · rw [up_a]; exact inI_nI (b := 3) (by decide) c3
    · simp (decide := true) only [up_b]; exact hq.2.2
  refine ok_s ⟨QI_tr hp.1 (QI_tr q1 talks_KQ.1), Or.inr ⟨KQ_QS talks_KQ q2, j, hj6, e, ?_⟩⟩
  have e2 : msz (RtalksOf (up (up p.2 64 15 b) 64 16 se) (100 * u + 10 * v + w)) = msz p.2 := by
    unfold msz ofN rh
    rw [talks_KQ.1.1, talks_KQ.2 11 (by unfold KJ; omega), q1.1, up_b (by decide), up_b (by decide)]
  rw [e2]; exact hj
theorem off_ok {s : SG} {x b se u v w : Int32} (r : RI s) : ok (Roff s x b se u v w) (fun p => QI s p.2) := by
  unfold Roff
  refine ok_b (isMotion_ok r) (fun p hp => ?_)
  refine ok_i (fun _ => ok_s hp.1) (fun c => ?_)
  obtain ⟨hq, m, hm, e, _⟩ := hp.2.resolve_left c
  exact ok_be (q_offOf (QS_RH hq) (QS_SE hq) e hm) (ok_s hp.1)
theorem vote_ok {s : SG} {x b se u v w g : Int32} (r : RI s) : ok (Rvote s x b se u v w g) (fun p => QI s p.2) := by
  unfold Rvote
  refine ok_b (isMotion_ok r) (fun p hp => ?_)
  refine ok_i (fun _ => ok_s hp.1) (fun c => ?_)
  obtain ⟨hq, m, hm, e, _⟩ := hp.2.resolve_left c
  have z := QS_MZ (QI_RI hp.1 r) hq
  refine ok_i (fun _ => ok_be (q_agreeing (QS_RH hq) (QS_SE hq) z) (ok_s hp.1)) (fun _ => ok_be (q_agreeing (QS_RH hq) (QS_SE hq) z) (ok_be (q_isPassed (QS_RH hq) z) (ok_i (fun _ => ok_s hp.1) (fun _ => ok_s hp.1))))
end XRD
end
section
section XRE
variable {sc : Nat × (Nat → Int32)} {d : Nat} {K : List KD} {r q t a B m : Nat} {w : EW}
/-! the reference: years -/
def MV (t u : SG) : Prop := QI t u ∧ (∀ i, KJ i → i ≠ 18 → i ≠ 19 → u 64 i = t 64 i) ∧ (NB (t 64 18) 63 → NB (u 64 18) 63)
theorem MV_rfl {t : SG} : MV t t := ⟨QI_rfl, fun _ _ _ _ => rfl, fun h => h⟩
theorem MV_tr {s t u : SG} (h : MV s t) (g : MV t u) : MV s u := ⟨QI_tr h.1 g.1, fun i a b c => (g.2.1 i a b c).trans (h.2.1 i a b c), fun q => g.2.2 (h.2.2 q)⟩
theorem MV_KQ {t u : SG} (h : KQ t u) : MV t u := ⟨h.1, fun i a _ _ => h.2 i a, fun q => by rw [h.2 18 (by unfold KJ; omega)]; exact q⟩
theorem MV_69 {t : SG} {j : Nat} {x : Int32} : MV t (up t 69 j x) := ⟨QI_up QI_rfl (by omega) (by omega), fun i _ _ _ => by rw [up_n (by omega)], fun q => by rw [up_n (by omega)]; exact q⟩
theorem MV_QS {t u : SG} (h : MV t u) (q : QS t) : QS u := by
  refine ⟨?_, ?_, h.2.2 q.2.2⟩
  · rw [h.2.1 11 (by unfold KJ; omega) (by omega) (by omega)]; exact q.1
  · rw [h.2.1 16 (by unfold KJ; omega) (by omega) (by omega)]; exact q.2.1
theorem MV_msz {t u : SG} (h : MV t u) : msz u = msz t := by
  unfold msz ofN rh
  rw [h.1.1, h.2.1 11 (by unfold KJ; omega) (by omega) (by omega)]
theorem MV_18 {t : SG} {x y : Int32} (hx : NB (t 64 18) 63 → NB x 63) : MV t (up (up t 64 18 x) 64 19 y) := ⟨QI_up (QI_up QI_rfl (by omega) (by omega)) (by omega) (by omega), fun i _ a b => by rw [up_bn b, up_bn a], fun q => by rw [up_b (by decide), up_a]; exact hx q⟩
theorem angers_l {y : Int32} {z0 : Nat} : ∀ (n j k : Nat) (t : SG), RI t → QS t → msz t = z0 → j + n = z0 → n ≤ k → ok (Rangers_2 (Rangers_R k) t y (nI j)) (MV t) := by
  intro n
  induction n with
  | zero =>
    intro j k t r q e hj hk
    have z := QS_MZ r q
    unfold Rangers_2
    refine ok_be (q_ministers (QS_RH q)) ?_
    rw [z.1, e, if_pos (k_ge hj)]
    exact ok_s MV_rfl
  | succ n ih =>
    intro j k t r q e hj hk
    obtain ⟨k, rfl⟩ : ∃ k', k = k' + 1 := ⟨k - 1, by omega⟩
    have z := QS_MZ r q
    have hj6 : j < 6 := by have := z.2; omega
    have next : ∀ u, MV t u → ok (Rangers_R (k + 1) u y (nI j + 1)) (MV t) := by
      intro u hu
      show ok (Rangers_2 (Rangers_R k) u y (nI j + 1)) _
      rw [← nI_succ]
      exact ok_w (ih (j + 1) k u (QI_RI hu.1 r) (MV_QS hu q) ((MV_msz hu).trans e) (by omega) (by omega)) fun v hv => MV_tr hu hv
    have fifty : ∀ v, ok (Rangers_50 (Rangers_R (k + 1)) t y (nI j) v (nI j)) (MV t) := by
      intro v
      have m1 : MV t (up t 69 j v) := MV_69
      have r1 := QI_RI m1.1 r
      have q1 := MV_QS m1 q
      have om := q_ofMinister (s := up t 69 j v) (x := nI j) (y := 2) (m := j) (a := 2) (QS_RH q1) rfl rfl hj6 (by decide)
      unfold Rangers_50
      refine ok_be (wr_nI (e := j) rfl hj6 (by decide)) (ok_be om (ok_i (fun _ => next _ m1) (fun _ => ?_)))
      refine ok_be (rd_nI (e := j) rfl hj6 (by decide)) (ok_be om (ok_i (fun _ => ?_) (fun _ => next _ m1)))
      exact next _ (MV_tr m1 (MV_18 fun h => NB_and h))
    unfold Rangers_2
    refine ok_be (q_ministers (QS_RH q)) ?_
    rw [z.1, e, if_neg (k_lt hj (by have := z.2; omega))]
    refine ok_i (fun _ => next t MV_rfl) (fun _ => ok_i (fun _ => fifty 0) (fun _ => ?_))
    exact ok_be (rd_nI (e := j) rfl hj6 (by decide)) (fifty _)
theorem moves_ok {t : SG} (r : RI t) (q : QS t) : ok (Rmoves t) (MV t) := by
  have z := QS_MZ r q
  unfold Rmoves
  refine ok_be (q_agreeing (QS_RH q) (QS_SE q) z) (ok_be (q_isPassed (QS_RH q) z) (ok_i (fun _ => ok_s (MV_KQ comm_KQ)) (fun _ => ?_)))
  have g : MV t (Rgoes t) := MV_KQ goes_KQ
  have z1 := MV_msz g
  refine ok_b (angers_l (msz t) 0 xF (Rgoes t) (QI_RI g.1 r) (MV_QS g q) z1 (by omega) (by have := xF_ge; have := z.2; omega)) (fun u hu => ok_s (MV_tr g hu))
theorem deedOf_eq {t : SG} {x y : Int32} {k j a : Nat} (e : t 64 29 = nI (928 + 201 * k)) (hk : k < 2) (ex : x = nI j) (ey : y = nI a) (hj : j ≤ 40) (ha : a < 6) : RdeedOf t x y = some (t 65 (928 + 201 * k + 1 + 5 * j + a)) := by
  unfold RdeedOf
  have e2 : t 64 29 + 1 + 5 * x + y = nI (928 + 201 * k + 1 + 5 * j + a) := by
    rw [e, ex, ey]
    show nI _ + nI 1 + nI 5 * nI j + nI a = _
    rw [nI_mulx, nI_add, nI_add, nI_add]
  rw [rd_nI e2 (by omega) (by decide)]; rfl
theorem deeds_eq {t : SG} {k : Nat} (e : t 64 29 = nI (928 + 201 * k)) (hk : k < 2) : Rdeeds t = some (t 65 (928 + 201 * k)) := by
  unfold Rdeeds
  rw [rd_nI e (by omega) (by decide)]; rfl
theorem deed_ok {s : SG} {x y z : Int32} (r : RI s) : ok (Rdeed s x y z) (fun p => QI s p.2) := by
  unfold Rdeed
  refine ok_be (q_isOf rfl (by decide)) ?_
  refine ok_i (fun _ => ok_s QI_rfl) (fun c => ?_)
  obtain ⟨k, ek, hk⟩ := isOf_k r (by decide) c
  have q1 : QI s (up s 64 29 (RplaceOf 2 x)) := QI_up QI_rfl (by omega) (by omega)
  have e : up s 64 29 (RplaceOf 2 x) 64 29 = nI (928 + 201 * k) := by rw [up_a, ek, place2]
  have r2 := QI_RI q1 r
  obtain ⟨n, en, hn⟩ := (r2.1.2.2 k hk).2.2.1.1
  have dd := deeds_eq e hk
  rw [en] at dd
  refine ok_i (fun _ => ok_i (fun _ => ok_be dd (ok_s q1)) (fun _ => ok_s q1)) (fun _ => ok_be dd ?_)
  refine ok_i (fun _ => ok_s q1) (fun c2 => ?_)
  obtain ⟨j, ej, hj⟩ := inI_sub (by omega) c2
  refine ok_i (fun _ => ok_s q1) (fun c3 => ?_)
  obtain ⟨a, ea, ha⟩ := inI_nI (b := 4) (by decide) c3
  exact ok_be (deedOf_eq e hk ej ea (by omega) (by omega)) (ok_s q1)
theorem isThere_ok {t : SG} {x : Int32} (r : RI t) (q : QS t) : ok (RisThere t x) (fun v => v = 0 ∨ v = 1) := by
  unfold RisThere
  refine ok_be (q_isMinister (QS_RH q)) (ok_i (fun _ => ok_s (Or.inl rfl)) (fun _ => ok_i (fun _ => ok_s (Or.inr rfl)) (fun _ => ok_s (Or.inl rfl))))
theorem can_ok {t : SG} {x : Int32} {k j : Nat} (r : RI t) (q : QS t) (h1 : OK1 t) (e : t 64 29 = nI (928 + 201 * k)) (hk : k < 2) (ex : x = nI j) (hj : j < 40) : ok (Rcan t x) (fun p => KQ t p.2 ∧ (t 65 (928 + 201 * k + 1 + 5 * j) = 4 → ¬ p.1 = 0 → ∃ m, m < 6 ∧ t 65 (928 + 201 * k + 1 + 5 * j + 1) = nI m)) := by
  have o := fun (z : Int32) (a : Nat) (ez : z = nI a) (ha : a < 6) => deedOf_eq e hk ex ez (by omega : j ≤ 40) ha
  unfold Rcan
  refine ok_be (o 1 1 rfl (by decide)) (ok_be (o 0 0 rfl (by decide)) ?_)
  rw [Nat.add_zero]
  generalize ha : t 65 (928 + 201 * k + 1 + 5 * j + 1) = a1
  generalize hb : t 65 (928 + 201 * k + 1 + 5 * j) = a0
  unfold Rcan_13
  refine ok_i (fun c0 => ?_) (fun _ => ok_i (fun c0 => ?_) (fun _ => ok_i (fun c0 => ?_) (fun _ => ok_i (fun c0 => ?_) (fun _ => ok_i (fun c0 => ?_) (fun c0 => ?_)))))
  · refine ok_be (o 2 2 rfl (by decide)) (ok_be (o 3 3 rfl (by decide)) (ok_be (o 4 4 rfl (by decide)) ?_))
    generalize 100 * t 65 (928 + 201 * k + 1 + 5 * j + 2) + 10 * t 65 (928 + 201 * k + 1 + 5 * j + 3) + t 65 (928 + 201 * k + 1 + 5 * j + 4) = day
    have kq : KQ t (RtalksOf t day) := talks_KQ
    have r2 := QI_RI kq.1 r
    have q2 := KQ_QS kq q
    have n4 : ∀ v : Int32, (a0 = 4 → ¬ v = 0 → ∃ m, m < 6 ∧ a1 = nI m) := by
      intro v h4
      rw [c0] at h4
      exact absurd h4 (by decide)
    have o1 : OK1 (RtalksOf t day) := by
      obtain ⟨i, hi, ei⟩ := h1
      exact ⟨i, hi, by rw [kq.2 17 (by unfold KJ; omega)]; exact ei⟩
    refine ok_b (isThere_ok r2 q2) (fun v _ => ok_i (fun _ => ok_s ⟨kq, n4 _⟩) (fun _ => ?_))
    refine ok_b (firstBroken_ok r2 o1) (fun v _ => ok_i (fun _ => ok_i (fun _ => ok_s ⟨kq, n4 _⟩) (fun _ => ok_s ⟨kq, n4 _⟩)) (fun _ => ok_s ⟨kq, n4 _⟩))
  · exact ok_s ⟨KQ_rfl, fun h4 => absurd (c0.symm.trans h4) (by decide)⟩
  · refine ok_be (o 2 2 rfl (by decide)) (ok_b (isThere_ok r q) (fun v hv => ?_))
    have e4 : xrt 4 v = true := by rcases hv with g | g <;> rw [g] <;> rfl
    rw [e4]
    exact ok_s ⟨KQ_rfl, fun h4 => absurd (c0.symm.trans h4) (by decide)⟩
  · refine ok_b (isThere_ok r q) (fun v hv => ?_)
    have e4 : xrt 4 v = true := by rcases hv with g | g <;> rw [g] <;> rfl
    rw [e4]
    exact ok_s ⟨KQ_rfl, fun h4 => absurd (c0.symm.trans h4) (by decide)⟩
  · refine ok_be (q_isMinister (QS_RH q)) (ok_i (fun _ => ok_s ⟨KQ_rfl, fun _ h => absurd rfl h⟩) (fun c => ?_))
    obtain ⟨m, em, _, hm⟩ := mn_k r q c
    refine ok_b (isThere_ok r q) (fun v _ => ok_i (fun _ => ok_s ⟨KQ_rfl, fun _ _ => ⟨m, hm, em⟩⟩) (fun _ => ok_s ⟨KQ_rfl, fun _ h => absurd rfl h⟩))
  · exact ok_s ⟨KQ_rfl, fun h4 => absurd h4 c0⟩
/-- what a deed leaves -/
def DV (t u : SG) : Prop := QI t u ∧ (∀ i, (i = 11 ∨ i = 17 ∨ i = 26 ∨ i = 29 ∨ i = 30 ∨ i = 33) → u 64 i = t 64 i) ∧ (QS t → QS u)
theorem DV_rfl {t : SG} : DV t t := ⟨QI_rfl, fun _ _ => rfl, fun h => h⟩
theorem DV_tr {s t u : SG} (h : DV s t) (g : DV t u) : DV s u := ⟨QI_tr h.1 g.1, fun i hi => (g.2.1 i hi).trans (h.2.1 i hi), fun q => g.2.2 (h.2.2 q)⟩
theorem DV_MV {t u : SG} (h : MV t u) : DV t u := ⟨h.1, fun i hi => h.2.1 i (by unfold KJ; omega) (by omega) (by omega), fun q => MV_QS h q⟩
theorem DV_up {t : SG} {j : Nat} {x : Int32} (hj : j < 11 ∨ (11 < j ∧ j < 16) ∨ (18 < j ∧ j < 26) ∨ j = 19) : DV t (up t 64 j x) := ⟨QI_up QI_rfl (by omega) (by omega), fun i hi => up_bn (by omega), fun q => by
  unfold QS at *
  rw [up_bn (by omega), up_bn (by omega), up_bn (by omega)]; exact q⟩
theorem does_ok {t : SG} {x : Int32} {k j : Nat} (r : RI t) (q : QS t) (e : t 64 29 = nI (928 + 201 * k)) (hk : k < 2) (ex : x = nI j) (hj : j < 40) (h4 : t 65 (928 + 201 * k + 1 + 5 * j) = 4 → ∃ m, m < 6 ∧ t 65 (928 + 201 * k + 1 + 5 * j + 1) = nI m) : ok (Rdoes t x) (DV t) := by
  have o := fun (z : Int32) (a : Nat) (ez : z = nI a) (ha : a < 6) => deedOf_eq e hk ex ez (by omega : j ≤ 40) ha
  have ry := (r.1.2.2 k hk).2.2.1.2 j hj
  unfold Rdoes
  refine ok_be (o 1 1 rfl (by decide)) (ok_be (o 0 0 rfl (by decide)) ?_)
  rw [Nat.add_zero]
  revert h4 ry
  generalize t 65 (928 + 201 * k + 1 + 5 * j + 1) = a1
  generalize t 65 (928 + 201 * k + 1 + 5 * j) = a0
  intro h4 ry
  unfold Rdoes_13
  refine ok_i (fun c0 => ?_) (fun _ => ok_i (fun c0 => ?_) (fun _ => ok_i (fun c0 => ?_) (fun _ => ok_i (fun c0 => ?_) (fun _ => ok_i (fun c0 => ?_) (fun c0 => ?_)))))
  · have d : DV t (up t 64 15 a1) := DV_up (by omega)
    exact ok_b (moves_ok (QI_RI d.1 r) (d.2.2 q)) (fun u hu => ok_s (DV_tr d (DV_MV hu)))
  · refine ok_s ⟨QI_up QI_rfl (by omega) (by omega), fun i hi => up_bn (by omega), fun q => ?_⟩
    refine ⟨?_, ?_, ?_⟩
    · rw [up_b (by decide)]; exact q.1
    · rw [up_a]; exact ry.1 c0
    · rw [up_b (by decide)]; exact q.2.2
  · obtain ⟨m, em, hm⟩ := ry.2 c0
    refine ok_be (o 2 2 rfl (by decide)) (ok_be (wr_nI em (by omega) (by decide)) (ok_s ?_))
    exact ⟨QI_up QI_rfl (by omega) (by omega), fun i hi => by rw [up_n (by omega)], fun q => by
      unfold QS at *
      rw [up_n (by omega)]; exact q⟩
  · refine ok_s ⟨QI_up QI_rfl (by omega) (by omega), fun i hi => up_bn (by omega), fun q => ?_⟩
    refine ⟨?_, ?_, ?_⟩
    · rw [up_b (by decide)]; exact q.1
    · rw [up_b (by decide)]; exact q.2.1
    · rw [up_a]; exact NB_and q.2.2
  · obtain ⟨m, hm, em⟩ := h4 c0
    refine ok_be (wr_nI em hm (by decide)) (ok_s ?_)
    refine ⟨QI_up (QI_up QI_rfl (by omega) (by omega)) (by omega) (by omega), fun i hi => by rw [up_n (by omega), up_bn (by omega)], fun q => ?_⟩
    refine ⟨?_, ?_, ?_⟩
    · rw [up_n (by omega), up_b (by decide)]; exact q.1
    · rw [up_n (by omega), up_b (by decide)]; exact q.2.1
    · rw [up_n (by omega), up_a, em]; exact NB_or q.2.2 (NB_bit hm)
  · exact ok_s (DV_MV (MV_KQ comm_KQ))
theorem runs_l {y : Int32} {k : Nat} (hk : k < 2) : ∀ (n d z : Nat) (t : SG), RI t → QS t → OK1 t → t 64 29 = nI (928 + 201 * k) → t 64 26 = nI d → d + n = 40 → n ≤ z → ok (Rruns_0 (Rruns_R z) t y) (fun u => QI t u ∧ QS u) := by
  intro n
  induction n with
  | zero =>
    intro d z t r q h1 e e2 hd hz
    obtain ⟨m, em, hm⟩ := (r.1.2.2 k hk).2.2.1.1
    unfold Rruns_0
    refine ok_i (fun _ => ok_s ⟨QI_rfl, q⟩) (fun _ => ok_be (deeds_eq e hk) ?_)
    rw [if_pos]
    · exact ok_s ⟨QI_rfl, q⟩
    · rw [em, e2, Int32.le_iff_toInt_le, nI_toInt (by omega), nI_toInt (by omega)]; omega
  | succ n ih =>
    intro d z t r q h1 e e2 hd hz
    obtain ⟨z, rfl⟩ : ∃ z', z = z' + 1 := ⟨z - 1, by omega⟩
    unfold Rruns_0
    refine ok_i (fun _ => ok_s ⟨QI_rfl, q⟩) (fun _ => ok_be (deeds_eq e hk) (ok_i (fun _ => ok_s ⟨QI_rfl, q⟩) (fun _ => ?_)))
    refine ok_b (can_ok r q h1 e hk e2 (by omega)) (fun p hp => ok_i (fun _ => ok_s ⟨hp.1.1, KQ_QS hp.1 q⟩) (fun c => ?_))
    have r2 := QI_RI hp.1.1 r
    have q2 := KQ_QS hp.1 q
    have e3 : p.2 64 29 = nI (928 + 201 * k) := by rw [hp.1.2 29 (by unfold KJ; omega)]; exact e
    have e4 : p.2 64 26 = nI d := by rw [hp.1.2 26 (by unfold KJ; omega)]; exact e2
    refine ok_b (does_ok r2 q2 e3 hk e4 (by omega) (fun g => ?_)) (fun u hu => ?_)
    · rw [hp.1.1.1] at g ⊢
      exact hp.2 g c
    · have r3 := QI_RI hu.1 r2
      have q3 := hu.2.2 q2
      have d1 : DV u (up u 64 26 (u 64 26 + 1)) ∨ True := Or.inr trivial
      have qi : QI u (up u 64 26 (u 64 26 + 1)) := QI_up QI_rfl (by omega) (by omega)
      have e5 : u 64 26 = nI d := by rw [hu.2.1 26 (by omega)]; exact e4
      show ok (Rruns_0 (Rruns_R z) (up u 64 26 (u 64 26 + 1)) y) _
      refine ok_w (ih (d + 1) z _ (QI_RI qi r3) ?_ ?_ ?_ ?_ (by omega) (by omega)) (fun v hv => ⟨QI_tr hp.1.1 (QI_tr hu.1 (QI_tr qi hv.1)), hv.2⟩)
      · unfold QS at *
        rw [up_b (by decide), up_b (by decide), up_b (by decide)]; exact q3
      · obtain ⟨i, hi, ei⟩ := h1
        refine ⟨i, hi, ?_⟩
        rw [up_b (by decide), hu.2.1 17 (by omega), hp.1.2 17 (by unfold KJ; omega)]; exact ei
      · rw [up_b (by decide), hu.2.1 29 (by omega)]; exact e3
      · rw [up_a, e5, nI_succ]
theorem areTold_ok {s : SG} {x y z : Int32} (r : RI s) : ok (RareTold s x y z) (fun p => QI s p.2 ∧ (p.1 = 0 ∨ QS p.2 ∧ OK1 p.2 ∧ p.2 64 26 = 0 ∧ ∃ k, k < 2 ∧ p.2 64 29 = nI (928 + 201 * k))) := by
  unfold RareTold
  refine ok_b (isRepublic_ok r) (fun p hp => ok_i (fun _ => ok_s ⟨hp.1, Or.inl rfl⟩) (fun c => ?_))
  obtain ⟨q, e26⟩ := hp.2.resolve_left c
  have r2 := QI_RI hp.1 r
  refine ok_b (areOrders_ok r2) (fun v hv => ok_i (fun _ => ok_s ⟨QI_tr hp.1 hv.1, Or.inl rfl⟩) (fun c2 => ?_))
  have o1 := hv.2.2.resolve_left c2
  have r3 := QI_RI hv.1 r2
  have q3 : QS v.2 := by
    unfold QS at *
    rw [hv.2.1 11 (by omega), hv.2.1 16 (by omega), hv.2.1 18 (by omega)]; exact q
  refine ok_be (q_isOf rfl (by decide)) (ok_i (fun _ => ok_s ⟨QI_tr hp.1 hv.1, Or.inl rfl⟩) (fun c3 => ?_))
  obtain ⟨k, ek, hk⟩ := isOf_k r3 (by decide) c3
  refine ok_s ⟨QI_tr hp.1 (QI_up hv.1 (by omega) (by omega)), Or.inr ⟨?_, ?_, ?_, k, hk, ?_⟩⟩
  · show QS (up v.2 64 29 (RplaceOf 2 z))
    unfold QS at *
    rw [up_b (by decide), up_b (by decide), up_b (by decide)]; exact q3
  · obtain ⟨i, hi, ei⟩ := o1
    exact ⟨i, hi, by show up v.2 64 29 (RplaceOf 2 z) 64 17 = _; rw [up_b (by decide)]; exact ei⟩
  · show up v.2 64 29 (RplaceOf 2 z) 64 26 = _
    rw [up_b (by decide), hv.2.1 26 (by omega)]; exact e26
  · show up v.2 64 29 (RplaceOf 2 z) 64 29 = _
    rw [up_a, ek, place2]
theorem stop_ok {s : SG} {x y z : Int32} (r : RI s) : ok (Rstop s x y z) (fun p => QI s p.2) := by
  unfold Rstop
  refine ok_b (areTold_ok r) (fun p hp => ok_i (fun _ => ok_s hp.1) (fun c => ?_))
  obtain ⟨q, o1, e26, k, hk, e⟩ := hp.2.resolve_left c
  refine ok_b (runs_l hk 40 0 xF p.2 (QI_RI hp.1 r) q o1 e e26 rfl (by have := xF_ge; omega)) (fun u hu => ok_s (QI_tr hp.1 hu.1))
theorem state_ok {s : SG} {x y z n w : Int32} (r : RI s) : ok (Rstate s x y z n w) (fun p => QI s p.2) := by
  unfold Rstate
  refine ok_b (areTold_ok r) (fun p hp => ok_i (fun _ => ok_s hp.1) (fun c => ?_))
  obtain ⟨q, o1, e26, k, hk, e⟩ := hp.2.resolve_left c
  have r2 := QI_RI hp.1 r
  refine ok_i (fun _ => ?_) (fun _ => ok_s hp.1)
  refine ok_b (runs_l hk 40 0 xF p.2 r2 q o1 e e26 rfl (by have := xF_ge; omega)) (fun u hu => ?_)
  have q2 := QI_tr hp.1 hu.1
  have r3 := QI_RI q2 r
  refine ok_i (fun _ => ?_) (fun _ => ok_s q2)
  refine ok_be (q_isMinister (QS_RH hu.2)) (ok_i (fun _ => ok_i (fun _ => ?_) (fun c3 => ?_)) (fun c3 => ?_))
  · unfold Rstate_84
    repeat' (first | exact ok_s q2 | refine ok_i (fun _ => ?_) (fun _ => ?_))
    exact ok_be (q_votesOf (QS_RH hu.2) (QS_MZ r3 hu.2)) (ok_be (q_of (a := 1) (QS_RH hu.2) rfl (by decide)) (ok_i (fun _ => ok_s q2) (fun _ => ok_s q2)))
  · obtain ⟨a, ea, ha⟩ := inI_lo (a := 10) (b := 12) (by decide) (by decide) c3
    refine ok_be (rd_nI (e := a) ?_ (by omega) (by decide)) (ok_s q2)
    rw [ea]
    exact nI_subl (a := 10)
  · obtain ⟨m, em, _, hm⟩ := mn_k r3 hu.2 c3
    exact ok_be (rd_nI em hm (by decide)) (ok_s q2)
end XRE
end
section
section XRF
variable {sc : Nat × (Nat → Int32)} {d : Nat} {K : List KD} {r q t a B m : Nat} {w : EW}
/-! the reference: what can be agreed; power; bribes, lobbies -/
theorem nI_le2 {a b : Nat} (h : a ≤ b) (hb : b < 2 ^ 31) : nI a ≤ nI b := by
  rw [Int32.le_iff_toInt_le, nI_toInt (by omega), nI_toInt hb]; omega
theorem nI_inj {a b : Nat} (ha : a < 2 ^ 31) (hb : b < 2 ^ 31) (h : nI a = nI b) : a = b := by
  have e := congrArg Int32.toInt h
  rw [nI_toInt ha, nI_toInt hb] at e
  omega
theorem isAgreed_ok {t : SG} {x y : Int32} (r : RI t) (q : QS t) (h : y = 0 ∨ OK1 t) : ok (RisAgreed t x y) (fun p => KQ t p.2) := by
  have k0 : KQ t (RtalksOf t x) := talks_KQ
  have r2 := QI_RI k0.1 r
  have q2 := KQ_QS k0 q
  have z2 := QS_MZ r2 q2
  have e25 : ok (RisAgreed_25 (RtalksOf t x) x y) (fun p => KQ t p.2) := by
    unfold RisAgreed_25
    exact ok_be (q_agreeing (QS_RH q2) (QS_SE q2) z2) (ok_be (q_isPassed (QS_RH q2) z2) (ok_i (fun _ => ok_s k0) (fun _ => ok_s k0)))
  unfold RisAgreed
  refine ok_i (fun _ => ok_s k0) (fun _ => ok_i (fun _ => e25) (fun c => ?_))
  obtain ⟨i, hi, ei⟩ := h.resolve_left c
  exact ok_b (firstBroken_ok r2 ⟨i, hi, by rw [k0.2 17 (by unfold KJ; omega)]; exact ei⟩) (fun _ _ => ok_i (fun _ => e25) (fun _ => ok_s k0))
theorem agreed_l {y1 y2 y3 y4 y5 : Int32} : ∀ (n j k : Nat) (t : SG) (y6 y7 : Int32), RI t → QS t → (y2 = -1 ∨ OK1 t) → j + n = 1000 → n ≤ k → ok (Ragreed_49 (Ragreed_R k) t y1 y2 y3 y4 y5 y6 y7 (nI j)) (fun p => QI t p.2) := by
  intro n
  induction n with
  | zero =>
    intro j k t y6 y7 r q h hj hk
    unfold Ragreed_49
    rw [if_pos (show (1000 : Int32) ≤ nI j from k_ge (m := 1000) hj)]
    exact ok_i (fun _ => ok_s QI_rfl) (fun _ => ok_s QI_rfl)
  | succ n ih =>
    intro j k t y6 y7 r q h hj hk
    obtain ⟨k, rfl⟩ : ∃ k', k = k' + 1 := ⟨k - 1, by omega⟩
    have next : ∀ (u : SG) (a b : Int32), KQ t u → ok (Ragreed_R (k + 1) u y1 y2 y3 y4 y5 a b (nI j + 1)) (fun p => QI t p.2) := by
      intro u a b hu
      show ok (Ragreed_49 (Ragreed_R k) u y1 y2 y3 y4 y5 a b (nI j + 1)) _
      rw [← nI_succ]
      refine ok_w (ih (j + 1) k u a b (QI_RI hu.1 r) (KQ_QS hu q) ?_ (by omega) (by omega)) (fun p hp => QI_tr hu.1 hp)
      rcases h with g | ⟨i, hi, ei⟩
      · exact Or.inl g
      · exact Or.inr ⟨i, hi, by rw [hu.2 17 (by unfold KJ; omega)]; exact ei⟩
    have e117 : ∀ (u : SG) (a b v0 v1 v2 : Int32), KQ t u → ok (Ragreed_117 (Ragreed_R (k + 1)) u y1 y2 y3 y4 y5 a b (nI j) v0 v1 v2) (fun p => QI t p.2) := by
      intro u a b v0 v1 v2 hu
      unfold Ragreed_117
      exact ok_i (fun _ => next u _ _ hu) (fun _ => next u _ _ hu)
    have e101 : ∀ (u : SG) (a b v0 v1 : Int32), KQ t u → ok (Ragreed_101 (Ragreed_R (k + 1)) u y1 y2 y3 y4 y5 a b (nI j) v0 v1) (fun p => QI t p.2) := by
      intro u a b v0 v1 hu
      unfold Ragreed_101
      exact ok_i (fun _ => e117 u _ _ _ _ _ hu) (fun _ => e117 u _ _ _ _ _ hu)
    have e70 : ∀ (v0 v1 : Int32), (v0 = 0 ∨ OK1 t) → ok (Ragreed_70 (Ragreed_R (k + 1)) t y1 y2 y3 y4 y5 y6 y7 (nI j) v0 v1) (fun p => QI t p.2) := by
      intro v0 v1 h0
      unfold Ragreed_70
      refine ok_b (isAgreed_ok r q h0) (fun p hp => ok_i (fun _ => next _ _ _ hp) (fun _ => ok_i (fun _ => next _ _ _ hp) (fun _ => ok_i (fun _ => e101 _ _ _ _ _ hp) (fun _ => e101 _ _ _ _ _ hp))))
    unfold Ragreed_49
    rw [if_neg (show ¬ (1000 : Int32) ≤ nI j from k_lt (m := 1000) hj (by decide))]
    exact ok_i (fun _ => e70 _ _ (Or.inl rfl)) (fun c => e70 _ _ (Or.inr (h.resolve_left c)))
theorem agreed_ok {s : SG} {x y z u v : Int32} (r : RI s) : ok (Ragreed s x y z u v) (fun p => QI s p.2) := by
  unfold Ragreed
  refine ok_b (isMotion_ok r) (fun p hp => ok_i (fun _ => ok_s hp.1) (fun c => ?_))
  obtain ⟨q, _⟩ := hp.2.resolve_left c
  have r2 := QI_RI hp.1 r
  refine ok_i (fun _ => ok_s hp.1) (fun _ => ok_i (fun c2 => ?_) (fun _ => ?_))
  · exact ok_w (agreed_l 1000 0 xF p.2 0 (-1) r2 q (Or.inl c2) rfl (by have := xF_ge; omega)) (fun w hw => QI_tr hp.1 hw)
  · refine ok_b (areOrders_ok r2) (fun w hw => ok_i (fun _ => ok_s (QI_tr hp.1 hw.1)) (fun c3 => ?_))
    have q3 : QS w.2 := by
      unfold QS at *
      rw [hw.2.1 11 (by omega), hw.2.1 16 (by omega), hw.2.1 18 (by omega)]; exact q
    exact ok_w (agreed_l 1000 0 xF w.2 0 (-1) (QI_RI hw.1 r2) q3 (Or.inr (hw.2.2.resolve_left c3)) rfl (by have := xF_ge; omega)) (fun a ha => QI_tr hp.1 (QI_tr hw.1 ha))
theorem every_eq {t : SG} (r : RI t) (q : QS t) : ∃ E, E ≤ 63 ∧ Reverybody t = some (nI E) := by
  have z := QS_MZ r q
  have all : ∀ m, m < 7 → (1 : Int32) <<< (nI m &&& 31) - 1 = nI (2 ^ m - 1) ∧ 2 ^ m - 1 ≤ 63 := by decide
  have h := all (msz t) (by have := z.2; omega)
  refine ⟨2 ^ msz t - 1, h.2, ?_⟩
  unfold Reverybody
  rw [q_ministers (QS_RH q), z.1]
  show some ((1 : Int32) <<< (nI (msz t) &&& 31) - 1) = _
  rw [h.1]
theorem isEnough_ok {t : SG} {x : Int32} (r : RI t) (q : QS t) : ok (RisEnough t x) (fun v => v = 0 ∨ v = 1) := by
  unfold RisEnough
  exact ok_be (q_votesOf (QS_RH q) (QS_MZ r q)) (ok_be (q_of (a := 1) (QS_RH q) rfl (by decide)) (ok_i (fun _ => ok_s (Or.inl rfl)) (fun _ => ok_s (Or.inr rfl))))
theorem key_l {t : SG} (r : RI t) (q : QS t) : ∀ (n j k : Nat) (y : Int32), j + n = msz t → n ≤ k → ok (Rkey_4 (Rkey_R k) t y (nI j)) (fun _ => True) := by
  have z := QS_MZ r q
  obtain ⟨E, hE, eE⟩ := every_eq r q
  intro n
  induction n with
  | zero =>
    intro j k y hj hk
    unfold Rkey_4
    refine ok_be (q_ministers (QS_RH q)) ?_
    rw [z.1, if_pos (k_ge hj)]
    exact ok_s trivial
  | succ n ih =>
    intro j k y hj hk
    obtain ⟨k, rfl⟩ : ∃ k', k = k' + 1 := ⟨k - 1, by omega⟩
    have next : ∀ a : Int32, ok (Rkey_R (k + 1) t a (nI j + 1)) (fun _ => True) := by
      intro a
      show ok (Rkey_4 (Rkey_R k) t a (nI j + 1)) _
      rw [← nI_succ]
      exact ih (j + 1) k a (by omega) (by omega)
    unfold Rkey_4
    refine ok_be (q_ministers (QS_RH q)) ?_
    rw [z.1, if_neg (k_lt hj (by have := z.2; omega))]
    exact ok_be eE (ok_b (isEnough_ok r q) (fun _ _ => ok_i (fun _ => next _) (fun _ => next _)))
theorem isLeast_l {t : SG} {y1 : Int32} (r : RI t) (q : QS t) : ∀ (n j k : Nat) (y : Int32), (y = 0 ∨ y = 1) → j + n = msz t → n ≤ k → ok (RisLeast_8 (RisLeast_R k) t y1 y (nI j)) (fun _ => True) := by
  have z := QS_MZ r q
  intro n
  induction n with
  | zero =>
    intro j k y hy hj hk
    have e4 : xrt 4 y = true := by rcases hy with g | g <;> rw [g] <;> rfl
    unfold RisLeast_8
    refine ok_be (q_ministers (QS_RH q)) ?_
    rw [z.1, if_pos (k_ge hj), e4]
    exact ok_s trivial
  | succ n ih =>
    intro j k y hy hj hk
    obtain ⟨k, rfl⟩ : ∃ k', k = k' + 1 := ⟨k - 1, by omega⟩
    have next : ∀ a : Int32, (a = 0 ∨ a = 1) → ok (RisLeast_R (k + 1) t y1 a (nI j + 1)) (fun _ => True) := by
      intro a ha
      show ok (RisLeast_8 (RisLeast_R k) t y1 a (nI j + 1)) _
      rw [← nI_succ]
      exact ih (j + 1) k a ha (by omega) (by omega)
    unfold RisLeast_8
    refine ok_be (q_ministers (QS_RH q)) ?_
    rw [z.1, if_neg (k_lt hj (by have := z.2; omega))]
    exact ok_i (fun _ => next _ (Or.inl rfl)) (fun _ => ok_i (fun _ => next _ (Or.inr rfl)) (fun _ => ok_b (isEnough_ok r q) (fun _ _ => ok_i (fun _ => next _ (Or.inr rfl)) (fun _ => next _ (Or.inl rfl)))))
theorem isLeast_ok {t : SG} {x : Int32} (r : RI t) (q : QS t) : ok (RisLeast t x) (fun _ => True) := by
  have z := QS_MZ r q
  unfold RisLeast
  exact ok_b (isEnough_ok r q) (fun v hv => isLeast_l r q (msz t) 0 xF v hv (by omega) (by have := xF_ge; have := z.2; omega))
theorem coalition_l {t : SG} {y1 y2 : Int32} {E : Nat} (r : RI t) (q : QS t) (hE : E ≤ 63) (eE : Reverybody t = some (nI E)) : ∀ (n j k : Nat) (y : Int32), j + n = E + 1 → n ≤ k → ok (Rcoalition_33 (Rcoalition_R k) t y1 y2 y (nI j)) (fun p => QI t p.2) := by
  intro n
  induction n with
  | zero =>
    intro j k y hj hk
    unfold Rcoalition_33
    refine ok_be eE ?_
    rw [if_pos (nI_lt2 (a := E) (b := j) (by omega) (by omega))]
    exact ok_i (fun _ => ok_s QI_rfl) (fun _ => ok_s QI_rfl)
  | succ n ih =>
    intro j k y hj hk
    obtain ⟨k, rfl⟩ : ∃ k', k = k' + 1 := ⟨k - 1, by omega⟩
    have next : ∀ a : Int32, ok (Rcoalition_R (k + 1) t y1 y2 a (nI j + 1)) (fun p => QI t p.2) := by
      intro a
      show ok (Rcoalition_33 (Rcoalition_R k) t y1 y2 a (nI j + 1)) _
      rw [← nI_succ]
      exact ih (j + 1) k a (by omega) (by omega)
    unfold Rcoalition_33
    refine ok_be eE (ok_i (fun _ => ok_i (fun _ => ok_s QI_rfl) (fun _ => ok_s QI_rfl)) (fun _ => ok_b (isLeast_ok r q) (fun _ _ => ok_i (fun _ => next _) (fun _ => ok_i (fun _ => ok_s QI_rfl) (fun _ => next _)))))
theorem coalition_ok {s : SG} {x y : Int32} (r : RI s) : ok (Rcoalition s x y) (fun p => QI s p.2) := by
  unfold Rcoalition
  refine ok_b (isRepublic_ok r) (fun p hp => ok_i (fun _ => ok_s hp.1) (fun c => ?_))
  have q : QS p.2 := (hp.2.resolve_left c).1
  have r2 := QI_RI hp.1 r
  have z := QS_MZ r2 q
  obtain ⟨E, hE, eE⟩ := every_eq r2 q
  refine ok_i (fun _ => ok_i (fun _ => ?_) (fun _ => ?_)) (fun _ => ok_s hp.1)
  · unfold Rkey
    exact ok_b (key_l r2 q (msz p.2) 0 xF 0 (by omega) (by have := xF_ge; have := z.2; omega)) (fun _ _ => ok_s hp.1)
  · exact ok_w (coalition_l r2 q hE eE (E + 1) 0 xF 0 (by omega) (by have := xF_ge; omega)) (fun v hv => QI_tr hp.1 hv)
theorem costOf_l {t : SG} {y1 : Int32} (r : RI t) (q : QS t) : ∀ (n j k : Nat) (y : Int32), j + n = msz t → n ≤ k → ok (RcostOf_4 (RcostOf_R k) t y1 y (nI j)) (fun _ => True) := by
  have z := QS_MZ r q
  intro n
  induction n with
  | zero =>
    intro j k y hj hk
    unfold RcostOf_4
    refine ok_be (q_ministers (QS_RH q)) ?_
    rw [z.1, if_pos (k_ge hj)]
    exact ok_s trivial
  | succ n ih =>
    intro j k y hj hk
    obtain ⟨k, rfl⟩ : ∃ k', k = k' + 1 := ⟨k - 1, by omega⟩
    have hj6 : j < 6 := by have := z.2; omega
    have next : ∀ a : Int32, ok (RcostOf_R (k + 1) t y1 a (nI j + 1)) (fun _ => True) := by
      intro a
      show ok (RcostOf_4 (RcostOf_R k) t y1 a (nI j + 1)) _
      rw [← nI_succ]
      exact ih (j + 1) k a (by omega) (by omega)
    unfold RcostOf_4
    refine ok_be (q_ministers (QS_RH q)) ?_
    rw [z.1, if_neg (k_lt hj (by have := z.2; omega))]
    refine ok_i (fun _ => ?_) (fun _ => next _)
    exact ok_be (q_ofMinister (y := 3) (a := 3) (QS_RH q) rfl rfl hj6 (by decide)) (ok_be (q_offOf (QS_RH q) (QS_SE q) rfl hj6) (ok_be (q_yields (QS_RH q) rfl hj6) (next _)))
theorem bribe_l {t : SG} {y1 y2 y3 y4 y5 y6 y7 y8 : Int32} {E : Nat} (r : RI t) (q : QS t) (hE : E ≤ 63) (eE : Reverybody t = some (nI E)) : ∀ (n j k : Nat) (a b : Int32), j + n = E + 1 → n ≤ k → ok (Rbribe_33 (Rbribe_R k) t y1 y2 y3 y4 y5 y6 y7 y8 a b (nI j)) (fun p => QI t p.2) := by
  have z := QS_MZ r q
  intro n
  induction n with
  | zero =>
    intro j k a b hj hk
    unfold Rbribe_33
    refine ok_be eE ?_
    rw [if_pos (nI_lt2 (a := E) (b := j) (by omega) (by omega))]
    exact ok_i (fun _ => ok_i (fun _ => ok_s QI_rfl) (fun _ => ok_s QI_rfl)) (fun _ => ok_s QI_rfl)
  | succ n ih =>
    intro j k a b hj hk
    obtain ⟨k, rfl⟩ : ∃ k', k = k' + 1 := ⟨k - 1, by omega⟩
    have next : ∀ a b : Int32, ok (Rbribe_R (k + 1) t y1 y2 y3 y4 y5 y6 y7 y8 a b (nI j + 1)) (fun p => QI t p.2) := by
      intro a b
      show ok (Rbribe_33 (Rbribe_R k) t y1 y2 y3 y4 y5 y6 y7 y8 a b (nI j + 1)) _
      rw [← nI_succ]
      exact ih (j + 1) k a b (by omega) (by omega)
    unfold Rbribe_33
    refine ok_be eE (ok_i (fun _ => ok_i (fun _ => ok_i (fun _ => ok_s QI_rfl) (fun _ => ok_s QI_rfl)) (fun _ => ok_s QI_rfl)) (fun _ => ok_i (fun _ => ok_be (q_isPassed (QS_RH q) z) (ok_i (fun _ => next _ _) (fun _ => ?_))) (fun _ => next _ _)))
    unfold RcostOf
    exact ok_b (costOf_l r q (msz t) 0 xF 0 (by omega) (by have := xF_ge; have := z.2; omega)) (fun _ _ => ok_i (fun _ => next _ _) (fun _ => ok_i (fun _ => next _ _) (fun _ => next _ _)))
theorem bribe_ok {s : SG} {x b se u v w g : Int32} (r : RI s) : ok (Rbribe s x b se u v w g) (fun p => QI s p.2) := by
  unfold Rbribe
  refine ok_b (isMotion_ok r) (fun p hp => ok_i (fun _ => ok_s hp.1) (fun c => ?_))
  obtain ⟨q, _⟩ := hp.2.resolve_left c
  have r2 := QI_RI hp.1 r
  obtain ⟨E, hE, eE⟩ := every_eq r2 q
  exact ok_be (q_agreeing (QS_RH q) (QS_SE q) (QS_MZ r2 q)) (ok_w (bribe_l r2 q hE eE (E + 1) 0 xF (-1) 0 (by omega) (by have := xF_ge; omega)) (fun v hv => QI_tr hp.1 hv))
theorem priceOf_ok {t : SG} {j : Nat} (r : RI t) (q : QS t) (hj : j ≤ msz t) : ok (RpriceOf t (nI j)) (fun _ => True) := by
  have z := QS_MZ r q
  have := z.2
  unfold RpriceOf
  refine ok_be (q_ministers (QS_RH q)) ?_
  rw [z.1]
  refine ok_i (fun _ => ok_s trivial) (fun c => ?_)
  have hj6 : j < 6 := by
    rcases Nat.lt_or_ge j (msz t) with g | g
    · omega
    · exfalso; apply c
      have : j = msz t := by omega
      rw [this]
  exact ok_be (q_ofMinister (y := 3) (a := 3) (QS_RH q) rfl rfl hj6 (by decide)) (ok_s trivial)
theorem gainOf_ok {t : SG} {i j : Nat} {y3 : Int32} (r : RI t) (q : QS t) (hi : i ≤ msz t) (hj : j ≤ msz t) : ok (RgainOf t (nI i) (nI j) y3) (fun _ => True) := by
  have z := QS_MZ r q
  have e70 : ∀ a b v : Int32, ok (RgainOf_70 t (nI i) (nI j) y3 a b v) (fun _ => True) := by
    intro a b v
    unfold RgainOf_70 RgainOf_80
    exact ok_i (fun _ => ok_b (priceOf_ok r q hj) (fun _ _ => ok_s trivial)) (fun _ => ok_b (priceOf_ok r q hi) (fun _ _ => ok_s trivial))
  have e50 : ∀ a : Int32, ok (RgainOf_50 t (nI i) (nI j) y3 a) (fun _ => True) := by
    intro a
    unfold RgainOf_50
    exact ok_be (q_isPassed (QS_RH q) z) (ok_i (fun _ => e70 _ _ _) (fun _ => e70 _ _ _))
  have e27 : ∀ a : Int32, ok (RgainOf_27 t (nI i) (nI j) y3 a) (fun _ => True) := by
    intro a
    unfold RgainOf_27
    exact ok_i (fun _ => e50 _) (fun _ => ok_be (q_ministers (QS_RH q)) (ok_i (fun _ => e50 _) (fun _ => e50 _)))
  unfold RgainOf
  exact ok_be (q_agreeing (QS_RH q) (QS_SE q) z) (ok_i (fun _ => e27 _) (fun _ => ok_be (q_ministers (QS_RH q)) (ok_i (fun _ => e27 _) (fun _ => e27 _))))
theorem isRest_l {t : SG} {a b : Nat} (r : RI t) (q : QS t) (ha : a ≤ msz t) (hb : b ≤ msz t) : ∀ (n j k : Nat) (y : Int32), (y = 0 ∨ y = 1) → j + n = msz t + 1 → n ≤ k → ok (RisRest_5 (RisRest_R k) t (nI a) (nI b) y (nI j)) (fun _ => True) := by
  have z := QS_MZ r q
  have z6 := z.2
  intro n
  induction n with
  | zero =>
    intro j k y hy hj hk
    have e4 : xrt 4 y = true := by rcases hy with g | g <;> rw [g] <;> rfl
    unfold RisRest_5
    refine ok_be (q_ministers (QS_RH q)) ?_
    rw [z.1, if_pos (nI_lt2 (a := msz t) (b := j) (by omega) (by omega)), e4]
    exact ok_s trivial
  | succ n ih =>
    intro j k y hy hj hk
    obtain ⟨k, rfl⟩ : ∃ k', k = k' + 1 := ⟨k - 1, by omega⟩
    have next : ∀ v : Int32, (v = 0 ∨ v = 1) → ok (RisRest_R (k + 1) t (nI a) (nI b) v (nI j + 1)) (fun _ => True) := by
      intro v hv
      show ok (RisRest_5 (RisRest_R k) t (nI a) (nI b) v (nI j + 1)) _
      rw [← nI_succ]
      exact ih (j + 1) k v hv (by omega) (by omega)
    have e4 : xrt 4 y = true := by rcases hy with g | g <;> rw [g] <;> rfl
    unfold RisRest_5
    refine ok_be (q_ministers (QS_RH q)) (ok_i (fun _ => ?_) (fun _ => ok_i (fun _ => next _ (Or.inl rfl)) (fun _ => ?_)))
    · rw [e4]; exact ok_s trivial
    · refine ok_b (gainOf_ok r q (by omega) hb) (fun _ _ => ok_b (gainOf_ok r q ha hb) (fun _ _ => ok_i (fun _ => next _ (Or.inl rfl)) (fun _ => ?_)))
      exact ok_b (gainOf_ok r q ha (by omega)) (fun _ _ => ok_b (gainOf_ok r q ha hb) (fun _ _ => ok_i (fun _ => next _ (Or.inl rfl)) (fun _ => next _ (Or.inr rfl))))
theorem lobby42 {t : SG} {y1 y2 y3 y4 y5 y6 y7 : Int32} {a R : Nat} (r : RI t) (q : QS t) (ha : a ≤ msz t) (hc : ∀ (z : Nat) (y : Int32), R ≤ z → ok (Rlobby_30 (Rlobby_R z).1 (Rlobby_R z).2 t y1 y2 y3 y4 y5 y6 y7 y (nI a + 1)) (fun p => QI t p.2)) : ∀ (n j k : Nat) (y : Int32), j + n = msz t + 1 → n + R + 1 ≤ k → ok (Rlobby_42 (Rlobby_R k).1 (Rlobby_R k).2 t y1 y2 y3 y4 y5 y6 y7 y (nI a) (nI j)) (fun p => QI t p.2) := by
  have z := QS_MZ r q
  have z6 := z.2
  intro n
  induction n with
  | zero =>
    intro j k y hj hk
    obtain ⟨k, rfl⟩ : ∃ k', k = k' + 1 := ⟨k - 1, by omega⟩
    unfold Rlobby_42
    refine ok_be (q_ministers (QS_RH q)) ?_
    rw [z.1, if_pos (nI_lt2 (a := msz t) (b := j) (by omega) (by omega))]
    exact hc k y (by omega)
  | succ n ih =>
    intro j k y hj hk
    obtain ⟨k, rfl⟩ : ∃ k', k = k' + 1 := ⟨k - 1, by omega⟩
    have next : ∀ v : Int32, ok ((Rlobby_R (k + 1)).2 t y1 y2 y3 y4 y5 y6 y7 v (nI a) (nI j + 1)) (fun p => QI t p.2) := by
      intro v
      show ok (Rlobby_42 (Rlobby_R k).1 (Rlobby_R k).2 t y1 y2 y3 y4 y5 y6 y7 v (nI a) (nI j + 1)) _
      rw [← nI_succ]
      exact ih (j + 1) k v (by omega) (by omega)
    unfold Rlobby_42
    refine ok_be (q_ministers (QS_RH q)) ?_
    have nx : ¬ nI (msz t) < nI j := by rw [Int32.not_lt]; exact nI_le2 (by omega) (by omega)
    rw [z.1, if_neg nx]
    unfold RisRest
    exact ok_b (isRest_l r q ha (by omega : j ≤ msz t) (msz t + 1) 0 xF 1 (Or.inr rfl) (by omega) (by have := xF_ge; omega)) (fun _ _ => ok_i (fun _ => next _) (fun _ => ok_i (fun _ => ok_s QI_rfl) (fun _ => next _)))
theorem lobby30 {t : SG} {y1 y2 y3 y4 y5 y6 y7 : Int32} (r : RI t) (q : QS t) : ∀ (n j k : Nat) (y : Int32), j + n = msz t + 1 → n * (msz t + 3) ≤ k → ok (Rlobby_30 (Rlobby_R k).1 (Rlobby_R k).2 t y1 y2 y3 y4 y5 y6 y7 y (nI j)) (fun p => QI t p.2) := by
  have z := QS_MZ r q
  have z6 := z.2
  intro n
  induction n with
  | zero =>
    intro j k y hj hk
    unfold Rlobby_30
    refine ok_be (q_ministers (QS_RH q)) ?_
    rw [z.1, if_pos (nI_lt2 (a := msz t) (b := j) (by omega) (by omega))]
    exact ok_i (fun _ => ok_s QI_rfl) (fun _ => ok_s QI_rfl)
  | succ n ih =>
    intro j k y hj hk
    have nx : ¬ nI (msz t) < nI j := by rw [Int32.not_lt]; exact nI_le2 (by omega) (by omega)
    unfold Rlobby_30
    refine ok_be (q_ministers (QS_RH q)) ?_
    rw [z.1, if_neg nx]
    refine lobby42 (R := n * (msz t + 3)) r q (by omega) (fun z y hz => ?_) (msz t + 1) 0 k y (by omega) (by rw [Nat.succ_mul] at hk; omega)
    rw [← nI_succ]
    exact ih (j + 1) z y (by omega) hz
theorem lobby_ok {s : SG} {x b se u v w g : Int32} (r : RI s) : ok (Rlobby s x b se u v w g) (fun p => QI s p.2) := by
  unfold Rlobby
  refine ok_b (isMotion_ok r) (fun p hp => ok_i (fun _ => ok_s hp.1) (fun c => ?_))
  obtain ⟨q, _⟩ := hp.2.resolve_left c
  have r2 := QI_RI hp.1 r
  have z6 := (QS_MZ r2 q).2
  refine ok_i (fun _ => ?_) (fun _ => ok_s hp.1)
  refine ok_w (lobby30 r2 q (msz p.2 + 1) 0 xF 0 (by omega) ?_) (fun v hv => QI_tr hp.1 hv)
  have := xF_ge
  have h2 : (msz p.2 + 1) * (msz p.2 + 3) ≤ 7 * 9 := Nat.mul_le_mul (by omega) (by omega)
  omega
theorem bargain84 {t : SG} {y1 y2 y3 y5 y6 y7 : Int32} {b R : Nat} (r : RI t) (q : QS t) (hb : b ≤ 1436) (hc : ∀ (z : Nat) (a c : Int32), R ≤ z → ok (Rbargain_69 (Rbargain_R z).1 (Rbargain_R z).2 t y1 y2 y3 (nI b) a c (y7 + 1)) (fun p => QI t p.2)) : ∀ (n j k : Nat) (y : Int32), j + n = msz t → n + R + 1 ≤ k → ok (Rbargain_84 (Rbargain_R k).1 (Rbargain_R k).2 t y1 y2 y3 (nI b) y5 y6 y7 y (nI j)) (fun p => QI t p.2) := by
  have z := QS_MZ r q
  have z6 := z.2
  intro n
  induction n with
  | zero =>
    intro j k y hj hk
    obtain ⟨k, rfl⟩ : ∃ k', k = k' + 1 := ⟨k - 1, by omega⟩
    have nx : ∀ a c : Int32, ok ((Rbargain_R (k + 1)).1 t y1 y2 y3 (nI b) a c (y7 + 1)) (fun p => QI t p.2) := fun a c => hc k a c (by omega)
    unfold Rbargain_84
    refine ok_be (q_ministers (QS_RH q)) ?_
    rw [z.1, if_pos (k_ge hj)]
    exact ok_b (isEnough_ok r q) (fun _ _ => ok_i (fun _ => nx _ _) (fun _ => ok_i (fun _ => ok_i (fun _ => nx _ _) (fun _ => nx _ _)) (fun _ => nx _ _)))
  | succ n ih =>
    intro j k y hj hk
    obtain ⟨k, rfl⟩ : ∃ k', k = k' + 1 := ⟨k - 1, by omega⟩
    have next : ∀ v : Int32, ok ((Rbargain_R (k + 1)).2 t y1 y2 y3 (nI b) y5 y6 y7 v (nI j + 1)) (fun p => QI t p.2) := by
      intro v
      show ok (Rbargain_84 (Rbargain_R k).1 (Rbargain_R k).2 t y1 y2 y3 (nI b) y5 y6 y7 v (nI j + 1)) _
      rw [← nI_succ]
      exact ih (j + 1) k v (by omega) (by omega)
    unfold Rbargain_84
    refine ok_be (q_ministers (QS_RH q)) ?_
    rw [z.1, if_neg (k_lt hj (by omega))]
    exact ok_i (fun _ => ok_be (rd_nI (e := b + j) (by rw [nI_add]) (by omega) (by decide)) (next _)) (fun _ => next _)
theorem bargain69 {t : SG} {y1 y2 y3 : Int32} {b E : Nat} (r : RI t) (q : QS t) (hb : b ≤ 1436) (hE : E ≤ 63) (eE : Reverybody t = some (nI E)) : ∀ (n j k : Nat) (a c : Int32), j + n = E + 1 → n * (msz t + 2) ≤ k → ok (Rbargain_69 (Rbargain_R k).1 (Rbargain_R k).2 t y1 y2 y3 (nI b) a c (nI j)) (fun p => QI t p.2) := by
  intro n
  induction n with
  | zero =>
    intro j k a c hj hk
    unfold Rbargain_69
    refine ok_be eE ?_
    rw [if_pos (nI_lt2 (a := E) (b := j) (by omega) (by omega))]
    exact ok_i (fun _ => ok_s QI_rfl) (fun _ => ok_s QI_rfl)
  | succ n ih =>
    intro j k a c hj hk
    have nx : ¬ nI E < nI j := by rw [Int32.not_lt]; exact nI_le2 (by omega) (by omega)
    unfold Rbargain_69
    refine ok_be eE ?_
    rw [if_neg nx]
    refine bargain84 (R := n * (msz t + 2)) r q hb (fun z a c hz => ?_) (msz t) 0 k 0 (by omega) (by rw [Nat.succ_mul] at hk; omega)
    rw [← nI_succ]
    exact ih (j + 1) z a c (by omega) hz
theorem bargain_ok {s : SG} {x y z : Int32} (r : RI s) : ok (Rbargain s x y z) (fun p => QI s p.2) := by
  unfold Rbargain
  refine ok_be (q_isOf rfl (by decide)) (ok_i (fun _ => ok_s QI_rfl) (fun c0 => ?_))
  obtain ⟨k, ek, hk⟩ := isOf_k r (by decide) c0
  refine ok_b (isRepublic_ok r) (fun p hp => ok_i (fun _ => ok_s hp.1) (fun c => ?_))
  have q : QS p.2 := (hp.2.resolve_left c).1
  have r2 := QI_RI hp.1 r
  have z6 := (QS_MZ r2 q).2
  obtain ⟨E, hE, eE⟩ := every_eq r2 q
  rw [ek, place5]
  refine ok_i (fun _ => ok_i (fun _ => ok_s hp.1) (fun _ => ?_)) (fun c3 => ?_)
  · refine ok_w (bargain69 r2 q (by omega) hE eE (E + 1) 0 xF 0 (-1) (by omega) ?_) (fun v hv => QI_tr hp.1 hv)
    have := xF_ge
    have h2 : (E + 1) * (msz p.2 + 2) ≤ 64 * 8 := Nat.mul_le_mul (by omega) (by omega)
    omega
  · obtain ⟨a, ea, ha⟩ := inI_nI (b := 5) (by decide) c3
    exact ok_be (rd_nI (e := 1430 + 6 * k + a) (by rw [ea, nI_add]) (by omega) (by decide)) (ok_s hp.1)
end XRF
end
section
section XRG
variable {sc : Nat × (Nat → Int32)} {d : Nat} {K : List KD} {r q t a B m : Nat} {w : EW}
/-! the reference: numbers, power -/
theorem nI_div {a b : Nat} (ha : a < 2 ^ 31) (hb : 0 < b) (hb2 : b < 2 ^ 31) : nI a / nI b = nI (a / b) := by
  apply Int32.toInt_inj.mp
  have hne : nI b ≠ -1 := by
    intro h
    have e := congrArg Int32.toInt h
    rw [nI_toInt hb2] at e
    have z : (-1 : Int32).toInt = -1 := by decide
    omega
  have hl : a / b ≤ a := Nat.div_le_self a b
  rw [Int32.toInt_div_of_ne_right _ _ hne, nI_toInt ha, nI_toInt hb2, nI_toInt (by omega)]
  exact (Int.ofNat_tdiv a b).symm
theorem nI_mod {a b : Nat} (ha : a < 2 ^ 31) (hb : 0 < b) (hb2 : b < 2 ^ 31) : nI a - nI a / nI b * nI b = nI (a % b) := by
  rw [nI_div ha hb hb2, nI_mulx]
  have e : a = a % b + a / b * b := by rw [Nat.mul_comm]; exact (Nat.mod_add_div a b).symm
  have e2 : nI a = nI (a % b) + nI (a / b * b) := by rw [nI_add, ← e]
  rw [e2, Int32.add_sub_cancel]
theorem common_l {y0 y1 : Int32} : ∀ (b a k : Nat), a < 2 ^ 31 → b < 2 ^ 31 → 0 < a + b → b ≤ k → ok (Rcommon_4 (Rcommon_R k) y0 y1 (nI a) (nI b)) (fun v => ∃ g, v = nI g ∧ 0 < g ∧ g < 2 ^ 31) := by
  intro b
  induction b using Nat.strongRecOn with
  | _ b ih =>
    intro a k ha hb hab hk
    unfold Rcommon_4
    by_cases h0 : b = 0
    · subst h0
      rw [if_pos (show nI 0 = (0 : Int32) from rfl)]
      exact ok_s ⟨a, rfl, by omega, ha⟩
    · have hne : ¬ nI b = (0 : Int32) := by
        intro h
        exact h0 (nI_inj hb (by decide) h)
      obtain ⟨k, rfl⟩ : ∃ k', k = k' + 1 := ⟨k - 1, by omega⟩
      rw [if_neg hne, if_neg hne, nI_mod ha (by omega) hb]
      have hm : a % b < b := Nat.mod_lt _ (by omega)
      exact ih (a % b) hm b k hb (by omega) (by omega) (by omega)
theorem part_ok {a b : Nat} {u : Int32} (ha : a < 2 ^ 31) (hb : 0 < b) (hb2 : b ≤ 40000) : ok (Rpart (nI a) (nI b) u) (fun _ => True) := by
  have hF := xF_ge
  have e9 : ∀ v, ok (Rpart_9 (nI a) (nI b) u v) (fun _ => True) := by
    intro v
    unfold Rpart_9 Rcommon
    refine ok_b (common_l b a xF ha (by omega) (by omega) (by omega)) (fun w hw => ?_)
    obtain ⟨g, eg, g1, g2⟩ := hw
    rw [if_neg]
    · exact ok_s trivial
    · intro h
      rw [eg] at h
      have := nI_inj g2 (by decide : (0 : Nat) < 2 ^ 31) h
      omega
  unfold Rpart
  exact ok_i (fun _ => e9 _) (fun _ => e9 _)
def fcN : Nat → Nat
  | 0 => 1
  | m + 1 => (m + 1) * fcN m
theorem fact_k {m k : Nat} (hm : m ≤ 6) : Rfactorial_4 (Rfactorial_R (k + 6)) (nI m) 1 2 = some (nI (fcN m)) ∧ fcN m ≤ 720 ∧ 0 < fcN m := by
  rcases (by omega : m = 0 ∨ m = 1 ∨ m = 2 ∨ m = 3 ∨ m = 4 ∨ m = 5 ∨ m = 6) with e | e | e | e | e | e | e <;> subst e <;> exact ⟨rfl, by decide, by decide⟩
theorem fact_ok {m : Nat} (hm : m ≤ 6) : Rfactorial (nI m) = some (nI (fcN m)) ∧ fcN m ≤ 720 ∧ 0 < fcN m := by
  obtain ⟨k, hk⟩ : ∃ k, xF = k + 6 := ⟨xF - 6, by have := xF_ge; omega⟩
  unfold Rfactorial
  rw [hk]
  exact fact_k hm
theorem fact_sub {m b : Nat} (hm : m ≤ 6) (hb : b ≤ 6) : ∃ f, Rfactorial (nI m - 1 - nI b) = some (nI f) ∧ f ≤ 720 := by
  by_cases h : b < m
  · have e : nI m - 1 - nI b = nI (m - 1 - b) := by
      have e1 : nI m = nI (m - 1 - b) + nI b + nI 1 := by rw [nI_add, nI_add]; congr 1; omega
      rw [e1]
      show nI (m - 1 - b) + nI b + nI 1 - nI 1 - nI b = _
      rw [Int32.add_sub_cancel, Int32.add_sub_cancel]
    have f := fact_ok (m := m - 1 - b) (by omega)
    exact ⟨_, by rw [e]; exact f.1, f.2.1⟩
  · have all : ∀ m, m < 7 → ∀ b, b < 7 → m ≤ b → nI m - 1 - nI b < 2 := by decide
    refine ⟨1, ?_, by decide⟩
    unfold Rfactorial Rfactorial_4
    rw [if_pos (all m (by omega) b (by omega) (by omega))]
    rfl
def bsL (x : Int32) : Nat → Nat → Int32 → Int32
  | 0, _, y => y
  | n + 1, j, y => bsL x n (j + 1) (y + ((x >>> (nI j &&& 31)) &&& 1))
theorem bits_l {x : Int32} : ∀ (n j k : Nat) (y : Int32), j + n = 31 → n ≤ k → Rbits_4 (Rbits_R k) x y (nI j) = some (bsL x n j y) := by
  intro n
  induction n with
  | zero =>
    intro j k y hj hk
    unfold Rbits_4
    rw [if_pos (show (31 : Int32) ≤ nI j from k_ge (m := 31) hj)]
    rfl
  | succ n ih =>
    intro j k y hj hk
    obtain ⟨k, rfl⟩ : ∃ k', k = k' + 1 := ⟨k - 1, by omega⟩
    unfold Rbits_4
    rw [if_neg (show ¬ (31 : Int32) ≤ nI j from k_lt (m := 31) hj (by decide))]
    show Rbits_4 (Rbits_R k) x _ (nI j + 1) = _
    rw [← nI_succ, ih (j + 1) k _ (by omega) (by omega)]
    rfl
theorem bits_all : ∀ a, a < 64 → ∃ b, b < 7 ∧ bsL (nI a) 31 0 0 = nI b ∧ (0 < a → 0 < b) := by decide +kernel
theorem bits_ok {a : Nat} (ha : a ≤ 63) : ∃ b, b ≤ 6 ∧ Rbits (nI a) = some (nI b) ∧ (0 < a → 0 < b) := by
  obtain ⟨b, hb, e, h⟩ := bits_all a (by omega)
  refine ⟨b, by omega, ?_, h⟩
  unfold Rbits
  have l := bits_l (x := nI a) 31 0 xF 0 rfl (by have := xF_ge; omega)
  rw [e] at l
  exact l
theorem power_l {t : SG} {y1 y2 y3 : Int32} {E : Nat} (r : RI t) (q : QS t) (hE : E ≤ 63) (hp : 0 < msz t) (eE : Reverybody t = some (nI E)) : ∀ (n j k c : Nat), j + n = E + 1 → n ≤ k → c ≤ j * 518400 → ok (Rpower_30 (Rpower_R k) t y1 y2 y3 (nI (msz t)) (nI c) (nI j)) (fun p => QI t p.2) := by
  have z := QS_MZ r q
  have z6 := z.2
  intro n
  induction n with
  | zero =>
    intro j k c hj hk hc
    have f := fact_ok (m := msz t) z6
    unfold Rpower_30
    refine ok_be eE ?_
    rw [if_pos (nI_lt2 (a := E) (b := j) (by omega) (by omega))]
    have hc2 : c ≤ 33177600 := Nat.le_trans hc (Nat.mul_le_mul_right 518400 (by omega : j ≤ 64))
    refine ok_be f.1 (ok_b (part_ok (Nat.lt_of_le_of_lt hc2 (by decide)) f.2.2 (by omega)) (fun _ _ => ok_s QI_rfl))
  | succ n ih =>
    intro j k c hj hk hc
    obtain ⟨k, rfl⟩ : ∃ k', k = k' + 1 := ⟨k - 1, by omega⟩
    have next : ∀ c2, c2 ≤ (j + 1) * 518400 → ok (Rpower_R (k + 1) t y1 y2 y3 (nI (msz t)) (nI c2) (nI j + 1)) (fun p => QI t p.2) := by
      intro c2 h2
      show ok (Rpower_30 (Rpower_R k) t y1 y2 y3 (nI (msz t)) (nI c2) (nI j + 1)) _
      rw [← nI_succ]
      exact ih (j + 1) k c2 (by omega) (by omega) h2
    have nx : ¬ nI E < nI j := by rw [Int32.not_lt]; exact nI_le2 (by omega) (by omega)
    have same := next c (Nat.le_trans hc (Nat.mul_le_mul_right _ (by omega)))
    obtain ⟨b, hb, eb, _⟩ := bits_ok (a := j) (by omega)
    have f1 := fact_ok (m := b) hb
    obtain ⟨f, ef, hf⟩ := fact_sub (m := msz t) (b := b) z6 hb
    unfold Rpower_30
    refine ok_be eE ?_
    rw [if_neg nx]
    refine ok_i (fun _ => same) (fun _ => ok_b (isEnough_ok r q) (fun _ _ => ok_i (fun _ => ?_) (fun _ => same)))
    refine ok_b (isEnough_ok r q) (fun _ _ => ok_i (fun _ => same) (fun _ => ?_))
    refine ok_be eb (ok_be f1.1 (ok_be eb (ok_be ef ?_)))
    rw [nI_mulx, nI_add]
    have hm : fcN b * f ≤ 518400 := Nat.mul_le_mul f1.2.1 hf
    refine next _ ?_
    rw [Nat.succ_mul]
    exact Nat.add_le_add hc hm
theorem power_ok {s : SG} {x y z : Int32} (r : RI s) : ok (Rpower s x y z) (fun p => QI s p.2) := by
  unfold Rpower
  refine ok_b (isRepublic_ok r) (fun p hp => ok_i (fun _ => ok_s hp.1) (fun c => ?_))
  have q : QS p.2 := (hp.2.resolve_left c).1
  have r2 := QI_RI hp.1 r
  refine ok_be (q_isMinister (QS_RH q)) (ok_i (fun _ => ok_s hp.1) (fun c2 => ?_))
  obtain ⟨m, em, hm, _⟩ := mn_k r2 q c2
  have z6 := QS_MZ r2 q
  obtain ⟨E, hE, eE⟩ := every_eq r2 q
  refine ok_be (q_ministers (QS_RH q)) ?_
  rw [z6.1]
  exact ok_w (power_l r2 q hE (by omega) eE (E + 1) 0 xF 0 (by omega) (by have := xF_ge; omega) (by omega)) (fun v hv => QI_tr hp.1 hv)
end XRG
end
