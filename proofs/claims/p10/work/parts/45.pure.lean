section XRC
variable {sc : Nat × (Nat → Int32)} {d : Nat} {K : List KD} {r q t a B m : Nat} {w : EW}
/-! the reference by itself: what its functions answer -/
theorem oV_inj {o : Option Int32} {v : Int32} {w : EW} (h : oV o w = some (some (.inl v), w)) : o = some v := by
  cases o with
  | none => cases h
  | some x =>
    have e : (some (some (.inl x), w) : XR) = some (some (.inl v), w) := h
    simp only [Option.some.injEq, Prod.mk.injEq, Sum.inl.injEq, and_true] at e
    rw [e]
def KZ : List KD := KB (fun _ => none)
theorem h0 : SH KZ := ⟨fun _ => none, [], (List.append_nil _).symm⟩
def sc0 : Nat × (Nat → Int32) := (0, fun _ => 0)
theorem q_of {s : SG} {x : Int32} {a : Nat} (hr : RH s) (hx : x = nI a) (ha : a < 5000) : Rof s x = some (ofN s a) := oV_inj ((r_of (sc := sc0) (d := 0) h0).symm.trans (e_of (sc := sc0) (d := 0) h0 hr hx ha))
theorem q_ministers {s : SG} (hr : RH s) : Rministers s  = some (ofN s 0) := oV_inj ((r_ministers (sc := sc0) (d := 0) h0).symm.trans (e_ministers (sc := sc0) (d := 0) h0 hr))
theorem q_isMinister {s : SG} {m : Int32} (hr : RH s) : RisMinister s m = some (mnN s m) := oV_inj ((r_isMinister (sc := sc0) (d := 0) h0).symm.trans (e_isMinister (sc := sc0) (d := 0) h0 hr))
theorem q_ofMinister {s : SG} {x y : Int32} {m a : Nat} (hr : RH s) (hx : x = nI m) (hy : y = nI a) (hm : m < 6) (ha : a < 18) : RofMinister s x y = some (ofN s (10 + 18 * m + a)) := oV_inj ((r_ofMinister (sc := sc0) (d := 0) h0).symm.trans (e_ofMinister (sc := sc0) (d := 0) h0 hr hx hy hm ha))
theorem q_wants {s : SG} {x y z : Int32} {m a b : Nat} (hr : RH s) (hx : x = nI m) (hy : y = nI a) (hz : z = nI b) (hm : m < 6) (ha : a < 4) (hb : b < 3) : Rwants s x y z = some (ofN s (16 + 18 * m + 3 * a + b)) := oV_inj ((r_wants (sc := sc0) (d := 0) h0).symm.trans (e_wants (sc := sc0) (d := 0) h0 hr hx hy hz hm ha hb))
theorem q_offOf {s : SG} {x : Int32} {m : Nat} (hr : RH s) (hs : SE s) (hx : x = nI m) (hm : m < 6) : RoffOf s x = some (ofoN s m) := oV_inj ((r_offOf (sc := sc0) (d := 0) h0).symm.trans (e_offOf (sc := sc0) (d := 0) h0 hr hs hx hm))
theorem q_yields {s : SG} {x : Int32} {m : Nat} (hr : RH s) (hx : x = nI m) (hm : m < 6) : Ryields s x = some (yieN s m) := oV_inj ((r_yields (sc := sc0) (d := 0) h0).symm.trans (e_yields (sc := sc0) (d := 0) h0 hr hx hm))
theorem q_agrees {s : SG} {x : Int32} {m : Nat} (hr : RH s) (hs : SE s) (hx : x = nI m) (hm : m < 6) : Ragrees s x = some (agsN s m) := oV_inj ((r_agrees (sc := sc0) (d := 0) h0).symm.trans (e_agrees (sc := sc0) (d := 0) h0 hr hs hx hm))
theorem q_agreeing {s : SG} (hr : RH s) (hs : SE s) (hz : MZ s) : Ragreeing s  = some (agmT s) := oV_inj ((r_agreeing (sc := sc0) (d := 0) h0).symm.trans (e_agreeing (sc := sc0) (d := 0) h0 hr hs hz))
theorem q_votesOf {s : SG} {x : Int32} (hr : RH s) (hz : MZ s) : RvotesOf s x = some (vomT s x) := oV_inj ((r_votesOf (sc := sc0) (d := 0) h0).symm.trans (e_votesOf (sc := sc0) (d := 0) h0 hr hz))
theorem q_vetoes {s : SG} (hr : RH s) (hz : MZ s) : Rvetoes s  = some (vetT s) := oV_inj ((r_vetoes (sc := sc0) (d := 0) h0).symm.trans (e_vetoes (sc := sc0) (d := 0) h0 hr hz))
theorem q_isPassed {s : SG} {a : Int32} (hr : RH s) (hz : MZ s) : RisPassed s a = some (pasN s a) := oV_inj ((r_isPassed (sc := sc0) (d := 0) h0).symm.trans (e_isPassed (sc := sc0) (d := 0) h0 hr hz))
theorem q_isOf {s : SG} {x k : Int32} {a : Nat} (hx : x = nI a) (ha : a < 6) : RisOf s x k = some (iofN s a k) := oV_inj ((r_isOf (sc := sc0) (d := 0) h0).symm.trans (e_isOf (sc := sc0) (d := 0) h0 hx ha))
/-- an answer is there, and P holds of it -/
def ok {α : Type} (o : Option α) (P : α → Prop) : Prop := ∃ a, o = some a ∧ P a
theorem ok_b {α β : Type} {o : Option α} {f : α → Option β} {Q : α → Prop} {P : β → Prop} (h : ok o Q) (k : ∀ a, Q a → ok (f a) P) : ok (o.bind f) P := by
  obtain ⟨a, e, q⟩ := h
  rw [e]; exact k a q
theorem ok_be {α β : Type} {o : Option α} {f : α → Option β} {a : α} {P : β → Prop} (h : o = some a) (k : ok (f a) P) : ok (o.bind f) P := by
  rw [h]; exact k
theorem ok_s {α : Type} {a : α} {P : α → Prop} (h : P a) : ok (some a) P := ⟨a, rfl, h⟩
theorem ok_i {α : Type} {c : Prop} [Decidable c] {a b : Option α} {P : α → Prop} (h1 : c → ok a P) (h2 : ¬ c → ok b P) : ok (if c then a else b) P := by
  split
  · exact h1 ‹_›
  · exact h2 ‹_›
theorem ok_w {α : Type} {o : Option α} {Q P : α → Prop} (h : ok o Q) (k : ∀ a, Q a → P a) : ok o P := by
  obtain ⟨a, e, q⟩ := h
  exact ⟨a, e, k a q⟩
theorem rd_nI {s : SG} {k n e : Nat} {x : Int32} (hx : x = nI e) (he : e < n) (hn : n < 2 ^ 31) : rdI s k n x = some (s k e) := by
  unfold rdI
  rw [hx, xvb_nI he hn, nI_clamp (by omega)]; rfl
theorem wr_nI {s : SG} {k n e : Nat} {x v : Int32} (hx : x = nI e) (he : e < n) (hn : n < 2 ^ 31) : wrI s k n x v = some (up s k e v) := by
  unfold wrI
  rw [hx, xvb_nI he hn, nI_clamp (by omega)]; rfl
/-- one of 0 .. n -/
def NB (x : Int32) (n : Nat) : Prop := ∃ a, x = nI a ∧ a ≤ n
theorem NB_nI {a n : Nat} (h : a ≤ n) : NB (nI a) n := ⟨a, rfl, h⟩
theorem NB_mono {x : Int32} {m n : Nat} (h : NB x m) (hmn : m ≤ n) : NB x n := by
  obtain ⟨a, e, h⟩ := h
  exact ⟨a, e, by omega⟩
theorem inI_nI {x : Int32} {b : Nat} (hb : b < 2 ^ 31) (h : ¬ inI x 0 (nI b) = 0) : NB x b := by
  unfold inI at h
  by_cases c1 : x < 0
  · rw [if_pos c1] at h; exact absurd rfl h
  · rw [if_neg c1] at h
    by_cases c2 : nI b < x
    · rw [if_pos c2] at h; exact absurd rfl h
    · have e := Int32.ofNat_toNatClampNeg x (Int32.not_lt.mp c1)
      have e2 := Int32.cast_toNatClampNeg x (Int32.not_lt.mp c1)
      refine ⟨x.toNatClampNeg, e.symm, ?_⟩
      rw [Int32.not_lt, Int32.le_iff_toInt_le, nI_toInt hb] at c2
      omega
theorem inI_sub {x : Int32} {n : Nat} (hn : n < 2 ^ 31) (h : ¬ inI x 0 (nI n - 1) = 0) : ∃ j, x = nI j ∧ j < n := by
  cases n with
  | zero =>
    exfalso; apply h
    unfold inI
    by_cases c1 : x < 0
    · rw [if_pos c1]
    · rw [if_neg c1, if_pos]
      have : nI 0 - 1 = (-1 : Int32) := by decide
      rw [this]
      rw [Int32.lt_iff_toInt_lt]
      have := Int32.le_iff_toInt_le.mp (Int32.not_lt.mp c1)
      have z : (0 : Int32).toInt = 0 := by decide
      have z2 : (-1 : Int32).toInt = -1 := by decide
      omega
  | succ n =>
    have e : nI (n + 1) - 1 = nI n := by rw [nI_succ, Int32.add_sub_cancel]
    rw [e] at h
    obtain ⟨a, ea, ha⟩ := inI_nI (by omega) h
    exact ⟨a, ea, by omega⟩
theorem b63 {z : Int32} (h : z &&& 63 = z) : NB z 63 := by
  have e : (z &&& 63).toBitVec.toNat = z.toBitVec.toNat := by rw [h]
  rw [Int32.toBitVec_and, BitVec.toNat_and] at e
  have e3 : (63 : Int32).toBitVec.toNat = 63 := by decide
  rw [e3] at e
  have hl : z.toBitVec.toNat ≤ 63 := by rw [← e]; exact Nat.and_le_right
  refine ⟨z.toBitVec.toNat, ?_, hl⟩
  apply Int32.toInt_inj.mp
  rw [nI_toInt (by omega)]
  show z.toBitVec.toInt = _
  rw [BitVec.toInt_eq_toNat_of_lt (by omega)]
theorem b63' {z : Int32} (h : NB z 63) : z &&& 63 = z := by
  obtain ⟨a, e, ha⟩ := h
  subst e
  have all : ∀ a, a < 64 → nI a &&& 63 = nI a := by decide
  exact all a (by omega)
theorem NB_and {x y : Int32} (h : NB x 63) : NB (x &&& y) 63 := by
  refine b63 ?_
  have e := b63' h
  rw [Int32.and_assoc, Int32.and_comm y, ← Int32.and_assoc, e]
theorem NB_or {x y : Int32} (h : NB x 63) (h2 : NB y 63) : NB (x ||| y) 63 := by
  refine b63 ?_
  have e := b63' h
  have e2 := b63' h2
  apply Int32.toBitVec_inj.mp
  have f := congrArg Int32.toBitVec e
  have f2 := congrArg Int32.toBitVec e2
  rw [Int32.toBitVec_and] at f f2
  rw [Int32.toBitVec_and, Int32.toBitVec_or]
  apply BitVec.eq_of_getLsbD_eq
  intro i hi
  have g := congrArg (fun v => BitVec.getLsbD v i) f
  have g2 := congrArg (fun v => BitVec.getLsbD v i) f2
  simp only [BitVec.getLsbD_and] at g g2
  simp only [BitVec.getLsbD_and, BitVec.getLsbD_or]
  cases hx : x.toBitVec.getLsbD i <;> cases hy : y.toBitVec.getLsbD i <;> rw [hx] at g <;> rw [hy] at g2 <;> simp_all
theorem NB_bit {m : Nat} (h : m < 6) : NB ((1 : Int32) <<< (nI m &&& 31)) 63 := by
  have all : ∀ m, m < 6 → (1 : Int32) <<< (nI m &&& 31) = nI (2 ^ m) ∧ 2 ^ m ≤ 63 := by decide
  exact ⟨2 ^ m, (all m h).1, (all m h).2⟩
theorem NB_all {m : Nat} (h : m ≤ 6) : NB ((1 : Int32) <<< (nI m &&& 31) - 1) 63 := by
  have all : ∀ m, m < 7 → (1 : Int32) <<< (nI m &&& 31) - 1 = nI (2 ^ m - 1) ∧ 2 ^ m - 1 ≤ 63 := by decide
  exact ⟨2 ^ m - 1, (all m (by omega)).1, (all m (by omega)).2⟩
/-! what is told, as numbers -/
def RR (f : Nat → Int32) (r : Nat) : Prop := NB (f r) 6 ∧ NB (f (r + 3)) 99 ∧ NB (f (r + 4)) 99 ∧ ∀ m i, m < 6 → i < 12 → NB (f (r + 16 + 18 * m + i)) 9
def RYd (f : Nat → Int32) (y : Nat) : Prop := NB (f y) 40 ∧ ∀ j, j < 40 → (f (y + 1 + 5 * j) = 1 → NB (f (y + 1 + 5 * j + 1)) 3) ∧ (f (y + 1 + 5 * j) = 2 → NB (f (y + 1 + 5 * j + 1)) 2)
def RSu (f : Nat → Int32) (z : Nat) : Prop := NB (f z) 8 ∧ ∀ j, j < 8 → NB (f (z + 1 + 4 * j)) 3 ∧ NB (f (z + 1 + 4 * j + 1)) 9 ∧ NB (f (z + 1 + 4 * j + 2)) 9 ∧ NB (f (z + 1 + 4 * j + 3)) 9
def RB0 (f : Nat → Int32) : Prop := (∀ i, i < 6 → NB (f i) 2) ∧ NB (f 6) 600 ∧ (∀ k, k < 2 → RR f (610 + 118 * k) ∧ NB (f (846 + 41 * k)) 8 ∧ RYd f (928 + 201 * k) ∧ NB (f (1330 + 17 * k)) 8 ∧ RSu f (1364 + 33 * k))
/-- all that is told, and the images' -/
def RI (s : SG) : Prop := RB0 (s 65) ∧ ∀ k, k < 3 → RB0 (fun j => s 65 (1442 * (k + 1) + j))
/-- off the cells of what a query counts with, nothing has changed -/
def QI (s t : SG) : Prop := t 65 = s 65 ∧ t 66 = s 66 ∧ ∀ c, (c < 64 ∨ 72 ≤ c) → t c = s c
def PT (s t : SG) : Prop := t 64 11 = s 64 11 ∧ t 64 17 = s 64 17 ∧ t 64 29 = s 64 29 ∧ t 64 30 = s 64 30 ∧ t 64 33 = s 64 33
theorem QI_rfl {s : SG} : QI s s := ⟨rfl, rfl, fun _ _ => rfl⟩
theorem QI_tr {s t u : SG} (h : QI s t) (g : QI t u) : QI s u := ⟨g.1.trans h.1, g.2.1.trans h.2.1, fun c hc => (g.2.2 c hc).trans (h.2.2 c hc)⟩
theorem QI_up {s t : SG} {k j : Nat} {x : Int32} (h : QI s t) (hk : k = 64 ∨ 67 ≤ k) (hk2 : k < 72) : QI s (up t k j x) := QI_tr h ⟨up_n (by omega), up_n (by omega), fun c hc => up_n (by omega)⟩
theorem QI_RI {s t : SG} (h : QI s t) (r : RI s) : RI t := by
  unfold RI at *
  rw [h.1]; exact r
theorem PT_rfl {s : SG} : PT s s := ⟨rfl, rfl, rfl, rfl, rfl⟩
theorem PT_tr {s t u : SG} (h : PT s t) (g : PT t u) : PT s u := ⟨g.1.trans h.1, g.2.1.trans h.2.1, g.2.2.1.trans h.2.2.1, g.2.2.2.1.trans h.2.2.2.1, g.2.2.2.2.trans h.2.2.2.2⟩
theorem PT_up {s t : SG} {k j : Nat} {x : Int32} (h : PT s t) (hj : k ≠ 64 ∨ (j ≠ 11 ∧ j ≠ 17 ∧ j ≠ 29 ∧ j ≠ 30 ∧ j ≠ 33)) : PT s (up t k j x) := by
  refine PT_tr h ?_
  rcases hj with q | ⟨a, b, c, e, f⟩
  · refine ⟨?_, ?_, ?_, ?_, ?_⟩ <;> rw [up_n (fun e => q e.symm)]
  · by_cases q : k = 64
    · subst q; exact ⟨up_bn (fun e => a e.symm), up_bn (fun e => b e.symm), up_bn (fun e => c e.symm), up_bn (fun g => e g.symm), up_bn (fun e => f e.symm)⟩
    · refine ⟨?_, ?_, ?_, ?_, ?_⟩ <;> rw [up_n (fun e => q e.symm)]
/-- a republic is looked at -/
def QS (t : SG) : Prop := (∃ k, k < 2 ∧ t 64 11 = nI (610 + 118 * k)) ∧ NB (t 64 16) 3 ∧ NB (t 64 18) 63
theorem QS_RH {t : SG} (h : QS t) : RH t := by
  obtain ⟨⟨k, hk, e⟩, _⟩ := h
  have : rh t = 610 + 118 * k := by unfold rh; rw [e, nI_clamp (by omega)]
  exact ⟨by rw [this]; exact e, by omega⟩
theorem QS_rh {t : SG} (h : QS t) : ∃ k, k < 2 ∧ rh t = 610 + 118 * k := by
  obtain ⟨⟨k, hk, e⟩, _⟩ := h
  exact ⟨k, hk, by unfold rh; rw [e, nI_clamp (by omega)]⟩
theorem QS_MZ {t : SG} (r : RI t) (h : QS t) : MZ t := by
  obtain ⟨k, hk, e⟩ := QS_rh h
  obtain ⟨a, ea, ha⟩ := (r.1.2.2 k hk).1.1
  have e1 : ofN t 0 = nI a := by unfold ofN; rw [e]; exact ea
  have e2 : msz t = a := by unfold msz; rw [e1, nI_clamp (by omega)]
  exact ⟨by rw [e2]; exact e1, by omega⟩
theorem QS_SE {t : SG} (h : QS t) : SE t := by
  obtain ⟨_, ⟨a, e, ha⟩, _⟩ := h
  have e2 : seN t = a := by unfold seN; rw [e, nI_clamp (by omega)]
  exact ⟨by rw [e2]; exact e, by omega⟩
end XRC
