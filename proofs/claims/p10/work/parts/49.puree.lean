section XRG
variable {sc : Nat × (Nat → Int32)} {d : Nat} {K : List KD} {r q t a B m : Nat} {w : EW}
/-! the reference: numbers, power -/
theorem nI_div {a b : Nat} (ha : a < 2 ^ 31) (hb : 0 < b) (hb2 : b < 2 ^ 31) : nI a / nI b = nI (a / b) := by
  apply Int32.toInt_inj.mp
  have hne : nI b ≠ -1 := by
    intro h
    have e := congrArg Int32.toInt h
    rw [nI_toInt hb2] at e
    have z : (-1 : Int32).toInt = -1 := by decide
    omega
  have hl : a / b ≤ a := Nat.div_le_self a b
  rw [Int32.toInt_div_of_ne_right _ _ hne, nI_toInt ha, nI_toInt hb2, nI_toInt (by omega)]
  exact (Int.ofNat_tdiv a b).symm
theorem nI_mod {a b : Nat} (ha : a < 2 ^ 31) (hb : 0 < b) (hb2 : b < 2 ^ 31) : nI a - nI a / nI b * nI b = nI (a % b) := by
  rw [nI_div ha hb hb2, nI_mulx]
  have e : a = a % b + a / b * b := by rw [Nat.mul_comm]; exact (Nat.mod_add_div a b).symm
  have e2 : nI a = nI (a % b) + nI (a / b * b) := by rw [nI_add, ← e]
  rw [e2, Int32.add_sub_cancel]
theorem common_l {y0 y1 : Int32} : ∀ (b a k : Nat), a < 2 ^ 31 → b < 2 ^ 31 → 0 < a + b → b ≤ k → ok (Rcommon_4 (Rcommon_R k) y0 y1 (nI a) (nI b)) (fun v => ∃ g, v = nI g ∧ 0 < g ∧ g < 2 ^ 31) := by
  intro b
  induction b using Nat.strongRecOn with
  | _ b ih =>
    intro a k ha hb hab hk
    unfold Rcommon_4
    by_cases h0 : b = 0
    · subst h0
      rw [if_pos (show nI 0 = (0 : Int32) from rfl)]
      exact ok_s ⟨a, rfl, by omega, ha⟩
    · have hne : ¬ nI b = (0 : Int32) := by
        intro h
        exact h0 (nI_inj hb (by decide) h)
      obtain ⟨k, rfl⟩ : ∃ k', k = k' + 1 := ⟨k - 1, by omega⟩
      rw [if_neg hne, if_neg hne, nI_mod ha (by omega) hb]
      have hm : a % b < b := Nat.mod_lt _ (by omega)
      exact ih (a % b) hm b k hb (by omega) (by omega) (by omega)
theorem part_ok {a b : Nat} {u : Int32} (ha : a < 2 ^ 31) (hb : 0 < b) (hb2 : b ≤ 40000) : ok (Rpart (nI a) (nI b) u) (fun _ => True) := by
  have hF := xF_ge
  have e9 : ∀ v, ok (Rpart_9 (nI a) (nI b) u v) (fun _ => True) := by
    intro v
    unfold Rpart_9 Rcommon
    refine ok_b (common_l b a xF ha (by omega) (by omega) (by omega)) (fun w hw => ?_)
    obtain ⟨g, eg, g1, g2⟩ := hw
    rw [if_neg]
    · exact ok_s trivial
    · intro h
      rw [eg] at h
      have := nI_inj g2 (by decide : (0 : Nat) < 2 ^ 31) h
      omega
  unfold Rpart
  exact ok_i (fun _ => e9 _) (fun _ => e9 _)
def fcN : Nat → Nat
  | 0 => 1
  | m + 1 => (m + 1) * fcN m
theorem fact_k {m k : Nat} (hm : m ≤ 6) : Rfactorial_4 (Rfactorial_R (k + 6)) (nI m) 1 2 = some (nI (fcN m)) ∧ fcN m ≤ 720 ∧ 0 < fcN m := by
  rcases (by omega : m = 0 ∨ m = 1 ∨ m = 2 ∨ m = 3 ∨ m = 4 ∨ m = 5 ∨ m = 6) with e | e | e | e | e | e | e <;> subst e <;> exact ⟨rfl, by decide, by decide⟩
theorem fact_ok {m : Nat} (hm : m ≤ 6) : Rfactorial (nI m) = some (nI (fcN m)) ∧ fcN m ≤ 720 ∧ 0 < fcN m := by
  obtain ⟨k, hk⟩ : ∃ k, xF = k + 6 := ⟨xF - 6, by have := xF_ge; omega⟩
  unfold Rfactorial
  rw [hk]
  exact fact_k hm
theorem fact_sub {m b : Nat} (hm : m ≤ 6) (hb : b ≤ 6) : ∃ f, Rfactorial (nI m - 1 - nI b) = some (nI f) ∧ f ≤ 720 := by
  by_cases h : b < m
  · have e : nI m - 1 - nI b = nI (m - 1 - b) := by
      have e1 : nI m = nI (m - 1 - b) + nI b + nI 1 := by rw [nI_add, nI_add]; congr 1; omega
      rw [e1]
      show nI (m - 1 - b) + nI b + nI 1 - nI 1 - nI b = _
      rw [Int32.add_sub_cancel, Int32.add_sub_cancel]
    have f := fact_ok (m := m - 1 - b) (by omega)
    exact ⟨_, by rw [e]; exact f.1, f.2.1⟩
  · have all : ∀ m, m < 7 → ∀ b, b < 7 → m ≤ b → nI m - 1 - nI b < 2 := by decide
    refine ⟨1, ?_, by decide⟩
    unfold Rfactorial Rfactorial_4
    rw [if_pos (all m (by omega) b (by omega) (by omega))]
    rfl
def bsL (x : Int32) : Nat → Nat → Int32 → Int32
  | 0, _, y => y
  | n + 1, j, y => bsL x n (j + 1) (y + ((x >>> (nI j &&& 31)) &&& 1))
theorem bits_l {x : Int32} : ∀ (n j k : Nat) (y : Int32), j + n = 31 → n ≤ k → Rbits_4 (Rbits_R k) x y (nI j) = some (bsL x n j y) := by
  intro n
  induction n with
  | zero =>
    intro j k y hj hk
    unfold Rbits_4
    rw [if_pos (show (31 : Int32) ≤ nI j from k_ge (m := 31) hj)]
    rfl
  | succ n ih =>
    intro j k y hj hk
    obtain ⟨k, rfl⟩ : ∃ k', k = k' + 1 := ⟨k - 1, by omega⟩
    unfold Rbits_4
    rw [if_neg (show ¬ (31 : Int32) ≤ nI j from k_lt (m := 31) hj (by decide))]
    show Rbits_4 (Rbits_R k) x _ (nI j + 1) = _
    rw [← nI_succ, ih (j + 1) k _ (by omega) (by omega)]
    rfl
theorem bits_all : ∀ a, a < 64 → ∃ b, b < 7 ∧ bsL (nI a) 31 0 0 = nI b ∧ (0 < a → 0 < b) := by decide +kernel
theorem bits_ok {a : Nat} (ha : a ≤ 63) : ∃ b, b ≤ 6 ∧ Rbits (nI a) = some (nI b) ∧ (0 < a → 0 < b) := by
  obtain ⟨b, hb, e, h⟩ := bits_all a (by omega)
  refine ⟨b, by omega, ?_, h⟩
  unfold Rbits
  have l := bits_l (x := nI a) 31 0 xF 0 rfl (by have := xF_ge; omega)
  rw [e] at l
  exact l
theorem power_l {t : SG} {y1 y2 y3 : Int32} {E : Nat} (r : RI t) (q : QS t) (hE : E ≤ 63) (hp : 0 < msz t) (eE : Reverybody t = some (nI E)) : ∀ (n j k c : Nat), j + n = E + 1 → n ≤ k → c ≤ j * 518400 → ok (Rpower_30 (Rpower_R k) t y1 y2 y3 (nI (msz t)) (nI c) (nI j)) (fun p => QI t p.2) := by
  have z := QS_MZ r q
  have z6 := z.2
  intro n
  induction n with
  | zero =>
    intro j k c hj hk hc
    have f := fact_ok (m := msz t) z6
    unfold Rpower_30
    refine ok_be eE ?_
    rw [if_pos (nI_lt2 (a := E) (b := j) (by omega) (by omega))]
    have hc2 : c ≤ 33177600 := Nat.le_trans hc (Nat.mul_le_mul_right 518400 (by omega : j ≤ 64))
    refine ok_be f.1 (ok_b (part_ok (Nat.lt_of_le_of_lt hc2 (by decide)) f.2.2 (by omega)) (fun _ _ => ok_s QI_rfl))
  | succ n ih =>
    intro j k c hj hk hc
    obtain ⟨k, rfl⟩ : ∃ k', k = k' + 1 := ⟨k - 1, by omega⟩
    have next : ∀ c2, c2 ≤ (j + 1) * 518400 → ok (Rpower_R (k + 1) t y1 y2 y3 (nI (msz t)) (nI c2) (nI j + 1)) (fun p => QI t p.2) := by
      intro c2 h2
      show ok (Rpower_30 (Rpower_R k) t y1 y2 y3 (nI (msz t)) (nI c2) (nI j + 1)) _
      rw [← nI_succ]
      exact ih (j + 1) k c2 (by omega) (by omega) h2
    have nx : ¬ nI E < nI j := by rw [Int32.not_lt]; exact nI_le2 (by omega) (by omega)
    have same := next c (Nat.le_trans hc (Nat.mul_le_mul_right _ (by omega)))
    obtain ⟨b, hb, eb, _⟩ := bits_ok (a := j) (by omega)
    have f1 := fact_ok (m := b) hb
    obtain ⟨f, ef, hf⟩ := fact_sub (m := msz t) (b := b) z6 hb
    unfold Rpower_30
    refine ok_be eE ?_
    rw [if_neg nx]
    refine ok_i (fun _ => same) (fun _ => ok_b (isEnough_ok r q) (fun _ _ => ok_i (fun _ => ?_) (fun _ => same)))
    refine ok_b (isEnough_ok r q) (fun _ _ => ok_i (fun _ => same) (fun _ => ?_))
    refine ok_be eb (ok_be f1.1 (ok_be eb (ok_be ef ?_)))
    rw [nI_mulx, nI_add]
    have hm : fcN b * f ≤ 518400 := Nat.mul_le_mul f1.2.1 hf
    refine next _ ?_
    rw [Nat.succ_mul]
    exact Nat.add_le_add hc hm
theorem power_ok {s : SG} {x y z : Int32} (r : RI s) : ok (Rpower s x y z) (fun p => QI s p.2) := by
  unfold Rpower
  refine ok_b (isRepublic_ok r) (fun p hp => ok_i (fun _ => ok_s hp.1) (fun c => ?_))
  have q : QS p.2 := (hp.2.resolve_left c).1
  have r2 := QI_RI hp.1 r
  refine ok_be (q_isMinister (QS_RH q)) (ok_i (fun _ => ok_s hp.1) (fun c2 => ?_))
  obtain ⟨m, em, hm, _⟩ := mn_k r2 q c2
  have z6 := QS_MZ r2 q
  obtain ⟨E, hE, eE⟩ := every_eq r2 q
  refine ok_be (q_ministers (QS_RH q)) ?_
  rw [z6.1]
  exact ok_w (power_l r2 q hE (by omega) eE (E + 1) 0 xF 0 (by omega) (by have := xF_ge; omega) (by omega)) (fun v hv => QI_tr hp.1 hv)
end XRG
