section XUA
variable {sc : Nat × (Nat → Int32)} {d : Nat} {K : List KD} {r q t a B m : Nat} {w : EW}
/-! a republic at r on the class's side, at o on the reference's (state v): what is reckoned of it -/
def RQ (s : SG) (r : Nat) (v : SG) (o n V : Nat) : Prop := (v 64 11 = nI o ∧ o ≤ 728) ∧ (n ≤ 6 ∧ V < 64) ∧ (s r 0 = nI n ∧ v 65 (o + 0) = nI n) ∧ (∀ i, i < 5 → s r (9 + i) = v 65 (o + (1 + i))) ∧ (∀ k, k < 3 → s (r + 7) k = v 65 (o + (6 + k))) ∧ (∀ m c, m < n → c < 4 → s (r + (1 + c)) m = v 65 (o + (10 + 18 * m + c))) ∧ (s r 8 = nI V ∧ ∀ m, m < 6 → v 65 (o + (14 + 18 * m)) = if V.testBit m then 1 else 0) ∧ (∀ m, m < 6 → s (r + 6) m = v 65 (o + (15 + 18 * m))) ∧ ∀ m i, m < 6 → i < 12 → s (r + 5) (12 * m + i) = v 65 (o + (16 + 18 * m + i))
theorem RQ_of {s v : SG} {r o : Nat} (h : REQ (fun e j => s (r + e) j) (fun j => v 65 (o + j))) (h11 : v 64 11 = nI o) (ho : o ≤ 728) : ∃ n V, RQ s r v o n V := by
  obtain ⟨n, V, h1, h2, h4, h5, ⟨h6, _⟩, h8, h10, h11'⟩ := h
  exact ⟨n, V, ⟨h11, ho⟩, h1, h2, fun i hi => (h4 i hi).1, fun k hk => (h5 k hk).1, h6, h8, fun m hm => (h10 m hm).1, fun m i hm hi => (h11' m i hm hi).1⟩
/-- a told republic's numbers are small -/
def RB (v : SG) (o : Nat) : Prop := (∀ i, i < 5 → NB (v 65 (o + (1 + i))) 99) ∧ (∀ k, k < 3 → NB (v 65 (o + (6 + k))) 5) ∧ (∀ m c, m < 6 → c < 4 → NB (v 65 (o + (10 + 18 * m + c))) 27) ∧ ∀ m i, m < 6 → i < 12 → NB (v 65 (o + (16 + 18 * m + i))) 9
theorem RB_of {s v : SG} {o : Nat} (h : REQ (fun e j => s (r + e) j) (fun j => v 65 (o + j))) : RB v o := by
  obtain ⟨n, V, h1, h2, h4, h5, ⟨h6, h7⟩, h8, h10, h11⟩ := h
  exact ⟨fun i hi => (h4 i hi).2, fun k hk => (h5 k hk).2, h7, fun m i hm hi => (h11 m i hm hi).2⟩
theorem RB_v {v v2 : SG} {o : Nat} (h : RB v o) (e65 : v2 65 = v 65) : RB v2 o := by
  unfold RB
  rw [e65]; exact h
section RQS
variable {s v : SG} {o n V : Nat}
theorem rq_of {a : Nat} (h : RQ s r v o n V) : ofN v a = v 65 (o + a) := by
  have ho := h.1.2
  unfold ofN rh
  rw [h.1.1, nI_clamp (by omega)]
theorem rq_RH (h : RQ s r v o n V) : RH v := by
  have ho := h.1.2
  have e : rh v = o := by unfold rh; rw [h.1.1, nI_clamp (by omega)]
  exact ⟨by rw [e]; exact h.1.1, by rw [e]; exact ho⟩
theorem rq_n (h : RQ s r v o n V) : ofN v 0 = nI n ∧ msz v = n ∧ sz s r = n := by
  have hn := h.2.1.1
  have e : ofN v 0 = nI n := by rw [rq_of h]; exact h.2.2.1.2
  refine ⟨e, ?_, ?_⟩
  · unfold msz; rw [e, nI_clamp (by omega)]
  · unfold sz; rw [h.2.2.1.1, nI_clamp (by omega)]
theorem rq_MZ (h : RQ s r v o n V) : MZ v := by
  obtain ⟨e1, e2, _⟩ := rq_n h
  exact ⟨by rw [e2]; exact e1, by rw [e2]; exact h.2.1.1⟩
theorem abs_siz (x : Int32) : absI x = sizI x := by
  unfold absI sizI
  rw [Int32.zero_sub]
theorem rq_dis {m se : Nat} {day : Int32} (h : RQ s r v o n V) (hm : m < 6) (hse : se < 4) (e16 : v 64 16 = nI se) (e12 : v 64 12 = amtI day 0) (e13 : v 64 13 = amtI day 1) (e14 : v 64 14 = amtI day 2) : disI s r (nI m) (nI se) day 3 = ofoN v m := by
  have es : seN v = se := by unfold seN; rw [e16, nI_clamp (by omega)]
  have c : ∀ k, k < 3 → cl 72 (s (r + 5)) ((nI m * 4 + nI se) * 3 + nI k) = wnN v m se k := by
    intro k hk
    have ix : (nI m * 4 + nI se) * 3 + nI k = nI (12 * m + (3 * se + k)) := by
      show (nI m * nI 4 + nI se) * nI 3 + nI k = _
      rw [nI_mulx, nI_add, nI_mulx, nI_add]; congr 1; omega
    unfold wnN
    rw [ix, cl_nI (by omega) (by decide), h.2.2.2.2.2.2.2.2 m (3 * se + k) hm (by omega), rq_of h]
    congr 1; omega
  unfold ofoN
  rw [es, e12, e13, e14, ← c 0 (by omega), ← c 1 (by omega), ← c 2 (by omega)]
  show ((0 + absI (amtI day (nI 0) - cl 72 (s (r + 5)) ((nI m * 4 + nI se) * 3 + nI 0))) + absI (amtI day (nI 1) - cl 72 (s (r + 5)) ((nI m * 4 + nI se) * 3 + nI 1))) + absI (amtI day (nI 2) - cl 72 (s (r + 5)) ((nI m * 4 + nI se) * 3 + nI 2)) = _
  rw [abs_siz, abs_siz, abs_siz, Int32.zero_add]; rfl
theorem has_b {x : Int32} {b : Nat} (hb : b < 6) : hasI x (nI b) = 0 ↔ ¬ (x >>> (nI b &&& 31)) &&& 1 = 1 := by
  unfold hasI
  rw [if_neg (nI_pos (by omega)), if_neg (show ¬ (6 : Int32) ≤ nI b from nI_ge (b := 6) hb (by decide))]
  by_cases c : (x >>> (nI b &&& 31)) &&& 1 = 1
  · rw [if_pos c]; exact ⟨fun g => absurd g (by decide), fun g => absurd c g⟩
  · rw [if_neg c]; exact ⟨fun _ => c, fun _ => rfl⟩
theorem rq_pat {m b : Nat} (h : RQ s r v o n V) (hm : m < n) (hb : b < 6) (e15 : v 64 15 = nI b) : patI s r (nI m) (nI b) = yieN v m := by
  have hn := h.2.1.1
  have f1 : cl 6 (s (r + 2)) (nI m) = ofN v (10 + 18 * m + 1) := by
    rw [cl_nI (by omega) (by decide), rq_of h]
    exact h.2.2.2.2.2.1 m 1 hm (by omega)
  have f2 : cl 6 (s (r + 6)) (nI m) = ofN v (10 + 18 * m + 5) := by
    rw [cl_nI (by omega) (by decide), rq_of h, h.2.2.2.2.2.2.2.1 m (by omega)]
    congr 1; omega
  have f3 : s r 10 = ofN v 2 := by
    rw [rq_of h]; exact h.2.2.2.1 1 (by omega)
  unfold patI yieN
  rw [f1, f2, f3, e15]
  by_cases c : (ofN v (10 + 18 * m + 5) >>> (nI b &&& 31)) &&& 1 = 1
  · rw [if_pos c, if_neg (fun g => ((has_b hb).1 g) c)]
  · rw [if_neg c, if_pos ((has_b hb).2 c)]
theorem rq_agr {b se : Nat} {day : Int32} (h : RQ s r v o n V) (hb : b < 6) (hse : se < 4) (e15 : v 64 15 = nI b) (e16 : v 64 16 = nI se) (e12 : v 64 12 = amtI day 0) (e13 : v 64 13 = amtI day 1) (e14 : v 64 14 = amtI day 2) : agrT s r (nI b) (nI se) day = agmT v := by
  obtain ⟨_, e2, e3⟩ := rq_n h
  have hn := h.2.1.1
  have st : ∀ k, k ≤ n → agrI s r (nI b) (nI se) day k = agmN v k := by
    intro k
    induction k with
    | zero => intro _; rfl
    | succ k ih =>
      intro hk
      rw [agrI, agmN, ih (by omega), rq_pat h (by omega) hb e15, rq_dis h (by omega) hse e16 e12 e13 e14]
      unfold agsN
      rw [e15]
      by_cases c1 : nI k = nI b
      · rw [if_pos c1, if_pos c1, if_neg (show ¬ (1 : Int32) = 0 by decide)]
      · rw [if_neg c1, if_neg c1]
        by_cases c2 : yieN v k < ofoN v k
        · rw [if_pos c2, if_pos c2, if_pos rfl, or_0]
        · rw [if_neg c2, if_neg c2, if_neg (show ¬ (1 : Int32) = 0 by decide)]
  unfold agrT agmT
  rw [e2, e3, st n (Nat.le_refl n)]
theorem rq_vot {x : Int32} (h : RQ s r v o n V) : votT s r x = vomT v x := by
  obtain ⟨_, e2, e3⟩ := rq_n h
  have hn := h.2.1.1
  have st : ∀ k, k ≤ n → votI s r x k = vomN v x k := by
    intro k
    induction k with
    | zero => intro _; rfl
    | succ k ih =>
      intro hk
      have f : cl 6 (s (r + 1)) (nI k) = ofN v (10 + 18 * k + 0) := by
        rw [cl_nI (by omega) (by decide), rq_of h]
        exact h.2.2.2.2.2.1 k 0 (by omega) (by omega)
      rw [votI, vomN, ih (by omega), f]
      by_cases c : (x >>> (nI k &&& 31)) &&& 1 = 1
      · rw [if_pos c, if_neg (fun g => ((has_b (by omega)).1 g) c)]
      · rw [if_neg c, if_pos ((has_b (by omega)).2 c), Int32.add_zero]
  unfold votT vomT
  rw [e2, e3, st n (Nat.le_refl n)]
theorem vet_s : ∀ V, V < 64 → ∀ k, k < 6 → (nI (V % 2 ^ k) ||| (if V.testBit k then 1 <<< (nI k &&& 31) else (0 : Int32))) = nI (V % 2 ^ (k + 1)) := by decide +kernel
theorem vet_t : ∀ V, V < 64 → ∀ n, n ≤ 6 → (nI (V % 2 ^ n) &&& (((1 : Int32) <<< (nI n &&& 31)) - (1 : Int32))) = ((((1 : Int32) <<< (nI n &&& 31)) - (1 : Int32)) &&& nI V) := by decide +kernel
theorem rq_vet (h : RQ s r v o n V) : vetT v = nI (V % 2 ^ n) := by
  obtain ⟨_, e2, _⟩ := rq_n h
  have hn := h.2.1.1
  have st : ∀ k, k ≤ n → vetN v k = nI (V % 2 ^ k) := by
    intro k
    induction k with
    | zero => intro _; rw [Nat.pow_zero, Nat.mod_one]; rfl
    | succ k ih =>
      intro hk
      have f : ofN v (10 + 18 * k + 4) = if V.testBit k then 1 else 0 := by
        rw [rq_of h, ← h.2.2.2.2.2.2.1.2 k (by omega)]
        congr 1; omega
      rw [vetN, ih (by omega), f, ← vet_s V h.2.1.2 k (by omega)]
      cases V.testBit k <;> rfl
  unfold vetT
  rw [e2, st n (Nat.le_refl n)]
theorem rq_all (h : RQ s r v o n V) : allI s r = (1 <<< (nI n &&& 31)) - 1 := by
  unfold allI
  rw [h.2.2.1.1]
theorem rq_pas {x : Int32} (h : RQ s r v o n V) (e18 : v 64 18 = allI s r) : pasI s r (allI s r) x = pasN v x := by
  have hn := h.2.1.1
  have f9 : s r 9 = ofN v 1 := by rw [rq_of h]; exact h.2.2.2.1 0 (by omega)
  have fv : vetT v &&& allI s r = allI s r &&& s r 8 := by
    rw [rq_vet h, rq_all h, h.2.2.2.2.2.2.1.1]
    exact vet_t V h.2.1.2 n hn
  unfold pasI pasN
  rw [e18, rq_vot h, Int32.and_comm x (allI s r), f9, fv]
end RQS
/-! a motion -/
theorem begins_v {s : SG} {o : Nat} (h11 : s 64 11 = nI o) (ho : o ≤ 728) : ok (Rbegins s) (fun u => u 65 = s 65 ∧ u 64 11 = nI o ∧ u 64 18 = (1 <<< (s 65 (o + 0) &&& 31)) - 1 ∧ u 64 20 = s 65 (o + 3) ∧ u 64 21 = s 65 (o + 4) ∧ u 64 22 = s 65 (o + 5)) := by
  have e : rh s = o := by unfold rh; rw [h11, nI_clamp (by omega)]
  have hr : RH s := ⟨by rw [e]; exact h11, by rw [e]; exact ho⟩
  have f : ∀ (u : SG) (a : Nat), u 64 11 = s 64 11 → u 65 = s 65 → ofN u a = s 65 (o + a) := by
    intro u a h1 h2
    unfold ofN rh
    rw [h1, h2, h11, nI_clamp (by omega)]
  have hF := xF_ge
  unfold Rbegins
  refine ok_be (q_ministers hr) ?_
  refine ok_be (q_of (a := 3) (RH_of (by simp (decide := true) only [up_b]) hr) rfl (by decide)) ?_
  refine ok_be (q_of (a := 4) (RH_of (by simp (decide := true) only [up_b]) hr) rfl (by decide)) ?_
  refine ok_be (q_of (a := 5) (RH_of (by simp (decide := true) only [up_b]) hr) rfl (by decide)) ?_
  refine ok_w (begins71 3 0 xF _ (RH_of (by simp (decide := true) only [up_b]) hr) rfl (by omega)) ?_
  intro u hu
  obtain ⟨h1, h2⟩ := hu
  rw [f s 0 rfl rfl] at h2
  rw [f _ 3 (by simp (decide := true) only [up_b]) (by simp (decide := true) only [up_c]), f _ 4 (by simp (decide := true) only [up_b]) (by simp (decide := true) only [up_c]), f _ 5 (by simp (decide := true) only [up_b]) (by simp (decide := true) only [up_c])] at h2
  refine ⟨?_, ?_, ?_, ?_, ?_, ?_⟩
  · rw [h1.1]; simp (decide := true) only [up_c]
  · rw [h2]; simp (decide := true) only [up_b]; exact h11
  · rw [h2]; simp (decide := true) only [up_b, up_a]
  · rw [h2]; simp (decide := true) only [up_b, up_a]
  · rw [h2]; simp (decide := true) only [up_b, up_a]
  · rw [h2]; simp (decide := true) only [up_b, up_a]
theorem isRep_v {s : SG} {x : Int32} {j : Nat} (hj : j < 2) (hx : x = nI j) (hz : ¬ iofN s 0 x = 0) : ok (RisRepublic s x) (fun p => p.1 = 1 ∧ p.2 65 = s 65 ∧ p.2 64 11 = nI (610 + 118 * j) ∧ p.2 64 18 = (1 <<< (s 65 (610 + 118 * j + 0) &&& 31)) - 1 ∧ p.2 64 20 = s 65 (610 + 118 * j + 3) ∧ p.2 64 21 = s 65 (610 + 118 * j + 4) ∧ p.2 64 22 = s 65 (610 + 118 * j + 5)) := by
  unfold RisRepublic
  rw [q_isOf (x := 0) (a := 0) rfl (by decide)]
  show ok (if iofN s 0 x = 0 then _ else _) _
  rw [if_neg hz, hx, place0]
  have e65 : up s 64 11 (nI (610 + 118 * j)) 65 = s 65 := up_n (by decide)
  refine ok_b (begins_v (s := up s 64 11 (nI (610 + 118 * j))) (o := 610 + 118 * j) up_a (by omega)) (fun u hu => ok_s ⟨rfl, ?_, hu.2.1, ?_, ?_, ?_, ?_⟩)
  · show u 65 = _
    rw [hu.1, e65]
  · show u 64 18 = _
    rw [hu.2.2.1, e65]
  · show u 64 20 = _
    rw [hu.2.2.2.1, e65]
  · show u 64 21 = _
    rw [hu.2.2.2.2.1, e65]
  · show u 64 22 = _
    rw [hu.2.2.2.2.2, e65]
theorem iss_e {x : Int32} : issI x = 0 ↔ inI x 0 3 = 0 := by
  have q : 4 ≤ x ↔ 3 < x := by
    rw [Int32.le_iff_toInt_le, Int32.lt_iff_toInt_lt]
    have e1 : (4 : Int32).toInt = 4 := by decide
    have e2 : (3 : Int32).toInt = 3 := by decide
    omega
  unfold issI inI
  by_cases c : x < 0
  · rw [if_pos c, if_pos c]
  · rw [if_neg c, if_neg c]
    by_cases c2 : 4 ≤ x
    · rw [if_pos c2, if_pos (q.1 c2)]
    · rw [if_neg c2, if_neg (fun g => c2 (q.2 g))]
theorem isa_e {x : Int32} : isaI x = inI x 0 9 := by
  have q : 10 ≤ x ↔ 9 < x := by
    rw [Int32.le_iff_toInt_le, Int32.lt_iff_toInt_lt]
    have e1 : (10 : Int32).toInt = 10 := by decide
    have e2 : (9 : Int32).toInt = 9 := by decide
    omega
  unfold isaI inI
  by_cases c : x < 0
  · rw [if_pos c, if_pos c]
  · rw [if_neg c, if_neg c]
    by_cases c2 : 10 ≤ x
    · rw [if_pos c2, if_pos (q.1 c2)]
    · rw [if_neg c2, if_neg (fun g => c2 (q.2 g))]
/-- the day of three amounts -/
theorem day_e {a b c : Int32} : (dayI a b c = -1 ↔ RareAmounts a b c = 0) ∧ (¬ RareAmounts a b c = 0 → dayI a b c = (100 * a + 10 * b) + c) := by
  unfold dayI RareAmounts
  rw [isa_e, isa_e, isa_e]
  by_cases c1 : inI a 0 9 = 0
  · rw [if_pos c1, if_pos c1]; exact ⟨⟨fun _ => rfl, fun _ => rfl⟩, fun g => absurd rfl g⟩
  · rw [if_neg c1, if_neg c1]
    by_cases c2 : inI b 0 9 = 0
    · rw [if_pos c2, if_pos c2]; exact ⟨⟨fun _ => rfl, fun _ => rfl⟩, fun g => absurd rfl g⟩
    · rw [if_neg c2, if_neg c2]
      by_cases c3 : inI c 0 9 = 0
      · rw [if_pos c3, if_pos c3]; exact ⟨⟨fun _ => rfl, fun _ => rfl⟩, fun g => absurd rfl g⟩
      · rw [if_neg c3, if_neg c3]
        obtain ⟨i, ei, hi⟩ := inI_nI (b := 9) (by decide) c1
        obtain ⟨j, ej, hj⟩ := inI_nI (b := 9) (by decide) c2
        obtain ⟨k, ek, hk⟩ := inI_nI (b := 9) (by decide) c3
        have e1 : numI a b c = nI (100 * i + 10 * j + k) := by
          unfold numI
          rw [ei, ej, ek]
          show (nI i * nI 10 + nI j) * nI 10 + nI k = _
          rw [nI_mulx, nI_add, nI_mulx, nI_add]; congr 1; omega
        have e2 : (100 * a + 10 * b) + c = nI (100 * i + 10 * j + k) := by
          rw [ei, ej, ek]
          show (nI 100 * nI i + nI 10 * nI j) + nI k = _
          rw [nI_mulx, nI_mulx, nI_add, nI_add]
        rw [e1, e2]
        exact ⟨⟨fun g => absurd g (nI_n1 (by omega)), fun g => absurd g (by decide)⟩, fun _ => rfl⟩
/-- what the reference notes of a motion -/
theorem talks_e {u : SG} {x : Int32} : RtalksOf u x = up (up (up u 64 12 (amtI x 0)) 64 13 (amtI x 1)) 64 14 (amtI x 2) := rfl
/-- both look for a motion: none, or a republic told with a minister, a season, a day -/
theorem mot_v {s : SG} {x1 x2 x3 x4 x5 x6 : Int32} (hn : SIMn s) (rr : RI s) : (movF s x1 x2 x3 (dayI x4 x5 x6) = none ∧ pc (RisMotion s x1 x2 x3 x4 x5 x6) (fun p => p.1 = 0)) ∨ ∃ j m se, j < 2 ∧ m < 6 ∧ se < 4 ∧ x2 = nI m ∧ x3 = nI se ∧ movF s x1 x2 x3 (dayI x4 x5 x6) = some (6 + 8 * j) ∧ pc (RisMotion s x1 x2 x3 x4 x5 x6) (fun p => p.1 = 1 ∧ ∃ n V, m < n ∧ RQ s (6 + 8 * j) p.2 (610 + 118 * j) n V ∧ p.2 64 15 = x2 ∧ p.2 64 16 = x3 ∧ p.2 64 12 = amtI (dayI x4 x5 x6) 0 ∧ p.2 64 13 = amtI (dayI x4 x5 x6) 1 ∧ p.2 64 14 = amtI (dayI x4 x5 x6) 2 ∧ p.2 64 18 = allI s (6 + 8 * j) ∧ p.2 64 20 = s (6 + 8 * j) 11 ∧ p.2 64 21 = s (6 + 8 * j) 12 ∧ p.2 64 22 = s (6 + 8 * j) 13 ∧ RB p.2 (610 + 118 * j)) := by
  obtain ⟨n0, en, hn2⟩ := rr.1.1 0 (by omega)
  rcases rep_sel (x := x1) hn en hn2 with ⟨z, e⟩ | ⟨j, hj, hjn, ex, z, e⟩
  · refine Or.inl ⟨by unfold movF; rw [e], ?_⟩
    unfold RisMotion
    rw [isRep_n z]
    exact pc_s rfl
  · obtain ⟨u, eu, u1, u65, u11, u18, u20, u21, u22⟩ := isRep_v hj ex z
    have rq0 := rep_q hn hj en hn2 hjn
    rw [← u65] at rq0
    have rb0 := RB_of rq0
    obtain ⟨n, V, rq⟩ := RQ_of rq0 u11 (by omega)
    have nn6 := rq.2.1.1
    have mn : RisMinister u.2 x2 = some (inI x2 0 (nI n - 1)) := by
      unfold RisMinister Rministers
      rw [rof_v u11 (show (0 : Int32) = nI 0 from rfl) (by omega), rq.2.2.1.2]; rfl
    have mi : minI s (6 + 8 * j) x2 = 0 ↔ inI x2 0 (nI n - 1) = 0 := by
      rw [iz_m (by omega)]
      unfold minI
      rw [rq.2.2.1.1]
      by_cases c : x2 < 0
      · rw [if_pos c]; exact ⟨fun _ => Or.inl c, fun _ => rfl⟩
      · rw [if_neg c]
        by_cases c2 : nI n ≤ x2
        · rw [if_pos c2]; exact ⟨fun _ => Or.inr c2, fun _ => rfl⟩
        · rw [if_neg c2]; exact ⟨fun g => absurd g (by decide), fun g => g.elim (fun g => absurd g c) (fun g => absurd g c2)⟩
    have mf : movF s x1 x2 x3 (dayI x4 x5 x6) = movI s (6 + 8 * j) x2 x3 (dayI x4 x5 x6) := by unfold movF; rw [e]
    have em : RisMotion s x1 x2 x3 x4 x5 x6 = (if inI x2 0 (nI n - 1) = 0 then some (0, u.2) else if (inI x3 (0) (3)) = 0 then some (0, u.2) else if (RareAmounts x4 x5 x6) = 0 then some (0, u.2) else some (1, RtalksOf (up (up u.2 64 15 x2) 64 16 x3) (((100 * x4) + (10 * x5)) + x6))) := by
      unfold RisMotion
      rw [eu]
      show (if u.1 = 0 then some (0, u.2) else (RisMinister u.2 x2).bind fun q2 => if q2 = 0 then some (0, u.2) else if (inI x3 (0) (3)) = 0 then some (0, u.2) else if (RareAmounts x4 x5 x6) = 0 then some (0, u.2) else some (1, RtalksOf (up (up u.2 64 15 x2) 64 16 x3) (((100 * x4) + (10 * x5)) + x6))) = _
      rw [if_neg (show ¬ u.1 = 0 by rw [u1]; decide), mn]; rfl
    rw [mf, em]
    unfold movI
    by_cases c1 : inI x2 0 (nI n - 1) = 0
    · rw [if_pos (mi.2 c1), if_pos c1]; exact Or.inl ⟨rfl, pc_s rfl⟩
    · rw [if_neg (fun g => c1 (mi.1 g)), if_neg c1]
      by_cases c2 : inI x3 0 3 = 0
      · rw [if_pos (iss_e.2 c2), if_pos c2]; exact Or.inl ⟨rfl, pc_s rfl⟩
      · rw [if_neg (fun g => c2 (iss_e.1 g)), if_neg c2]
        by_cases c3 : RareAmounts x4 x5 x6 = 0
        · rw [if_pos (day_e.1.2 c3), if_pos c3]; exact Or.inl ⟨rfl, pc_s rfl⟩
        · rw [if_neg (fun g => c3 (day_e.1.1 g)), if_neg c3]
          obtain ⟨m, em2, hm⟩ := inI_sub (by omega) c1
          obtain ⟨se, es, hse⟩ := inI_nI (b := 3) (by decide) c2
          refine Or.inr ⟨j, m, se, hj, by omega, by omega, em2, es, rfl, pc_s ⟨rfl, n, V, hm, ?_, ?_, ?_, ?_, ?_, ?_, ?_, ?_, ?_, ?_, RB_v rb0 (by show RtalksOf (up (up u.2 64 15 x2) 64 16 x3) (((100 * x4) + (10 * x5)) + x6) 65 = u.2 65; rw [talks_e, up_n (by decide), up_n (by decide), up_n (by decide), up_n (by decide), up_n (by decide)])⟩⟩
          · obtain ⟨g1, g2, g3, g4, g5, g6, g7, g8, g9⟩ := rq
            have q65 : RtalksOf (up (up u.2 64 15 x2) 64 16 x3) (((100 * x4) + (10 * x5)) + x6) 65 = u.2 65 := by
              rw [talks_e, up_n (by decide), up_n (by decide), up_n (by decide), up_n (by decide), up_n (by decide)]
            unfold RQ
            dsimp only
            rw [q65]
            exact ⟨⟨by rw [talks_e, up_bn (by decide), up_bn (by decide), up_bn (by decide), up_bn (by decide), up_bn (by decide)]; exact g1.1, g1.2⟩, g2, g3, g4, g5, g6, g7, g8, g9⟩
          · show RtalksOf (up (up u.2 64 15 x2) 64 16 x3) (((100 * x4) + (10 * x5)) + x6) 64 15 = x2
            rw [talks_e, up_bn (by decide), up_bn (by decide), up_bn (by decide), up_bn (by decide), up_a]
          · show RtalksOf (up (up u.2 64 15 x2) 64 16 x3) (((100 * x4) + (10 * x5)) + x6) 64 16 = x3
            rw [talks_e, up_bn (by decide), up_bn (by decide), up_bn (by decide), up_a]
          · show RtalksOf (up (up u.2 64 15 x2) 64 16 x3) (((100 * x4) + (10 * x5)) + x6) 64 12 = _
            rw [talks_e, up_bn (by decide), up_bn (by decide), up_a, day_e.2 c3]
          · show RtalksOf (up (up u.2 64 15 x2) 64 16 x3) (((100 * x4) + (10 * x5)) + x6) 64 13 = _
            rw [talks_e, up_bn (by decide), up_a, day_e.2 c3]
          · show RtalksOf (up (up u.2 64 15 x2) 64 16 x3) (((100 * x4) + (10 * x5)) + x6) 64 14 = _
            rw [talks_e, up_a, day_e.2 c3]
          · show RtalksOf (up (up u.2 64 15 x2) 64 16 x3) (((100 * x4) + (10 * x5)) + x6) 64 18 = _
            rw [talks_e, up_bn (by decide), up_bn (by decide), up_bn (by decide), up_bn (by decide), up_bn (by decide), u18, rq_all rq, ← u65, rq.2.2.1.2]
          · show RtalksOf (up (up u.2 64 15 x2) 64 16 x3) (((100 * x4) + (10 * x5)) + x6) 64 20 = _
            rw [talks_e, up_bn (by decide), up_bn (by decide), up_bn (by decide), up_bn (by decide), up_bn (by decide), u20, ← u65]
            exact (rq.2.2.2.1 2 (by omega)).symm
          · show RtalksOf (up (up u.2 64 15 x2) 64 16 x3) (((100 * x4) + (10 * x5)) + x6) 64 21 = _
            rw [talks_e, up_bn (by decide), up_bn (by decide), up_bn (by decide), up_bn (by decide), up_bn (by decide), u21, ← u65]
            exact (rq.2.2.2.1 3 (by omega)).symm
          · show RtalksOf (up (up u.2 64 15 x2) 64 16 x3) (((100 * x4) + (10 * x5)) + x6) 64 22 = _
            rw [talks_e, up_bn (by decide), up_bn (by decide), up_bn (by decide), up_bn (by decide), up_bn (by decide), u22, ← u65]
            exact (rq.2.2.2.1 4 (by omega)).symm
theorem CE_off {s : SG} {x1 x2 x3 x4 x5 x6 : Int32} (hP : wLoc SIM1) (h : INVP SIM1 K s) : ∃ v s1 s2, xN sc (d + 11) 92 [.inr (.inr (.inl (some 0))), .inl x1, .inl x2, .inl x3, .inl x4, .inl x5, .inl x6] (wl K s) = some (some (.inl v), wl K s1) ∧ xN sc (d + 11) 207 [.inr (.inr (.inl (some 64))), .inl x1, .inl x2, .inl x3, .inl x4, .inl x5, .inl x6] (wl K s1) = some (some (.inl v), wl K s2) ∧ INVP SIM1 K s2 := by
  have hK := INVP_SH h
  have hn := SIM_n.1 (INVP_P h)
  have rr := INVP_RI h
  have q2 := r_off (sc := sc) (d := d + 5) (s := s) (x1 := x1) (x2 := x2) (x3 := x3) (x4 := x4) (x5 := x5) (x6 := x6) hK
  obtain ⟨p, e2, qi⟩ : ok (Roff s x1 x2 x3 x4 x5 x6) (fun p => QI s p.2) := off_ok rr
  rw [e2] at q2
  have I := INVP_q hP h (s1 := s) (fun _ _ => rfl) qi
  obtain ⟨w, ew, _⟩ := isMotion_ok (x := x1) (b := x2) (se := x3) (u := x4) (v := x5) (w := x6) rr
  unfold Roff at e2
  rw [ew] at e2
  replace e2 : (if w.1 = 0 then some (-1, w.2) else (RoffOf w.2 x2).bind fun q2 => some (q2, w.2)) = some p := e2
  rcases mot_v (x1 := x1) (x2 := x2) (x3 := x3) (x4 := x4) (x5 := x5) (x6 := x6) hn rr with ⟨c1, c2⟩ | ⟨j, m, se, hj, hm, hse, em, es, c1, c2⟩
  · rw [if_pos (c2 w ew)] at e2
    cases e2
    exact ⟨-1, s, w.2, c_offI_a (sc := sc) (d := d + 7) (s := s) (x := x1) (y := x2) (se := x3) (u := x4) (v := x5) (z := x6) hK (TB_TV (INVP_TB h)) c1, q2, I⟩
  · obtain ⟨w1, n, V, hmn, rq, e15, e16, e12, e13, e14, e18, _⟩ := c2 w ew
    rw [if_neg (by rw [w1]; decide), q_offOf (rq_RH rq) ⟨by unfold seN; rw [e16, es, nI_clamp (by omega)], by unfold seN; rw [e16, es, nI_clamp (by omega)]; exact hse⟩ em hm] at e2
    cases e2
    have cc := c_offI_b (sc := sc) (d := d + 7) (s := s) (x := x1) (y := x2) (se := x3) (u := x4) (v := x5) (z := x6) (rp_j hK hj) hK (TB_TV (INVP_TB h)) c1
    refine ⟨ofoN w.2 m, s, w.2, ?_, q2, I⟩
    rw [cc]
    unfold offIb
    rw [em, es, rq_dis rq hm hse (by rw [e16, es]) e12 e13 e14]
theorem CE_vote {s : SG} {x1 x2 x3 x4 x5 x6 x7 : Int32} (hP : wLoc SIM1) (h : INVP SIM1 K s) : ∃ v s1 s2, xN sc (d + 11) 93 [.inr (.inr (.inl (some 0))), .inl x1, .inl x2, .inl x3, .inl x4, .inl x5, .inl x6, .inl x7] (wl K s) = some (some (.inl v), wl K s1) ∧ xN sc (d + 11) 208 [.inr (.inr (.inl (some 64))), .inl x1, .inl x2, .inl x3, .inl x4, .inl x5, .inl x6, .inl x7] (wl K s1) = some (some (.inl v), wl K s2) ∧ INVP SIM1 K s2 := by
  have hK := INVP_SH h
  have hn := SIM_n.1 (INVP_P h)
  have rr := INVP_RI h
  have q2 := r_vote (sc := sc) (d := d + 4) (s := s) (x1 := x1) (x2 := x2) (x3 := x3) (x4 := x4) (x5 := x5) (x6 := x6) (x7 := x7) hK
  obtain ⟨p, e2, qi⟩ : ok (Rvote s x1 x2 x3 x4 x5 x6 x7) (fun p => QI s p.2) := vote_ok rr
  rw [e2] at q2
  have I := INVP_q hP h (s1 := s) (fun _ _ => rfl) qi
  obtain ⟨w, ew, _⟩ := isMotion_ok (x := x1) (b := x2) (se := x3) (u := x4) (v := x5) (w := x6) rr
  unfold Rvote at e2
  rw [ew] at e2
  replace e2 : (if w.1 = 0 then some (-1, w.2) else if x7 = 0 then ((Ragreeing w.2).bind fun q2 => some (q2, w.2)) else (Ragreeing w.2).bind fun q3 => (RisPassed w.2 q3).bind fun q4 => if q4 = 0 then some (0, w.2) else some (1, w.2)) = some p := e2
  rcases mot_v (x1 := x1) (x2 := x2) (x3 := x3) (x4 := x4) (x5 := x5) (x6 := x6) hn rr with ⟨c1, c2⟩ | ⟨j, m, se, hj, hm, hse, em, es, c1, c2⟩
  · rw [if_pos (c2 w ew)] at e2
    cases e2
    exact ⟨-1, s, w.2, c_votq_a (sc := sc) (d := d + 7) (s := s) (x := x1) (y := x2) (se := x3) (u := x4) (v := x5) (z := x6) (g := x7) hK (TB_TV (INVP_TB h)) c1, q2, I⟩
  · obtain ⟨w1, n, V, hmn, rq, e15, e16, e12, e13, e14, e18, _⟩ := c2 w ew
    have hRH := rq_RH rq
    have hSE : SE w.2 := ⟨by unfold seN; rw [e16, es, nI_clamp (by omega)], by unfold seN; rw [e16, es, nI_clamp (by omega)]; exact hse⟩
    have hMZ := rq_MZ rq
    have ag := rq_agr rq hm hse (by rw [e15, em]) (by rw [e16, es]) e12 e13 e14
    rw [if_neg (by rw [w1]; decide), q_agreeing hRH hSE hMZ] at e2
    replace e2 : (if x7 = 0 then some (agmT w.2, w.2) else (RisPassed w.2 (agmT w.2)).bind fun q4 => if q4 = 0 then some (0, w.2) else some (1, w.2)) = some p := e2
    have zr : SZ s (6 + 8 * j) := by
      obtain ⟨_, _, e3⟩ := rq_n rq
      exact ⟨by rw [e3]; exact rq.2.2.1.1, by rw [e3]; exact rq.2.1.1⟩
    have cc := c_votq_b (sc := sc) (d := d + 7) (s := s) (x := x1) (y := x2) (se := x3) (u := x4) (v := x5) (z := x6) (g := x7) (rp_j hK hj) hK (TB_TV (INVP_TB h)) c1 zr
    have ep : votqb s (6 + 8 * j) x2 x3 x4 x5 x6 x7 = p.1 ∧ p.2 = p.2 := by
      refine ⟨?_, rfl⟩
      unfold votqb
      rw [em, es, ag]
      by_cases g : x7 = 0
      · rw [if_pos g] at e2 ⊢
        cases e2; rfl
      · rw [if_neg g, q_isPassed hRH hMZ] at e2
        replace e2 : (if pasN w.2 (agmT w.2) = 0 then some (0, w.2) else some (1, w.2)) = some p := e2
        rw [if_neg g, rq_pas rq e18]
        by_cases g2 : pasN w.2 (agmT w.2) = 0
        · rw [if_pos g2] at e2 ⊢; cases e2; rfl
        · rw [if_neg g2] at e2 ⊢; cases e2; rfl
    exact ⟨p.1, s, p.2, by rw [cc, ep.1], q2, I⟩
end XUA
