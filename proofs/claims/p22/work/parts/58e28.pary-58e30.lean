section
section XVC
variable {sc : Nat × (Nat → Int32)} {d : Nat} {K : List KD} {r q t a B m : Nat}
/-! years on both sides: how they begin, a day, a committee, who gets angry -/
theorem ofN_e {u s : SG} {a : Nat} (h1 : u 64 11 = s 64 11) (h2 : u 65 = s 65) : ofN u a = ofN s a := by
  unfold ofN rh
  rw [h1, h2]
theorem begins98w : ∀ (n j k : Nat) (t : SG), j + n = 6 → n ≤ k → (∀ m, m < j → t 69 m = 0) → ok (Rbegins_98 (Rbegins_R k).1 (Rbegins_R k).2 t (nI j)) (fun u => (∀ c, c ≠ 69 → u c = t c) ∧ ∀ m, m < 6 → u 69 m = 0) := by
  intro n
  induction n with
  | zero =>
    intro j k t hj hk h0
    unfold Rbegins_98
    rw [if_pos (show (6 : Int32) ≤ nI j from k_ge (m := 6) hj)]
    exact ok_s ⟨fun _ _ => rfl, fun m hm => h0 m (by omega)⟩
  | succ n ih =>
    intro j k t hj hk h0
    obtain ⟨k, rfl⟩ : ∃ k', k = k' + 1 := ⟨k - 1, by omega⟩
    unfold Rbegins_98
    rw [if_neg (show ¬ (6 : Int32) ≤ nI j from k_lt (m := 6) hj (by decide))]
    refine ok_be (wr_nI (e := j) rfl (by omega) (by decide)) ?_
    show ok (Rbegins_98 (Rbegins_R k).1 (Rbegins_R k).2 (up t 69 j 0) (nI j + 1)) _
    rw [← nI_succ]
    refine ok_w (ih (j + 1) k _ (by omega) (by omega) (fun m hm => ?_)) (fun u hu => ⟨fun c hc => (hu.1 c hc).trans (up_n hc), hu.2⟩)
    by_cases e : m = j
    · subst e; exact up_a
    · rw [up_bn e]; exact h0 m (by omega)
theorem begins71w : ∀ (n j k : Nat) (t : SG), RH t → j + n = 3 → n + 6 ≤ k → (∀ i, i < j → t 68 i = ofN t (6 + i)) → ok (Rbegins_71 (Rbegins_R k).1 (Rbegins_R k).2 t (nI j)) (fun u => (∀ c, c ≠ 68 → c ≠ 69 → u c = t c) ∧ (∀ i, i < 3 → u 68 i = ofN t (6 + i)) ∧ ∀ m, m < 6 → u 69 m = 0) := by
  intro n
  induction n with
  | zero =>
    intro j k t hr hj hk h0
    unfold Rbegins_71
    rw [if_pos (show (3 : Int32) ≤ nI j from k_ge (m := 3) hj)]
    exact ok_w (begins98w 6 0 k t rfl (by omega) (fun m hm => absurd hm (by omega))) (fun u hu => ⟨fun c _ h9 => hu.1 c h9, fun i hi => by rw [hu.1 68 (by decide)]; exact h0 i (by omega), hu.2⟩)
  | succ n ih =>
    intro j k t hr hj hk h0
    obtain ⟨k, rfl⟩ : ∃ k', k = k' + 1 := ⟨k - 1, by omega⟩
    unfold Rbegins_71
    rw [if_neg (show ¬ (3 : Int32) ≤ nI j from k_lt (m := 3) hj (by decide))]
    refine ok_be (q_of (a := 6 + j) hr (by show nI 6 + nI j = _; rw [nI_add]) (by omega)) ?_
    refine ok_be (wr_nI (e := j) rfl (by omega) (by decide)) ?_
    show ok (Rbegins_71 (Rbegins_R k).1 (Rbegins_R k).2 (up t 68 j (ofN t (6 + j))) (nI j + 1)) _
    rw [← nI_succ]
    have e : ∀ a, ofN (up t 68 j (ofN t (6 + j))) a = ofN t a := fun a => ofN_e (by rw [up_n (by decide)]) (up_n (by decide))
    refine ok_w (ih (j + 1) k _ (RH_of (by rw [up_n (by decide)]) hr) (by omega) (by omega) (fun i hi => ?_)) (fun u hu => ⟨fun c h8 h9 => (hu.1 c h8 h9).trans (up_n h8), fun i hi => by rw [hu.2.1 i hi, e], hu.2.2⟩)
    rw [e]
    by_cases g : i = j
    · subst g; exact up_a
    · rw [up_bn g]; exact h0 i (by omega)
/-- the reference where a republic has just been found -/
def BEG (s u : SG) (o : Nat) : Prop := (∀ c, c ≠ 64 → c ≠ 68 → c ≠ 69 → u c = s c) ∧ (∀ j, (j < 16 ∨ j = 17 ∨ 26 < j) → u 64 j = s 64 j) ∧ (u 64 18 = (1 <<< (s 65 (o + 0) &&& 31)) - 1 ∧ u 64 19 = 0 ∧ u 64 20 = s 65 (o + 3) ∧ u 64 21 = s 65 (o + 4) ∧ u 64 22 = s 65 (o + 5)) ∧ (u 64 23 = 0 ∧ u 64 24 = 0 ∧ u 64 25 = -1 ∧ u 64 16 = 0 ∧ u 64 26 = 0) ∧ (∀ i, i < 3 → u 68 i = s 65 (o + (6 + i))) ∧ ∀ m, m < 6 → u 69 m = 0
theorem begins_w {s : SG} {o : Nat} (h11 : s 64 11 = nI o) (ho : o ≤ 728) : ok (Rbegins s) (fun u => BEG s u o) := by
  have e : rh s = o := by unfold rh; rw [h11, nI_clamp (by omega)]
  have hr : RH s := ⟨by rw [e]; exact h11, by rw [e]; exact ho⟩
  have f : ∀ (u : SG) (a : Nat), u 64 11 = s 64 11 → u 65 = s 65 → ofN u a = s 65 (o + a) := by
    intro u a h1 h2
    unfold ofN rh
    rw [h1, h2, h11, nI_clamp (by omega)]
  have hF := xF_ge
  unfold Rbegins
  refine ok_be (q_ministers hr) ?_
  refine ok_be (q_of (a := 3) (RH_of (by simp (decide := true) only [up_b]) hr) rfl (by decide)) ?_
  refine ok_be (q_of (a := 4) (RH_of (by simp (decide := true) only [up_b]) hr) rfl (by decide)) ?_
  refine ok_be (q_of (a := 5) (RH_of (by simp (decide := true) only [up_b]) hr) rfl (by decide)) ?_
  rw [f s 0 rfl rfl, f _ 3 (by simp (decide := true) only [up_b]) (by simp (decide := true) only [up_c]), f _ 4 (by simp (decide := true) only [up_b]) (by simp (decide := true) only [up_c]), f _ 5 (by simp (decide := true) only [up_b]) (by simp (decide := true) only [up_c])]
  refine ok_w (begins71w 3 0 xF _ (RH_of (by simp (decide := true) only [up_b]) hr) rfl (by omega) (fun i hi => absurd hi (by omega))) ?_
  intro u hu
  obtain ⟨h1, h2, h3⟩ := hu
  have k64 := h1 64 (by decide) (by decide)
  refine ⟨fun c hc h8 h9 => ?_, fun j hj => ?_, ⟨?_, ?_, ?_, ?_, ?_⟩, ⟨?_, ?_, ?_, ?_, ?_⟩, fun i hi => ?_, h3⟩
  · rw [h1 c h8 h9]; simp only [up_n hc]
  · rw [k64, up_bn (by omega), up_bn (by omega), up_bn (by omega), up_bn (by omega), up_bn (by omega), up_bn (by omega), up_bn (by omega), up_bn (by omega), up_bn (by omega), up_bn (by omega)]
  · rw [k64]; simp (decide := true) only [up_b, up_a]
  · rw [k64]; simp (decide := true) only [up_b, up_a]
  · rw [k64]; simp (decide := true) only [up_b, up_a]
  · rw [k64]; simp (decide := true) only [up_b, up_a]
  · rw [k64]; simp (decide := true) only [up_b, up_a]
  · rw [k64]; simp (decide := true) only [up_b, up_a]
  · rw [k64]; simp (decide := true) only [up_b, up_a]
  · rw [k64]; simp (decide := true) only [up_b, up_a]
  · rw [k64]; simp (decide := true) only [up_b, up_a]
  · rw [k64]; simp (decide := true) only [up_b, up_a]
  · rw [h2 i hi]
    exact f _ (6 + i) (by simp (decide := true) only [up_b]) (by simp (decide := true) only [up_c])
theorem isRep_w {s : SG} {x : Int32} {j : Nat} (hx : x = nI j) (hj : j < 2) (hz : ¬ iofN s 0 x = 0) : ok (RisRepublic s x) (fun p => p.1 = 1 ∧ BEG (up s 64 11 (nI (610 + 118 * j))) p.2 (610 + 118 * j)) := by
  unfold RisRepublic
  rw [q_isOf (x := 0) (a := 0) rfl (by decide)]
  show ok (if iofN s 0 x = 0 then _ else _) _
  rw [if_neg hz, hx, place0]
  exact ok_b (begins_w (s := up s 64 11 (nI (610 + 118 * j))) (o := 610 + 118 * j) up_a (by omega)) (fun u hu => ok_s ⟨rfl, hu⟩)
/-- the class where a course begins -/
theorem ope_f {s : SG} (br : r + 8 ≤ 42) : (opeS s r 56 1 = 0 ∧ opeS s r 56 2 = allI s r ∧ opeS s r 56 3 = 0) ∧ (opeS s r 56 6 = 0 ∧ opeS s r 56 7 = 0 ∧ opeS s r 56 8 = -1) ∧ (opeS s r 56 9 = 0 ∧ opeS s r 56 10 = 0 ∧ opeS s r 56 11 = 0) ∧ (opeS s r 57 0 = s r 11 ∧ opeS s r 57 1 = s r 12 ∧ opeS s r 57 2 = s r 13) ∧ (∀ m, m < 6 → opeS s r 58 m = 0) ∧ ∀ k, k < 3 → opeS s r 59 k = s (r + 7) k := by
  have e0 : up (setS7 s r) 56 1 0 r = s r := by
    unfold setS7
    rw [up_n (by omega), up_n (by omega), up_n (by omega), up_n (by omega)]
  refine ⟨⟨?_, ?_, ?_⟩, ⟨?_, ?_, ?_⟩, ⟨?_, ?_, ?_⟩, ⟨?_, ?_, ?_⟩, fun m hm => ?_, fun k hk => ?_⟩
  · unfold opeS; simp (decide := true) only [up_a, up_b, up_c, fl_c, cp_c]
  · rw [← allI_s (s := s) (s2 := up (setS7 s r) 56 1 0) e0]
    unfold opeS; simp (decide := true) only [up_a, up_b, up_c, fl_c, cp_c]
  · unfold opeS; simp (decide := true) only [up_a, up_b, up_c, fl_c, cp_c]
  · unfold opeS; simp (decide := true) only [up_a, up_b, up_c, fl_c, cp_c]
  · unfold opeS; simp (decide := true) only [up_a, up_b, up_c, fl_c, cp_c]
  · unfold opeS; simp (decide := true) only [up_a, up_b, up_c, fl_c, cp_c]
  · unfold opeS; simp (decide := true) only [up_a, up_b, up_c, fl_c, cp_c]
  · unfold opeS; simp (decide := true) only [up_a, up_b, up_c, fl_c, cp_c]
  · unfold opeS; simp (decide := true) only [up_a, up_b, up_c, fl_c, cp_c]
  · unfold opeS setS7; simp (decide := true) only [up_a, up_b, up_c, fl_c, cp_c]
  · unfold opeS setS7; simp (decide := true) only [up_a, up_b, up_c, fl_c, cp_c]
  · unfold opeS setS7; simp (decide := true) only [up_a, up_b, up_c, fl_c, cp_c]
  · unfold opeS; simp (decide := true) only [up_a, up_b, up_c, fl_c, cp_c]; exact fl_aa hm
  · unfold opeS; simp (decide := true) only [up_a, up_b, up_c, fl_c, cp_c]
    rw [cp_a hk, fl_n (by omega), up_n (by omega), up_n (by omega), up_n (by omega)]
    unfold setS7
    rw [up_n (by omega), up_n (by omega), up_n (by omega)]
theorem all_n : ∀ n, n ≤ 6 → ((1 <<< (nI n &&& 31)) - 1 : Int32) = nI (2 ^ n - 1) := by decide +kernel
/-- a year so far, the same on both sides; w the class's told cells, g the reference's, a17, a26, a29 where its orders and deeds lie and which is next -/
def YJ (w : SG) (r o n V : Nat) (g : Nat → Int32) (a17 a26 a29 : Int32) (s v : SG) : Prop :=
  ((∀ c, c < 42 → s c = w c) ∧ v 65 = g ∧ v 64 17 = a17 ∧ v 64 26 = a26 ∧ v 64 29 = a29) ∧
  (r + 8 ≤ 42 ∧ RQ w r v o n V ∧ RB v o) ∧
  (s 56 1 = v 64 16 ∧ NB (v 64 16) 3) ∧
  (∃ T, T < 2 ^ n ∧ s 56 2 = nI T ∧ v 64 18 = nI T) ∧
  s 56 3 = v 64 19 ∧
  (∃ C G, s 57 0 = nI C ∧ v 64 20 = nI C ∧ s 57 1 = nI G ∧ v 64 21 = nI G ∧ C + G ≤ 198) ∧
  s 57 2 = v 64 22 ∧
  (s 56 6 = v 64 23 ∧ s 56 7 = v 64 24 ∧ s 56 8 = v 64 25) ∧
  (∀ m, m < 6 → s 58 m = v 69 m) ∧ ∀ k, k < 3 → s 59 k = v 68 k
section YJS
variable {w s v g0 : SG} {o n V : Nat} {g : Nat → Int32} {a17 a26 a29 : Int32}
theorem yj_0 {u : SG} (br : r + 8 ≤ 42) (lo : ∀ c, c < 42 → s c = w c) (rq : RQ w r u o n V) (rb : RB u o) (h0 : BEG g0 v o) (e65 : g0 65 = u 65) (f11 : g0 64 11 = u 64 11) : YJ w r o n V (u 65) (g0 64 17) 0 (g0 64 29) (opeS s r) v := by
  obtain ⟨b1, b2, ⟨b3, b4, b5, b6, b7⟩, ⟨b8, b9, b10, b11, b12⟩, b13, b14⟩ := h0
  obtain ⟨⟨c1, c2, c3⟩, ⟨c4, c5, c6⟩, ⟨c7, c8, c9⟩, ⟨c10, c11, c12⟩, c13, c14⟩ := ope_f (s := s) br
  have v65 : v 65 = u 65 := (b1 65 (by decide) (by decide) (by decide)).trans e65
  have w9 : ∀ i, i < 5 → w r (9 + i) = u 65 (o + (1 + i)) := rq.2.2.2.1
  obtain ⟨C, eC, hC⟩ := rb.1 2 (by omega)
  obtain ⟨G, eG, hG⟩ := rb.1 3 (by omega)
  have er : s r = w r := lo r (by omega)
  refine ⟨⟨fun c hc => (opeS_lo (Or.inl hc)).trans (lo c hc), v65, b2 17 (by omega), b12, b2 29 (by omega)⟩, ⟨br, RQ_v rq ((b2 11 (by omega)).trans f11) v65, RB_v rb v65⟩, ⟨c1.trans b11.symm, ⟨0, b11, by omega⟩⟩, ⟨2 ^ n - 1, ?_, ?_, ?_⟩, c3.trans b4.symm, ⟨C, G, ?_, ?_, ?_, ?_, by omega⟩, ?_, ⟨c4.trans b8.symm, c5.trans b9.symm, c6.trans b10.symm⟩, fun m hm => (c13 m hm).trans (b14 m hm).symm, fun k hk => ?_⟩
  · have : 0 < 2 ^ n := Nat.two_pow_pos n
    omega
  · rw [c2, ← all_n n rq.2.1.1]
    unfold allI
    rw [er, rq.2.2.1.1]
  · rw [b3, e65, rq.2.2.1.2]; exact all_n n rq.2.1.1
  · rw [c10, er]; exact (w9 2 (by omega)).trans eC
  · rw [b5, e65]; exact eC
  · rw [c11, er]; exact (w9 3 (by omega)).trans eG
  · rw [b6, e65]; exact eG
  · rw [c12, er, b7, e65]; exact w9 4 (by omega)
  · rw [c14 k hk, b13 k hk, e65, lo (r + 7) (by omega)]; exact rq.2.2.2.2.1 k hk
/-- nothing that a year hangs on has changed -/
theorem yj_g {s2 v2 : SG} {b26 : Int32} (h : YJ w r o n V g a17 a26 a29 s v) (es : ∀ c, (c < 42 ∨ (56 ≤ c ∧ c < 60)) → s2 c = s c) (e65 : v2 65 = v 65) (e68 : v2 68 = v 68) (e69 : v2 69 = v 69) (ej : ∀ j, (j = 11 ∨ (15 < j ∧ j < 26) ∨ j = 29) → v2 64 j = v 64 j) (e26 : v2 64 26 = b26) : YJ w r o n V g a17 b26 a29 s2 v2 := by
  obtain ⟨⟨h1, h2, h3, h4, h5⟩, ⟨h6, h7, h8⟩, h9, h10, h11, h12, h13, h14, h15, h16⟩ := h
  unfold YJ
  rw [es 56 (by omega), es 57 (by omega), es 58 (by omega), es 59 (by omega), e65, e68, e69, ej 16 (by omega), ej 17 (by omega), ej 18 (by omega), ej 19 (by omega), ej 20 (by omega), ej 21 (by omega), ej 22 (by omega), ej 23 (by omega), ej 24 (by omega), ej 25 (by omega), ej 29 (by omega)]
  exact ⟨⟨fun c hc => (es c (Or.inl hc)).trans (h1 c hc), h2, h3, e26, h5⟩, ⟨h6, RQ_v h7 (ej 11 (by omega)) e65, RB_v h8 e65⟩, h9, h10, h11, h12, h13, h14, h15, h16⟩
theorem yj_lo (h : YJ w r o n V g a17 a26 a29 s v) : ∀ c, c < 42 → s c = w c := h.1.1
theorem yj_rq (h : YJ w r o n V g a17 a26 a29 s v) : RQ s r v o n V := RQ_s h.2.1.2.1 (fun i hi => h.1.1 _ (by have := h.2.1.1; omega))
theorem rcd_f {day : Int32} : (∀ c, c ≠ 56 → c ≠ 57 → rcdS s day c = s c) ∧ rcdS s day 57 = briS7 s day 57 ∧ (∀ j, j ≠ 6 → j ≠ 8 → j ≠ 9 → j ≠ 10 → j ≠ 11 → rcdS s day 56 j = s 56 j) ∧ rcdS s day 56 6 = s 56 6 + 1 ∧ rcdS s day 56 8 = day ∧ rcdS s day 56 9 = s 56 9 + amtI day 0 ∧ rcdS s day 56 11 = (if amtI day 0 = 0 then s 56 11 + 1 else 0) ∧ rcdS s day 56 10 = (if s 56 10 < (if amtI day 0 = 0 then s 56 11 + 1 else 0) then (if amtI day 0 = 0 then s 56 11 + 1 else 0) else s 56 10) := by
  have b56 : briS7 s day 56 = s 56 := by unfold briS7; rw [up_n (by decide), up_n (by decide), up_n (by decide)]
  have bc : ∀ c, c ≠ 57 → briS7 s day c = s c := fun c hc => by unfold briS7; rw [up_n hc, up_n hc, up_n hc]
  unfold rcdS
  by_cases z : amtI day 0 = 0
  · simp only [if_pos z]
    refine ⟨fun c h1 h2 => ?_, ?_, fun j h1 h2 h3 h4 h5 => ?_, ?_, ?_, ?_, ?_, ?_⟩
    · rw [up_n h1, up_n h1, up_n h1, up_n h1, up_n h1, bc c h2]
    · rw [up_n (by decide), up_n (by decide), up_n (by decide), up_n (by decide), up_n (by decide)]
    · rw [up_bn h4, up_bn h5, up_bn h3, up_bn h2, up_bn h1, b56]
    · rw [up_bn (by decide), up_bn (by decide), up_bn (by decide), up_bn (by decide), up_a, b56]
    · rw [up_bn (by decide), up_bn (by decide), up_bn (by decide), up_a]
    · rw [up_bn (by decide), up_bn (by decide), up_a, b56]
    · rw [up_bn (by decide), up_a, b56]
    · rw [up_a, b56]
  · simp only [if_neg z]
    refine ⟨fun c h1 h2 => ?_, ?_, fun j h1 h2 h3 h4 h5 => ?_, ?_, ?_, ?_, ?_, ?_⟩
    · rw [up_n h1, up_n h1, up_n h1, up_n h1, up_n h1, bc c h2]
    · rw [up_n (by decide), up_n (by decide), up_n (by decide), up_n (by decide), up_n (by decide)]
    · rw [up_bn h4, up_bn h5, up_bn h3, up_bn h2, up_bn h1, b56]
    · rw [up_bn (by decide), up_bn (by decide), up_bn (by decide), up_bn (by decide), up_a, b56]
    · rw [up_bn (by decide), up_bn (by decide), up_bn (by decide), up_a]
    · rw [up_bn (by decide), up_bn (by decide), up_a, b56]
    · rw [up_bn (by decide), up_a]
    · rw [up_a, b56]
theorem goes_f : (∀ c, c ≠ 64 → Rgoes v c = v c) ∧ (∀ j, (j < 20 ∨ 25 < j ∨ j = 24) → Rgoes v 64 j = v 64 j) ∧ Rgoes v 64 20 = (v 64 20 - v 64 12) + (if v 64 21 + v 64 12 ≤ v 64 14 then v 64 21 + v 64 12 else v 64 14) ∧ Rgoes v 64 21 = (v 64 21 + v 64 12) - (if v 64 21 + v 64 12 ≤ v 64 14 then v 64 21 + v 64 12 else v 64 14) ∧ Rgoes v 64 22 = v 64 22 + (v 64 14 - v 64 13) ∧ Rgoes v 64 25 = ((100 * v 64 12) + (10 * v 64 13)) + v 64 14 ∧ Rgoes v 64 23 = v 64 23 + 1 := by
  unfold Rgoes Rgoes_48
  by_cases z : v 64 21 + v 64 12 ≤ v 64 14
  · simp only [if_pos z]
    refine ⟨fun c h => ?_, fun j hj => ?_, ?_, ?_, ?_, ?_, ?_⟩
    · rw [up_n h, up_n h, up_n h, up_n h, up_n h, up_n h, up_n h]
    · rw [up_bn (by omega), up_bn (by omega), up_bn (by omega), up_bn (by omega), up_bn (by omega), up_bn (by omega), up_bn (by omega)]
    all_goals simp (decide := true) only [up_a, up_b]
  · simp only [if_neg z]
    refine ⟨fun c h => ?_, fun j hj => ?_, ?_, ?_, ?_, ?_, ?_⟩
    · rw [up_n h, up_n h, up_n h, up_n h, up_n h, up_n h, up_n h]
    · rw [up_bn (by omega), up_bn (by omega), up_bn (by omega), up_bn (by omega), up_bn (by omega), up_bn (by omega), up_bn (by omega)]
    all_goals simp (decide := true) only [up_a, up_b]
theorem amt_n : ∀ D, D < 1000 → amtI (nI D) 0 = nI (D / 100) ∧ amtI (nI D) 1 = nI (D / 10 % 10) ∧ amtI (nI D) 2 = nI (D % 10) := by decide +kernel
theorem add_subn {C U R : Nat} (h : R ≤ C) : nI C + (nI U - nI R) = nI (C - R + U) := by
  rw [Int32.sub_eq_add_neg, ← Int32.add_assoc, nI_add, ← Int32.sub_eq_add_neg, nI_subn (by omega)]
  congr 1; omega
/-- a day passes -/
theorem yj_rec {s2 v2 : SG} {D : Nat} {x7 : Int32} (h : YJ w r o n V g a17 a26 a29 s v) (hD : D < 1000) (hR : ∀ C, v 64 20 = nI C → D / 100 ≤ C) (e12 : v 64 12 = nI (D / 100)) (e13 : v 64 13 = nI (D / 10 % 10)) (e14 : v 64 14 = nI (D % 10))
    (s1 : ∀ c, c ≠ 56 → c ≠ 57 → s2 c = s c) (s57 : s2 57 = briS7 s (nI D) 57) (sj : s2 56 1 = s 56 1 ∧ s2 56 2 = s 56 2 ∧ s2 56 3 = s 56 3) (s6 : s2 56 6 = s 56 6 + 1) (s7 : s2 56 7 = x7) (s8 : s2 56 8 = nI D)
    (v1 : ∀ c, c ≠ 64 → v2 c = v c) (vj : ∀ j, (j < 20 ∨ 25 < j) → (j < 12 ∨ 14 < j) → v2 64 j = v 64 j) (v20 : v2 64 20 = Rgoes v 64 20) (v21 : v2 64 21 = Rgoes v 64 21) (v22 : v2 64 22 = Rgoes v 64 22) (v23 : v2 64 23 = Rgoes v 64 23) (v24 : v2 64 24 = x7) (v25 : v2 64 25 = Rgoes v 64 25) : YJ w r o n V g a17 a26 a29 s2 v2 := by
  obtain ⟨⟨h1, h2, h3, h4, h5⟩, ⟨h6, h7, h8⟩, ⟨h9, h9b⟩, ⟨T, hT, hT2, hT3⟩, h11, ⟨C, G, c1, c2, c3, c4, c5⟩, h13, ⟨h14, h14b, h14c⟩, h15, h16⟩ := h
  obtain ⟨_, _, g20, g21, g22, g25, g23⟩ := goes_f (v := v)
  obtain ⟨a0, a1, a2⟩ := amt_n D hD
  have hC := hR C c2
  obtain ⟨U, eU⟩ : ∃ U, U = if G + D / 100 ≤ D % 10 then G + D / 100 else D % 10 := ⟨_, rfl⟩
  have hU : U ≤ G + D / 100 := by rw [eU]; split <;> omega
  have u1 : (if nI (G + D / 100) ≤ nI (D % 10) then nI (G + D / 100) else nI (D % 10)) = nI U := by
    rw [eU]
    by_cases z : G + D / 100 ≤ D % 10
    · rw [if_pos z, if_pos (nI_le2 z (by omega))]
    · rw [if_neg z, if_neg (nI_ge (by omega) (by omega))]
  have u2 : (if nI (G + D / 100) < nI (D % 10) then nI (G + D / 100) else nI (D % 10)) = nI U := by
    rw [← u1]
    by_cases z : G + D / 100 < D % 10
    · rw [if_pos (nI_lt2 z (by omega)), if_pos (nI_le2 (by omega) (by omega))]
    · rw [if_neg (Int32.not_lt.mpr (nI_le2 (by omega) (by omega)))]
      by_cases z2 : G + D / 100 = D % 10
      · rw [z2, if_pos (Int32.le_refl _)]
      · rw [if_neg (nI_ge (by omega) (by omega))]
  have b0 : briS7 s (nI D) 57 0 = nI (C - D / 100 + U) := by
    unfold briS7
    rw [up_bn (by decide), up_bn (by decide), up_a, a0, a2, c1, c3, nI_add, u2]; exact add_subn hC
  have b1 : briS7 s (nI D) 57 1 = nI (G + D / 100 - U) := by
    unfold briS7
    rw [up_bn (by decide), up_a, a0, a2, c3, nI_add, u2]; exact nI_subn hU
  have b2 : briS7 s (nI D) 57 2 = s 57 2 + (nI (D % 10) - nI (D / 10 % 10)) := by
    unfold briS7
    rw [up_a, a1, a2]
  rw [e12, e14, c2, c4, nI_add, u1, nI_subn hC, nI_add] at g20
  rw [e12, e14, c4, nI_add, u1, nI_subn hU] at g21
  rw [e13, e14] at g22
  rw [e12, e13, e14] at g25
  have lat : ((100 * nI (D / 100)) + (10 * nI (D / 10 % 10))) + nI (D % 10) = nI D := by
    show ((nI 100 * nI (D / 100)) + (nI 10 * nI (D / 10 % 10))) + nI (D % 10) = _
    rw [nI_mulx, nI_mulx, nI_add, nI_add]; congr 1; omega
  refine ⟨⟨fun c hc => (s1 c (by omega) (by omega)).trans (h1 c hc), (v1 65 (by decide)).trans h2, (vj 17 (by omega) (by omega)).trans h3, (vj 26 (by omega) (by omega)).trans h4, (vj 29 (by omega) (by omega)).trans h5⟩, ⟨h6, RQ_v h7 (vj 11 (by omega) (by omega)) (v1 65 (by decide)), RB_v h8 (v1 65 (by decide))⟩, ⟨?_, ?_⟩, ⟨T, hT, sj.2.1.trans hT2, (vj 18 (by omega) (by omega)).trans hT3⟩, ?_, ⟨C - D / 100 + U, G + D / 100 - U, ?_, ?_, ?_, ?_, by omega⟩, ?_, ⟨?_, ?_, ?_⟩, fun m hm => ?_, fun k hk => ?_⟩
  · rw [sj.1, vj 16 (by omega) (by omega)]; exact h9
  · rw [vj 16 (by omega) (by omega)]; exact h9b
  · rw [sj.2.2, vj 19 (by omega) (by omega)]; exact h11
  · rw [s57]; exact b0
  · rw [v20]; exact g20
  · rw [s57]; exact b1
  · rw [v21]; exact g21
  · rw [s57, b2, v22, g22, h13]
  · rw [s6, v23, g23, h14]
  · rw [s7, v24]
  · rw [s8, v25, g25, lat]
  · rw [s1 58 (by decide) (by decide), v1 69 (by decide)]; exact h15 m hm
  · rw [s1 59 (by decide) (by decide), v1 68 (by decide)]; exact h16 k hk
theorem yj_goes {D : Nat} (h : YJ w r o n V g a17 a26 a29 s v) (hD : D < 1000) (hR : ∀ C, v 64 20 = nI C → D / 100 ≤ C) (e12 : v 64 12 = nI (D / 100)) (e13 : v 64 13 = nI (D / 10 % 10)) (e14 : v 64 14 = nI (D % 10)) : YJ w r o n V g a17 a26 a29 (rcdS s (nI D)) (Rgoes v) := by
  obtain ⟨f1, f2, f3, f4, f5, _⟩ := rcd_f (s := s) (day := nI D)
  obtain ⟨g1, g2, _⟩ := goes_f (v := v)
  refine yj_rec (x7 := v 64 24) h hD hR e12 e13 e14 f1 f2 ⟨f3 1 (by decide) (by decide) (by decide) (by decide) (by decide), f3 2 (by decide) (by decide) (by decide) (by decide) (by decide), f3 3 (by decide) (by decide) (by decide) (by decide) (by decide)⟩ f4 ?_ f5 g1 (fun j hj _ => g2 j (by omega)) rfl rfl rfl rfl (g2 24 (by omega)) rfl
  rw [f3 7 (by decide) (by decide) (by decide) (by decide) (by decide)]
  exact h.2.2.2.2.2.2.2.1.2.1
theorem yj_com (h : YJ w r o n V g a17 a26 a29 s v) : YJ w r o n V g a17 a26 a29 (comS s) (Rcommittee v) := by
  obtain ⟨C, G, c1, c2, c3, c4, c5⟩ := h.2.2.2.2.2.1
  have e7 : s 56 7 = v 64 24 := h.2.2.2.2.2.2.2.1.2.1
  have go : ∀ D x, (D = 0 ∧ x = (0 : Int32) ∨ D = 100 ∧ x = 100 ∧ 1 ≤ C) → comS s = rcdS (up s 56 7 (s 56 7 + 1)) (nI D) → Rcommittee v = Rcommittee_14 v x → YJ w r o n V g a17 a26 a29 (comS s) (Rcommittee v) := by
    intro D x hx es ev
    have ht : YJ w r o n V g a17 a26 a29 s (RtalksOf v x) := yj_g h (fun _ _ => rfl) (talks_c (by decide)) (talks_c (by decide)) (talks_c (by decide)) (fun j hj => talks_64 (by omega)) ((talks_64 (by omega)).trans h.1.2.2.2.1)
    obtain ⟨t12, t13, t14⟩ := talks_12 (u := v) (x := x)
    have hD : D < 1000 := by rcases hx with ⟨rfl, _⟩ | ⟨rfl, _⟩ <;> decide
    have ex : x = nI D := by rcases hx with ⟨rfl, rfl⟩ | ⟨rfl, rfl, _⟩ <;> rfl
    obtain ⟨a0, a1, a2⟩ := amt_n D hD
    rw [← ex] at a0 a1 a2
    obtain ⟨f1, f2, f3, f4, f5, _⟩ := rcd_f (s := up s 56 7 (s 56 7 + 1)) (day := nI D)
    obtain ⟨g1, g2, _⟩ := goes_f (v := RtalksOf v x)
    have b57 : briS7 (up s 56 7 (s 56 7 + 1)) (nI D) 57 = briS7 s (nI D) 57 := by
      unfold briS7
      simp (decide := true) only [up_s, up_c]
    rw [es, ev]
    unfold Rcommittee_14
    refine yj_rec (x7 := s 56 7 + 1) ht hD (fun C' hC' => ?_) (t12.trans a0) (t13.trans a1) (t14.trans a2) (fun c h1 h2 => by rw [f1 c h1 h2, up_n h1]) (f2.trans b57) ⟨?_, ?_, ?_⟩ ?_ ?_ f5 (fun c hc => by rw [up_n hc, g1 c hc]) (fun j hj hj2 => by rw [up_bn (by omega), g2 j (by omega)]) (up_bn (by decide)) (up_bn (by decide)) (up_bn (by decide)) (up_bn (by decide)) ?_ (up_bn (by decide))
    · rw [talks_64 (by omega), c2] at hC'
      rcases hx with ⟨rfl, _⟩ | ⟨rfl, _, h1⟩
      · omega
      · have : C' < 2 ^ 31 ∨ 2 ^ 31 ≤ C' := by omega
        rcases this with q | q
        · have := nI_inj (by omega) q hC'
          omega
        · omega
    · rw [f3 1 (by decide) (by decide) (by decide) (by decide) (by decide), up_bn (by decide)]
    · rw [f3 2 (by decide) (by decide) (by decide) (by decide) (by decide), up_bn (by decide)]
    · rw [f3 3 (by decide) (by decide) (by decide) (by decide) (by decide), up_bn (by decide)]
    · rw [f4, up_bn (by decide)]
    · rw [f3 7 (by decide) (by decide) (by decide) (by decide) (by decide), up_a]
    · rw [up_a, g2 24 (by omega), talks_64 (by omega), e7]
  by_cases z : C = 0
  · subst z
    refine go 0 0 (Or.inl ⟨rfl, rfl⟩) ?_ ?_
    · unfold comS
      rw [c1, if_neg (show ¬ (1 : Int32) < nI 0 by decide)]; rfl
    · unfold Rcommittee
      rw [c2, if_pos (show nI 0 ≤ (0 : Int32) by decide)]
  · refine go 100 100 (Or.inr ⟨rfl, rfl, by omega⟩) ?_ ?_
    · unfold comS
      have e : (if (1 : Int32) < s 57 0 then 1 else s 57 0) = 1 := by
        rw [c1]
        by_cases z2 : C = 1
        · subst z2; rw [if_neg (show ¬ (1 : Int32) < nI 1 by decide)]; rfl
        · rw [if_pos (show (1 : Int32) < nI C from nI_lt2 (a := 1) (by omega) (by omega))]
      rw [e]; rfl
    · unfold Rcommittee
      rw [c2, if_neg (show ¬ nI C ≤ (0 : Int32) from nI_ge (a := 0) (by omega) (by omega))]
theorem th_0 : ∀ T, T < 64 → ∀ j, j < 6 → ((nI T >>> (nI j &&& 31)) &&& 1 = 0 ↔ hasI (nI T) (nI j) = 0) := by decide +kernel
theorem th_c : ∀ T, T < 64 → ∀ j, j < 6 → nI T &&& ((1 <<< (nI j &&& 31)) ^^^ (-1)) = nI (T ^^^ (T &&& 2 ^ j)) ∧ T ^^^ (T &&& 2 ^ j) ≤ T := by decide +kernel
theorem th_s : ∀ n, n ≤ 6 → ∀ j, j < n → ∀ T, T < 2 ^ n → nI T ||| (1 <<< (nI j &&& 31)) = nI (T ||| 2 ^ j) ∧ T ||| 2 ^ j < 2 ^ n := by decide +kernel
theorem p2_64 {n T : Nat} (hn : n ≤ 6) (h : T < 2 ^ n) : T < 64 := Nat.lt_of_lt_of_le h (Nat.pow_le_pow_right (by decide) hn)
/-- an anger anew -/
theorem yj_58 {j : Nat} {x : Int32} (h : YJ w r o n V g a17 a26 a29 s v) (hj : j < 6) : YJ w r o n V g a17 a26 a29 (up s 58 j x) (up v 69 j x) := by
  obtain ⟨⟨h1, h2, h3, h4, h5⟩, ⟨h6, h7, h8⟩, h9, h10, h11, h12, h13, h14, h15, h16⟩ := h
  unfold YJ
  rw [up_n (show 56 ≠ 58 by decide), up_n (show 57 ≠ 58 by decide), up_n (show 59 ≠ 58 by decide), up_n (show 64 ≠ 69 by decide), up_n (show 65 ≠ 69 by decide), up_n (show 68 ≠ 69 by decide)]
  refine ⟨⟨fun c hc => (up_n (by omega)).trans (h1 c hc), h2, h3, h4, h5⟩, ⟨h6, RQ_v h7 (by rw [up_n (by decide)]) (up_n (by decide)), RB_v h8 (up_n (by decide))⟩, h9, h10, h11, h12, h13, h14, fun m hm => ?_, h16⟩
  by_cases q : m = j
  · subst q; rw [up_a, up_a]
  · rw [up_bn q, up_bn q]; exact h15 m hm
/-- one resigns -/
theorem yj_res {j : Nat} (h : YJ w r o n V g a17 a26 a29 s v) (hj : j < 6) : YJ w r o n V g a17 a26 a29 (up (up s 56 3 (s 56 3 ||| (1 <<< (nI j &&& 31)))) 56 2 (s 56 2 &&& ((1 <<< (nI j &&& 31)) ^^^ (-1)))) (up (up v 64 18 (v 64 18 &&& ((1 <<< (nI j &&& 31)) ^^^ (-1)))) 64 19 (v 64 19 ||| (1 <<< (nI j &&& 31)))) := by
  obtain ⟨⟨h1, h2, h3, h4, h5⟩, ⟨h6, h7, h8⟩, ⟨h9, h9b⟩, ⟨T, hT, hT2, hT3⟩, h11, ⟨C, G, c1, c2, c3, c4, c5⟩, h13, ⟨h14, h14b, h14c⟩, h15, h16⟩ := h
  have hn := h7.2.1.1
  obtain ⟨t1, t2⟩ := th_c T (p2_64 hn hT) j hj
  refine ⟨⟨fun c hc => by rw [up_n (by omega), up_n (by omega)]; exact h1 c hc, by rw [up_n (by decide), up_n (by decide)]; exact h2, by rw [up_bn (by decide), up_bn (by decide)]; exact h3, by rw [up_bn (by decide), up_bn (by decide)]; exact h4, by rw [up_bn (by decide), up_bn (by decide)]; exact h5⟩, ⟨h6, RQ_v h7 (by rw [up_bn (by decide), up_bn (by decide)]) (by rw [up_n (by decide), up_n (by decide)]), RB_v h8 (by rw [up_n (by decide), up_n (by decide)])⟩, ⟨?_, ?_⟩, ⟨T ^^^ (T &&& 2 ^ j), by omega, ?_, ?_⟩, ?_, ⟨C, G, ?_, ?_, ?_, ?_, c5⟩, ?_, ⟨?_, ?_, ?_⟩, fun m hm => ?_, fun k hk => ?_⟩
  · rw [up_bn (by decide), up_bn (by decide), up_bn (by decide), up_bn (by decide)]; exact h9
  · rw [up_bn (by decide), up_bn (by decide)]; exact h9b
  · rw [up_a, hT2]; exact t1
  · rw [up_bn (by decide), up_a, hT3]; exact t1
  · rw [up_bn (by decide), up_a, up_a, h11]
  · rw [up_n (by decide), up_n (by decide)]; exact c1
  · rw [up_bn (by decide), up_bn (by decide)]; exact c2
  · rw [up_n (by decide), up_n (by decide)]; exact c3
  · rw [up_bn (by decide), up_bn (by decide)]; exact c4
  · rw [up_n (by decide), up_n (by decide), up_bn (by decide), up_bn (by decide)]; exact h13
  · rw [up_bn (by decide), up_bn (by decide), up_bn (by decide), up_bn (by decide)]; exact h14
  · rw [up_bn (by decide), up_bn (by decide), up_bn (by decide), up_bn (by decide)]; exact h14b
  · rw [up_bn (by decide), up_bn (by decide), up_bn (by decide), up_bn (by decide)]; exact h14c
  · rw [up_n (by decide), up_n (by decide), up_n (by decide), up_n (by decide)]; exact h15 m hm
  · rw [up_n (by decide), up_n (by decide), up_n (by decide), up_n (by decide)]; exact h16 k hk
theorem ang_50 {R : SG → Int32 → Int32 → Option SG} {j : Nat} {ag x gg : Int32} {Q : SG → Prop} (h : YJ w r o n V g a17 a26 a29 s v) (hj : j < n) (eg : x = if gg = 0 then s 58 j + 1 else 0) (go : ∀ v2, YJ w r o n V g a17 a26 a29 (beaS s r (nI j) gg) v2 → pc (R v2 ag (nI j + 1)) Q) : pc (Rangers_50 R v ag (nI j) x (nI j)) Q := by
  have hn := h.2.1.2.1.2.1.1
  have hY := yj_58 (j := j) (x := x) h (by omega)
  have rq := yj_rq h
  have hr : RH (up v 69 j x) := RH_of (by rw [up_n (by decide)]) (rq_RH rq)
  obtain ⟨τ, eτ, hτ⟩ := h.2.1.2.2.2.2.1 j 2 (by omega) (by omega)
  have of2 : RofMinister (up v 69 j x) (nI j) 2 = some (nI τ) := by
    rw [q_ofMinister (y := 2) (m := j) (a := 2) hr rfl rfl (by omega) (by decide), ofN_e (s := v) (by rw [up_n (by decide)]) (up_n (by decide)), rq_of rq, eτ]
  have te : cl 6 (s (r + 3)) (nI j) = nI τ := by
    rw [cl_nI (by omega) (by decide), ← eτ]
    exact rq.2.2.2.2.2.1 j 2 hj (by omega)
  have ce : cl 6 (s 58) (nI j) = s 58 j := cl_nI (by omega) (by decide)
  have pe : ∀ y, pt 6 s 58 (nI j) y = up s 58 j y := fun y => pt_e (by omega) (by decide)
  have be : beaS s r (nI j) gg = if nI τ ≤ 0 then up s 58 j x else if x < nI τ then up s 58 j x else up (up (up s 58 j x) 56 3 (s 56 3 ||| (1 <<< (nI j &&& 31)))) 56 2 (s 56 2 &&& ((1 <<< (nI j &&& 31)) ^^^ (-1))) := by
    unfold beaS
    rw [te, ce, pe, pe]
    by_cases q : gg = 0
    · rw [if_pos q] at eg
      rw [if_pos q, eg]
    · rw [if_neg q] at eg
      rw [if_neg q, eg]
  unfold Rangers_50
  refine pc_wrv (e := j) rfl (by omega) (by decide) ?_
  rw [of2, Option.bind_some]
  by_cases z : τ = 0
  · subst z
    rw [if_pos (show nI 0 = 0 from rfl)]
    refine go _ ?_
    rw [be, if_pos (show nI 0 ≤ (0 : Int32) by decide)]; exact hY
  · rw [if_neg (show ¬ nI τ = (0 : Int32) from fun q => z (nI_inj (a := τ) (b := 0) (by omega) (by decide) q))]
    refine pc_rdv (e := j) rfl (by omega) (by decide) ?_
    rw [Option.bind_some, up_a]
    have nle : ¬ nI τ ≤ (0 : Int32) := nI_ge (a := 0) (by omega) (by omega)
    by_cases q : nI τ ≤ x
    · rw [if_pos q]
      refine go _ ?_
      rw [be, if_neg nle, if_neg (Int32.not_lt.mpr q)]
      have := yj_res (j := j) hY (by omega)
      rw [up_n (show 56 ≠ 58 by decide)] at this
      exact this
    · rw [if_neg q]
      refine go _ ?_
      rw [be, if_neg nle, if_pos (Int32.not_le.mp q)]; exact hY
theorem yj_ang {ag y2 y3 : Int32} : ∀ (k j z : Nat) (s v : SG), YJ w r o n V g a17 a26 a29 s v → j + k = n → pc (Rangers_2 (Rangers_R z) v ag (nI j)) (fun u => YJ w r o n V g a17 a26 a29 (decSL r k j s y2 y3 ag) u) := by
  intro k
  induction k with
  | zero =>
    intro j z s v h hj
    have rq := yj_rq h
    unfold Rangers_2
    rw [q_ministers (rq_RH rq), (rq_n rq).1, Option.bind_some, if_pos (k_ge hj)]
    exact pc_s h
  | succ k ih =>
    intro j z s v h hj
    have rq := yj_rq h
    have hn := rq.2.1.1
    have go : ∀ s2 v2, YJ w r o n V g a17 a26 a29 s2 v2 → pc (Rangers_R z v2 ag (nI j + 1)) (fun u => YJ w r o n V g a17 a26 a29 (decSL r k (j + 1) s2 y2 y3 ag) u) := by
      intro s2 v2 h2
      cases z with
      | zero => exact fun _ e => nomatch e
      | succ z =>
        show pc (Rangers_2 (Rangers_R z) v2 ag (nI j + 1)) _
        rw [← nI_succ]
        exact ih (j + 1) z s2 v2 h2 (by omega)
    obtain ⟨T, hT, hT2, hT3⟩ := h.2.2.2.1
    have t0 := th_0 T (p2_64 hn hT) j (by omega)
    unfold Rangers_2
    rw [q_ministers (rq_RH rq), (rq_n rq).1, Option.bind_some, if_neg (k_lt hj (by omega)), hT3, decSL, hT2]
    by_cases z0 : (nI T >>> (nI j &&& 31)) &&& 1 = 0
    · rw [if_pos z0, if_pos (t0.1 z0)]; exact go s v h
    · rw [if_neg z0, if_neg (fun q => z0 (t0.2 q))]
      by_cases q : (ag >>> (nI j &&& 31)) &&& 1 = 1
      · rw [if_pos q]
        exact ang_50 h (by omega) (by rw [if_neg (fun z => ((has_b (by omega)).1 z) q)]) (fun v2 h2 => go _ v2 h2)
      · rw [if_neg q]
        refine pc_rdv (e := j) rfl (by omega) (by decide) ?_
        exact ang_50 h (by omega) (by rw [if_pos ((has_b (by omega)).2 q), h.2.2.2.2.2.2.2.2.1 j (by omega)]) (fun v2 h2 => go _ v2 h2)
theorem vet_T : ∀ V, V < 64 → ∀ n, n ≤ 6 → ∀ T, T < 2 ^ n → (nI (V % 2 ^ n) &&& nI T) = (nI T &&& nI V) := by decide +kernel
theorem rq_pasT {x : Int32} {T : Nat} (h : RQ s r v o n V) (hT : T < 2 ^ n) (e18 : v 64 18 = nI T) : pasI s r (nI T) x = pasN v x := by
  have hn := h.2.1.1
  have f9 : s r 9 = ofN v 1 := by rw [rq_of h]; exact h.2.2.2.1 0 (by omega)
  have fv : vetT v &&& nI T = nI T &&& s r 8 := by
    rw [rq_vet h, h.2.2.2.2.2.2.1.1]
    exact vet_T V h.2.1.2 n hn T hT
  unfold pasI pasN
  rw [e18, rq_vot h, Int32.and_comm x (nI T), f9, fv]
theorem yj_moves {b D : Nat} (h : YJ w r o n V g a17 a26 a29 s v) (e15 : v 64 15 = nI b) (hb : b < 6) (hD : D < 1000) (hR : ∀ C, v 64 20 = nI C → D / 100 ≤ C) (e12 : v 64 12 = nI (D / 100)) (e13 : v 64 13 = nI (D / 10 % 10)) (e14 : v 64 14 = nI (D % 10)) : pc (Rmoves v) (fun u => YJ w r o n V g a17 a26 a29 (decS s r (nI b) (nI D)) u) := by
  have rq := yj_rq h
  obtain ⟨a0, a1, a2⟩ := amt_n D hD
  obtain ⟨f16, se, e16, hse⟩ := h.2.2.1
  obtain ⟨T, hT, hT2, hT3⟩ := h.2.2.2.1
  have hRH := rq_RH rq
  have hMZ := rq_MZ rq
  have hSE : SE v := ⟨by unfold seN; rw [e16, nI_clamp (by omega)], by unfold seN; rw [e16, nI_clamp (by omega)]; omega⟩
  have ag : agrT s r (nI b) (s 56 1) (nI D) = agmT v := by
    rw [f16, e16]
    exact rq_agr rq hb (by omega) e15 e16 (by rw [e12, a0]) (by rw [e13, a1]) (by rw [e14, a2])
  unfold Rmoves decS
  rw [q_agreeing hRH hSE hMZ, Option.bind_some, q_isPassed hRH hMZ, Option.bind_some, ag, hT2, rq_pasT rq hT hT3, (rq_n rq).2.2]
  by_cases c : pasN v (agmT v) = 0
  · rw [if_pos c, if_pos c]; exact pc_s (yj_com h)
  · rw [if_neg c, if_neg c]
    exact pc_b (yj_ang n 0 xF _ _ (yj_goes h hD hR e12 e13 e14) (by omega)) (fun u hu => pc_s hu)
end YJS
end XVC
end
section
section XVD
variable {sc : Nat × (Nat → Int32)} {d : Nat} {K : List KD} {r q t a B m : Nat}
/-! years on both sides: deeds, stop, state -/
/-- deeds at t on the class's side, at o2 on the reference's -/
def DQW (s : SG) (t : Nat) (v : SG) (o2 m : Nat) : Prop := (v 64 29 = nI o2 ∧ o2 ≤ 1129) ∧ m ≤ 40 ∧ s t 0 = nI m ∧ v 65 o2 = nI m ∧ (∀ j i, j < m → i < 5 → s (t + 1) (5 * j + i) = v 65 (o2 + (1 + 5 * j + i))) ∧ ∀ j, j < m → (NB (s (t + 1) (5 * j + 0)) 5 ∧ (s (t + 1) (5 * j + 0) = 0 → NB (s (t + 1) (5 * j + 2)) 9 ∧ NB (s (t + 1) (5 * j + 3)) 9 ∧ NB (s (t + 1) (5 * j + 4)) 9)) ∧ (s (t + 1) (5 * j + 0) = 1 → NB (s (t + 1) (5 * j + 1)) 3) ∧ (s (t + 1) (5 * j + 0) = 2 → NB (s (t + 1) (5 * j + 1)) 2)
section DQS
variable {w s v : SG} {o n V o1 n1 o2 m1 : Nat} {g : Nat → Int32} {a17 a26 a29 : Int32}
theorem dq_of {j i : Nat} {x : Int32} (h : DQW s t v o2 m1) (hj : j < m1) (hi : i < 5) (ex : x = nI i) : RdeedOf v (nI j) x = some (s (t + 1) (5 * j + i)) := by
  obtain ⟨⟨h17, ho⟩, hn, _, _, h5, _⟩ := h
  have ix : ((v 64 29 + 1) + (5 * nI j)) + x = nI (o2 + (1 + 5 * j + i)) := by
    rw [h17, ex]
    show ((nI o2 + nI 1) + (nI 5 * nI j)) + nI i = _
    rw [nI_mulx, nI_add, nI_add, nI_add]; congr 1; omega
  unfold RdeedOf
  rw [ix, rd_nI (e := o2 + (1 + 5 * j + i)) rfl (by omega) (by decide), h5 j i hj hi]; rfl
theorem dq_n (h : DQW s t v o2 m1) : Rdeeds v = some (nI m1) := by
  have ho := h.1.2
  unfold Rdeeds
  rw [h.1.1, rd_nI (e := o2) rfl (by omega) (by decide), h.2.2.2.1]; rfl
theorem DQ_v {v2 : SG} (h : DQW s t v o2 m1) (e29 : v2 64 29 = v 64 29) (e65 : v2 65 = v 65) : DQW s t v2 o2 m1 := by
  unfold DQW
  rw [e29, e65]; exact h
theorem DQ_s {s2 : SG} (h : DQW s t v o2 m1) (e0 : s2 t = s t) (e1 : s2 (t + 1) = s (t + 1)) : DQW s2 t v o2 m1 := by
  unfold DQW
  rw [e0, e1]; exact h
/-- who is a minister, who is there -/
theorem rq_mn {x : Int32} (h : RQ s r v o n V) : RisMinister v x = some (inI x 0 (nI n - 1)) ∧ (minI s r x = 0 ↔ inI x 0 (nI n - 1) = 0) := by
  have hn := h.2.1.1
  have ho := h.1.2
  refine ⟨?_, ?_⟩
  · unfold RisMinister
    rw [q_ministers (rq_RH h), (rq_n h).1]; rfl
  · rw [iz_m (by omega)]
    unfold minI
    rw [h.2.2.1.1]
    by_cases c : x < 0
    · rw [if_pos c]; exact ⟨fun _ => Or.inl c, fun _ => rfl⟩
    · rw [if_neg c]
      by_cases c2 : nI n ≤ x
      · rw [if_pos c2]; exact ⟨fun _ => Or.inr c2, fun _ => rfl⟩
      · rw [if_neg c2]; exact ⟨fun g => absurd g (by decide), fun g => g.elim (fun g => absurd g c) (fun g => absurd g c2)⟩
theorem has_n {x k : Int32} (h : ¬ hasI x k = 0) : ∃ b, b < 6 ∧ k = nI b := by
  unfold hasI at h
  by_cases c : k < 0
  · rw [if_pos c] at h; exact absurd rfl h
  · rw [if_neg c] at h
    by_cases c2 : 6 ≤ k
    · rw [if_pos c2] at h; exact absurd rfl h
    · exact nat_of (n := 6) c (Int32.not_le.mp c2) (by decide)
theorem has_o : ∀ n, n ≤ 6 → ∀ T, T < 2 ^ n → ∀ b, b < 6 → n ≤ b → hasI (nI T) (nI b) = 0 := by decide +kernel
theorem has_v {x k : Int32} : hasI x k = 0 ∨ hasI x k = 1 := by
  unfold hasI
  repeat' split
  all_goals first | exact Or.inl rfl | exact Or.inr rfl
theorem yj_the {x : Int32} (h : YJ w r o n V g a17 a26 a29 s v) : RisThere v x = some (hasI (s 56 2) x) := by
  have rq := yj_rq h
  have hn := rq.2.1.1
  obtain ⟨T, hT, hT2, hT3⟩ := h.2.2.2.1
  unfold RisThere
  rw [(rq_mn rq).1, Option.bind_some, hT3, hT2]
  by_cases c : inI x 0 (nI n - 1) = 0
  · rw [if_pos c]
    by_cases z : hasI (nI T) x = 0
    · rw [z]
    · obtain ⟨b, hb, rfl⟩ := has_n z
      have nb : n ≤ b := by
        rcases (iz_m (n := n) (by omega)).1 c with q | q
        · exact absurd q (nI_pos (by omega))
        · by_cases q2 : n ≤ b
          · exact q2
          · exact absurd q (nI_ge (by omega) (by omega))
      exact absurd (has_o n hn T hT b hb nb) z
  · rw [if_neg c]
    obtain ⟨b, rfl, hb⟩ := inI_sub (by omega) c
    by_cases z : (nI T >>> (nI b &&& 31)) &&& 1 = 1
    · rw [if_pos z, has_v.resolve_left (fun q => ((has_b (by omega)).1 q) z)]
    · rw [if_neg z, (has_b (by omega)).2 z]
theorem yj_t {x : Int32} (h : YJ w r o n V g a17 a26 a29 s v) : YJ w r o n V g a17 a26 a29 s (RtalksOf v x) :=
  yj_g h (fun _ _ => rfl) (talks_c (by decide)) (talks_c (by decide)) (talks_c (by decide)) (fun j hj => talks_64 (by omega)) ((talks_64 (by omega)).trans h.1.2.2.2.1)
theorem yj_can {D : Nat} (h : YJ w r o n V g a17 a26 a29 s v) (hD : D < 1000) : RcanNature (RtalksOf v (nI D)) = canI7 s (nI D) ∧ (¬ canI7 s (nI D) = 0 → ∀ C, v 64 20 = nI C → C < 2 ^ 31 → D / 100 ≤ C) := by
  obtain ⟨t12, t13, t14⟩ := talks_12 (u := v) (x := nI D)
  obtain ⟨C, G, c1, c2, c3, c4, c5⟩ := h.2.2.2.2.2.1
  have e22 : s 57 2 = v 64 22 := h.2.2.2.2.2.2.1
  refine ⟨?_, fun z C' hC' hC2 => ?_⟩
  · unfold RcanNature canI7
    rw [t12, t13, t14, talks_64 (j := 20) (by omega), talks_64 (j := 22) (by omega), c2, ← c1, ← e22]
    exact can_l
  · have : C = C' := nI_inj (by omega) hC2 (c2.symm.trans hC')
    subst this
    unfold canI7 at z
    by_cases q : s 57 0 < amtI (nI D) 0
    · rw [if_pos q] at z; exact absurd rfl z
    · rw [c1, (amt_n D hD).1, Int32.not_lt, Int32.le_iff_toInt_le, nI_toInt (by omega), nI_toInt (by omega)] at q
      omega
/-- both do a deed, or neither can -/
theorem hap_v {j : Nat} (h : YJ w r o n V g a17 a26 a29 s v) (dq : DQW s t v o2 m1) (oq : OQ s q v o1 n1) (hj : j < m1) : pc (Rcan v (nI j)) (fun p => (p.1 = 0 ↔ (hapP s r q t (nI j)).1 = 0) ∧ (p.1 = 0 → p.2 64 26 = a26) ∧ (¬ p.1 = 0 → p.2 64 26 = a26 ∧ pc (Rdoes p.2 (nI j)) (fun u => YJ w r o n V g a17 a26 a29 (hapP s r q t (nI j)).2 u))) := by
  have hm := dq.2.1
  have rq := yj_rq h
  have e26 : v 64 26 = a26 := h.1.2.2.2.1
  obtain ⟨⟨⟨t0, et, ht⟩, mo⟩, sea, off⟩ := dq.2.2.2.2.2 j hj
  have d0 := dq_of (i := 0) (x := 0) dq hj (by decide) rfl
  have d1 := dq_of (i := 1) (x := 1) dq hj (by decide) rfl
  have d2 := dq_of (i := 2) (x := 2) dq hj (by decide) rfl
  have d3 := dq_of (i := 3) (x := 3) dq hj (by decide) rfl
  have d4 := dq_of (i := 4) (x := 4) dq hj (by decide) rfl
  have p0 : parI s t (nI j) 0 = s (t + 1) (5 * j + 0) := pr_q (by omega) (by decide) rfl
  have p1 : parI s t (nI j) 1 = s (t + 1) (5 * j + 1) := pr_q (by omega) (by decide) rfl
  have p2 : parI s t (nI j) 2 = s (t + 1) (5 * j + 2) := pr_q (by omega) (by decide) rfl
  have p3 : parI s t (nI j) 3 = s (t + 1) (5 * j + 3) := pr_q (by omega) (by decide) rfl
  have p4 : parI s t (nI j) 4 = s (t + 1) (5 * j + 4) := pr_q (by omega) (by decide) rfl
  have hap : hapP s r q t (nI j) = hapPW s r q t (nI j) (s (t + 1) (5 * j + 1)) (nI t0) := by unfold hapP; rw [p0, p1, et]
  have can : Rcan v (nI j) = Rcan_13 v (nI j) (s (t + 1) (5 * j + 1)) (nI t0) := by unfold Rcan; rw [d1, Option.bind_some, d0, Option.bind_some, et]
  have doe : ∀ u : SG, u 64 29 = v 64 29 → u 65 = v 65 → Rdoes u (nI j) = Rdoes_13 u (nI j) (s (t + 1) (5 * j + 1)) (nI t0) := by
    intro u e1 e2
    have dq2 := DQ_v dq e1 e2
    unfold Rdoes
    rw [dq_of (i := 1) (x := 1) dq2 hj (by decide) rfl, Option.bind_some, dq_of (i := 0) (x := 0) dq2 hj (by decide) rfl, Option.bind_some, et]
  rw [hap, can]
  rcases (by omega : t0 = 0 ∨ t0 = 1 ∨ t0 = 2 ∨ t0 = 3 ∨ t0 = 4 ∨ t0 = 5) with rfl | rfl | rfl | rfl | rfl | rfl
  · obtain ⟨⟨x, ex, hx⟩, ⟨y, ey, hy⟩, ⟨z, ez, hz⟩⟩ := mo et
    have e1 : ((100 * s (t + 1) (5 * j + 2)) + (10 * s (t + 1) (5 * j + 3))) + s (t + 1) (5 * j + 4) = nI (100 * x + 10 * y + z) := by
      rw [ex, ey, ez]
      show ((nI 100 * nI x) + (nI 10 * nI y)) + nI z = _
      rw [nI_mulx, nI_mulx, nI_add, nI_add]
    have e2 : dafI s t (nI j) 2 = nI (100 * x + 10 * y + z) := by
      unfold dafI
      rw [p2, show (2 : Int32) + 1 = 3 from rfl, show (2 : Int32) + 2 = 4 from rfl, p3, p4, ex, ey, ez]
      unfold numI
      show (nI x * nI 10 + nI y) * nI 10 + nI z = _
      rw [nI_mulx, nI_add, nI_mulx, nI_add]; congr 1; omega
    obtain ⟨D, eD⟩ : ∃ D, D = 100 * x + 10 * y + z := ⟨_, rfl⟩
    have hD : D < 1000 := by omega
    obtain ⟨t12, t13, t14⟩ := talks_12 (u := v) (x := nI D)
    obtain ⟨a0, a1, a2⟩ := amt_n D hD
    have ht := yj_t (x := nI D) h
    have t26 : RtalksOf v (nI D) 64 26 = a26 := ht.1.2.2.2.1
    obtain ⟨cn1, cn2⟩ := yj_can h hD
    have f16 : s 56 1 = v 64 16 := h.2.2.1.1
    have f8 : s 56 8 = v 64 25 := h.2.2.2.2.2.2.2.1.2.2
    have fi := oq_fi (ah := v 64 25) (se := s 56 1) (oq_t (x := nI D) oq) t12 t13 t14 (by rw [talks_64 (by omega)]; exact f16.symm)
    have ehap : hapPW s r q t (nI j) (s (t + 1) (5 * j + 1)) (nI 0) = if hasI (s 56 2) (s (t + 1) (5 * j + 1)) = 0 then (0, s) else if canI7 s (nI D) = 0 then (0, s) else if fibI s q (s 56 1) (nI D) (v 64 25) = -1 then (1, decS s r (s (t + 1) (5 * j + 1)) (nI D)) else (0, s) := by
      unfold hapPW
      rw [if_pos (show nI 0 = 0 from rfl), e2, ← eD, f8]
    have ecan : Rcan_13 v (nI j) (s (t + 1) (5 * j + 1)) (nI 0) = if hasI (s 56 2) (s (t + 1) (5 * j + 1)) = 0 then some (0, RtalksOf v (nI D)) else if fibI s q (s 56 1) (nI D) (v 64 25) = -1 then (if canI7 s (nI D) = 0 then some (0, RtalksOf v (nI D)) else some (1, RtalksOf v (nI D))) else some (0, RtalksOf v (nI D)) := by
      unfold Rcan_13
      rw [if_pos (show nI 0 = 0 from rfl), d2, Option.bind_some, d3, Option.bind_some, d4, Option.bind_some, e1, ← eD, yj_the ht, Option.bind_some, talks_64 (j := 25) (by omega), fi, Option.bind_some, cn1]
    rw [ehap, ecan]
    have no : ∀ (c : Int32 × SG), c.1 = 0 → pc (some ((0 : Int32), RtalksOf v (nI D))) (fun p => (p.1 = 0 ↔ c.1 = 0) ∧ (p.1 = 0 → p.2 64 26 = a26) ∧ (¬ p.1 = 0 → p.2 64 26 = a26 ∧ pc (Rdoes p.2 (nI j)) (fun u => YJ w r o n V g a17 a26 a29 c.2 u))) := fun c hc => pc_s ⟨⟨fun _ => hc, fun _ => rfl⟩, fun _ => t26, fun z => absurd rfl z⟩
    by_cases k1 : hasI (s 56 2) (s (t + 1) (5 * j + 1)) = 0
    · rw [if_pos k1, if_pos k1]; exact no _ rfl
    rw [if_neg k1, if_neg k1]
    by_cases k2 : canI7 s (nI D) = 0
    · rw [if_pos k2, if_pos k2]
      exact pc_i (fun _ => no _ rfl) (fun _ => no _ rfl)
    rw [if_neg k2, if_neg k2]
    by_cases k3 : fibI s q (s 56 1) (nI D) (v 64 25) = -1
    · rw [if_pos k3, if_pos k3]
      obtain ⟨b, hb, eb⟩ := has_n k1
      refine pc_s ⟨⟨fun z => absurd z (by decide : ¬ (1 : Int32) = 0), fun z => absurd z (by decide : ¬ (1 : Int32) = 0)⟩, fun _ => t26, fun _ => ⟨t26, ?_⟩⟩
      show pc (Rdoes (RtalksOf v (nI D)) (nI j)) _
      rw [doe _ (talks_64 (by omega)) (talks_c (by decide))]
      unfold Rdoes_13
      rw [if_pos (show nI 0 = 0 from rfl), eb]
      have h15 : YJ w r o n V g a17 a26 a29 s (up (RtalksOf v (nI D)) 64 15 (nI b)) := yj_g ht (fun _ _ => rfl) (up_n (by decide)) (up_n (by decide)) (up_n (by decide)) (fun j hj => up_bn (by omega)) ((up_bn (by decide)).trans t26)
      refine pc_b (yj_moves (b := b) (D := D) h15 up_a hb hD (fun C hC => ?_) ?_ ?_ ?_) (fun u hu => pc_s hu)
      · rw [up_bn (by decide), talks_64 (by omega)] at hC
        obtain ⟨C2, G2, _, c2, _, _, c5⟩ := h.2.2.2.2.2.1
        have l2 := cn2 k2 C2 c2 (by omega)
        by_cases q : C < 2 ^ 31
        · exact cn2 k2 C hC q
        · omega
      · rw [up_bn (by decide), t12, a0]
      · rw [up_bn (by decide), t13, a1]
      · rw [up_bn (by decide), t14, a2]
    · rw [if_neg k3, if_neg k3]; exact no _ rfl
  · have ehap : hapPW s r q t (nI j) (s (t + 1) (5 * j + 1)) (nI 1) = (1, up s 56 1 (s (t + 1) (5 * j + 1))) := by
      unfold hapPW
      rw [if_neg (by decide), if_pos (show nI 1 = 1 from rfl)]
    have ecan : Rcan_13 v (nI j) (s (t + 1) (5 * j + 1)) (nI 1) = some (1, v) := by
      unfold Rcan_13
      rw [if_neg (by decide), if_pos (show nI 1 = 1 from rfl)]
    rw [ehap, ecan]
    refine pc_s ⟨⟨fun z => absurd z (by decide : ¬ (1 : Int32) = 0), fun z => absurd z (by decide : ¬ (1 : Int32) = 0)⟩, fun _ => e26, fun _ => ⟨e26, ?_⟩⟩
    show pc (Rdoes v (nI j)) _
    rw [doe v rfl rfl]
    unfold Rdoes_13
    rw [if_neg (by decide), if_pos (show nI 1 = 1 from rfl)]
    obtain ⟨c, ec, hc⟩ := sea et
    rw [ec]
    obtain ⟨⟨h1, h2, h3, h4, h5⟩, ⟨h6, h7, h8⟩, h9, ⟨T, hT, hT2, hT3⟩, h11, ⟨C, G, c1, c2, c3, c4, c5⟩, h13, ⟨h14, h14b, h14c⟩, h15, h16⟩ := h
    refine pc_s ?_
    show YJ w r o n V g a17 a26 a29 (up s 56 1 (nI c)) (up v 64 16 (nI c))
    refine ⟨⟨fun c hc => (up_n (by omega)).trans (h1 c hc), by rw [up_n (by decide)]; exact h2, by rw [up_bn (by decide)]; exact h3, by rw [up_bn (by decide)]; exact h4, by rw [up_bn (by decide)]; exact h5⟩, ⟨h6, RQ_v h7 (up_bn (by decide)) (up_n (by decide)), RB_v h8 (up_n (by decide))⟩, ⟨by rw [up_a, up_a], by rw [up_a]; exact ⟨c, rfl, hc⟩⟩, ⟨T, hT, by rw [up_bn (by decide)]; exact hT2, by rw [up_bn (by decide)]; exact hT3⟩, by rw [up_bn (by decide), up_bn (by decide)]; exact h11, ⟨C, G, by rw [up_n (by decide)]; exact c1, by rw [up_bn (by decide)]; exact c2, by rw [up_n (by decide)]; exact c3, by rw [up_bn (by decide)]; exact c4, c5⟩, by rw [up_n (by decide), up_bn (by decide)]; exact h13, ⟨by rw [up_bn (by decide), up_bn (by decide)]; exact h14, by rw [up_bn (by decide), up_bn (by decide)]; exact h14b, by rw [up_bn (by decide), up_bn (by decide)]; exact h14c⟩, fun m hm => by rw [up_n (by decide), up_n (by decide)]; exact h15 m hm, fun k hk => by rw [up_n (by decide), up_n (by decide)]; exact h16 k hk⟩
  · have ehap : hapPW s r q t (nI j) (s (t + 1) (5 * j + 1)) (nI 2) = tofP s (s (t + 1) (5 * j + 1)) (s (t + 1) (5 * j + 2)) := by
      unfold hapPW
      rw [if_neg (by decide), if_neg (by decide), if_pos (show nI 2 = 2 from rfl), p2]
    have ecan : Rcan_13 v (nI j) (s (t + 1) (5 * j + 1)) (nI 2) = some (hasI (s 56 2) (s (t + 1) (5 * j + 2)), v) := by
      unfold Rcan_13
      rw [if_neg (by decide), if_neg (by decide), if_pos (show nI 2 = 2 from rfl), d2, Option.bind_some, yj_the h, Option.bind_some, hasI_rt]; rfl
    rw [ehap, ecan]
    unfold tofP
    by_cases z : hasI (s 56 2) (s (t + 1) (5 * j + 2)) = 0
    · rw [if_pos z]
      exact pc_s ⟨Iff.rfl, fun _ => e26, fun k => absurd z k⟩
    · rw [if_neg z]
      refine pc_s ⟨Iff.rfl, fun _ => e26, fun _ => ⟨e26, ?_⟩⟩
      show pc (Rdoes v (nI j)) _
      rw [doe v rfl rfl]
      obtain ⟨c, ec, hc⟩ := off et
      unfold Rdoes_13
      rw [if_neg (by decide), if_neg (by decide), if_pos (show nI 2 = 2 from rfl), d2, Option.bind_some, ec]
      refine pc_wrv (e := c) rfl (by omega) (by decide) (pc_s ?_)
      show YJ w r o n V g a17 a26 a29 (pt 3 s 59 (nI c) (s (t + 1) (5 * j + 2))) _
      rw [pt_e (by omega) (by decide)]
      obtain ⟨⟨h1, h2, h3, h4, h5⟩, ⟨h6, h7, h8⟩, h9, h10, h11, h12, h13, h14, h15, h16⟩ := h
      unfold YJ
      rw [up_n (show 56 ≠ 59 by decide), up_n (show 57 ≠ 59 by decide), up_n (show 58 ≠ 59 by decide), up_n (show 64 ≠ 68 by decide), up_n (show 65 ≠ 68 by decide), up_n (show 69 ≠ 68 by decide)]
      refine ⟨⟨fun c hc => (up_n (by omega)).trans (h1 c hc), h2, h3, h4, h5⟩, ⟨h6, RQ_v h7 (by rw [up_n (by decide)]) (up_n (by decide)), RB_v h8 (up_n (by decide))⟩, h9, h10, h11, h12, h13, h14, h15, fun k hk => ?_⟩
      by_cases q : k = c
      · subst q; rw [up_a, up_a]
      · rw [up_bn q, up_bn q]; exact h16 k hk
  · have ehap : hapPW s r q t (nI j) (s (t + 1) (5 * j + 1)) (nI 3) = disP s (s (t + 1) (5 * j + 1)) := by
      unfold hapPW
      rw [if_neg (by decide), if_neg (by decide), if_neg (by decide), if_pos (show nI 3 = 3 from rfl)]
    have ecan : Rcan_13 v (nI j) (s (t + 1) (5 * j + 1)) (nI 3) = some (hasI (s 56 2) (s (t + 1) (5 * j + 1)), v) := by
      unfold Rcan_13
      rw [if_neg (by decide), if_neg (by decide), if_neg (by decide), if_pos (show nI 3 = 3 from rfl), yj_the h, Option.bind_some, hasI_rt]; rfl
    rw [ehap, ecan]
    unfold disP
    by_cases z : hasI (s 56 2) (s (t + 1) (5 * j + 1)) = 0
    · rw [if_pos z]
      exact pc_s ⟨Iff.rfl, fun _ => e26, fun k => absurd z k⟩
    · rw [if_neg z]
      refine pc_s ⟨Iff.rfl, fun _ => e26, fun _ => ⟨e26, ?_⟩⟩
      show pc (Rdoes v (nI j)) _
      rw [doe v rfl rfl]
      obtain ⟨b, hb, eb⟩ := has_n z
      unfold Rdoes_13
      rw [if_neg (by decide), if_neg (by decide), if_neg (by decide), if_pos (show nI 3 = 3 from rfl), eb]
      refine pc_s ?_
      show YJ w r o n V g a17 a26 a29 (up s 56 2 (s 56 2 &&& ((1 <<< (nI b &&& 31)) ^^^ (-1)))) _
      obtain ⟨⟨h1, h2, h3, h4, h5⟩, ⟨h6, h7, h8⟩, ⟨h9, h9b⟩, ⟨T, hT, hT2, hT3⟩, h11, ⟨C, G, c1, c2, c3, c4, c5⟩, h13, ⟨h14, h14b, h14c⟩, h15, h16⟩ := h
      have hn := h7.2.1.1
      obtain ⟨t1, t2⟩ := th_c T (p2_64 hn hT) b hb
      exact ⟨⟨fun c hc => (up_n (by omega)).trans (h1 c hc), by rw [up_n (by decide)]; exact h2, by rw [up_bn (by decide)]; exact h3, by rw [up_bn (by decide)]; exact h4, by rw [up_bn (by decide)]; exact h5⟩, ⟨h6, RQ_v h7 (up_bn (by decide)) (up_n (by decide)), RB_v h8 (up_n (by decide))⟩, ⟨by rw [up_bn (by decide), up_bn (by decide)]; exact h9, by rw [up_bn (by decide)]; exact h9b⟩, ⟨T ^^^ (T &&& 2 ^ b), by omega, by rw [up_a, hT2]; exact t1, by rw [up_a, hT3]; exact t1⟩, by rw [up_bn (by decide), up_bn (by decide)]; exact h11, ⟨C, G, by rw [up_n (by decide)]; exact c1, by rw [up_bn (by decide)]; exact c2, by rw [up_n (by decide)]; exact c3, by rw [up_bn (by decide)]; exact c4, c5⟩, by rw [up_n (by decide), up_bn (by decide)]; exact h13, ⟨by rw [up_bn (by decide), up_bn (by decide)]; exact h14, by rw [up_bn (by decide), up_bn (by decide)]; exact h14b, by rw [up_bn (by decide), up_bn (by decide)]; exact h14c⟩, fun m hm => by rw [up_n (by decide), up_n (by decide)]; exact h15 m hm, fun k hk => by rw [up_n (by decide), up_n (by decide)]; exact h16 k hk⟩
  · have ehap : hapPW s r q t (nI j) (s (t + 1) (5 * j + 1)) (nI 4) = recP s r (s (t + 1) (5 * j + 1)) := by
      unfold hapPW
      rw [if_neg (by decide), if_neg (by decide), if_neg (by decide), if_neg (by decide), if_pos (show nI 4 = 4 from rfl)]
    have hn := rq.2.1.1
    obtain ⟨mn1, mn2⟩ := rq_mn (x := s (t + 1) (5 * j + 1)) rq
    have ecan : Rcan_13 v (nI j) (s (t + 1) (5 * j + 1)) (nI 4) = if inI (s (t + 1) (5 * j + 1)) 0 (nI n - 1) = 0 then some (0, v) else if hasI (s 56 2) (s (t + 1) (5 * j + 1)) = 0 then some (1, v) else some (0, v) := by
      unfold Rcan_13
      rw [if_neg (by decide), if_neg (by decide), if_neg (by decide), if_neg (by decide), if_pos (show nI 4 = 4 from rfl), mn1, Option.bind_some, yj_the h, Option.bind_some]
    rw [ehap, ecan]
    unfold recP
    by_cases z : inI (s (t + 1) (5 * j + 1)) 0 (nI n - 1) = 0
    · rw [if_pos z, if_pos (mn2.2 z)]
      exact pc_s ⟨Iff.rfl, fun _ => e26, fun k => absurd rfl k⟩
    rw [if_neg z, if_neg (fun q => z (mn2.1 q))]
    by_cases z2 : hasI (s 56 2) (s (t + 1) (5 * j + 1)) = 0
    · rw [if_pos z2, if_pos z2]
      refine pc_s ⟨Iff.rfl, fun _ => e26, fun _ => ⟨e26, ?_⟩⟩
      show pc (Rdoes v (nI j)) _
      rw [doe v rfl rfl]
      obtain ⟨b, eb, hb⟩ := inI_sub (by omega) z
      unfold Rdoes_13
      rw [if_neg (by decide), if_neg (by decide), if_neg (by decide), if_neg (by decide), if_pos (show nI 4 = 4 from rfl), eb]
      refine pc_wrv (e := b) rfl (by omega) (by decide) (pc_s ?_)
      show YJ w r o n V g a17 a26 a29 (pt 6 (up s 56 2 (s 56 2 ||| (1 <<< (nI b &&& 31)))) 58 (nI b) 0) _
      rw [pt_e (by omega) (by decide)]
      refine yj_58 ?_ (by omega)
      obtain ⟨⟨h1, h2, h3, h4, h5⟩, ⟨h6, h7, h8⟩, ⟨h9, h9b⟩, ⟨T, hT, hT2, hT3⟩, h11, ⟨C, G, c1, c2, c3, c4, c5⟩, h13, ⟨h14, h14b, h14c⟩, h15, h16⟩ := h
      obtain ⟨t1, t2⟩ := th_s n hn b hb T hT
      exact ⟨⟨fun c hc => (up_n (by omega)).trans (h1 c hc), by rw [up_n (by decide)]; exact h2, by rw [up_bn (by decide)]; exact h3, by rw [up_bn (by decide)]; exact h4, by rw [up_bn (by decide)]; exact h5⟩, ⟨h6, RQ_v h7 (up_bn (by decide)) (up_n (by decide)), RB_v h8 (up_n (by decide))⟩, ⟨by rw [up_bn (by decide), up_bn (by decide)]; exact h9, by rw [up_bn (by decide)]; exact h9b⟩, ⟨T ||| 2 ^ b, t2, by rw [up_a, hT2]; exact t1, by rw [up_a, hT3]; exact t1⟩, by rw [up_bn (by decide), up_bn (by decide)]; exact h11, ⟨C, G, by rw [up_n (by decide)]; exact c1, by rw [up_bn (by decide)]; exact c2, by rw [up_n (by decide)]; exact c3, by rw [up_bn (by decide)]; exact c4, c5⟩, by rw [up_n (by decide), up_bn (by decide)]; exact h13, ⟨by rw [up_bn (by decide), up_bn (by decide)]; exact h14, by rw [up_bn (by decide), up_bn (by decide)]; exact h14b, by rw [up_bn (by decide), up_bn (by decide)]; exact h14c⟩, fun m hm => by rw [up_n (by decide), up_n (by decide)]; exact h15 m hm, fun k hk => by rw [up_n (by decide), up_n (by decide)]; exact h16 k hk⟩
    · rw [if_neg z2, if_neg z2]
      exact pc_s ⟨Iff.rfl, fun _ => e26, fun k => absurd rfl k⟩
  · have ehap : hapPW s r q t (nI j) (s (t + 1) (5 * j + 1)) (nI 5) = (1, comS s) := by
      unfold hapPW
      rw [if_neg (by decide), if_neg (by decide), if_neg (by decide), if_neg (by decide), if_neg (by decide), if_pos (show nI 5 = 5 from rfl)]
    have ecan : Rcan_13 v (nI j) (s (t + 1) (5 * j + 1)) (nI 5) = some (1, v) := by
      unfold Rcan_13
      rw [if_neg (by decide), if_neg (by decide), if_neg (by decide), if_neg (by decide), if_neg (by decide)]
    rw [ehap, ecan]
    refine pc_s ⟨Iff.rfl, fun _ => e26, fun _ => ⟨e26, ?_⟩⟩
    show pc (Rdoes v (nI j)) _
    rw [doe v rfl rfl]
    unfold Rdoes_13
    rw [if_neg (by decide), if_neg (by decide), if_neg (by decide), if_neg (by decide), if_neg (by decide)]
    exact pc_s (yj_com h)
end DQS
end XVD
end
section
section XVE
variable {sc : Nat × (Nat → Int32)} {d : Nat} {K : List KD} {r q t a B m : Nat}
/-! years on both sides: the deeds one after the other; stop and state -/
section RUN
variable {w s v v0 s1 : SG} {o n V o1 n1 o2 m1 N Y : Nat} {g : Nat → Int32} {a17 a26 a29 x1 x2 x3 x4 x5 : Int32}
theorem yr_run (hq : q + 2 ≤ 42) (ht : t + 2 ≤ 42) (oq : OQ w q v0 o1 n1) (dq : DQW w t v0 o2 m1) (e65 : v0 65 = g) (e17 : v0 64 17 = a17) (e29 : v0 64 29 = a29) (hN : N ≤ m1) (hY : N ≤ Y) (hY2 : Y < 2 ^ 31) (hE : Y = N ∨ m1 = N) : ∀ (k j z : Nat) (s v : SG), YJ w r o n V g a17 (nI j) a29 s v → j + k = N → pc (Rruns_0 (Rruns_R z) v (nI Y)) (fun u => (∃ i, i ≤ N ∧ u 64 26 = nI i ∧ (runPL r q t N k j s).1 = nI i) ∧ ((runPL r q t N k j s).1 = nI N → YJ w r o n V g a17 (nI N) a29 (runPL r q t N k j s).2 u)) := by
  have hm := dq.2.1
  have st : ∀ (j : Nat) (s v : SG), YJ w r o n V g a17 (nI j) a29 s v → OQ s q v o1 n1 ∧ DQW s t v o2 m1 := by
    intro j s v h
    have lo := h.1.1
    exact ⟨OQ_s (OQ_v oq (h.1.2.2.1.trans e17.symm) (h.1.2.1.trans e65.symm)) (lo q (by omega)) (lo (q + 1) (by omega)), DQ_s (DQ_v dq (h.1.2.2.2.2.trans e29.symm) (h.1.2.1.trans e65.symm)) (lo t (by omega)) (lo (t + 1) (by omega))⟩
  intro k
  induction k with
  | zero =>
    intro j z s v h hj
    have hjN : j = N := by omega
    rw [hjN] at h
    have e26 : v 64 26 = nI N := h.1.2.2.2.1
    unfold Rruns_0
    rw [e26]
    by_cases c : nI Y ≤ nI N
    · rw [if_pos c]; exact pc_s ⟨⟨N, Nat.le_refl N, e26, rfl⟩, fun _ => h⟩
    · rw [if_neg c, dq_n (st N s v h).2, Option.bind_some]
      have e : m1 = N := hE.resolve_left (fun e => c (by rw [e]; exact Int32.le_refl _))
      rw [e, if_pos (Int32.le_refl _)]; exact pc_s ⟨⟨N, Nat.le_refl N, e26, rfl⟩, fun _ => h⟩
  | succ k ih =>
    intro j z s v h hj
    obtain ⟨oq2, dq2⟩ := st j s v h
    have e26 : v 64 26 = nI j := h.1.2.2.2.1
    unfold Rruns_0
    rw [e26, if_neg (nI_ge (by omega) hY2), dq_n dq2, Option.bind_some, if_neg (nI_ge (by omega) (by omega))]
    refine pc_b (hap_v h dq2 oq2 (by omega)) (fun p hp => ?_)
    obtain ⟨hp1, hp2, hp3⟩ := hp
    rw [runPL]
    by_cases c : p.1 = 0
    · rw [if_pos c, if_pos (hp1.1 c)]
      exact pc_s ⟨⟨j, by omega, hp2 c, rfl⟩, fun e => absurd (nI_inj (a := j) (b := N) (by omega) (by omega) e) (by omega)⟩
    · rw [if_neg c, if_neg (fun q => c (hp1.2 q)), (hp3 c).1]
      refine pc_b (hp3 c).2 (fun u hu => ?_)
      have u26 : u 64 26 = nI j := hu.1.2.2.2.1
      rw [u26]
      cases z with
      | zero => exact fun _ e => nomatch e
      | succ z =>
        show pc (Rruns_0 (Rruns_R z) (up u 64 26 (nI j + 1)) (nI Y)) _
        rw [← nI_succ]
        exact ih (j + 1) z _ _ (yj_g hu (fun _ _ => rfl) (up_n (by decide)) (up_n (by decide)) (up_n (by decide)) (fun i hi => up_bn (by omega)) up_a) (by omega)
theorem yj_17 {x y : Int32} (h : YJ w r o n V g a17 a26 a29 s v) : YJ w r o n V g x a26 y s (up (up v 64 17 x) 64 29 y) := by
  have ej : ∀ j, j ≠ 17 → j ≠ 29 → up (up v 64 17 x) 64 29 y 64 j = v 64 j := fun j h1 h2 => by rw [up_bn h2, up_bn h1]
  have ec : ∀ c, c ≠ 64 → up (up v 64 17 x) 64 29 y c = v c := fun c hc => by rw [up_n hc, up_n hc]
  obtain ⟨⟨h1, h2, h3, h4, h5⟩, ⟨h6, h7, h8⟩, h9, h10, h11, h12, h13, h14, h15, h16⟩ := h
  unfold YJ
  rw [ec 65 (by decide), ec 68 (by decide), ec 69 (by decide), ej 16 (by decide) (by decide), ej 18 (by decide) (by decide), ej 19 (by decide) (by decide), ej 20 (by decide) (by decide), ej 21 (by decide) (by decide), ej 22 (by decide) (by decide), ej 23 (by decide) (by decide), ej 24 (by decide) (by decide), ej 25 (by decide) (by decide), ej 26 (by decide) (by decide)]
  exact ⟨⟨h1, h2, by rw [up_bn (by decide), up_a], h4, up_a⟩, ⟨h6, RQ_v h7 (ej 11 (by decide) (by decide)) (ec 65 (by decide)), RB_v h8 (ec 65 (by decide))⟩, h9, h10, h11, h12, h13, h14, h15, h16⟩
theorem repO_g {x : Int32} (e : ∀ c, c < 42 → s1 c = s c) : repO s1 x = repO s x := by unfold repO; rw [e 3 (by omega)]
theorem yea_w {j n : Nat} (hn : SIMn s) (hj : j < 2) (en : s 65 2 = nI n) (hn2 : n ≤ 2) (hjn : j < n) : WEQ 5 40 (fun e j2 => s (22 + 2 * (1 * 2 + j) + e) j2) (fun j2 => s 65 (928 + 201 * j + j2)) := by
  have w := hn.2.2.2 2 j n (by omega) hj en hn2 hjn
  have g : ∀ e, 1 + (CPK 2 j + e) = 22 + 2 * (1 * 2 + j) + e := fun e => by
    show 1 + (21 + 2 * (1 * 2 + j) + e) = _
    omega
  have w : WEQ 5 40 (fun e j2 => s (1 + (CPK 2 j + e)) j2) (fun j2 => s 65 (928 + 201 * j + j2)) := w
  simp only [g] at w
  exact w
theorem DQ_of {j : Nat} (h : WEQ 5 40 (fun e j2 => s (22 + 2 * (1 * 2 + j) + e) j2) (fun j2 => s 65 (928 + 201 * j + j2))) (rr : RI s) (hj : j < 2) (e29 : v 64 29 = nI (928 + 201 * j)) (e65 : v 65 = s 65) : ∃ m, DQW s (22 + 2 * (1 * 2 + j)) v (928 + 201 * j) m := by
  obtain ⟨m, h1, h2, h3, h4, h5⟩ := h
  refine ⟨m, ⟨e29, by omega⟩, h1, h2, ?_, fun a b ha hb => ?_, fun a ha => ?_⟩
  · rw [e65]; exact h3
  · rw [e65]; exact h4 a b ha hb
  · have c : ∀ i, i < 5 → s (22 + 2 * (1 * 2 + j) + 1) (5 * a + i) = s 65 (928 + 201 * j + (1 + 5 * a + i)) := fun i hi => h4 a i ha hi
    have ry := (rr.1.2.2 j hj).2.2.1.2 a (by omega)
    have i0 : 928 + 201 * j + 1 + 5 * a = 928 + 201 * j + (1 + 5 * a + 0) := by omega
    have i1 : 928 + 201 * j + (1 + 5 * a + 0) + 1 = 928 + 201 * j + (1 + 5 * a + 1) := by omega
    rw [i0, i1] at ry
    rw [c 0 (by omega), c 1 (by omega), c 2 (by omega), c 3 (by omega), c 4 (by omega)]
    obtain ⟨b1, b2⟩ := h5 rfl a ha
    exact ⟨⟨b1, b2 rfl⟩, ry.1, ry.2⟩
/-- both look for a republic, orders and a year -/
theorem told_v (hn : SIMn s1) (rr : RI s1) (lo : ∀ c, c < 42 → s1 c = s c) : (repO s x1 = none ∧ pc (RareTold s1 x1 x2 x3) (fun p => p.1 = 0)) ∨ ∃ j, j < 2 ∧ repO s x1 = some (6 + 8 * j) ∧ ((rowO s 1 x2 = none ∧ pc (RareTold s1 x1 x2 x3) (fun p => p.1 = 0)) ∨ ∃ j1, j1 < 2 ∧ rowO s 1 x2 = some (22 + 2 * (0 * 2 + j1)) ∧ ((rowO s 2 x3 = none ∧ pc (RareTold s1 x1 x2 x3) (fun p => p.1 = 0)) ∨ ∃ j2, j2 < 2 ∧ rowO s 2 x3 = some (22 + 2 * (1 * 2 + j2)) ∧ pc (RareTold s1 x1 x2 x3) (fun p => p.1 = 1 ∧ ∃ n V n1 m1 g, YJ s (6 + 8 * j) (610 + 118 * j) n V g (nI (846 + 41 * j1)) 0 (nI (928 + 201 * j2)) (opeS s (6 + 8 * j)) p.2 ∧ OQ s (22 + 2 * (0 * 2 + j1)) p.2 (846 + 41 * j1) n1 ∧ DQW s (22 + 2 * (1 * 2 + j2)) p.2 (928 + 201 * j2) m1))) := by
  obtain ⟨n0, en, hn2⟩ := rr.1.1 0 (by omega)
  obtain ⟨n3, en3, hn3⟩ := rr.1.1 2 (by omega)
  have re : repO s1 x1 = repO s x1 := repO_g lo
  unfold RareTold
  rcases rep_sel (x := x1) hn en hn2 with ⟨z, e⟩ | ⟨j, hj, hjn, ex, z, e⟩
  · refine Or.inl ⟨by rw [← re]; exact e, ?_⟩
    rw [isRep_n z, Option.bind_some, if_pos rfl]; exact pc_s rfl
  · obtain ⟨u, eu, u1, bg⟩ := isRep_w ex hj z
    have g0 := rep_q hn hj en hn2 hjn
    have u65 : u.2 65 = s1 65 := (bg.1 65 (by decide) (by decide) (by decide)).trans (up_n (by decide))
    refine Or.inr ⟨j, hj, by rw [← re]; exact e, ?_⟩
    rw [eu, Option.bind_some, if_neg (show ¬ u.1 = 0 by rw [u1]; decide)]
    rcases ord_v (x1 := x2) hn rr with ⟨e2, z2⟩ | ⟨j1, hj1, ex2, z2, e2, w1⟩
    · refine Or.inl ⟨by rw [← rowO_g lo]; exact e2, ?_⟩
      rw [areO_n (s := u.2) (x1 := x2) (by unfold iofN; rw [u65]; exact z2), Option.bind_some, if_pos rfl]; exact pc_s rfl
    · refine Or.inr ⟨j1, hj1, by rw [← rowO_g lo]; exact e2, ?_⟩
      rw [areO_y (s := u.2) (x1 := x2) (by unfold iofN; rw [u65]; exact z2) ex2, Option.bind_some, if_neg (show ¬ (1 : Int32) = 0 by decide), q_isOf (x := 2) (a := 2) rfl (by decide), Option.bind_some]
      have io : iofN (up u.2 64 17 (nI (846 + 41 * j1))) 2 x3 = iofN s1 2 x3 := by
        unfold iofN
        rw [up_n (by decide), u65]
      rw [io]
      rcases row_sel (k := 1) (x := x3) hn (by omega) en3 hn3 with ⟨z3, e3⟩ | ⟨j2, hj2, hjn2, ex3, z3, e3⟩
      · refine Or.inl ⟨by rw [← rowO_g lo]; exact e3, ?_⟩
        rw [if_pos z3]; exact pc_s rfl
      · refine Or.inr ⟨j2, hj2, by rw [← rowO_g lo]; exact e3, ?_⟩
        rw [if_neg z3, ex3, place2]
        obtain ⟨n, V, rq⟩ := RQ_of (v := up s1 64 11 (nI (610 + 118 * j))) (o := 610 + 118 * j) (s := s1) (r := 6 + 8 * j) (by rw [up_n (by decide)]; exact g0) up_a (by omega)
        have rb : RB (up s1 64 11 (nI (610 + 118 * j))) (610 + 118 * j) := RB_v (RB_of g0) (up_n (by decide))
        have rq' : RQ s (6 + 8 * j) (up s1 64 11 (nI (610 + 118 * j))) (610 + 118 * j) n V := RQ_s rq (fun i hi => (lo _ (by omega)).symm)
        have yj := yj_17 (x := nI (846 + 41 * j1)) (y := nI (928 + 201 * j2)) (yj_0 (s := s) (w := s) (by omega) (fun _ _ => rfl) rq' rb bg rfl rfl)
        have f65 : up (up u.2 64 17 (nI (846 + 41 * j1))) 64 29 (nI (928 + 201 * j2)) 65 = s1 65 := by rw [up_n (by decide), up_n (by decide), u65]
        obtain ⟨n1, oq⟩ := OQ_of (v := up (up u.2 64 17 (nI (846 + 41 * j1))) 64 29 (nI (928 + 201 * j2))) w1 hj1 (by rw [up_bn (by decide), up_a]) f65
        obtain ⟨m1, dq⟩ := DQ_of (v := up (up u.2 64 17 (nI (846 + 41 * j1))) 64 29 (nI (928 + 201 * j2))) (yea_w hn hj2 en3 hn3 hjn2) rr hj2 up_a f65
        exact pc_s ⟨rfl, n, V, n1, m1, _, yj, OQ_s oq (lo _ (by omega)).symm (lo _ (by omega)).symm, DQ_s dq (lo _ (by omega)).symm (lo _ (by omega)).symm⟩
theorem dq_rz (h : DQW s t v o2 m1) : rz s t = m1 := by
  have hm := h.2.1
  unfold rz
  rw [h.2.2.1, nI_clamp (by omega)]
/-- the reference's stop on s1 -/
theorem ST_fin {p : Int32 × SG} (hn : SIMn s1) (rr : RI s1) (lo : ∀ c, c < 42 → s1 c = s c) (e2 : Rstop s1 x1 x2 x3 = some p) : (repO s x1 = none → p.1 = -1) ∧ ∀ r, repO s x1 = some r → (rowO s 1 x2 = none → p.1 = -1) ∧ ∀ q, rowO s 1 x2 = some q → (rowO s 2 x3 = none → p.1 = -1) ∧ ∀ t, rowO s 2 x3 = some t → p.1 = (stoPd s r q t).1 := by
  obtain ⟨u, eu, _⟩ := areTold_ok (x := x1) (y := x2) (z := x3) rr
  unfold Rstop at e2
  rw [eu, Option.bind_some] at e2
  have no : pc (RareTold s1 x1 x2 x3) (fun p => p.1 = 0) → p.1 = -1 := by
    intro h
    rw [if_pos (h u eu)] at e2
    cases e2; rfl
  rcases told_v (x1 := x1) (x2 := x2) (x3 := x3) hn rr lo with ⟨e, h⟩ | ⟨j, hj, e, ⟨f, h⟩ | ⟨j1, hj1, f, ⟨k, h⟩ | ⟨j2, hj2, k, h⟩⟩⟩
  · exact ⟨fun _ => no h, fun r er => by (rw [e] at er; cases er)⟩
  · exact ⟨fun z => by (rw [e] at z; cases z), fun r _ => ⟨fun _ => no h, fun q eq => by (rw [f] at eq; cases eq)⟩⟩
  · exact ⟨fun z => by (rw [e] at z; cases z), fun r _ => ⟨fun z => by (rw [f] at z; cases z), fun q _ => ⟨fun _ => no h, fun t et => by (rw [k] at et; cases et)⟩⟩⟩
  · refine ⟨fun z => by (rw [e] at z; cases z), fun r er => ⟨fun z => by (rw [f] at z; cases z), fun q eq => ⟨fun z => by (rw [k] at z; cases z), fun t et => ?_⟩⟩⟩
    rw [e] at er; rw [f] at eq; rw [k] at et
    obtain rfl : 6 + 8 * j = r := Option.some.inj er
    obtain rfl : 22 + 2 * (0 * 2 + j1) = q := Option.some.inj eq
    obtain rfl : 22 + 2 * (1 * 2 + j2) = t := Option.some.inj et
    obtain ⟨u1, n, V, n1, m1, g, yj, oq, dq⟩ := h u eu
    have hm := dq.2.1
    rw [if_neg (show ¬ u.1 = 0 by rw [u1]; decide)] at e2
    have run := yr_run (N := m1) (Y := 40) (g := u.2 65) (a17 := u.2 64 17) (a29 := u.2 64 29) (w := s) (r := 6 + 8 * j) (o := 610 + 118 * j) (n := n) (V := V) (by omega) (by omega) oq dq rfl rfl rfl (Nat.le_refl m1) hm (by decide) (Or.inr rfl) m1 0 xF (opeS s (6 + 8 * j)) u.2 (by rw [yj.1.2.1, yj.1.2.2.1, yj.1.2.2.2.2]; exact yj) (by omega)
    have fin : pc ((Rruns u.2 40).bind fun s2 => some (s2 64 26, s2)) (fun p => p.1 = (stoPd s (6 + 8 * j) (22 + 2 * (0 * 2 + j1)) (22 + 2 * (1 * 2 + j2))).1) := by
      refine pc_b run (fun u2 hu => pc_s ?_)
      obtain ⟨⟨i, _, h1, h2⟩, _⟩ := hu
      show u2 64 26 = (runP s (6 + 8 * j) (22 + 2 * (0 * 2 + j1)) (22 + 2 * (1 * 2 + j2)) (rz s (22 + 2 * (1 * 2 + j2)))).1
      unfold runP
      rw [dq_rz dq, h1, h2]
    exact fin p e2
theorem ten_12 {x : Int32} (h : ¬ inI x 10 12 = 0) : ∃ a, a < 3 ∧ x = nI (10 + a) := by
  obtain ⟨a, ea, ha⟩ := inI_lo (a := 10) (b := 12) (by decide) (by decide) h
  exact ⟨a, by omega, ea⟩
/-- what a year has come to, told on both sides -/
theorem sta_v {P : Int32 → Prop} (h : YJ w r o n V g a17 a26 a29 s v) (hP : P (staI s r x5)) : pc ((RisMinister v (x5 - 20)).bind fun q3 => if q3 = 0 then (if (inI x5 (10) (12)) = 0 then Rstate_84 v x1 x2 x3 x4 x5 x5 else (rdI v 68 3 (x5 - 10)).bind fun g4 => some (g4, v)) else (rdI v 69 6 (x5 - 20)).bind fun g5 => some (g5, v)) (fun p => P p.1) := by
  have rq := yj_rq h
  have hn := rq.2.1.1
  obtain ⟨mn1, mn2⟩ := rq_mn (x := x5 - 20) rq
  obtain ⟨⟨h1, h2, h3, h4, h5⟩, ⟨h6, h7, h8⟩, ⟨h9, h9b⟩, ⟨T, hT, hT2, hT3⟩, h11, ⟨C, G, c1, c2, c3, c4, c5⟩, h13, ⟨h14, h14b, h14c⟩, h15, h16⟩ := h
  rw [mn1, Option.bind_some]
  by_cases z : inI (x5 - 20) 0 (nI n - 1) = 0
  · rw [if_pos z]
    by_cases z2 : inI x5 10 12 = 0
    · rw [if_pos z2]
      have n10 : ¬ x5 = 10 := fun e => absurd z2 (by rw [e]; decide)
      have n11 : ¬ x5 = 11 := fun e => absurd z2 (by rw [e]; decide)
      have n12 : ¬ x5 = 12 := fun e => absurd z2 (by rw [e]; decide)
      have f9 : s r 9 = ofN v 1 := by rw [rq_of rq]; exact rq.2.2.2.1 0 (by omega)
      revert hP
      unfold staI staIW Rstate_84
      rw [if_neg n10, if_neg n11, if_neg n12, if_pos (mn2.2 z), h14, h9, h11, c1, c3, h13, h14b, h14c, ← c2, ← c4, hT2, ← hT3, f9, rq_vot rq, q_votesOf (rq_RH rq) (rq_MZ rq), q_of (x := 1) (a := 1) (rq_RH rq) rfl (by decide)]
      simp only [Option.bind_some]
      intro hP
      by_cases k0 : x5 = 0
      · rw [if_pos k0] at hP ⊢; exact pc_s hP
      rw [if_neg k0] at hP ⊢
      by_cases k1 : x5 = 1
      · rw [if_pos k1] at hP ⊢; exact pc_s hP
      rw [if_neg k1] at hP ⊢
      by_cases k2 : x5 = 2
      · rw [if_pos k2] at hP ⊢; exact pc_s hP
      rw [if_neg k2] at hP ⊢
      by_cases k3 : x5 = 3
      · rw [if_pos k3] at hP ⊢; exact pc_s hP
      rw [if_neg k3] at hP ⊢
      by_cases k4 : x5 = 4
      · rw [if_pos k4] at hP ⊢; exact pc_s hP
      rw [if_neg k4] at hP ⊢
      by_cases k5 : x5 = 5
      · rw [if_pos k5] at hP ⊢; exact pc_s hP
      rw [if_neg k5] at hP ⊢
      by_cases k6 : x5 = 6
      · rw [if_pos k6] at hP ⊢; exact pc_s hP
      rw [if_neg k6] at hP ⊢
      by_cases k7 : x5 = 7
      · rw [if_pos k7] at hP ⊢; exact pc_s hP
      rw [if_neg k7] at hP ⊢
      by_cases k8 : x5 = 8
      · rw [if_pos k8] at hP ⊢
        by_cases k : ofN v 1 ≤ vomT v (v 64 18)
        · rw [if_pos k] at hP ⊢; exact pc_s hP
        · rw [if_neg k] at hP ⊢; exact pc_s hP
      rw [if_neg k8] at hP ⊢
      by_cases k9 : x5 = 9
      · rw [if_pos k9] at hP ⊢; exact pc_s hP
      rw [if_neg k9] at hP ⊢
      have e2 : (if x5 < 20 then (-2 : Int32) else -2) = -2 := by split <;> rfl
      rw [e2] at hP
      exact pc_s hP
    · rw [if_neg z2]
      obtain ⟨a, ha, ea⟩ := ten_12 z2
      have es : x5 - 10 = nI a := by
        rw [ea]; exact nI_subl (a := 10) (c := a)
      refine pc_rdv (e := a) es (by omega) (by decide) (pc_s ?_)
      rw [← h16 a ha]
      have e : staI s r x5 = s 59 a := by
        unfold staI staIW
        rw [es, cl_nI (by omega) (by decide), ea]
        rcases (by omega : a = 0 ∨ a = 1 ∨ a = 2) with rfl | rfl | rfl <;> simp (decide := true) only [if_true, if_false]
      rw [← e]; exact hP
  · rw [if_neg z]
    obtain ⟨b, eb, hb⟩ := inI_sub (by omega) z
    have ex : x5 = nI (20 + b) := by
      have : x5 - 20 + 20 = x5 := Int32.sub_add_cancel x5 20
      rw [← this, eb]
      show nI b + nI 20 = _
      rw [nI_add, Nat.add_comm]
    refine pc_rdv (e := b) eb (by omega) (by decide) (pc_s ?_)
    rw [← h15 b (by omega)]
    have nk : ∀ k, k < 20 → ¬ nI (20 + b) = nI k := fun k hk q => by
      have := nI_inj (a := 20 + b) (b := k) (by omega) (by omega) q
      omega
    have e : staI s r x5 = s 58 b := by
      unfold staI staIW
      rw [if_neg (fun q => z (mn2.1 q)), eb, cl_nI (by omega) (by decide), ex, if_neg (show ¬ nI (20 + b) = (0 : Int32) from nk 0 (by omega)), if_neg (show ¬ nI (20 + b) = (1 : Int32) from nk 1 (by omega)), if_neg (show ¬ nI (20 + b) = (2 : Int32) from nk 2 (by omega)), if_neg (show ¬ nI (20 + b) = (3 : Int32) from nk 3 (by omega)), if_neg (show ¬ nI (20 + b) = (4 : Int32) from nk 4 (by omega)), if_neg (show ¬ nI (20 + b) = (5 : Int32) from nk 5 (by omega)), if_neg (show ¬ nI (20 + b) = (6 : Int32) from nk 6 (by omega)), if_neg (show ¬ nI (20 + b) = (7 : Int32) from nk 7 (by omega)), if_neg (show ¬ nI (20 + b) = (8 : Int32) from nk 8 (by omega)), if_neg (show ¬ nI (20 + b) = (9 : Int32) from nk 9 (by omega)), if_neg (show ¬ nI (20 + b) = (10 : Int32) from nk 10 (by omega)), if_neg (show ¬ nI (20 + b) = (11 : Int32) from nk 11 (by omega)), if_neg (show ¬ nI (20 + b) = (12 : Int32) from nk 12 (by omega)), if_neg (show ¬ nI (20 + b) < (20 : Int32) from Int32.not_lt.mpr (nI_le2 (a := 20) (by omega) (by omega)))]
    rw [← e]; exact hP
theorem SA_fin {p : Int32 × SG} (hn : SIMn s1) (rr : RI s1) (lo : ∀ c, c < 42 → s1 c = s c) (e2 : Rstate s1 x1 x2 x3 x4 x5 = some p) : (repO s x1 = none → p.1 = -2) ∧ ∀ r, repO s x1 = some r → (rowO s 1 x2 = none → p.1 = -2) ∧ ∀ q, rowO s 1 x2 = some q → (rowO s 2 x3 = none → p.1 = -2) ∧ ∀ t, rowO s 2 x3 = some t → (x4 < 0 → p.1 = -2) ∧ (¬ x4 < 0 → ¬ x4 ≤ s t 0 → p.1 = -2) ∧ ∀ m, x4 = nI m → x4 ≤ s t 0 → m ≤ 1000 → p.1 = (staP s r q t m x5).1 := by
  obtain ⟨u, eu, _⟩ := areTold_ok (x := x1) (y := x2) (z := x3) rr
  unfold Rstate at e2
  rw [eu, Option.bind_some] at e2
  have no : pc (RareTold s1 x1 x2 x3) (fun p => p.1 = 0) → p.1 = -2 := by
    intro h
    rw [if_pos (h u eu)] at e2
    cases e2; rfl
  rcases told_v (x1 := x1) (x2 := x2) (x3 := x3) hn rr lo with ⟨e, h⟩ | ⟨j, hj, e, ⟨f, h⟩ | ⟨j1, hj1, f, ⟨k, h⟩ | ⟨j2, hj2, k, h⟩⟩⟩
  · exact ⟨fun _ => no h, fun r er => by (rw [e] at er; cases er)⟩
  · exact ⟨fun z => by (rw [e] at z; cases z), fun r _ => ⟨fun _ => no h, fun q eq => by (rw [f] at eq; cases eq)⟩⟩
  · exact ⟨fun z => by (rw [e] at z; cases z), fun r _ => ⟨fun z => by (rw [f] at z; cases z), fun q _ => ⟨fun _ => no h, fun t et => by (rw [k] at et; cases et)⟩⟩⟩
  · refine ⟨fun z => by (rw [e] at z; cases z), fun r er => ⟨fun z => by (rw [f] at z; cases z), fun q eq => ⟨fun z => by (rw [k] at z; cases z), fun t et => ?_⟩⟩⟩
    rw [e] at er; rw [f] at eq; rw [k] at et
    obtain rfl : 6 + 8 * j = r := Option.some.inj er
    obtain rfl : 22 + 2 * (0 * 2 + j1) = q := Option.some.inj eq
    obtain rfl : 22 + 2 * (1 * 2 + j2) = t := Option.some.inj et
    obtain ⟨u1, n, V, n1, m1, g, yj, oq, dq⟩ := h u eu
    have hm := dq.2.1
    have et0 : s (22 + 2 * (1 * 2 + j2)) 0 = nI m1 := dq.2.2.1
    rw [if_neg (show ¬ u.1 = 0 by rw [u1]; decide)] at e2
    have run := fun (N Y : Nat) (hN : N ≤ m1) (hY : N ≤ Y) (hY2 : Y < 2 ^ 31) (hE : Y = N ∨ m1 = N) => yr_run (N := N) (Y := Y) (g := u.2 65) (a17 := u.2 64 17) (a29 := u.2 64 29) (w := s) (r := 6 + 8 * j) (o := 610 + 118 * j) (n := n) (V := V) (by omega) (by omega) oq dq rfl rfl rfl hN hY hY2 hE N 0 xF (opeS s (6 + 8 * j)) u.2 (by rw [yj.1.2.1, yj.1.2.2.1, yj.1.2.2.2.2]; exact yj) (by omega)
    refine ⟨fun c => ?_, fun c c2 => ?_, fun m em c2 hm2 => ?_⟩
    · rw [if_neg (Int32.not_le.mpr c)] at e2
      cases e2; rfl
    · rw [if_pos (Int32.not_lt.mp c)] at e2
      obtain ⟨Y, eY⟩ : ∃ Y, x4 = nI Y ∧ Y < 2 ^ 31 := by
        have e := Int32.ofNat_toNatClampNeg x4 (Int32.not_lt.mp c)
        refine ⟨x4.toNatClampNeg, e.symm, ?_⟩
        have b := Int32.cast_toNatClampNeg x4 (Int32.not_lt.mp c)
        have l := Int32.toInt_lt x4
        omega
      obtain ⟨eY, hY⟩ := eY
      rw [eY, et0] at c2
      have lt : m1 < Y := by
        refine Decidable.byContradiction (fun g => c2 (nI_le2 (by omega) (by omega)))
      have fin : pc ((Rruns u.2 x4).bind fun s2 => if (s2 64 26) = x4 then ((RisMinister s2 (x5 - 20)).bind fun q3 => if q3 = 0 then (if (inI x5 (10) (12)) = 0 then Rstate_84 s2 x1 x2 x3 x4 x5 x5 else (rdI s2 68 3 (x5 - 10)).bind fun g4 => some (g4, s2)) else (rdI s2 69 6 (x5 - 20)).bind fun g5 => some (g5, s2)) else some (-2, s2)) (fun p => p.1 = -2) := by
        rw [eY]
        refine pc_b (run m1 Y (Nat.le_refl m1) (by omega) hY (Or.inr rfl)) (fun u2 hu => ?_)
        obtain ⟨⟨i, hi, h1, _⟩, _⟩ := hu
        rw [if_neg (fun q => absurd (nI_inj (by omega) (by omega) (h1.symm.trans q)) (by omega))]
        exact pc_s rfl
      exact fin p e2
    · rw [em] at e2 c2
      rw [et0] at c2
      have hm1 : m ≤ m1 := by
        refine Decidable.byContradiction (fun g => absurd c2 (nI_ge (by omega) (by omega)))
      rw [if_pos (show (0 : Int32) ≤ nI m from nI_le2 (a := 0) (by omega) (by omega))] at e2
      have fin : pc ((Rruns u.2 (nI m)).bind fun s2 => if (s2 64 26) = nI m then ((RisMinister s2 (x5 - 20)).bind fun q3 => if q3 = 0 then (if (inI x5 (10) (12)) = 0 then Rstate_84 s2 x1 x2 x3 (nI m) x5 x5 else (rdI s2 68 3 (x5 - 10)).bind fun g4 => some (g4, s2)) else (rdI s2 69 6 (x5 - 20)).bind fun g5 => some (g5, s2)) else some (-2, s2)) (fun p => p.1 = (staP s (6 + 8 * j) (22 + 2 * (0 * 2 + j1)) (22 + 2 * (1 * 2 + j2)) m x5).1) := by
        refine pc_b (run m m hm1 (Nat.le_refl m) (by omega) (Or.inl rfl)) (fun u2 hu => ?_)
        obtain ⟨⟨i, hi, h1, h2⟩, h3⟩ := hu
        have eP : staP s (6 + 8 * j) (22 + 2 * (0 * 2 + j1)) (22 + 2 * (1 * 2 + j2)) m x5 = if (runPL (6 + 8 * j) (22 + 2 * (0 * 2 + j1)) (22 + 2 * (1 * 2 + j2)) m m 0 (opeS s (6 + 8 * j))).1 = nI m then (staI (runPL (6 + 8 * j) (22 + 2 * (0 * 2 + j1)) (22 + 2 * (1 * 2 + j2)) m m 0 (opeS s (6 + 8 * j))).2 (6 + 8 * j) x5, (runPL (6 + 8 * j) (22 + 2 * (0 * 2 + j1)) (22 + 2 * (1 * 2 + j2)) m m 0 (opeS s (6 + 8 * j))).2) else (-2, (runPL (6 + 8 * j) (22 + 2 * (0 * 2 + j1)) (22 + 2 * (1 * 2 + j2)) m m 0 (opeS s (6 + 8 * j))).2) := rfl
        rw [eP]
        by_cases c : nI i = nI m
        · rw [if_pos (h1.trans c), if_pos (h2.trans c)]
          exact sta_v (P := fun x => x = staI (runPL (6 + 8 * j) (22 + 2 * (0 * 2 + j1)) (22 + 2 * (1 * 2 + j2)) m m 0 (opeS s (6 + 8 * j))).2 (6 + 8 * j) x5) (h3 (h2.trans c)) rfl
        · rw [if_neg (fun q => c (h1.symm.trans q)), if_neg (fun q => c (h2.symm.trans q))]
          exact pc_s rfl
      exact fin p e2
end RUN
theorem CE_stop {s : SG} {x1 x2 x3 : Int32} (hP : wLoc SIM1) (h : INVP SIM1 K s) : ∃ v s1 s2, xN sc (d + 11) 97 [.inr (.inr (.inl (some 0))), .inl x1, .inl x2, .inl x3] (wl K s) = some (some (.inl v), wl K s1) ∧ xN sc (d + 11) 230 [.inr (.inr (.inl (some 64))), .inl x1, .inl x2, .inl x3] (wl K s1) = some (some (.inl v), wl K s2) ∧ INVP SIM1 K s2 := by
  have hK := INVP_SH h
  have hn := SIM_n.1 (INVP_P h)
  have rr := INVP_RI h
  have tv := TB_TV (INVP_TB h)
  have fin : ∀ (s1 : SG) (v : Int32), xN sc (d + 11) 97 [.inr (.inr (.inl (some 0))), .inl x1, .inl x2, .inl x3] (wl K s) = some (some (.inl v), wl K s1) → (∀ c, (c < 42 ∨ 64 ≤ c) → s1 c = s c) → (∀ p, Rstop s1 x1 x2 x3 = some p → p.1 = v) → ∃ v s1 s2, xN sc (d + 11) 97 [.inr (.inr (.inl (some 0))), .inl x1, .inl x2, .inl x3] (wl K s) = some (some (.inl v), wl K s1) ∧ xN sc (d + 11) 230 [.inr (.inr (.inl (some 64))), .inl x1, .inl x2, .inl x3] (wl K s1) = some (some (.inl v), wl K s2) ∧ INVP SIM1 K s2 := by
    intro s1 v e1 fr hv
    have r1 : RI s1 := RI_65 (fr 65 (by omega)) rr
    have q2 := r_stop (sc := sc) (d := d + 1) (s := s1) (x1 := x1) (x2 := x2) (x3 := x3) hK
    obtain ⟨p, e2, q⟩ : ok (Rstop s1 x1 x2 x3) (fun p => QI s1 p.2) := stop_ok r1
    have e3 := hv p e2
    rw [e2] at q2
    exact ⟨v, s1, p.2, e1, by rw [← e3]; exact q2, INVP_q hP h fr q⟩
  have AF := fun (s1 : SG) (fr : ∀ c, (c < 42 ∨ 64 ≤ c) → s1 c = s c) (p : Int32 × SG) (e : Rstop s1 x1 x2 x3 = some p) => ST_fin (SIMn_g hn (fun c hc => fr c (Or.inl hc)) (fr 65 (by omega))) (RI_65 (fr 65 (by omega)) rr) (fun c hc => fr c (Or.inl hc)) e
  rcases repO_c (x := x1) hK tv with e1 | ⟨r, e1, hr, br, zr⟩
  · exact fin s (-1) (c_stoP_a (d := d + 8) (h := hK) (e1 := e1)) (fun _ _ => rfl) (fun p e => (AF s (fun _ _ => rfl) p e).1 e1)
  rcases rowO_c (so := 1) (x := x2) hK tv with e2 | ⟨q, e2, hq, bq, zq⟩
  · exact fin s (-1) (c_stoP_b (d := d + 8) (hr := hr) (h := hK) (e1 := e1) (e2 := e2)) (fun _ _ => rfl) (fun p e => ((AF s (fun _ _ => rfl) p e).2 r e1).1 e2)
  rcases rowO_c (so := 2) (x := x3) hK tv with e3 | ⟨t, e3, ht, bt, zt⟩
  · exact fin s (-1) (c_stoP_c (d := d + 8) (hr := hr) (hq := hq) (h := hK) (e1 := e1) (e2 := e2) (e3 := e3)) (fun _ _ => rfl) (fun p e => (((AF s (fun _ _ => rfl) p e).2 r e1).2 q e2).1 e3)
  · exact fin _ _ (c_stoP_d (d := d + 3) (hr := hr) (hq := hq) (ht := ht) (h := hK) (br := br) (bq := bq) (bt := bt) (e1 := e1) (e2 := e2) (e3 := e3) (zr := zr) (zq := zq) (zt := zt)) (fun c hc => stoPd_lo hc) (fun p e => (((AF _ (fun c hc => stoPd_lo hc) p e).2 r e1).2 q e2).2 t e3)
theorem CE_state {s : SG} {x1 x2 x3 x4 x5 : Int32} (hP : wLoc SIM1) (h : INVP SIM1 K s) : ∃ v s1 s2, xN sc (d + 11) 98 [.inr (.inr (.inl (some 0))), .inl x1, .inl x2, .inl x3, .inl x4, .inl x5] (wl K s) = some (some (.inl v), wl K s1) ∧ xN sc (d + 11) 231 [.inr (.inr (.inl (some 64))), .inl x1, .inl x2, .inl x3, .inl x4, .inl x5] (wl K s1) = some (some (.inl v), wl K s2) ∧ INVP SIM1 K s2 := by
  have hK := INVP_SH h
  have hn := SIM_n.1 (INVP_P h)
  have rr := INVP_RI h
  have tv := TB_TV (INVP_TB h)
  have fin : ∀ (s1 : SG) (v : Int32), xN sc (d + 11) 98 [.inr (.inr (.inl (some 0))), .inl x1, .inl x2, .inl x3, .inl x4, .inl x5] (wl K s) = some (some (.inl v), wl K s1) → (∀ c, (c < 42 ∨ 64 ≤ c) → s1 c = s c) → (∀ p, Rstate s1 x1 x2 x3 x4 x5 = some p → p.1 = v) → ∃ v s1 s2, xN sc (d + 11) 98 [.inr (.inr (.inl (some 0))), .inl x1, .inl x2, .inl x3, .inl x4, .inl x5] (wl K s) = some (some (.inl v), wl K s1) ∧ xN sc (d + 11) 231 [.inr (.inr (.inl (some 64))), .inl x1, .inl x2, .inl x3, .inl x4, .inl x5] (wl K s1) = some (some (.inl v), wl K s2) ∧ INVP SIM1 K s2 := by
    intro s1 v e1 fr hv
    have r1 : RI s1 := RI_65 (fr 65 (by omega)) rr
    have q2 := r_state (sc := sc) (d := d + 1) (s := s1) (x1 := x1) (x2 := x2) (x3 := x3) (x4 := x4) (x5 := x5) hK
    obtain ⟨p, e2, q⟩ : ok (Rstate s1 x1 x2 x3 x4 x5) (fun p => QI s1 p.2) := state_ok r1
    have e3 := hv p e2
    rw [e2] at q2
    exact ⟨v, s1, p.2, e1, by rw [← e3]; exact q2, INVP_q hP h fr q⟩
  have AF := fun (s1 : SG) (fr : ∀ c, (c < 42 ∨ 64 ≤ c) → s1 c = s c) (p : Int32 × SG) (e : Rstate s1 x1 x2 x3 x4 x5 = some p) => SA_fin (SIMn_g hn (fun c hc => fr c (Or.inl hc)) (fr 65 (by omega))) (RI_65 (fr 65 (by omega)) rr) (fun c hc => fr c (Or.inl hc)) e
  rcases repO_c (x := x1) hK tv with e1 | ⟨r, e1, hr, br, zr⟩
  · exact fin s (-2) (c_state_a (d := d + 8) (h := hK) (e1 := e1)) (fun _ _ => rfl) (fun p e => (AF s (fun _ _ => rfl) p e).1 e1)
  rcases rowO_c (so := 1) (x := x2) hK tv with e2 | ⟨q, e2, hq, bq, zq⟩
  · exact fin s (-2) (c_state_b (d := d + 8) (hr := hr) (h := hK) (e1 := e1) (e2 := e2)) (fun _ _ => rfl) (fun p e => ((AF s (fun _ _ => rfl) p e).2 r e1).1 e2)
  rcases rowO_c (so := 2) (x := x3) hK tv with e3 | ⟨t, e3, ht, bt, zt⟩
  · exact fin s (-2) (c_state_c (d := d + 8) (hr := hr) (hq := hq) (h := hK) (e1 := e1) (e2 := e2) (e3 := e3)) (fun _ _ => rfl) (fun p e => (((AF s (fun _ _ => rfl) p e).2 r e1).2 q e2).1 e3)
  by_cases p1 : x4 < 0
  · exact fin s (-2) (c_state_d (d := d + 8) (hr := hr) (hq := hq) (ht := ht) (h := hK) (e1 := e1) (e2 := e2) (e3 := e3) (p1 := p1)) (fun _ _ => rfl) (fun p e => ((((AF s (fun _ _ => rfl) p e).2 r e1).2 q e2).2 t e3).1 p1)
  by_cases p2 : x4 ≤ s t 0
  · obtain ⟨m, hm0, em⟩ := nat_of (n := 41) p1 (Int32.lt_of_le_of_lt p2 (by rw [zt.1]; exact nI_lt2 (by have := zt.2; omega) (by decide))) (by decide)
    have hm : m ≤ 1000 := by omega
    have cc := c_state_f (sc := sc) (d := d + 3) (x := x1) (y := x2) (z := x3) (m := m) (v := x5) (hr := hr) (hq := hq) (ht := ht) (h := hK) (br := br) (bq := bq) (bt := bt) (e1 := e1) (e2 := e2) (e3 := e3) (zr := zr) (zq := zq) (hm := hm) (p1 := by rw [← em]; exact p1) (p2 := by rw [← em]; exact p2)
    rw [← em] at cc
    exact fin _ _ cc (fun c hc => staP_lo hc) (fun p e => ((((AF _ (fun c hc => staP_lo hc) p e).2 r e1).2 q e2).2 t e3).2.2 m em p2 hm)
  · exact fin s (-2) (c_state_e (d := d + 8) (hr := hr) (hq := hq) (ht := ht) (h := hK) (e1 := e1) (e2 := e2) (e3 := e3) (p1 := p1) (p2 := p2)) (fun _ _ => rfl) (fun p e => ((((AF s (fun _ _ => rfl) p e).2 r e1).2 q e2).2 t e3).2.1 p1 p2)
end XVE
end
