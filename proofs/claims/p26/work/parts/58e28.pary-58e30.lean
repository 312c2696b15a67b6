section
section XVC
variable {sc : Nat × (Nat → Int32)} {d : Nat} {K : List KD} {r q t a B m : Nat}
/-! years on both sides: how they begin, a day, a committee, who gets angry -/
theorem ofN_e {u s : SG} {a : Nat} (h1 : u 64 11 = s 64 11) (h2 : u 65 = s 65) : ofN u a = ofN s a := by
  unfold ofN rh
  rw [h1, h2]
theorem begins98w : ∀ (n j k : Nat) (t : SG), j + n = 6 → n ≤ k → (∀ m, m < j → t 69 m = 0) → ok (Rbegins_98 (Rbegins_R k).1 (Rbegins_R k).2 t (nI j)) (fun u => (∀ c, c ≠ 69 → u c = t c) ∧ ∀ m, m < 6 → u 69 m = 0) := by
  intro n
  induction n with
  | zero =>
    intro j k t hj hk h0
    unfold Rbegins_98
    rw [if_pos (show (6 : Int32) ≤ nI j from k_ge (m := 6) hj)]
    exact ok_s ⟨fun _ _ => rfl, fun m hm => h0 m (by omega)⟩
  | succ n ih =>
    intro j k t hj hk h0
    obtain ⟨k, rfl⟩ : ∃ k', k = k' + 1 := ⟨k - 1, by omega⟩
    unfold Rbegins_98
    rw [if_neg (show ¬ (6 : Int32) ≤ nI j from k_lt (m := 6) hj (by decide))]
    refine ok_be (wr_nI (e := j) rfl (by omega) (by decide)) ?_
    show ok (Rbegins_98 (Rbegins_R k).1 (Rbegins_R k).2 (up t 69 j 0) (nI j + 1)) _
    rw [← nI_succ]
    refine ok_w (ih (j + 1) k _ (by omega) (by omega) (fun m hm => ?_)) (fun u hu => ⟨fun c hc => (hu.1 c hc).trans (up_n hc), hu.2⟩)
    by_cases e : m = j
    · subst e; exact up_a
    · rw [up_bn e]; exact h0 m (by omega)
theorem begins71w : ∀ (n j k : Nat) (t : SG), RH t → j + n = 3 → n + 6 ≤ k → (∀ i, i < j → t 68 i = ofN t (6 + i)) → ok (Rbegins_71 (Rbegins_R k).1 (Rbegins_R k).2 t (nI j)) (fun u => (∀ c, c ≠ 68 → c ≠ 69 → u c = t c) ∧ (∀ i, i < 3 → u 68 i = ofN t (6 + i)) ∧ ∀ m, m < 6 → u 69 m = 0) := by
  intro n
  induction n with
  | zero =>
    intro j k t hr hj hk h0
    unfold Rbegins_71
    rw [if_pos (show (3 : Int32) ≤ nI j from k_ge (m := 3) hj)]
    exact ok_w (begins98w 6 0 k t rfl (by omega) (fun m hm => absurd hm (by omega))) (fun u hu => ⟨fun c _ h9 => hu.1 c h9, fun i hi => by rw [hu.1 68 (by decide)]; exact h0 i (by omega), hu.2⟩)
  | succ n ih =>
    intro j k t hr hj hk h0
    obtain ⟨k, rfl⟩ : ∃ k', k = k' + 1 := ⟨k - 1, by omega⟩
    unfold Rbegins_71
    rw [if_neg (show ¬ (3 : Int32) ≤ nI j from k_lt (m := 3) hj (by decide))]
    refine ok_be (q_of (a := 6 + j) hr (by show nI 6 + nI j = _; rw [nI_add]) (by omega)) ?_
    refine ok_be (wr_nI (e := j) rfl (by omega) (by decide)) ?_
    show ok (Rbegins_71 (Rbegins_R k).1 (Rbegins_R k).2 (up t 68 j (ofN t (6 + j))) (nI j + 1)) _
    rw [← nI_succ]
    have e : ∀ a, ofN (up t 68 j (ofN t (6 + j))) a = ofN t a := fun a => ofN_e (by rw [up_n (by decide)]) (up_n (by decide))
    refine ok_w (ih (j + 1) k _ (RH_of (by rw [up_n (by decide)]) hr) (by omega) (by omega) (fun i hi => ?_)) (fun u hu => ⟨fun c h8 h9 => (hu.1 c h8 h9).trans (up_n h8), fun i hi => by rw [hu.2.1 i hi, e], hu.2.2⟩)
    rw [e]
    by_cases g : i = j
    · subst g; exact up_a
    · rw [up_bn g]; exact h0 i (by omega)
/-- the reference where a republic has just been found -/
def BEG (s u : SG) (o : Nat) : Prop := (∀ c, c ≠ 64 → c ≠ 68 → c ≠ 69 → u c = s c) ∧ (∀ j, (j < 16 ∨ j = 17 ∨ 26 < j) → u 64 j = s 64 j) ∧ (u 64 18 = (1 <<< (s 65 (o + 0) &&& 31)) - 1 ∧ u 64 19 = 0 ∧ u 64 20 = s 65 (o + 3) ∧ u 64 21 = s 65 (o + 4) ∧ u 64 22 = s 65 (o + 5)) ∧ (u 64 23 = 0 ∧ u 64 24 = 0 ∧ u 64 25 = -1 ∧ u 64 16 = 0 ∧ u 64 26 = 0) ∧ (∀ i, i < 3 → u 68 i = s 65 (o + (6 + i))) ∧ ∀ m, m < 6 → u 69 m = 0
theorem begins_w {s : SG} {o : Nat} (h11 : s 64 11 = nI o) (ho : o ≤ 728) : ok (Rbegins s) (fun u => BEG s u o) := by
  have e : rh s = o := by unfold rh; rw [h11, nI_clamp (by omega)]
  have hr : RH s := ⟨by rw [e]; exact h11, by rw [e]; exact ho⟩
  have f : ∀ (u : SG) (a : Nat), u 64 11 = s 64 11 → u 65 = s 65 → ofN u a = s 65 (o + a) := by
    intro u a h1 h2
    unfold ofN rh
    rw [h1, h2, h11, nI_clamp (by omega)]
  have hF := xF_ge
  unfold Rbegins
  refine ok_be (q_ministers hr) ?_
  refine ok_be (q_of (a := 3) (RH_of (by simp (decide := true) only [up_b]) hr) rfl (by decide)) ?_
  refine ok_be (q_of (a := 4) (RH_of (by simp (decide := true) only [up_b]) hr) rfl (by decide)) ?_
  refine ok_be (q_of (a := 5) (RH_of (by simp (decide := true) only [up_b]) hr) rfl (by decide)) ?_
  rw [f s 0 rfl rfl, f _ 3 (by simp (decide := true) only [up_b]) (by simp (decide := true) only [up_c]), f _ 4 (by simp (decide := true) only [up_b]) (by simp (decide := true) only [up_c]), f _ 5 (by simp (decide := true) only [up_b]) (by simp (decide := true) only [up_c])]
  refine ok_w (begins71w 3 0 xF _ (RH_of (by simp (decide := true) only [up_b]) hr) rfl (by omega) (fun i hi => absurd hi (by omega))) ?_
  intro u hu
  obtain ⟨h1, h2, h3⟩ := hu
  have k64 := h1 64 (by decide) (by decide)
  refine ⟨fun c hc h8 h9 => ?_, fun j hj => ?_, ⟨?_, ?_, ?_, ?_, ?_⟩, ⟨?_, ?_, ?_, ?_, ?_⟩, fun i hi => ?_, h3⟩
  · rw [h1 c h8 h9]; simp only [up_n hc]
  · rw [k64, up_bn (by omega), up_bn (by omega), up_bn (by omega), up_bn (by omega), up_bn (by omega), up_bn (by omega), up_bn (by omega), up_bn (by omega), up_bn (by omega), up_bn (by omega)]
  · rw [k64]; simp (decide := true) only [up_b, up_a]
  · rw [k64]; simp (decide := true) only [up_b, up_a]
  · rw [k64]; simp (decide := true) only [up_b, up_a]
  · rw [k64]; simp (decide := true) only [up_b, up_a]
  · rw [k64]; simp (decide := true) only [up_b, up_a]
  · rw [k64]; simp (decide := true) only [up_b, up_a]
  · rw [k64]; simp (decide := true) only [up_b, up_a]
  · rw [k64]; simp (decide := true) only [up_b, up_a]
  · rw [k64]; simp (decide := true) only [up_b, up_a]
  · rw [k64]; simp (decide := true) only [up_b, up_a]
  · rw [h2 i hi]
    exact f _ (6 + i) (by simp (decide := true) only [up_b]) (by simp (decide := true) only [up_c])
theorem isRep_w {s : SG} {x : Int32} {j : Nat} (hx : x = nI j) (hj : j < 2) (hz : ¬ iofN s 0 x = 0) : ok (RisRepublic s x) (fun p => p.1 = 1 ∧ BEG (up s 64 11 (nI (610 + 118 * j))) p.2 (610 + 118 * j)) := by
  unfold RisRepublic
  rw [q_isOf (x := 0) (a := 0) rfl (by decide)]
  show ok (if iofN s 0 x = 0 then _ else _) _
  rw [if_neg hz, hx, place0]
  exact ok_b (begins_w (s := up s 64 11 (nI (610 + 118 * j))) (o := 610 + 118 * j) up_a (by omega)) (fun u hu => ok_s ⟨rfl, hu⟩)
/-- the class where a course begins -/
theorem ope_f {s : SG} (br : r + 8 ≤ 42) : (opeS s r 56 1 = 0 ∧ opeS s r 56 2 = allI s r ∧ opeS s r 56 3 = 0) ∧ (opeS s r 56 6 = 0 ∧ opeS s r 56 7 = 0 ∧ opeS s r 56 8 = -1) ∧ (opeS s r 56 9 = 0 ∧ opeS s r 56 10 = 0 ∧ opeS s r 56 11 = 0) ∧ (opeS s r 57 0 = s r 11 ∧ opeS s r 57 1 = s r 12 ∧ opeS s r 57 2 = s r 13) ∧ (∀ m, m < 6 → opeS s r 58 m = 0) ∧ ∀ k, k < 3 → opeS s r 59 k = s (r + 7) k := by
  have e0 : up (setS7 s r) 56 1 0 r = s r := by
    unfold setS7
    rw [up_n (by omega), up_n (by omega), up_n (by omega), up_n (by omega)]
  refine ⟨⟨?_, ?_, ?_⟩, ⟨?_, ?_, ?_⟩, ⟨?_, ?_, ?_⟩, ⟨?_, ?_, ?_⟩, fun m hm => ?_, fun k hk => ?_⟩
  · unfold opeS; simp (decide := true) only [up_a, up_b, up_c, fl_c, cp_c]
  · rw [← allI_s (s := s) (s2 := up (setS7 s r) 56 1 0) e0]
    unfold opeS; simp (decide := true) only [up_a, up_b, up_c, fl_c, cp_c]
  · unfold opeS; simp (decide := true) only [up_a, up_b, up_c, fl_c, cp_c]
  · unfold opeS; simp (decide := true) only [up_a, up_b, up_c, fl_c, cp_c]
  · unfold opeS; simp (decide := true) only [up_a, up_b, up_c, fl_c, cp_c]
  · unfold opeS; simp (decide := true) only [up_a, up_b, up_c, fl_c, cp_c]
  · unfold opeS; simp (decide := true) only [up_a, up_b, up_c, fl_c, cp_c]
  · unfold opeS; simp (decide := true) only [up_a, up_b, up_c, fl_c, cp_c]
  · unfold opeS; simp (decide := true) only [up_a, up_b, up_c, fl_c, cp_c]
  · unfold opeS setS7; simp (decide := true) only [up_a, up_b, up_c, fl_c, cp_c]
  · unfold opeS setS7; simp (decide := true) only [up_a, up_b, up_c, fl_c, cp_c]
  · unfold opeS setS7; simp (decide := true) only [up_a, up_b, up_c, fl_c, cp_c]
  · unfold opeS; simp (decide := true) only [up_a, up_b, up_c, fl_c, cp_c]; exact fl_aa hm
  · unfold opeS; simp (decide := true) only [up_a, up_b, up_c, fl_c, cp_c]
    rw [cp_a hk, fl_n (by omega), up_n (by omega), up_n (by omega), up_n (by omega)]
    unfold setS7
    rw [up_n (by omega), up_n (by omega), up_n (by omega)]
theorem all_n : ∀ n, n ≤ 6 → ((1 <<< (nI n &&& 31)) - 1 : Int32) = nI (2 ^ n - 1) := by decide +kernel
/-- a year so far, the same on both sides; w the class's told cells, g the reference's, a17, a26, a29 where its orders and deeds lie and which is next -/
def YJ (w : SG) (r o n V : Nat) (g : Nat → Int32) (a17 a26 a29 : Int32) (s v : SG) : Prop :=
  ((∀ c, c < 42 → s c = w c) ∧ v 65 = g ∧ v 64 17 = a17 ∧ v 64 26 = a26 ∧ v 64 29 = a29) ∧
  (r + 8 ≤ 42 ∧ RQ w r v o n V ∧ RB v o) ∧
  (s 56 1 = v 64 16 ∧ NB (v 64 16) 3) ∧
  (∃ T, T < 2 ^ n ∧ s 56 2 = nI T ∧ v 64 18 = nI T) ∧
  s 56 3 = v 64 19 ∧
  (∃ C G, s 57 0 = nI C ∧ v 64 20 = nI C ∧ s 57 1 = nI G ∧ v 64 21 = nI G ∧ C + G ≤ 198) ∧
  s 57 2 = v 64 22 ∧
  (s 56 6 = v 64 23 ∧ s 56 7 = v 64 24 ∧ s 56 8 = v 64 25) ∧
  (∀ m, m < 6 → s 58 m = v 69 m) ∧ ∀ k, k < 3 → s 59 k = v 68 k
section YJS
variable {w s v g0 : SG} {o n V : Nat} {g : Nat → Int32} {a17 a26 a29 : Int32}
theorem yj_0 {u : SG} (br : r + 8 ≤ 42) (lo : ∀ c, c < 42 → s c = w c) (rq : RQ w r u o n V) (rb : RB u o) (h0 : BEG g0 v o) (e65 : g0 65 = u 65) (f11 : g0 64 11 = u 64 11) : YJ w r o n V (u 65) (g0 64 17) 0 (g0 64 29) (opeS s r) v := by
  obtain ⟨b1, b2, ⟨b3, b4, b5, b6, b7⟩, ⟨b8, b9, b10, b11, b12⟩, b13, b14⟩ := h0
  obtain ⟨⟨c1, c2, c3⟩, ⟨c4, c5, c6⟩, ⟨c7, c8, c9⟩, ⟨c10, c11, c12⟩, c13, c14⟩ := ope_f (s := s) br
  have v65 : v 65 = u 65 := (b1 65 (by decide) (by decide) (by decide)).trans e65
  have w9 : ∀ i, i < 5 → w r (9 + i) = u 65 (o + (1 + i)) := rq.2.2.2.1
  obtain ⟨C, eC, hC⟩ := rb.1 2 (by omega)
  obtain ⟨G, eG, hG⟩ := rb.1 3 (by omega)
  have er : s r = w r := lo r (by omega)
  refine ⟨⟨fun c hc => (opeS_lo (Or.inl hc)).trans (lo c hc), v65, b2 17 (by omega), b12, b2 29 (by omega)⟩, ⟨br, RQ_v rq ((b2 11 (by omega)).trans f11) v65, RB_v rb v65⟩, ⟨c1.trans b11.symm, ⟨0, b11, by omega⟩⟩, ⟨2 ^ n - 1, ?_, ?_, ?_⟩, c3.trans b4.symm, ⟨C, G, ?_, ?_, ?_, ?_, by omega⟩, ?_, ⟨c4.trans b8.symm, c5.trans b9.symm, c6.trans b10.symm⟩, fun m hm => (c13 m hm).trans (b14 m hm).symm, fun k hk => ?_⟩
  · have : 0 < 2 ^ n := Nat.two_pow_pos n
    omega
  · rw [c2, ← all_n n rq.2.1.1]
    unfold allI
    rw [er, rq.2.2.1.1]
  · rw [b3, e65, rq.2.2.1.2]; exact all_n n rq.2.1.1
  · rw [c10, er]; exact (w9 2 (by omega)).trans eC
  · rw [b5, e65]; exact eC
  · rw [c11, er]; exact (w9 3 (by omega)).trans eG
  · rw [b6, e65]; exact eG
  · rw [c12, er, b7, e65]; exact w9 4 (by omega)
  · rw [c14 k hk, b13 k hk, e65, lo (r + 7) (by omega)]; exact rq.2.2.2.2.1 k hk
/-- nothing that a year hangs on has changed -/
theorem yj_g {s2 v2 : SG} {b26 : Int32} (h : YJ w r o n V g a17 a26 a29 s v) (es : ∀ c, (c < 42 ∨ (56 ≤ c ∧ c < 60)) → s2 c = s c) (e65 : v2 65 = v 65) (e68 : v2 68 = v 68) (e69 : v2 69 = v 69) (ej : ∀ j, (j = 11 ∨ (15 < j ∧ j < 26) ∨ j = 29) → v2 64 j = v 64 j) (e26 : v2 64 26 = b26) : YJ w r o n V g a17 b26 a29 s2 v2 := by
  obtain ⟨⟨h1, h2, h3, h4, h5⟩, ⟨h6, h7, h8⟩, h9, h10, h11, h12, h13, h14, h15, h16⟩ := h
  unfold YJ
  rw [es 56 (by omega), es 57 (by omega), es 58 (by omega), es 59 (by omega), e65, e68, e69, ej 16 (by omega), ej 17 (by omega), ej 18 (by omega), ej 19 (by omega), ej 20 (by omega), ej 21 (by omega), ej 22 (by omega), ej 23 (by omega), ej 24 (by omega), ej 25 (by omega), ej 29 (by omega)]
  exact ⟨⟨fun c hc => (es c (Or.inl hc)).trans (h1 c hc), h2, h3, e26, h5⟩, ⟨h6, RQ_v h7 (ej 11 (by omega)) e65, RB_v h8 e65⟩, h9, h10, h11, h12, h13, h14, h15, h16⟩
theorem yj_lo (h : YJ w r o n V g a17 a26 a29 s v) : ∀ c, c < 42 → s c = w c := h.1.1
theorem yj_rq (h : YJ w r o n V g a17 a26 a29 s v) : RQ s r v o n V := RQ_s h.2.1.2.1 (fun i hi => h.1.1 _ (by have := h.2.1.1; omega))
theorem rcd_f {day : Int32} : (∀ c, c ≠ 56 → c ≠ 57 → rcdS s day c = s c) ∧ rcdS s day 57 = briS7 s day 57 ∧ (∀ j, j ≠ 6 → j ≠ 8 → j ≠ 9 → j ≠ 10 → j ≠ 11 → rcdS s day 56 j = s 56 j) ∧ rcdS s day 56 6 = s 56 6 + 1 ∧ rcdS s day 56 8 = day ∧ rcdS s day 56 9 = s 56 9 + amtI day 0 ∧ rcdS s day 56 11 = (if amtI day 0 = 0 then s 56 11 + 1 else 0) ∧ rcdS s day 56 10 = (if s 56 10 < (if amtI day 0 = 0 then s 56 11 + 1 else 0) then (if amtI day 0 = 0 then s 56 11 + 1 else 0) else s 56 10) := by
  have b56 : briS7 s day 56 = s 56 := by unfold briS7; rw [up_n (by decide), up_n (by decide), up_n (by decide)]
  have bc : ∀ c, c ≠ 57 → briS7 s day c = s c := fun c hc => by unfold briS7; rw [up_n hc, up_n hc, up_n hc]
  unfold rcdS
  by_cases z : amtI day 0 = 0
  · simp only [if_pos z]
    refine ⟨fun c h1 h2 => ?_, ?_, fun j h1 h2 h3 h4 h5 => ?_, ?_, ?_, ?_, ?_, ?_⟩
    · rw [up_n h1, up_n h1, up_n h1, up_n h1, up_n h1, bc c h2]
    · rw [up_n (by decide), up_n (by decide), up_n (by decide), up_n (by decide), up_n (by decide)]
    · rw [up_bn h4, up_bn h5, up_bn h3, up_bn h2, up_bn h1, b56]
    · rw [up_bn (by decide), up_bn (by decide), up_bn (by decide), up_bn (by decide), up_a, b56]
    · rw [up_bn (by decide), up_bn (by decide), up_bn (by decide), up_a]
    · rw [up_bn (by decide), up_bn (by decide), up_a, b56]
    · rw [up_bn (by decide), up_a, b56]
    · rw [up_a, b56]
  · simp only [if_neg z]
    refine ⟨fun c h1 h2 => ?_, ?_, fun j h1 h2 h3 h4 h5 => ?_, ?_, ?_, ?_, ?_, ?_⟩
    · rw [up_n h1, up_n h1, up_n h1, up_n h1, up_n h1, bc c h2]
    · rw [up_n (by decide), up_n (by decide), up_n (by decide), up_n (by decide), up_n (by decide)]
    · rw [up_bn h4, up_bn h5, up_bn h3, up_bn h2, up_bn h1, b56]
    · rw [up_bn (by decide), up_bn (by decide), up_bn (by decide), up_bn (by decide), up_a, b56]
    · rw [up_bn (by decide), up_bn (by decide), up_bn (by decide), up_a]
    · rw [up_bn (by decide), up_bn (by decide), up_a, b56]
    · rw [up_bn (by decide), up_a]
    · rw [up_a, b56]
theorem goes_f : (∀ c, c ≠ 64 → Rgoes v c = v c) ∧ (∀ j, (j < 20 ∨ 25 < j ∨ j = 24) → Rgoes v 64 j = v 64 j) ∧ Rgoes v 64 20 = (v 64 20 - v 64 12) + (if v 64 21 + v 64 12 ≤ v 64 14 then v 64 21 + v 64 12 else v 64 14) ∧ Rgoes v 64 21 = (v 64 21 + v 64 12) - (if v 64 21 + v 64 12 ≤ v 64 14 then v 64 21 + v 64 12 else v 64 14) ∧ Rgoes v 64 22 = v 64 22 + (v 64 14 - v 64 13) ∧ Rgoes v 64 25 = ((100 * v 64 12) + (10 * v 64 13)) + v 64 14 ∧ Rgoes v 64 23 = v 64 23 + 1 := by
  unfold Rgoes Rgoes_48
  by_cases z : v 64 21 + v 64 12 ≤ v 64 14
  · simp only [if_pos z]
    refine ⟨fun c h => ?_, fun j hj => ?_, ?_, ?_, ?_, ?_, ?_⟩
    · rw [up_n h, up_n h, up_n h, up_n h, up_n h, up_n h, up_n h]
    · rw [up_bn (by omega), up_bn (by omega), up_bn (by omega), up_bn (by omega), up_bn (by omega), up_bn (by omega), up_bn (by omega)]
    all_goals simp (decide := true) only [up_a, up_b]
  · simp only [if_neg z]
    refine ⟨fun c h => ?_, fun j hj => ?_, ?_, ?_, ?_, ?_, ?_⟩
    · rw [up_n h, up_n h, up_n h, up_n h, up_n h, up_n h, up_n h]
    · rw [up_bn (by omega), up_bn (by omega), up_bn (by omega), up_bn (by omega), up_bn (by omega), up_bn (by omega), up_bn (by omega)]
    all_goals simp (decide := true) only [up_a, up_b]
theorem amt_n : ∀ D, D < 1000 → amtI (nI D) 0 = nI (D / 100) ∧ amtI (nI D) 1 = nI (D / 10 % 10) ∧ amtI (nI D) 2 = nI (D % 10) := by decide +kernel
theorem add_subn {C U R : Nat} (h : R ≤ C) : nI C + (nI U - nI R) = nI (C - R + U) := by
  rw [Int32.sub_eq_add_neg, ← Int32.add_assoc, nI_add, ← Int32.sub_eq_add_neg, nI_subn (by omega)]
  congr 1; omega
/-- a day passes -/
theorem yj_rec {s2 v2 : SG} {D : Nat} {x7 : Int32} (h : YJ w r o n V g a17 a26 a29 s v) (hD : D < 1000) (hR : ∀ C, v 64 20 = nI C → D / 100 ≤ C) (e12 : v 64 12 = nI (D / 100)) (e13 : v 64 13 = nI (D / 10 % 10)) (e14 : v 64 14 = nI (D % 10))
    (s1 : ∀ c, c ≠ 56 → c ≠ 57 → s2 c = s c) (s57 : s2 57 = briS7 s (nI D) 57) (sj : s2 56 1 = s 56 1 ∧ s2 56 2 = s 56 2 ∧ s2 56 3 = s 56 3) (s6 : s2 56 6 = s 56 6 + 1) (s7 : s2 56 7 = x7) (s8 : s2 56 8 = nI D)
    (v1 : ∀ c, c ≠ 64 → v2 c = v c) (vj : ∀ j, (j < 20 ∨ 25 < j) → (j < 12 ∨ 14 < j) → v2 64 j = v 64 j) (v20 : v2 64 20 = Rgoes v 64 20) (v21 : v2 64 21 = Rgoes v 64 21) (v22 : v2 64 22 = Rgoes v 64 22) (v23 : v2 64 23 = Rgoes v 64 23) (v24 : v2 64 24 = x7) (v25 : v2 64 25 = Rgoes v 64 25) : YJ w r o n V g a17 a26 a29 s2 v2 := by
  obtain ⟨⟨h1, h2, h3, h4, h5⟩, ⟨h6, h7, h8⟩, ⟨h9, h9b⟩, ⟨T, hT, hT2, hT3⟩, h11, ⟨C, G, c1, c2, c3, c4, c5⟩, h13, ⟨h14, h14b, h14c⟩, h15, h16⟩ := h
  obtain ⟨_, _, g20, g21, g22, g25, g23⟩ := goes_f (v := v)
  obtain ⟨a0, a1, a2⟩ := amt_n D hD
  have hC := hR C c2
  obtain ⟨U, eU⟩ : ∃ U, U = if G + D / 100 ≤ D % 10 then G + D / 100 else D % 10 := ⟨_, rfl⟩
  have hU : U ≤ G + D / 100 := by rw [eU]; split <;> omega
  have u1 : (if nI (G + D / 100) ≤ nI (D % 10) then nI (G + D / 100) else nI (D % 10)) = nI U := by
    rw [eU]
    by_cases z : G + D / 100 ≤ D % 10
    · rw [if_pos z, if_pos (nI_le2 z (by omega))]
    · rw [if_neg z, if_neg (nI_ge (by omega) (by omega))]
  have u2 : (if nI (G + D / 100) < nI (D % 10) then nI (G + D / 100) else nI (D % 10)) = nI U := by
    rw [← u1]
    by_cases z : G + D / 100 < D % 10
    · rw [if_pos (nI_lt2 z (by omega)), if_pos (nI_le2 (by omega) (by omega))]
    · rw [if_neg (Int32.not_lt.mpr (nI_le2 (by omega) (by omega)))]
      by_cases z2 : G + D / 100 = D % 10
      · rw [z2, if_pos (Int32.le_refl _)]
      · rw [if_neg (nI_ge (by omega) (by omega))]
  have b0 : briS7 s (nI D) 57 0 = nI (C - D / 100 + U) := by
    unfold briS7
    rw [up_bn (by decide), up_bn (by decide), up_a, a0, a2, c1, c3, nI_add, u2]; exact add_subn hC
  have b1 : briS7 s (nI D) 57 1 = nI (G + D / 100 - U) := by
    unfold briS7
    rw [up_bn (by decide), up_a, a0, a2, c3, nI_add, u2]; exact nI_subn hU
  have b2 : briS7 s (nI D) 57 2 = s 57 2 + (nI (D % 10) - nI (D / 10 % 10)) := by
    unfold briS7
    rw [up_a, a1, a2]
  rw [e12, e14, c2, c4, nI_add, u1, nI_subn hC, nI_add] at g20
  rw [e12, e14, c4, nI_add, u1, nI_subn hU] at g21
  rw [e13, e14] at g22
  rw [e12, e13, e14] at g25
  have lat : ((100 * nI (D / 100)) + (10 * nI (D / 10 % 10))) + nI (D % 10) = nI D := by
    show ((nI 100 * nI (D / 100)) + (nI 10 * nI (D / 10 % 10))) + nI (D % 10) = _
    rw [nI_mulx, nI_mulx, nI_add, nI_add]; congr 1; omega
  refine ⟨⟨fun c hc => (s1 c (by omega) (by omega)).trans (h1 c hc), (v1 65 (by decide)).trans h2, (vj 17 (by omega) (by omega)).trans h3, (vj 26 (by omega) (by omega)).trans h4, (vj 29 (by omega) (by omega)).trans h5⟩, ⟨h6, RQ_v h7 (vj 11 (by omega) (by omega)) (v1 65 (by decide)), RB_v h8 (v1 65 (by decide))⟩, ⟨?_, ?_⟩, ⟨T, hT, sj.2.1.trans hT2, (vj 18 (by omega) (by omega)).trans hT3⟩, ?_, ⟨C - D / 100 + U, G + D / 100 - U, ?_, ?_, ?_, ?_, by omega⟩, ?_, ⟨?_, ?_, ?_⟩, fun m hm => ?_, fun k hk => ?_⟩
  · rw [sj.1, vj 16 (by omega) (by omega)]; exact h9
  · rw [vj 16 (by omega) (by omega)]; exact h9b
  · rw [sj.2.2, vj 19 (by omega) (by omega)]; exact h11
  · rw [s57]; exact b0
  · rw [v20]; exact g20
  · rw [s57]; exact b1
  · rw [v21]; exact g21
  · rw [s57, b2, v22, g22, h13]
  · rw [s6, v23, g23, h14]
  · rw [s7, v24]
  · rw [s8, v25, g25, lat]
  · rw [s1 58 (by decide) (by decide), v1 69 (by decide)]; exact h15 m hm
  · rw [s1 59 (by decide) (by decide), v1 68 (by decide)]; exact h16 k hk
theorem yj_goes {D : Nat} (h : YJ w r o n V g a17 a26 a29 s v) (hD : D < 1000) (hR : ∀ C, v 64 20 = nI C → D / 100 ≤ C) (e12 : v 64 12 = nI (D / 100)) (e13 : v 64 13 = nI (D / 10 % 10)) (e14 : v 64 14 = nI (D % 10)) : YJ w r o n V g a17 a26 a29 (rcdS s (nI D)) (Rgoes v) := by
  obtain ⟨f1, f2, f3, f4, f5, _⟩ := rcd_f (s := s) (day := nI D)
  obtain ⟨g1, g2, _⟩ := goes_f (v := v)
  refine yj_rec (x7 := v 64 24) h hD hR e12 e13 e14 f1 f2 ⟨f3 1 (by decide) (by decide) (by decide) (by decide) (by decide), f3 2 (by decide) (by decide) (by decide) (by decide) (by decide), f3 3 (by decide) (by decide) (by decide) (by decide) (by decide)⟩ f4 ?_ f5 g1 (fun j hj _ => g2 j (by omega)) rfl rfl rfl rfl (g2 24 (by omega)) rfl
  rw [f3 7 (by decide) (by decide) (by decide) (by decide) (by decide)]
  exact h.2.2.2.2.2.2.2.1.2.1
theorem yj_com (h : YJ w r o n V g a17 a26 a29 s v) : YJ w r o n V g a17 a26 a29 (comS s) (Rcommittee v) := by
  obtain ⟨C, G, c1, c2, c3, c4, c5⟩ := h.2.2.2.2.2.1
  have e7 : s 56 7 = v 64 24 := h.2.2.2.2.2.2.2.1.2.1
  have go : ∀ D x, (D = 0 ∧ x = (0 : Int32) ∨ D = 100 ∧ x = 100 ∧ 1 ≤ C) → comS s = rcdS (up s 56 7 (s 56 7 + 1)) (nI D) → Rcommittee v = Rcommittee_14 v x → YJ w r o n V g a17 a26 a29 (comS s) (Rcommittee v) := by
    intro D x hx es ev
    have ht : YJ w r o n V g a17 a26 a29 s (RtalksOf v x) := yj_g h (fun _ _ => rfl) (talks_c (by decide)) (talks_c (by decide)) (talks_c (by decide)) (fun j hj => talks_64 (by omega)) ((talks_64 (by omega)).trans h.1.2.2.2.1)
    obtain ⟨t12, t13, t14⟩ := talks_12 (u := v) (x := x)
    have hD : D < 1000 := by rcases hx with ⟨rfl, _⟩ | ⟨rfl, _⟩ <;> decide
    have ex : x = nI D := by rcases hx with ⟨rfl, rfl⟩ | ⟨rfl, rfl, _⟩ <;> rfl
    obtain ⟨a0, a1, a2⟩ := amt_n D hD
    rw [← ex] at a0 a1 a2
    obtain ⟨f1, f2, f3, f4, f5, _⟩ := rcd_f (s := up s 56 7 (s 56 7 + 1)) (day := nI D)
    obtain ⟨g1, g2, _⟩ := goes_f (v := RtalksOf v x)
    have b57 : briS7 (up s 56 7 (s 56 7 + 1)) (nI D) 57 = briS7 s (nI D) 57 := by
      unfold briS7
      simp (decide := true) only [up_s, up_c]
    rw [es, ev]
    unfold Rcommittee_14
    refine yj_rec (x7 := s 56 7 + 1) ht hD (fun C' hC' => ?_) (t12.trans a0) (t13.trans a1) (t14.trans a2) (fun c h1 h2 => by rw [f1 c h1 h2, up_n h1]) (f2.trans b57) ⟨?_, ?_, ?_⟩ ?_ ?_ f5 (fun c hc => by rw [up_n hc, g1 c hc]) (fun j hj hj2 => by rw [up_bn (by omega), g2 j (by omega)]) (up_bn (by decide)) (up_bn (by decide)) (up_bn (by decide)) (up_bn (by decide)) ?_ (up_bn (by decide))
    · rw [talks_64 (by omega), c2] at hC'
      rcases hx with ⟨rfl, _⟩ | ⟨rfl, _, h1⟩
      · omega
      · have : C' < 2 ^ 31 ∨ 2 ^ 31 ≤ C' := by omega
        rcases this with q | q
        · have := nI_inj (by omega) q hC'
          omega
        · omega
    · rw [f3 1 (by decide) (by decide) (by decide) (by decide) (by decide), up_bn (by decide)]
    · rw [f3 2 (by decide) (by decide) (by decide) (by decide) (by decide), up_bn (by decide)]
    · rw [f3 3 (by decide) (by decide) (by decide) (by decide) (by decide), up_bn (by decide)]
    · rw [f4, up_bn (by decide)]
    · rw [f3 7 (by decide) (by decide) (by decide) (by decide) (by decide), up_a]
    · rw [up_a, g2 24 (by omega), talks_64 (by omega), e7]
  by_cases z : C = 0
  · subst z
    refine go 0 0 (Or.inl ⟨rfl, rfl⟩) ?_ ?_
    · unfold comS
      rw [c1, if_neg (show ¬ (1 : Int32) < nI 0 by decide)]; rfl
    · unfold Rcommittee
      rw [c2, if_pos (show nI 0 ≤ (0 : Int32) by decide)]
  · refine go 100 100 (Or.inr ⟨rfl, rfl, by omega⟩) ?_ ?_
    · unfold comS
      have e : (if (1 : Int32) < s 57 0 then 1 else s 57 0) = 1 := by
        rw [c1]
        by_cases z2 : C = 1
        · subst z2; rw [if_neg (show ¬ (1 : Int32) < nI 1 by decide)]; rfl
        · rw [if_pos (show (1 : Int32) < nI C from nI_lt2 (a := 1) (by omega) (by omega))]
      rw [e]; rfl
    · unfold Rcommittee
      rw [c2, if_neg (show ¬ nI C ≤ (0 : Int32) from nI_ge (a := 0) (by omega) (by omega))]
theorem th_0 : ∀ T, T < 64 → ∀ j, j < 6 → ((nI T >>> (nI j &&& 31)) &&& 1 = 0 ↔ hasI (nI T) (nI j) = 0) := by decide +kernel
theorem th_c : ∀ T, T < 64 → ∀ j, j < 6 → nI T &&& ((1 <<< (nI j &&& 31)) ^^^ (-1)) = nI (T ^^^ (T &&& 2 ^ j)) ∧ T ^^^ (T &&& 2 ^ j) ≤ T := by decide +kernel
theorem th_s : ∀ n, n ≤ 6 → ∀ j, j < n → ∀ T, T < 2 ^ n → nI T ||| (1 <<< (nI j &&& 31)) = nI (T ||| 2 ^ j) ∧ T ||| 2 ^ j < 2 ^ n := by decide +kernel
theorem p2_64 {n T : Nat} (hn : n ≤ 6) (h : T < 2 ^ n) : T < 64 := Nat.lt_of_lt_of_le h (Nat.pow_le_pow_right (by decide) hn)
/-- an anger anew -/
theorem yj_58 {j : Nat} {x : Int32} (h : YJ w r o n V g a17 a26 a29 s v) (hj : j < 6) : YJ w r o n V g a17 a26 a29 (up s 58 j x) (up v 69 j x) := by
  obtain ⟨⟨h1, h2, h3, h4, h5⟩, ⟨h6, h7, h8⟩, h9, h10, h11, h12, h13, h14, h15, h16⟩ := h
  unfold YJ
  rw [up_n (show 56 ≠ 58 by decide), up_n (show 57 ≠ 58 by decide), up_n (show 59 ≠ 58 by decide), up_n (show 64 ≠ 69 by decide), up_n (show 65 ≠ 69 by decide), up_n (show 68 ≠ 69 by decide)]
  refine ⟨⟨fun c hc => (up_n (by omega)).trans (h1 c hc), h2, h3, h4, h5⟩, ⟨h6, RQ_v h7 (by rw [up_n (by decide)]) (up_n (by decide)), RB_v h8 (up_n (by decide))⟩, h9, h10, h11, h12, h13, h14, fun m hm => ?_, h16⟩
  by_cases q : m = j
  · subst q; rw [up_a, up_a]
  · rw [up_bn q, up_bn q]; exact h15 m hm
/-- one resigns -/
theorem yj_res {j : Nat} (h : YJ w r o n V g a17 a26 a29 s v) (hj : j < 6) : YJ w r o n V g a17 a26 a29 (up (up s 56 3 (s 56 3 ||| (1 <<< (nI j &&& 31)))) 56 2 (s 56 2 &&& ((1 <<< (nI j &&& 31)) ^^^ (-1)))) (up (up v 64 18 (v 64 18 &&& ((1 <<< (nI j &&& 31)) ^^^ (-1)))) 64 19 (v 64 19 ||| (1 <<< (nI j &&& 31)))) := by
  obtain ⟨⟨h1, h2, h3, h4, h5⟩, ⟨h6, h7, h8⟩, ⟨h9, h9b⟩, ⟨T, hT, hT2, hT3⟩, h11, ⟨C, G, c1, c2, c3, c4, c5⟩, h13, ⟨h14, h14b, h14c⟩, h15, h16⟩ := h
  have hn := h7.2.1.1
  obtain ⟨t1, t2⟩ := th_c T (p2_64 hn hT) j hj
  refine ⟨⟨fun c hc => by rw [up_n (by omega), up_n (by omega)]; exact h1 c hc, by rw [up_n (by decide), up_n (by decide)]; exact h2, by rw [up_bn (by decide), up_bn (by decide)]; exact h3, by rw [up_bn (by decide), up_bn (by decide)]; exact h4, by rw [up_bn (by decide), up_bn (by decide)]; exact h5⟩, ⟨h6, RQ_v h7 (by rw [up_bn (by decide), up_bn (by decide)]) (by rw [up_n (by decide), up_n (by decide)]), RB_v h8 (by rw [up_n (by decide), up_n (by decide)])⟩, ⟨?_, ?_⟩, ⟨T ^^^ (T &&& 2 ^ j), by omega, ?_, ?_⟩, ?_, ⟨C, G, ?_, ?_, ?_, ?_, c5⟩, ?_, ⟨?_, ?_, ?_⟩, fun m hm => ?_, fun k hk => ?_⟩
  · rw [up_bn (by decide), up_bn (by decide), up_bn (by decide), up_bn (by decide)]; exact h9
  · rw [up_bn (by decide), up_bn (by decide)]; exact h9b
  · rw [up_a, hT2]; exact t1
  · rw [up_bn (by decide), up_a, hT3]; exact t1
  · rw [up_bn (by decide), up_a, up_a, h11]
  · rw [up_n (by decide), up_n (by decide)]; exact c1
  · rw [up_bn (by decide), up_bn (by decide)]; exact c2
  · rw [up_n (by decide), up_n (by decide)]; exact c3
  · rw [up_bn (by decide), up_bn (by decide)]; exact c4
  · rw [up_n (by decide), up_n (by decide), up_bn (by decide), up_bn (by decide)]; exact h13
  · rw [up_bn (by decide), up_bn (by decide), up_bn (by decide), up_bn (by decide)]; exact h14
  · rw [up_bn (by decide), up_bn (by decide), up_bn (by decide), up_bn (by decide)]; exact h14b
  · rw [up_bn (by decide), up_bn (by decide), up_bn (by decide), up_bn (by decide)]; exact h14c
  · rw [up_n (by decide), up_n (by decide), up_n (by decide), up_n (by decide)]; exact h15 m hm
  · rw [up_n (by decide), up_n (by decide), up_n (by decide), up_n (by decide)]; exact h16 k hk
theorem ang_50 {R : SG → Int32 → Int32 → Option SG} {j : Nat} {ag x gg : Int32} {Q : SG → Prop} (h : YJ w r o n V g a17 a26 a29 s v) (hj : j < n) (eg : x = if gg = 0 then s 58 j + 1 else 0) (go : ∀ v2, YJ w r o n V g a17 a26 a29 (beaS s r (nI j) gg) v2 → pc (R v2 ag (nI j + 1)) Q) : pc (Rangers_50 R v ag (nI j) x (nI j)) Q := by
  have hn := h.2.1.2.1.2.1.1
  have hY := yj_58 (j := j) (x := x) h (by omega)
  have rq := yj_rq h
  have hr : RH (up v 69 j x) := RH_of (by rw [up_n (by decide)]) (rq_RH rq)
  obtain ⟨τ, eτ, hτ⟩ := h.2.1.2.2.2.2.1 j 2 (by omega) (by omega)
  have of2 : RofMinister (up v 69 j x) (nI j) 2 = some (nI τ) := by
    rw [q_ofMinister (y := 2) (m := j) (a := 2) hr rfl rfl (by omega) (by decide), ofN_e (s := v) (by rw [up_n (by decide)]) (up_n (by decide)), rq_of rq, eτ]
  have te : cl 6 (s (r + 3)) (nI j) = nI τ := by
    rw [cl_nI (by omega) (by decide), ← eτ]
    exact rq.2.2.2.2.2.1 j 2 hj (by omega)
  have ce : cl 6 (s 58) (nI j) = s 58 j := cl_nI (by omega) (by decide)
  have pe : ∀ y, pt 6 s 58 (nI j) y = up s 58 j y := fun y => pt_e (by omega) (by decide)
  have be : beaS s r (nI j) gg = if nI τ ≤ 0 then up s 58 j x else if x < nI τ then up s 58 j x else up (up (up s 58 j x) 56 3 (s 56 3 ||| (1 <<< (nI j &&& 31)))) 56 2 (s 56 2 &&& ((1 <<< (nI j &&& 31)) ^^^ (-1))) := by
    unfold beaS
    rw [te, ce, pe, pe]
    by_cases q : gg = 0
    · rw [if_pos q] at eg
      rw [if_pos q, eg]
    · rw [if_neg q] at eg
      rw [if_neg q, eg]
  unfold Rangers_50
  refine pc_wrv (e := j) rfl (by omega) (by decide) ?_
  rw [of2, Option.bind_some]
  by_cases z : τ = 0
  · subst z
    rw [if_pos (show nI 0 = 0 from rfl)]
    refine go _ ?_
    rw [be, if_pos (show nI 0 ≤ (0 : Int32) by decide)]; exact hY
  · rw [if_neg (show ¬ nI τ = (0 : Int32) from fun q => z (nI_inj (a := τ) (b := 0) (by omega) (by decide) q))]
    refine pc_rdv (e := j) rfl (by omega) (by decide) ?_
    rw [Option.bind_some, up_a]
    have nle : ¬ nI τ ≤ (0 : Int32) := nI_ge (a := 0) (by omega) (by omega)
    by_cases q : nI τ ≤ x
    · rw [if_pos q]
      refine go _ ?_
      rw [be, if_neg nle, if_neg (Int32.not_lt.mpr q)]
      have := yj_res (j := j) hY (by omega)
      rw [up_n (show 56 ≠ 58 by decide)] at this
      exact this
    · rw [if_neg q]
      refine go _ ?_
      rw [be, if_neg nle, if_pos (Int32.not_le.mp q)]; exact hY
theorem yj_ang {ag y2 y3 : Int32} : ∀ (k j z : Nat) (s v : SG), YJ w r o n V g a17 a26 a29 s v → j + k = n → pc (Rangers_2 (Rangers_R z) v ag (nI j)) (fun u => YJ w r o n V g a17 a26 a29 (decSL r k j s y2 y3 ag) u) := by
  intro k
  induction k with
  | zero =>
    intro j z s v h hj
    have rq := yj_rq h
    unfold Rangers_2
    rw [q_ministers (rq_RH rq), (rq_n rq).1, Option.bind_some, if_pos (k_ge hj)]
    exact pc_s h
  | succ k ih =>
    intro j z s v h hj
    have rq := yj_rq h
    have hn := rq.2.1.1
    have go : ∀ s2 v2, YJ w r o n V g a17 a26 a29 s2 v2 → pc (Rangers_R z v2 ag (nI j + 1)) (fun u => YJ w r o n V g a17 a26 a29 (decSL r k (j + 1) s2 y2 y3 ag) u) := by
      intro s2 v2 h2
      cases z with
      | zero => exact fun _ e => nomatch e
      | succ z =>
        show pc (Rangers_2 (Rangers_R z) v2 ag (nI j + 1)) _
        rw [← nI_succ]
        exact ih (j + 1) z s2 v2 h2 (by omega)
    obtain ⟨T, hT, hT2, hT3⟩ := h.2.2.2.1
    have t0 := th_0 T (p2_64 hn hT) j (by omega)
    unfold Rangers_2
    rw [q_ministers (rq_RH rq), (rq_n rq).1, Option.bind_some, if_neg (k_lt hj (by omega)), hT3, decSL, hT2]
    by_cases z0 : (nI T >>> (nI j &&& 31)) &&& 1 = 0
    · rw [if_pos z0, if_pos (t0.1 z0)]; exact go s v h
    · rw [if_neg z0, if_neg (fun q => z0 (t0.2 q))]
      by_cases q : (ag >>> (nI j &&& 31)) &&& 1 = 1
      · rw [if_pos q]
        exact ang_50 h (by omega) (by rw [if_neg (fun z => ((has_b (by omega)).1 z) q)]) (fun v2 h2 => go _ v2 h2)
      · rw [if_neg q]
        refine pc_rdv (e := j) rfl (by omega) (by decide) ?_
        exact ang_50 h (by omega) (by rw [if_pos ((has_b (by omega)).2 q), h.2.2.2.2.2.2.2.2.1 j (by omega)]) (fun v2 h2 => go _ v2 h2)
theorem vet_T : ∀ V, V < 64 → ∀ n, n ≤ 6 → ∀ T, T < 2 ^ n → (nI (V % 2 ^ n) &&& nI T) = (nI T &&& nI V) := by decide +kernel
theorem rq_pasT {x : Int32} {T : Nat} (h : RQ s r v o n V) (hT : T < 2 ^ n) (e18 : v 64 18 = nI T) : pasI s r (nI T) x = pasN v x := by
  have hn := h.2.1.1
  have f9 : s r 9 = ofN v 1 := by rw [rq_of h]; exact h.2.2.2.1 0 (by omega)
  have fv : vetT v &&& nI T = nI T &&& s r 8 := by
    rw [rq_vet h, h.2.2.2.2.2.2.1.1]
    exact vet_T V h.2.1.2 n hn T hT
  unfold pasI pasN
  rw [e18, rq_vot h, Int32.and_comm x (nI T), f9, fv]
theorem yj_moves {b D : Nat} (h : YJ w r o n V g a17 a26 a29 s v) (e15 : v 64 15 = nI b) (hb : b < 6) (hD : D < 1000) (hR : ∀ C, v 64 20 = nI C → D / 100 ≤ C) (e12 : v 64 12 = nI (D / 100)) (e13 : v 64 13 = nI (D / 10 % 10)) (e14 : v 64 14 = nI (D % 10)) : pc (Rmoves v) (fun u => YJ w r o n V g a17 a26 a29 (decS s r (nI b) (nI D)) u) := by
  have rq := yj_rq h
  obtain ⟨a0, a1, a2⟩ := amt_n D hD
  obtain ⟨f16, se, e16, hse⟩ := h.2.2.1
  obtain ⟨T, hT, hT2, hT3⟩ := h.2.2.2.1
  have hRH := rq_RH rq
  have hMZ := rq_MZ rq
  have hSE : SE v := ⟨by unfold seN; rw [e16, nI_clamp (by omega)], by unfold seN; rw [e16, nI_clamp (by omega)]; omega⟩
  have ag : agrT s r (nI b) (s 56 1) (nI D) = agmT v := by
    rw [f16, e16]
    exact rq_agr rq hb (by omega) e15 e16 (by rw [e12, a0]) (by rw [e13, a1]) (by rw [e14, a2])
  unfold Rmoves decS
  rw [q_agreeing hRH hSE hMZ, Option.bind_some, q_isPassed hRH hMZ, Option.bind_some, ag, hT2, rq_pasT rq hT hT3, (rq_n rq).2.2]
  by_cases c : pasN v (agmT v) = 0
  · rw [if_pos c, if_pos c]; exact pc_s (yj_com h)
  · rw [if_neg c, if_neg c]
    exact pc_b (yj_ang n 0 xF _ _ (yj_goes h hD hR e12 e13 e14) (by omega)) (fun u hu => pc_s hu)
end YJS
end XVC
end
section
section XVD
variable {sc : Nat × (Nat → Int32)} {d : Nat} {K : List KD} {r q t a B m : Nat}
/-! years on both sides: deeds, stop, state -/
/-- deeds at t on the class's side, at o2 on the reference's -/
def DQW (s : SG) (t : Nat) (v : SG) (o2 m : Nat) : Prop := (v 64 29 = nI o2 ∧ o2 ≤ 1129) ∧ m ≤ 40 ∧ s t 0 = nI m ∧ v 65 o2 = nI m ∧ (∀ j i, j < m → i < 5 → s (t + 1) (5 * j + i) = v 65 (o2 + (1 + 5 * j + i))) ∧ ∀ j, j < m → (NB (s (t + 1) (5 * j + 0)) 5 ∧ (s (t + 1) (5 * j + 0) = 0 → NB (s (t + 1) (5 * j + 2)) 9 ∧ NB (s (t + 1) (5 * j + 3)) 9 ∧ NB (s (t + 1) (5 * j + 4)) 9)) ∧ (s (t + 1) (5 * j + 0) = 1 → NB (s (t + 1) (5 * j + 1)) 3) ∧ (s (t + 1) (5 * j + 0) = 2 → NB (s (t + 1) (5 * j + 1)) 2)
section DQS
variable {w s v : SG} {o n V o1 n1 o2 m1 : Nat} {g : Nat → Int32} {a17 a26 a29 : Int32}
theorem dq_of {j i : Nat} {x : Int32} (h : DQW s t v o2 m1) (hj : j < m1) (hi : i < 5) (ex : x = nI i) : RdeedOf v (nI j) x = some (s (t + 1) (5 * j + i)) := by
  obtain ⟨⟨h17, ho⟩, hn, _, _, h5, _⟩ := h
  have ix : ((v 64 29 + 1) + (5 * nI j)) + x = nI (o2 + (1 + 5 * j + i)) := by
    rw [h17, ex]
    show ((nI o2 + nI 1) + (nI 5 * nI j)) + nI i = _
    rw [nI_mulx, nI_add, nI_add, nI_add]; congr 1; omega
  unfold RdeedOf
  rw [ix, rd_nI (e := o2 + (1 + 5 * j + i)) rfl (by omega) (by decide), h5 j i hj hi]; rfl
theorem dq_n (h : DQW s t v o2 m1) : Rdeeds v = some (nI m1) := by
  have ho := h.1.2
  unfold Rdeeds
  rw [h.1.1, rd_nI (e := o2) rfl (by omega) (by decide), h.2.2.2.1]; rfl
theorem DQ_v {v2 : SG} (h : DQW s t v o2 m1) (e29 : v2 64 29 = v 64 29) (e65 : v2 65 = v 65) : DQW s t v2 o2 m1 := by
  unfold DQW
  rw [e29, e65]; exact h
theorem DQ_s {s2 : SG} (h : DQW s t v o2 m1) (e0 : s2 t = s t) (e1 : s2 (t + 1) = s (t + 1)) : DQW s2 t v o2 m1 := by
  unfold DQW
  rw [e0, e1]; exact h
/-- who is a minister, who is there -/
theorem rq_mn {x : Int32} (h : RQ s r v o n V) : RisMinister v x = some (inI x 0 (nI n - 1)) ∧ (minI s r x = 0 ↔ inI x 0 (nI n - 1) = 0) := by
  have hn := h.2.1.1
  have ho := h.1.2
  refine ⟨?_, ?_⟩
  · unfold RisMinister
    rw [q_ministers (rq_RH h), (rq_n h).1]; rfl
  · rw [iz_m (by omega)]
    unfold minI
    rw [h.2.2.1.1]
    by_cases c : x < 0
    · rw [if_pos c]; exact ⟨fun _ => Or.inl c, fun _ => rfl⟩
    · rw [if_neg c]
      by_cases c2 : nI n ≤ x
      · rw [if_pos c2]; exact ⟨fun _ => Or.inr c2, fun _ => rfl⟩
      · rw [if_neg c2]; exact ⟨fun g => absurd g (by decide), fun g => g.elim (fun g => absurd g c) (fun g => absurd g c2)⟩
theorem has_n {x k : Int32} (h : ¬ hasI x k = 0) : ∃ b, b < 6 ∧ k = nI b := by
  unfold hasI at h
  by_cases c : k < 0
  · rw [if_pos c] at h; exact absurd rfl h
  · rw [if_neg c] at h
    by_cases c2 : 6 ≤ k
    · rw [if_pos c2] at h; exact absurd rfl h
    · exact nat_of (n := 6) c (Int32.not_le.mp c2) (by decide)
theorem has_o : ∀ n, n ≤ 6 → ∀ T, T < 2 ^ n → ∀ b, b < 6 → n ≤ b → hasI (nI T) (nI b) = 0 := by decide +kernel
theorem has_v {x k : Int32} : hasI x k = 0 ∨ hasI x k = 1 := by
  unfold hasI
  repeat' split
  all_goals first | exact Or.inl rfl | exact Or.inr rfl
theorem yj_the {x : Int32} (h : YJ w r o n V g a17 a26 a29 s v) : RisThere v x = some (hasI (s 56 2) x) := by
  have rq := yj_rq h
  have hn := rq.2.1.1
  obtain ⟨T, hT, hT2, hT3⟩ := h.2.2.2.1
  unfold RisThere
  rw [(rq_mn rq).1, Option.bind_some, hT3, hT2]
  by_cases c : inI x 0 (nI n - 1) = 0
  · rw [if_pos c]
    by_cases z : hasI (nI T) x = 0
    · rw [z]
    · obtain ⟨b, hb, rfl⟩ := has_n z
      have nb : n ≤ b := by
        rcases (iz_m (n := n) (by omega)).1 c with q | q
        · exact absurd q (nI_pos (by omega))
        · by_cases q2 : n ≤ b
          · exact q2
          · exact absurd q (nI_ge (by omega) (by omega))
      exact absurd (has_o n hn T hT b hb nb) z
  · rw [if_neg c]
    obtain ⟨b, rfl, hb⟩ := inI_sub (by omega) c
    by_cases z : (nI T >>> (nI b &&& 31)) &&& 1 = 1
    · rw [if_pos z, has_v.resolve_left (fun q => ((has_b (by omega)).1 q) z)]
    · rw [if_neg z, (has_b (by omega)).2 z]
theorem yj_t {x : Int32} (h : YJ w r o n V g a17 a26 a29 s v) : YJ w r o n V g a17 a26 a29 s (RtalksOf v x) :=
  yj_g h (fun _ _ => rfl) (talks_c (by decide)) (talks_c (by decide)) (talks_c (by decide)) (fun j hj => talks_64 (by omega)) ((talks_64 (by omega)).trans h.1.2.2.2.1)
theorem yj_can {D : Nat} (h : YJ w r o n V g a17 a26 a29 s v) (hD : D < 1000) : RcanNature (RtalksOf v (nI D)) = canI7 s (nI D) ∧ (¬ canI7 s (nI D) = 0 → ∀ C, v 64 20 = nI C → C < 2 ^ 31 → D / 100 ≤ C) := by
  obtain ⟨t12, t13, t14⟩ := talks_12 (u := v) (x := nI D)
  obtain ⟨C, G, c1, c2, c3, c4, c5⟩ := h.2.2.2.2.2.1
  have e22 : s 57 2 = v 64 22 := h.2.2.2.2.2.2.1
  refine ⟨?_, fun z C' hC' hC2 => ?_⟩
  · unfold RcanNature canI7
    rw [t12, t13, t14, talks_64 (j := 20) (by omega), talks_64 (j := 22) (by omega), c2, ← c1, ← e22]
    exact can_l
  · have : C = C' := nI_inj (by omega) hC2 (c2.symm.trans hC')
    subst this
    unfold canI7 at z
    by_cases q : s 57 0 < amtI (nI D) 0
    · rw [if_pos q] at z; exact absurd rfl z
    · rw [c1, (amt_n D hD).1, Int32.not_lt, Int32.le_iff_toInt_le, nI_toInt (by omega), nI_toInt (by omega)] at q
      omega
/-- both do a deed, or neither can -/
theorem hap_v {j : Nat} (h : YJ w r o n V g a17 a26 a29 s v) (dq : DQW s t v o2 m1) (oq : OQ s q v o1 n1) (hj : j < m1) : pc (Rcan v (nI j)) (fun p => (p.1 = 0 ↔ (hapP s r q t (nI j)).1 = 0) ∧ (p.1 = 0 → p.2 64 26 = a26) ∧ (¬ p.1 = 0 → p.2 64 26 = a26 ∧ pc (Rdoes p.2 (nI j)) (fun u => YJ w r o n V g a17 a26 a29 (hapP s r q t (nI j)).2 u))) := by
  have hm := dq.2.1
  have rq := yj_rq h
  have e26 : v 64 26 = a26 := h.1.2.2.2.1
  obtain ⟨⟨⟨t0, et, ht⟩, mo⟩, sea, off⟩ := dq.2.2.2.2.2 j hj
  have d0 := dq_of (i := 0) (x := 0) dq hj (by decide) rfl
  have d1 := dq_of (i := 1) (x := 1) dq hj (by decide) rfl
  have d2 := dq_of (i := 2) (x := 2) dq hj (by decide) rfl
  have d3 := dq_of (i := 3) (x := 3) dq hj (by decide) rfl
  have d4 := dq_of (i := 4) (x := 4) dq hj (by decide) rfl
  have p0 : parI s t (nI j) 0 = s (t + 1) (5 * j + 0) := pr_q (by omega) (by decide) rfl
  have p1 : parI s t (nI j) 1 = s (t + 1) (5 * j + 1) := pr_q (by omega) (by decide) rfl
  have p2 : parI s t (nI j) 2 = s (t + 1) (5 * j + 2) := pr_q (by omega) (by decide) rfl
  have p3 : parI s t (nI j) 3 = s (t + 1) (5 * j + 3) := pr_q (by omega) (by decide) rfl
  have p4 : parI s t (nI j) 4 = s (t + 1) (5 * j + 4) := pr_q (by omega) (by decide) rfl
  have hap : hapP s r q t (nI j) = hapPW s r q t (nI j) (s (t + 1) (5 * j + 1)) (nI t0) := by unfold hapP; rw [p0, p1, et]
  have can : Rcan v (nI j) = Rcan_13 v (nI j) (s (t + 1) (5 * j + 1)) (nI t0) := by unfold Rcan; rw [d1, Option.bind_some, d0, Option.bind_some, et]
  have doe : ∀ u : SG, u 64 29 = v 64 29 → u 65 = v 65 → Rdoes u (nI j) = Rdoes_13 u (nI j) (s (t + 1) (5 * j + 1)) (nI t0) := by
    intro u e1 e2
    have dq2 := DQ_v dq e1 e2
    unfold Rdoes
    rw [dq_of (i := 1) (x := 1) dq2 hj (by decide) rfl, Option.bind_some, dq_of (i := 0) (x := 0) dq2 hj (by decide) rfl, Option.bind_some, et]
  rw [hap, can]
  rcases (by omega : t0 = 0 ∨ t0 = 1 ∨ t0 = 2 ∨ t0 = 3 ∨ t0 = 4 ∨ t0 = 5) with rfl | rfl | rfl | rfl | rfl | rfl
  · obtain ⟨⟨x, ex, hx⟩, ⟨y, ey, hy⟩, ⟨z, ez, hz⟩⟩ := mo et
    have e1 : ((100 * s (t + 1) (5 * j + 2)) + (10 * s (t + 1) (5 * j + 3))) + s (t + 1) (5 * j + 4) = nI (100 * x + 10 * y + z) := by
      rw [ex, ey, ez]
      show ((nI 100 * nI x) + (nI 10 * nI y)) + nI z = _
      rw [nI_mulx, nI_mulx, nI_add, nI_add]
    have e2 : dafI s t (nI j) 2 = nI (100 * x + 10 * y + z) := by
      unfold dafI
      rw [p2, show (2 : Int32) + 1 = 3 from rfl, show (2 : Int32) + 2 = 4 from rfl, p3, p4, ex, ey, ez]
      unfold numI
      show (nI x * nI 10 + nI y) * nI 10 + nI z = _
      rw [nI_mulx, nI_add, nI_mulx, nI_add]; congr 1; omega
    obtain ⟨D, eD⟩ : ∃ D, D = 100 * x + 10 * y + z := ⟨_, rfl⟩
    have hD : D < 1000 := by omega
    obtain ⟨t12, t13, t14⟩ := talks_12 (u := v) (x := nI D)
    obtain ⟨a0, a1, a2⟩ := amt_n D hD
    have ht := yj_t (x := nI D) h
    have t26 : RtalksOf v (nI D) 64 26 = a26 := ht.1.2.2.2.1
    obtain ⟨cn1, cn2⟩ := yj_can h hD
    have f16 : s 56 1 = v 64 16 := h.2.2.1.1
    have f8 : s 56 8 = v 64 25 := h.2.2.2.2.2.2.2.1.2.2
    have fi := oq_fi (ah := v 64 25) (se := s 56 1) (oq_t (x := nI D) oq) t12 t13 t14 (by rw [talks_64 (by omega)]; exact f16.symm)
    have ehap : hapPW s r q t (nI j) (s (t + 1) (5 * j + 1)) (nI 0) = if hasI (s 56 2) (s (t + 1) (5 * j + 1)) = 0 then (0, s) else if canI7 s (nI D) = 0 then (0, s) else if fibI s q (s 56 1) (nI D) (v 64 25) = -1 then (1, decS s r (s (t + 1) (5 * j + 1)) (nI D)) else (0, s) := by
      unfold hapPW
      rw [if_pos (show nI 0 = 0 from rfl), e2, ← eD, f8]
    have ecan : Rcan_13 v (nI j) (s (t + 1) (5 * j + 1)) (nI 0) = if hasI (s 56 2) (s (t + 1) (5 * j + 1)) = 0 then some (0, RtalksOf v (nI D)) else if fibI s q (s 56 1) (nI D) (v 64 25) = -1 then (if canI7 s (nI D) = 0 then some (0, RtalksOf v (nI D)) else some (1, RtalksOf v (nI D))) else some (0, RtalksOf v (nI D)) := by
      unfold Rcan_13
      rw [if_pos (show nI 0 = 0 from rfl), d2, Option.bind_some, d3, Option.bind_some, d4, Option.bind_some, e1, ← eD, yj_the ht, Option.bind_some, talks_64 (j := 25) (by omega), fi, Option.bind_some, cn1]
    rw [ehap, ecan]
    have no : ∀ (c : Int32 × SG), c.1 = 0 → pc (some ((0 : Int32), RtalksOf v (nI D))) (fun p => (p.1 = 0 ↔ c.1 = 0) ∧ (p.1 = 0 → p.2 64 26 = a26) ∧ (¬ p.1 = 0 → p.2 64 26 = a26 ∧ pc (Rdoes p.2 (nI j)) (fun u => YJ w r o n V g a17 a26 a29 c.2 u))) := fun c hc => pc_s ⟨⟨fun _ => hc, fun _ => rfl⟩, fun _ => t26, fun z => absurd rfl z⟩
    by_cases k1 : hasI (s 56 2) (s (t + 1) (5 * j + 1)) = 0
    · rw [if_pos k1, if_pos k1]; exact no _ rfl
    rw [if_neg k1, if_neg k1]
    by_cases k2 : canI7 s (nI D) = 0
    · rw [if_pos k2, if_pos k2]
      exact pc_i (fun _ => no _ rfl) (fun _ => no _ rfl)
    rw [if_neg k2, if_neg k2]
    by_cases k3 : fibI s q (s 56 1) (nI D) (v 64 25) = -1
    · rw [if_pos k3, if_pos k3]
      obtain ⟨b, hb, eb⟩ := has_n k1
      refine pc_s ⟨⟨fun z => absurd z (by decide : ¬ (1 : Int32) = 0), fun z => absurd z (by decide : ¬ (1 : Int32) = 0)⟩, fun _ => t26, fun _ => ⟨t26, ?_⟩⟩
      show pc (Rdoes (RtalksOf v (nI D)) (nI j)) _
      rw [doe _ (talks_64 (by omega)) (talks_c (by decide))]
      unfold Rdoes_13
      rw [if_pos (show nI 0 = 0 from rfl), eb]
      have h15 : YJ w r o n V g a17 a26 a29 s (up (RtalksOf v (nI D)) 64 15 (nI b)) := yj_g ht (fun _ _ => rfl) (up_n (by decide)) (up_n (by decide)) (up_n (by decide)) (fun j hj => up_bn (by omega)) ((up_bn (by decide)).trans t26)
      refine pc_b (yj_moves (b := b) (D := D) h15 up_a hb hD (fun C hC => ?_) ?_ ?_ ?_) (fun u hu => pc_s hu)
      · rw [up_bn (by decide), talks_64 (by omega)] at hC
        obtain ⟨C2, G2, _, c2, _, _, c5⟩ := h.2.2.2.2.2.1
        have l2 := cn2 k2 C2 c2 (by omega)
        by_cases q : C < 2 ^ 31
        · exact cn2 k2 C hC q
        · omega
      · rw [up_bn (by decide), t12, a0]
      · rw [up_bn (by decide), t13, a1]
      · rw [up_bn (by decide), t14, a2]
    · rw [if_neg k3, if_neg k3]; exact no _ rfl
  · have ehap : hapPW s r q t (nI j) (s (t + 1) (5 * j + 1)) (nI 1) = (1, up s 56 1 (s (t + 1) (5 * j + 1))) := by
      unfold hapPW
      rw [if_neg (by decide), if_pos (show nI 1 = 1 from rfl)]
    have ecan : Rcan_13 v (nI j) (s (t + 1) (5 * j + 1)) (nI 1) = some (1, v) := by
      unfold Rcan_13
      rw [if_neg (by decide), if_pos (show nI 1 = 1 from rfl)]
    rw [ehap, ecan]
    refine pc_s ⟨⟨fun z => absurd z (by decide : ¬ (1 : Int32) = 0), fun z => absurd z (by decide : ¬ (1 : Int32) = 0)⟩, fun _ => e26, fun _ => ⟨e26, ?_⟩⟩
    show pc (Rdoes v (nI j)) _
    rw [doe v rfl rfl]
    unfold Rdoes_13
    rw [if_neg (by decide), if_pos (show nI 1 = 1 from rfl)]
    obtain ⟨c, ec, hc⟩ := sea et
    rw [ec]
    obtain ⟨⟨h1, h2, h3, h4, h5⟩, ⟨h6, h7, h8⟩, h9, ⟨T, hT, hT2, hT3⟩, h11, ⟨C, G, c1, c2, c3, c4, c5⟩, h13, ⟨h14, h14b, h14c⟩, h15, h16⟩ := h
    refine pc_s ?_
    show YJ w r o n V g a17 a26 a29 (up s 56 1 (nI c)) (up v 64 16 (nI c))
    refine ⟨⟨fun c hc => (up_n (by omega)).trans (h1 c hc), by rw [up_n (by decide)]; exact h2, by rw [up_bn (by decide)]; exact h3, by rw [up_bn (by decide)]; exact h4, by rw [up_bn (by decide)]; exact h5⟩, ⟨h6, RQ_v h7 (up_bn (by decide)) (up_n (by decide)), RB_v h8 (up_n (by decide))⟩, ⟨by rw [up_a, up_a], by rw [up_a]; exact ⟨c, rfl, hc⟩⟩, ⟨T, hT, by rw [up_bn (by decide)]; exact hT2, by rw [up_bn (by decide)]; exact hT3⟩, by rw [up_bn (by decide), up_bn (by decide)]; exact h11, ⟨C, G, by rw [up_n (by decide)]; exact c1, by rw [up_bn (by decide)]; exact c2, by rw [up_n (by decide)]; exact c3, by rw [up_bn (by decide)]; exact c4, c5⟩, by rw [up_n (by decide), up_bn (by decide)]; exact h13, ⟨by rw [up_bn (by decide), up_bn (by decide)]; exact h14, by rw [up_bn (by decide), up_bn (by decide)]; exact h14b, by rw [up_bn (by decide), up_bn (by decide)]; exact h14c⟩, fun m hm => by rw [up_n (by decide), up_n (by decide)]; exact h15 m hm, fun k hk => by rw [up_n (by decide), up_n (by decide)]; exact h16 k hk⟩
  · have ehap : hapPW s r q t (nI j) (s (t + 1) (5 * j + 1)) (nI 2) = tofP s (s (t + 1) (5 * j + 1)) (s (t + 1) (5 * j + 2)) := by
      unfold hapPW
      rw [if_neg (by decide), if_neg (by decide), if_pos (show nI 2 = 2 from rfl), p2]
    have ecan : Rcan_13 v (nI j) (s (t + 1) (5 * j + 1)) (nI 2) = some (hasI (s 56 2) (s (t + 1) (5 * j + 2)), v) := by
      unfold Rcan_13
      rw [if_neg (by decide), if_neg (by decide), if_pos (show nI 2 = 2 from rfl), d2, Option.bind_some, yj_the h, Option.bind_some, hasI_rt]; rfl
    rw [ehap, ecan]
    unfold tofP
    by_cases z : hasI (s 56 2) (s (t + 1) (5 * j + 2)) = 0
    · rw [if_pos z]
      exact pc_s ⟨Iff.rfl, fun _ => e26, fun k => absurd z k⟩
    · rw [if_neg z]
      refine pc_s ⟨Iff.rfl, fun _ => e26, fun _ => ⟨e26, ?_⟩⟩
      show pc (Rdoes v (nI j)) _
      rw [doe v rfl rfl]
      obtain ⟨c, ec, hc⟩ := off et
      unfold Rdoes_13
      rw [if_neg (by decide), if_neg (by decide), if_pos (show nI 2 = 2 from rfl), d2, Option.bind_some, ec]
      refine pc_wrv (e := c) rfl (by omega) (by decide) (pc_s ?_)
      show YJ w r o n V g a17 a26 a29 (pt 3 s 59 (nI c) (s (t + 1) (5 * j + 2))) _
      rw [pt_e (by omega) (by decide)]
      obtain ⟨⟨h1, h2, h3, h4, h5⟩, ⟨h6, h7, h8⟩, h9, h10, h11, h12, h13, h14, h15, h16⟩ := h
      unfold YJ
      rw [up_n (show 56 ≠ 59 by decide), up_n (show 57 ≠ 59 by decide), up_n (show 58 ≠ 59 by decide), up_n (show 64 ≠ 68 by decide), up_n (show 65 ≠ 68 by decide), up_n (show 69 ≠ 68 by decide)]
      refine ⟨⟨fun c hc => (up_n (by omega)).trans (h1 c hc), h2, h3, h4, h5⟩, ⟨h6, RQ_v h7 (by rw [up_n (by decide)]) (up_n (by decide)), RB_v h8 (up_n (by decide))⟩, h9, h10, h11, h12, h13, h14, h15, fun k hk => ?_⟩
      by_cases q : k = c
      · subst q; rw [up_a, up_a]
      · rw [up_bn q, up_bn q]; exact h16 k hk
  · have ehap : hapPW s r q t (nI j) (s (t + 1) (5 * j + 1)) (nI 3) = disP s (s (t + 1) (5 * j + 1)) := by
      unfold hapPW
      rw [if_neg (by decide), if_neg (by decide), if_neg (by decide), if_pos (show nI 3 = 3 from rfl)]
    have ecan : Rcan_13 v (nI j) (s (t + 1) (5 * j + 1)) (nI 3) = some (hasI (s 56 2) (s (t + 1) (5 * j + 1)), v) := by
      unfold Rcan_13
      rw [if_neg (by decide), if_neg (by decide), if_neg (by decide), if_pos (show nI 3 = 3 from rfl), yj_the h, Option.bind_some, hasI_rt]; rfl
    rw [ehap, ecan]
    unfold disP
    by_cases z : hasI (s 56 2) (s (t + 1) (5 * j + 1)) = 0
    · rw [if_pos z]
      exact pc_s ⟨Iff.rfl, fun _ => e26, fun k => absurd z k⟩
    · rw [if_neg z]
      refine pc_s ⟨Iff.rfl, fun _ => e26, fun _ => ⟨e26, ?_⟩⟩
      show pc (Rdoes v (nI j)) _
      rw [doe v rfl rfl]
      obtain ⟨b, hb, eb⟩ := has_n z
      unfold Rdoes_13
      rw [if_neg (by decide), if_neg (by decide), if_neg (by decide), if_pos (show nI 3 = 3 from rfl), eb]
      refine pc_s ?_
      show YJ w r o n V g a17 a26 a29 (up s 56 2 (s 56 2 &&& ((1 <<< (nI b &&& 31)) ^^^ (-1)))) _
      obtain ⟨⟨h1, h2, h3, h4, h5⟩, ⟨h6, h7, h8⟩, ⟨h9, h9b⟩, ⟨T, hT, hT2, hT3⟩, h11, ⟨C, G, c1, c2, c3, c4, c5⟩, h13, ⟨h14, h14b, h14c⟩, h15, h16⟩ := h
      have hn := h7.2.1.1
      obtain ⟨t1, t2⟩ := th_c T (p2_64 hn hT) b hb
      exact ⟨⟨fun c hc => (up_n (by omega)).trans (h1 c hc), by rw [up_n (by decide)]; exact h2, by rw [up_bn (by decide)]; exact h3, by rw [up_bn (by decide)]; exact h4, by rw [up_bn (by decide)]; exact h5⟩, ⟨h6, RQ_v h7 (up_bn (by decide)) (up_n (by decide)), RB_v h8 (up_n (by decide))⟩, ⟨by rw [up_bn (by decide), up_bn (by decide)]; exact h9, by rw [up_bn (by decide)]; exact h9b⟩, ⟨T ^^^ (T &&& 2 ^ b), by omega, by rw [up_a, hT2]; exact t1, by rw [up_a, hT3]; exact t1⟩, by rw [up_bn (by decide), up_bn (by decide)]; exact h11, ⟨C, G, by rw [up_n (by decide)]; exact c1, by rw [up_bn (by decide)]; exact c2, by rw [up_n (by decide)]; exact c3, by rw [up_bn (by decide)]; exact c4, c5⟩, by rw [up_n (by decide), up_bn (by decide)]; exact h13, ⟨by rw [up_bn (by decide), up_bn (by decide)]; exact h14, by rw [up_bn (by decide), up_bn (by decide)]; exact h14b, by rw [up_bn (by decide), up_bn (by decide)]; exact h14c⟩, fun m hm => by rw [up_n (by decide), up_n (by decide)]; exact h15 m hm, fun k hk => by rw [up_n (by decide), up_n (by decide)]; exact h16 k hk⟩
  · have ehap : hapPW s r q t (nI j) (s (t + 1) (5 * j + 1)) (nI 4) = recP s r (s (t + 1) (5 * j + 1)) := by
      unfold hapPW
      rw [if_neg (by decide), if_neg (by decide), if_neg (by decide), if_neg (by decide), if_pos (show nI 4 = 4 from rfl)]
    have hn := rq.2.1.1
    obtain ⟨mn1, mn2⟩ := rq_mn (x := s (t + 1) (5 * j + 1)) rq
    have ecan : Rcan_13 v (nI j) (s (t + 1) (5 * j + 1)) (nI 4) = if inI (s (t + 1) (5 * j + 1)) 0 (nI n - 1) = 0 then some (0, v) else if hasI (s 56 2) (s (t + 1) (5 * j + 1)) = 0 then some (1, v) else some (0, v) := by
      unfold Rcan_13
      rw [if_neg (by decide), if_neg (by decide), if_neg (by decide), if_neg (by decide), if_pos (show nI 4 = 4 from rfl), mn1, Option.bind_some, yj_the h, Option.bind_some]
    rw [ehap, ecan]
    unfold recP
    by_cases z : inI (s (t + 1) (5 * j + 1)) 0 (nI n - 1) = 0
    · rw [if_pos z, if_pos (mn2.2 z)]
      exact pc_s ⟨Iff.rfl, fun _ => e26, fun k => absurd rfl k⟩
    rw [if_neg z, if_neg (fun q => z (mn2.1 q))]
    by_cases z2 : hasI (s 56 2) (s (t + 1) (5 * j + 1)) = 0
    · rw [if_pos z2, if_pos z2]
      refine pc_s ⟨Iff.rfl, fun _ => e26, fun _ => ⟨e26, ?_⟩⟩
      show pc (Rdoes v (nI j)) _
      rw [doe v rfl rfl]
      obtain ⟨b, eb, hb⟩ := inI_sub (by omega) z
      unfold Rdoes_13
      rw [if_neg (by decide), if_neg (by decide), if_neg (by decide), if_neg (by decide), if_pos (show nI 4 = 4 from rfl), eb]
      refine pc_wrv (e := b) rfl (by omega) (by decide) (pc_s ?_)
      show YJ w r o n V g a17 a26 a29 (pt 6 (up s 56 2 (s 56 2 ||| (1 <<< (nI b &&& 31)))) 58 (nI b) 0) _
      rw [pt_e (by omega) (by decide)]
      refine yj_58 ?_ (by omega)
      obtain ⟨⟨h1, h2, h3, h4, h5⟩, ⟨h6, h7, h8⟩, ⟨h9, h9b⟩, ⟨T, hT, hT2, hT3⟩, h11, ⟨C, G, c1, c2, c3, c4, c5⟩, h13, ⟨h14, h14b, h14c⟩, h15, h16⟩ := h
      obtain ⟨t1, t2⟩ := th_s n hn b hb T hT
      exact ⟨⟨fun c hc => (up_n (by omega)).trans (h1 c hc), by rw [up_n (by decide)]; exact h2, by rw [up_bn (by decide)]; exact h3, by rw [up_bn (by decide)]; exact h4, by rw [up_bn (by decide)]; exact h5⟩, ⟨h6, RQ_v h7 (up_bn (by decide)) (up_n (by decide)), RB_v h8 (up_n (by decide))⟩, ⟨by rw [up_bn (by decide), up_bn (by decide)]; exact h9, by rw [up_bn (by decide)]; exact h9b⟩, ⟨T ||| 2 ^ b, t2, by rw [up_a, hT2]; exact t1, by rw [up_a, hT3]; exact t1⟩, by rw [up_bn (by decide), up_bn (by decide)]; exact h11, ⟨C, G, by rw [up_n (by decide)]; exact c1, by rw [up_bn (by decide)]; exact c2, by rw [up_n (by decide)]; exact c3, by rw [up_bn (by decide)]; exact c4, c5⟩, by rw [up_n (by decide), up_bn (by decide)]; exact h13, ⟨by rw [up_bn (by decide), up_bn (by decide)]; exact h14, by rw [up_bn (by decide), up_bn (by decide)]; exact h14b, by rw [up_bn (by decide), up_bn (by decide)]; exact h14c⟩, fun m hm => by rw [up_n (by decide), up_n (by decide)]; exact h15 m hm, fun k hk => by rw [up_n (by decide), up_n (by decide)]; exact h16 k hk⟩
    · rw [if_neg z2, if_neg z2]
      exact pc_s ⟨Iff.rfl, fun _ => e26, fun k => absurd rfl k⟩
  · have ehap : hapPW s r q t (nI j) (s (t + 1) (5 * j + 1)) (nI 5) = (1, comS s) := by
      unfold hapPW
      rw [if_neg (by decide), if_neg (by decide), if_neg (by decide), if_neg (by decide), if_neg (by decide), if_pos (show nI 5 = 5 from rfl)]
    have ecan : Rcan_13 v (nI j) (s (t + 1) (5 * j + 1)) (nI 5) = some (1, v) := by
      unfold Rcan_13
      rw [if_neg (by decide), if_neg (by decide), if_neg (by decide), if_neg (by decide), if_neg (by decide)]
    rw [ehap, ecan]
    refine pc_s ⟨Iff.rfl, fun _ => e26, fun _ => ⟨e26, ?_⟩⟩
    show pc (Rdoes v (nI j)) _
    rw [doe v rfl rfl]
    unfold Rdoes_13
    rw [if_neg (by decide), if_neg (by decide), if_neg (by decide), if_neg (by decide), if_neg (by decide)]
    exact pc_s (yj_com h)
end DQS
end XVD
end
section
section XVF
variable {sc : Nat × (Nat → Int32)} {d : Nat} {K : List KD} {r q t a B m : Nat}
/-! bribes on both sides -/
section BRI
variable {s v : SG} {o n V b se D : Nat} {y1 y2 y3 y4 y5 y6 y7 : Int32}
theorem siz_n : ∀ x, x ≤ 9 → ∀ y, y ≤ 9 → NB (sizI (nI x - nI y)) 9 := by
  have h : ∀ x, x ≤ 9 → ∀ y, y ≤ 9 → sizI (nI x - nI y) = nI (if x ≤ y then y - x else x - y) := by decide +kernel
  intro x hx y hy
  refine ⟨_, h x hx y hy, ?_⟩
  split <;> omega
theorem gap_n : ∀ y, y < 28 → ∀ p, p < 100 → ∀ o, o < 28 → nI y - nI p < nI o → nI o - (nI y - nI p) = nI (o + p - y) := by decide +kernel
theorem bit_T : ∀ J, J < 64 → ∀ k, k < 6 → ((nI J >>> (nI k &&& 31)) &&& 1 = 1 ↔ J.testBit k = true) := by decide +kernel
theorem and_T : ∀ J, J < 64 → ∀ A, A < 64 → nI J &&& nI A = nI (J &&& A) := by decide +kernel
theorem or_T : ∀ k, k < 6 → ∀ A, A < 2 ^ k → (nI A ||| (1 <<< (nI k &&& 31)) = nI (A ||| 2 ^ k) ∧ A ||| 2 ^ k < 2 ^ (k + 1)) := by decide +kernel
/-- what is known of a motion on the reference's side -/
def MO (v : SG) (o n b se D : Nat) : Prop := RB v o ∧ (b < 6 ∧ se < 4 ∧ D < 1000) ∧ v 64 15 = nI b ∧ v 64 16 = nI se ∧ v 64 12 = nI (D / 100) ∧ v 64 13 = nI (D / 10 % 10) ∧ v 64 14 = nI (D % 10)
theorem mo_off {k : Nat} (h : RQ s r v o n V) (mo : MO v o n b se D) (hk : k < 6) : NB (ofoN v k) 27 := by
  obtain ⟨rb, ⟨hb, hse, hD⟩, e15, e16, e12, e13, e14⟩ := mo
  have es : seN v = se := by unfold seN; rw [e16, nI_clamp (by omega)]
  have w : ∀ i, i < 3 → NB (wnN v k se i) 9 := by
    intro i hi
    unfold wnN
    rw [rq_of h, show 16 + 18 * k + 3 * se + i = 16 + 18 * k + (3 * se + i) by omega]
    exact rb.2.2.2 k (3 * se + i) hk (by omega)
  obtain ⟨x0, f0, l0⟩ := w 0 (by omega)
  obtain ⟨x1, f1, l1⟩ := w 1 (by omega)
  obtain ⟨x2, f2, l2⟩ := w 2 (by omega)
  obtain ⟨z0, g0, k0⟩ := siz_n (D / 100) (by omega) x0 l0
  obtain ⟨z1, g1, k1⟩ := siz_n (D / 10 % 10) (by omega) x1 l1
  obtain ⟨z2, g2, k2⟩ := siz_n (D % 10) (by omega) x2 l2
  refine ⟨z0 + z1 + z2, ?_, by omega⟩
  unfold ofoN
  rw [es, e12, e13, e14, f0, f1, f2, g0, g1, g2, nI_add, nI_add]
/-- what one who does not agree costs: a small number -/
theorem mo_gap {k : Nat} (h : RQ s r v o n V) (mo : MO v o n b se D) (hk : k < n) (ng : agsN v k = 0) : NB (ofN v (10 + 18 * k + 3) * (ofoN v k - yieN v k)) 3402 := by
  have hn := h.2.1.1
  obtain ⟨x, ex, hx⟩ := mo_off h mo (k := k) (by omega)
  obtain ⟨rb, ⟨hb, hse, hD⟩, e15, e16, e12, e13, e14⟩ := mo
  obtain ⟨y, ey, hy⟩ := rb.2.2.1 k 1 (by omega) (by omega)
  obtain ⟨c, ec, hc⟩ := rb.2.2.1 k 3 (by omega) (by omega)
  obtain ⟨p0, ep0, hp0⟩ := rb.1 1 (by omega)
  have yie : ∃ p, p < 100 ∧ yieN v k = nI y - nI p := by
    unfold yieN
    rw [rq_of h, rq_of h, rq_of h]
    by_cases q : (v 65 (o + (10 + 18 * k + 5)) >>> (v 64 15 &&& 31)) &&& 1 = 1
    · rw [if_pos q]
      exact ⟨p0, by omega, by rw [ey, ← ep0]⟩
    · rw [if_neg q]
      exact ⟨0, by omega, by rw [ey]; rfl⟩
  obtain ⟨p, hp, ey2⟩ := yie
  have lt : yieN v k < ofoN v k := by
    unfold agsN at ng
    by_cases q : nI k = v 64 15
    · rw [if_pos q] at ng; exact absurd ng (by decide)
    · rw [if_neg q] at ng
      by_cases q2 : yieN v k < ofoN v k
      · exact q2
      · rw [if_neg q2] at ng; exact absurd ng (by decide)
  rw [ey2, ex] at lt
  have gp := gap_n y (by omega) p hp x (by omega) lt
  rw [ey2, ex, gp, rq_of h, ec, nI_mulx]
  refine ⟨_, rfl, ?_⟩
  exact Nat.le_trans (Nat.mul_le_mul hc (by omega : x + p - y ≤ 126)) (by decide)
/-- who agrees, bit by bit -/
theorem agm_b : ∀ k, k ≤ 6 → ∃ A, A < 2 ^ k ∧ agmN v k = nI A ∧ ∀ i, i < k → (A.testBit i = true ↔ ¬ agsN v i = 0) := by
  intro k
  induction k with
  | zero => intro _; exact ⟨0, by decide, rfl, fun i hi => absurd hi (by omega)⟩
  | succ k ih =>
    intro hk
    obtain ⟨A, hA, eA, bA⟩ := ih (by omega)
    rw [agmN, eA]
    by_cases c : agsN v k = 0
    · rw [if_pos c, or_0]
      have lt : A < 2 ^ (k + 1) := Nat.lt_of_lt_of_le hA (Nat.pow_le_pow_right (by decide) (by omega))
      refine ⟨A, lt, rfl, fun i hi => ?_⟩
      by_cases q : i = k
      · subst q
        rw [Nat.testBit_lt_two_pow hA]
        exact ⟨fun z => absurd z (by decide), fun z => absurd c z⟩
      · exact bA i (by omega)
    · rw [if_neg c]
      obtain ⟨o1, o2⟩ := or_T k (by omega) A hA
      refine ⟨A ||| 2 ^ k, o2, o1, fun i hi => ?_⟩
      rw [Nat.testBit_or, Nat.testBit_two_pow]
      by_cases q : i = k
      · subst q
        exact ⟨fun _ => c, fun _ => by simp⟩
      · have : decide (k = i) = false := by simp; omega
        rw [this, Bool.or_false]
        exact bA i (by omega)
theorem cost_4 {J : Nat} (h : RQ s r v o n V) (mo : MO v o n b se D) (hJ : J < 64) (hz : nI J &&& agmT v = 0) : ∀ (i j z c : Nat), j + i = n → c ≤ 3402 * j → pc (RcostOf_4 (RcostOf_R z) v (nI J) (nI c) (nI j)) (fun x => x = briIL s r i j (nI J) (nI b) (nI se) (nI D) (nI c) ∧ NB x (3402 * n)) := by
  have hn := h.2.1.1
  obtain ⟨_, e2, _⟩ := rq_n h
  have hb := mo.2.1.1
  have hse := mo.2.1.2.1
  have hD := mo.2.1.2.2
  obtain ⟨a0, a1, a2⟩ := amt_n D hD
  have e15 := mo.2.2.1
  have e16 := mo.2.2.2.1
  have e12 : v 64 12 = amtI (nI D) 0 := mo.2.2.2.2.1.trans a0.symm
  have e13 : v 64 13 = amtI (nI D) 1 := mo.2.2.2.2.2.1.trans a1.symm
  have e14 : v 64 14 = amtI (nI D) 2 := mo.2.2.2.2.2.2.trans a2.symm
  have hSE : SE v := ⟨by unfold seN; rw [e16, nI_clamp (by omega)], by unfold seN; rw [e16, nI_clamp (by omega)]; exact hse⟩
  intro i
  induction i with
  | zero =>
    intro j z c hj hc
    unfold RcostOf_4
    rw [q_ministers (rq_RH h), (rq_n h).1, Option.bind_some, if_pos (k_ge hj)]
    exact pc_s ⟨rfl, ⟨c, rfl, by rw [show n = j by omega]; exact hc⟩⟩
  | succ i ih =>
    intro j z c hj hc
    have go : ∀ c2 (Q : Int32 → Prop), c2 ≤ 3402 * (j + 1) → (∀ x, (x = briIL s r i (j + 1) (nI J) (nI b) (nI se) (nI D) (nI c2) ∧ NB x (3402 * n)) → Q x) → pc (RcostOf_R z v (nI J) (nI c2) (nI j + 1)) Q := by
      intro c2 Q h2 hq
      cases z with
      | zero => exact fun _ e => nomatch e
      | succ z =>
        show pc (RcostOf_4 (RcostOf_R z) v (nI J) (nI c2) (nI j + 1)) Q
        rw [← nI_succ]
        exact pc_w (ih (j + 1) z c2 (by omega) h2) hq
    unfold RcostOf_4
    rw [q_ministers (rq_RH h), (rq_n h).1, Option.bind_some, if_neg (k_lt hj (by omega)), briIL]
    by_cases c1 : (nI J >>> (nI j &&& 31)) &&& 1 = 1
    · have ng : agsN v j = 0 := by
        refine Decidable.byContradiction (fun g => ?_)
        obtain ⟨A, hA, eA, bA⟩ := agm_b (v := v) n hn
        have eT : agmT v = nI A := by unfold agmT; rw [e2]; exact eA
        rw [eT, and_T J hJ A (p2_64 hn hA)] at hz
        have l : J &&& A < 64 := Nat.lt_of_le_of_lt Nat.and_le_left hJ
        have z0 : J &&& A = 0 := nI_inj (b := 0) (by omega) (by decide) hz
        have t1 : J.testBit j = true := (bit_T J hJ j (by omega)).1 c1
        have t2 : A.testBit j = true := (bA j (by omega)).2 g
        have t3 : (J &&& A).testBit j = true := by rw [Nat.testBit_and, t1, t2]; rfl
        rw [z0, Nat.zero_testBit] at t3
        exact absurd t3 (by decide)
      have pr : cl 6 (s (r + 4)) (nI j) = ofN v (10 + 18 * j + 3) := by
        rw [cl_nI (by omega) (by decide), rq_of h]
        exact h.2.2.2.2.2.1 j 3 (by omega) (by omega)
      obtain ⟨g, eg, hg⟩ := mo_gap h mo (k := j) (by omega) ng
      rw [if_pos c1, if_neg (fun q => ((has_b (by omega)).1 q) c1), q_ofMinister (y := 3) (m := j) (a := 3) (rq_RH h) rfl rfl (by omega) (by decide), Option.bind_some, q_offOf (rq_RH h) hSE rfl (by omega), Option.bind_some, q_yields (rq_RH h) rfl (by omega), Option.bind_some, pr, rq_dis h (by omega) hse e16 e12 e13 e14, rq_pat h (by omega) hb e15, eg, nI_add]
      exact go (c + g) _ (by omega) (fun x hx => hx)
    · rw [if_neg c1, if_pos ((has_b (by omega)).2 c1), Int32.add_zero]
      exact go c _ (by omega) (fun x hx => hx)
theorem cost_v {J : Nat} (h : RQ s r v o n V) (mo : MO v o n b se D) (hJ : J < 64) (hz : nI J &&& agmT v = 0) : pc (RcostOf v (nI J)) (fun x => x = briI s r (nI J) (nI b) (nI se) (nI D) ∧ NB x 20412) := by
  have hn := h.2.1.1
  obtain ⟨_, _, e3⟩ := rq_n h
  unfold RcostOf briI
  rw [e3]
  refine pc_w (cost_4 h mo hJ hz n 0 xF 0 (by omega) (by omega)) (fun x hx => ⟨hx.1, ?_⟩)
  obtain ⟨c, ec, hc⟩ := hx.2
  exact ⟨c, ec, Nat.le_trans hc (Nat.mul_le_mul_left 3402 hn)⟩
theorem bri_33 (h : RQ s r v o n V) (zr : SZ s r) (mo : MO v o n b se D) (e18 : v 64 18 = allI s r) {k1 k4 k5 k6 : Int32} : ∀ (i j z : Nat) (y9 y10 c11 c12 : Int32), j + i = al s r + 1 → ((y9 = -1 ∧ c11 = -1 ∧ c12 = -1) ∨ ∃ J c, J < 64 ∧ c < 2 ^ 31 ∧ y9 = nI J ∧ c12 = nI J ∧ y10 = nI c ∧ c11 = nI c) → pc (Rbribe_33 (Rbribe_R z) v y1 y2 y3 y4 y5 y6 y7 (agmT v) y9 y10 (nI j)) (fun p => p.1 = brbIbL s r i j k1 (nI b) (nI se) k4 k5 k6 y7 (nI D) (agmT v) c11 c12) := by
  have hn := h.2.1.1
  have hal : al s r ≤ 63 := by
    unfold al
    have h6 := zr.2
    have : 2 ^ sz s r ≤ 2 ^ 6 := Nat.pow_le_pow_right (by decide) h6
    omega
  intro i
  induction i with
  | zero =>
    intro j z y9 y10 c11 c12 hj hr
    unfold Rbribe_33
    rw [bg_all h, Option.bind_some, if_pos (al_gt zr hj), brbIbL]
    rcases hr with ⟨e1, e2, e3⟩ | ⟨J, c, hJ, hc, e1, e2, e3, e4⟩
    · rw [e1, e2, e3, if_neg (show ¬ (0 : Int32) ≤ -1 by decide)]
      refine pc_s ?_
      split <;> rfl
    · rw [e1, e2, e3, e4, if_pos (show (0 : Int32) ≤ nI J from nI_le2 (a := 0) (by omega) (by omega))]
      by_cases g : y7 = 0
      · rw [if_pos g, if_pos g]; exact pc_s rfl
      · rw [if_neg g, if_neg g]; exact pc_s rfl
  | succ i ih =>
    intro j z y9 y10 c11 c12 hj hr
    have go : ∀ y9 y10 c11 c12, ((y9 = -1 ∧ c11 = -1 ∧ c12 = -1) ∨ ∃ J c, J < 64 ∧ c < 2 ^ 31 ∧ y9 = nI J ∧ c12 = nI J ∧ y10 = nI c ∧ c11 = nI c) → pc (Rbribe_R z v y1 y2 y3 y4 y5 y6 y7 (agmT v) y9 y10 (nI j + 1)) (fun p => p.1 = brbIbL s r i (j + 1) k1 (nI b) (nI se) k4 k5 k6 y7 (nI D) (agmT v) c11 c12) := by
      intro y9 y10 c11 c12 hr
      cases z with
      | zero => exact fun _ e => nomatch e
      | succ z =>
        show pc (Rbribe_33 (Rbribe_R z) v y1 y2 y3 y4 y5 y6 y7 (agmT v) y9 y10 (nI j + 1)) _
        rw [← nI_succ]
        exact ih (j + 1) z y9 y10 c11 c12 (by omega) hr
    unfold Rbribe_33
    rw [bg_all h, Option.bind_some, if_neg (al_le zr hj), brbIbL]
    by_cases c1 : nI j &&& agmT v = 0
    · rw [if_pos c1, if_pos c1, q_isPassed (rq_RH h) (rq_MZ h), Option.bind_some, rq_pas h e18]
      by_cases c2 : pasN v (agmT v ||| nI j) = 0
      · rw [if_pos c2, if_pos c2]; exact go _ _ _ _ hr
      · rw [if_neg c2, if_neg c2]
        refine pc_b (cost_v h mo (J := j) (by omega) c1) (fun x hx => ?_)
        obtain ⟨ex, c, ec, hc⟩ := hx
        rw [← ex]
        have tk : (nI j = -1 ∧ x = -1 ∧ nI j = -1) ∨ ∃ J c, J < 64 ∧ c < 2 ^ 31 ∧ nI j = nI J ∧ nI j = nI J ∧ x = nI c ∧ x = nI c := Or.inr ⟨j, c, by omega, by omega, rfl, rfl, ec, ec⟩
        rcases hr with ⟨e1, e2, e3⟩ | ⟨J, c', hJ, hc', e1, e2, e3, e4⟩
        · rw [e1, e2, if_pos (show (-1 : Int32) < 0 by decide), if_pos rfl]
          exact go _ _ _ _ tk
        · have n1 : ¬ nI J < 0 := nI_pos (by omega)
          have n2 : ¬ nI c' = -1 := fun q => absurd (show nI c' < 0 by rw [q]; decide) (nI_pos (by omega))
          rw [e1, e3, e4, if_neg n1, if_neg n2]
          by_cases c3 : x < nI c'
          · rw [if_pos c3, if_neg (Int32.not_le.mpr c3)]; exact go _ _ _ _ tk
          · rw [if_neg c3, if_pos (Int32.not_lt.mp c3), e2]
            exact go _ _ _ _ (Or.inr ⟨J, c', hJ, hc', rfl, rfl, rfl, rfl⟩)
    · rw [if_neg c1, if_neg c1]; exact go _ _ _ _ hr
end BRI
/-- the day of a motion that is -/
theorem day_n {x y z : Int32} (h : ¬ dayI x y z = -1) : ∃ D, D < 1000 ∧ dayI x y z = nI D := by
  have c : ¬ RareAmounts x y z = 0 := fun q => h (day_e.1.2 q)
  rw [day_e.2 c]
  unfold RareAmounts at c
  by_cases c1 : inI x 0 9 = 0
  · rw [if_pos c1] at c; exact absurd rfl c
  rw [if_neg c1] at c
  by_cases c2 : inI y 0 9 = 0
  · rw [if_pos c2] at c; exact absurd rfl c
  rw [if_neg c2] at c
  by_cases c3 : inI z 0 9 = 0
  · rw [if_pos c3] at c; exact absurd rfl c
  obtain ⟨i, ei, hi⟩ := inI_nI (b := 9) (by decide) c1
  obtain ⟨j, ej, hj⟩ := inI_nI (b := 9) (by decide) c2
  obtain ⟨k, ek, hk⟩ := inI_nI (b := 9) (by decide) c3
  refine ⟨100 * i + 10 * j + k, by omega, ?_⟩
  rw [ei, ej, ek]
  show (nI 100 * nI i + nI 10 * nI j) + nI k = _
  rw [nI_mulx, nI_mulx, nI_add, nI_add]
theorem mov_d {s : SG} {x y z u : Int32} {r : Nat} (h : movF s x y z u = some r) : ¬ u = -1 := by
  intro e
  unfold movF at h
  cases q : repO s x with
  | none => rw [q] at h; cases h
  | some r2 =>
    rw [q] at h
    replace h : movI s r2 y z u = some r := h
    unfold movI at h
    by_cases c1 : minI s r2 y = 0
    · rw [if_pos c1] at h; cases h
    rw [if_neg c1] at h
    by_cases c2 : issI z = 0
    · rw [if_pos c2] at h; cases h
    rw [if_neg c2, if_pos e] at h; cases h
theorem CE_bribe {s : SG} {x1 x2 x3 x4 x5 x6 x7 : Int32} (hP : wLoc SIM1) (h : INVP SIM1 K s) : ∃ v s1 s2, xN sc (d + 11) 112 [.inr (.inr (.inl (some 0))), .inl x1, .inl x2, .inl x3, .inl x4, .inl x5, .inl x6, .inl x7] (wl K s) = some (some (.inl v), wl K s1) ∧ xN sc (d + 11) 246 [.inr (.inr (.inl (some 64))), .inl x1, .inl x2, .inl x3, .inl x4, .inl x5, .inl x6, .inl x7] (wl K s1) = some (some (.inl v), wl K s2) ∧ INVP SIM1 K s2 := by
  have hK := INVP_SH h
  have hn := SIM_n.1 (INVP_P h)
  have rr := INVP_RI h
  have q2 := r_bribe (sc := sc) (d := d + 4) (s := s) (x1 := x1) (x2 := x2) (x3 := x3) (x4 := x4) (x5 := x5) (x6 := x6) (x7 := x7) hK
  obtain ⟨p, e2, qi⟩ : ok (Rbribe s x1 x2 x3 x4 x5 x6 x7) (fun p => QI s p.2) := bribe_ok rr
  rw [e2] at q2
  have I := INVP_q hP h (s1 := s) (fun _ _ => rfl) qi
  obtain ⟨w, ew, _⟩ := isMotion_ok (x := x1) (b := x2) (se := x3) (u := x4) (v := x5) (w := x6) rr
  unfold Rbribe at e2
  rw [ew, Option.bind_some] at e2
  rcases mot_v (x1 := x1) (x2 := x2) (x3 := x3) (x4 := x4) (x5 := x5) (x6 := x6) hn rr with ⟨c1, c2⟩ | ⟨j, b, se, hj, hb, hse, eb, es, c1, c2⟩
  · rw [if_pos (c2 w ew)] at e2
    have ep : p.1 = -1 := by cases e2; rfl
    exact ⟨p.1, s, p.2, by rw [ep]; exact c_brbI_a (sc := sc) (d := d + 7) (s := s) (x := x1) (who := x2) (se := x3) (u := x4) (v := x5) (z := x6) (g := x7) hK (TB_TV (INVP_TB h)) c1, q2, I⟩
  · obtain ⟨w1, n, V, hmn, rq, e15, e16, e12, e13, e14, e18, _, _, _, rb⟩ := c2 w ew
    obtain ⟨D, hD, eD⟩ := day_n (mov_d c1)
    obtain ⟨a0, a1, a2⟩ := amt_n D hD
    have mo : MO w.2 (610 + 118 * j) n b se D := ⟨rb, ⟨hb, hse, hD⟩, e15.trans eb, e16.trans es, by rw [e12, eD]; exact a0, by rw [e13, eD]; exact a1, by rw [e14, eD]; exact a2⟩
    have hSE : SE w.2 := ⟨by unfold seN; rw [e16, es, nI_clamp (by omega)], by unfold seN; rw [e16, es, nI_clamp (by omega)]; exact hse⟩
    have ag := rq_agr rq hb hse (e15.trans eb) (e16.trans es) e12 e13 e14
    rw [if_neg (show ¬ w.1 = 0 by rw [w1]; decide), q_agreeing (rq_RH rq) hSE (rq_MZ rq), Option.bind_some] at e2
    have zr : SZ s (6 + 8 * j) := by
      obtain ⟨_, _, e3⟩ := rq_n rq
      exact ⟨by rw [e3]; exact rq.2.2.1.1, by rw [e3]; exact rq.2.1.1⟩
    have cc := c_brbI_b (sc := sc) (d := d + 7) (s := s) (x := x1) (who := x2) (se := x3) (u := x4) (v := x5) (z := x6) (g := x7) (rp_j hK hj) hK (TB_TV (INVP_TB h)) c1 zr
    have fin := bri_33 (y1 := x1) (y2 := x2) (y3 := x3) (y4 := x4) (y5 := x5) (y6 := x6) (y7 := x7) (k1 := x1) (k4 := x4) (k5 := x5) (k6 := x6) rq zr mo e18 (al s (6 + 8 * j) + 1) 0 xF (-1) 0 (-1) (-1) (by omega) (Or.inl ⟨rfl, rfl, rfl⟩) p e2
    refine ⟨p.1, s, p.2, ?_, q2, I⟩
    rw [cc, fin]
    unfold brbIb
    rw [eb, es, ag, eD]
end XVF
end
