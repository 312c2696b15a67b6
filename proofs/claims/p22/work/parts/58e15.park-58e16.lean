section
section XTO
variable {sc : Nat × (Nat → Int32)} {d : Nat} {K : List KD} {r q t a B m : Nat} {w : EW}
/-! the lines of a republic -/
theorem RPA_g {n V T : Nat} {u v u2 v2 : SG} (h : RPA n V T u v) (eu : ∀ c, 44 ≤ c → c ≤ 51 → u2 c = u c) (e10 : u2 43 10 = u 43 10) (e11 : u2 43 11 = u 43 11) (e67 : v2 67 = v 67) (e9 : v2 64 9 = v 64 9) : RPA n V T u2 v2 := by
  obtain ⟨h1, ⟨h2, h3, h4⟩, h5, h6, ⟨h7, h8⟩, ⟨h9, h10⟩, h11, h12, h13, h14⟩ := h
  unfold RPA
  rw [e67, e10, e11, e9]
  refine ⟨h1, ⟨by rw [eu 44 (by omega) (by omega)]; exact h2, h3, h4⟩, fun i hi => ⟨by rw [eu 44 (by omega) (by omega)]; exact (h5 i hi).1, (h5 i hi).2⟩, fun k hk => ⟨by rw [eu 51 (by omega) (by omega)]; exact (h6 k hk).1, (h6 k hk).2⟩, ⟨fun m c hm hc => by rw [eu (45 + c) (by omega) (by omega)]; exact h7 m c hm hc, h8⟩, ⟨by rw [eu 44 (by omega) (by omega)]; exact h9, h10⟩, fun m hm => ⟨by rw [eu 50 (by omega) (by omega)]; exact (h11 m hm).1, (h11 m hm).2⟩, fun m i hm hi => ⟨by rw [eu 49 (by omega) (by omega)]; exact (h12 m i hm hi).1, (h12 m i hm hi).2⟩, h13, h14⟩
theorem tke_0 {s : SG} {line : Int32} : tkeS s 0 line = ttoS (takSW s line (cl 5 (s 55) 0) (cl 5 (s 55) 1) line) line := by
  unfold tkeS tkeSW takS
  rw [if_pos rfl]
/-- what lines tell of -/
theorem tto_a {s : SG} {line : Int32} {m T : Nat} (hl : line = 1 ∨ line = 2) (hm : m < 6) (hT : T < 64) (e0 : s 55 0 = nI m) (e11 : s 43 11 = nI T) : ttoS s line = up s 43 11 (nI (T ||| 2 ^ m)) := by
  have c0 : cl 5 (s 55) 0 = nI m := by rw [show cl 5 (s 55) 0 = s 55 0 from cl5 (k := 0) (by decide)]; exact e0
  have e := (tl_or T hT m hm).1
  unfold ttoS
  rcases hl with rfl | rfl
  · rw [if_pos rfl, if_neg (by decide), if_neg (by decide), c0, e11, e, or_0, up_up]
  · rw [if_neg (by decide), if_pos rfl, if_neg (by decide), if_neg (by decide), c0, e11, e, or_0, up_up]
theorem tto_3 {s : SG} {m m2 T : Nat} (hm : m < 6) (hm2 : m2 < 6) (hT : T < 64) (e0 : s 55 0 = nI m) (e1 : s 55 1 = nI m2) (e11 : s 43 11 = nI T) : ttoS s 3 = up s 43 11 (nI ((T ||| 2 ^ m) ||| 2 ^ m2)) := by
  have c0 : cl 5 (s 55) 0 = nI m := by rw [show cl 5 (s 55) 0 = s 55 0 from cl5 (k := 0) (by decide)]; exact e0
  have c1 : cl 5 (s 55) 1 = nI m2 := by rw [show cl 5 (s 55) 1 = s 55 1 from cl5 (k := 1) (by decide)]; exact e1
  have e := tl_or T hT m hm
  have e2 := (tl_or _ e.2 m2 hm2).1
  unfold ttoS
  rw [if_neg (by decide), if_neg (by decide), if_pos rfl, if_pos rfl, c0, c1, e11, e.1, e2, up_up]
/-! what each kind of line changes -/
section RPU
variable {n V T : Nat} {u v u2 v2 : SG}
/-- a told number -/
theorem RPA_num {i : Nat} {x : Int32} (h : RPA n V T u v) (hi : i < 5) (hx : NB x 99) (eu : ∀ c j, 43 ≤ c → c ≤ 51 → ¬ (c = 44 ∧ j = 9 + i) → ¬ (c = 43 ∧ j ≠ 10 ∧ j ≠ 11) → u2 c j = u c j) (e1 : u2 44 (9 + i) = x) (ev : ∀ j, j ≠ 1 + i → v2 67 j = v 67 j) (e2 : v2 67 (1 + i) = x) (e9 : v2 64 9 = v 64 9) : RPA n V T u2 v2 := by
  obtain ⟨h1, ⟨h2, h3, h4⟩, h5, h6, ⟨h7, h8⟩, ⟨h9, h10⟩, h11, h12, h13, h14⟩ := h
  have U : ∀ c j, 43 ≤ c → c ≤ 51 → (c = 43 → j = 10 ∨ j = 11) → (c = 44 → j ≠ 9 + i) → u2 c j = u c j := fun c j a b p q => eu c j a b (fun z => q z.1 z.2) (fun z => (p z.1).elim z.2.1 z.2.2)
  refine ⟨h1, ⟨by rw [U 44 0 (by omega) (by omega) (by omega) (by omega)]; exact h2, by rw [U 43 10 (by omega) (by omega) (by omega) (by omega)]; exact h3, by rw [ev 0 (by omega)]; exact h4⟩, fun k hk => ?_, fun k hk => ?_, ⟨fun m c hm hc => ?_, fun m c hm hc => ?_⟩, ⟨?_, fun m hm => ?_⟩, fun m hm => ?_, fun m j hm hj => ?_, ?_, by rw [e9]; exact h14⟩
  · by_cases q : k = i
    · subst q; rw [e1, e2]; exact ⟨rfl, hx⟩
    · rw [U 44 (9 + k) (by omega) (by omega) (by omega) (by omega), ev (1 + k) (by omega)]; exact h5 k hk
  · rw [U 51 k (by omega) (by omega) (by omega) (by omega), ev (6 + k) (by omega)]; exact h6 k hk
  · rw [U (45 + c) m (by omega) (by omega) (by omega) (by omega), ev _ (by omega)]; exact h7 m c hm hc
  · rw [ev _ (by omega)]; exact h8 m c hm hc
  · rw [U 44 8 (by omega) (by omega) (by omega) (by omega)]; exact h9
  · rw [ev _ (by omega)]; exact h10 m hm
  · rw [U 50 m (by omega) (by omega) (by omega) (by omega), ev _ (by omega)]; exact h11 m hm
  · rw [U 49 _ (by omega) (by omega) (by omega) (by omega), ev _ (by omega)]; exact h12 m j hm hj
  · rw [U 43 11 (by omega) (by omega) (by omega) (by omega)]; exact h13
/-- an office -/
theorem RPA_off {T2 i : Nat} {x : Int32} (h : RPA n V T u v) (hT : T2 < 64) (hi : i < 3) (hx : NB x 5) (eu : ∀ c j, 44 ≤ c → c ≤ 51 → ¬ (c = 51 ∧ j = i) → u2 c j = u c j) (e10 : u2 43 10 = u 43 10) (e11 : u2 43 11 = nI T2) (e1 : u2 51 i = x) (ev : ∀ j, j ≠ 6 + i → v2 67 j = v 67 j) (e2 : v2 67 (6 + i) = x) (e9 : v2 64 9 = gr T2) : RPA n V T2 u2 v2 := by
  obtain ⟨h1, ⟨h2, h3, h4⟩, h5, h6, ⟨h7, h8⟩, ⟨h9, h10⟩, h11, h12, h13, h14⟩ := h
  have U : ∀ c j, 44 ≤ c → c ≤ 51 → (c = 51 → j ≠ i) → u2 c j = u c j := fun c j a b q => eu c j a b (fun z => q z.1 z.2)
  refine ⟨⟨h1.1, h1.2.1, hT⟩, ⟨by rw [U 44 0 (by omega) (by omega) (by omega)]; exact h2, by rw [e10]; exact h3, by rw [ev 0 (by omega)]; exact h4⟩, fun k hk => ?_, fun k hk => ?_, ⟨fun m c hm hc => ?_, fun m c hm hc => ?_⟩, ⟨?_, fun m hm => ?_⟩, fun m hm => ?_, fun m j hm hj => ?_, e11, e9⟩
  · rw [U 44 (9 + k) (by omega) (by omega) (by omega), ev (1 + k) (by omega)]; exact h5 k hk
  · by_cases q : k = i
    · subst q; rw [e1, e2]; exact ⟨rfl, hx⟩
    · rw [U 51 k (by omega) (by omega) (by omega), ev (6 + k) (by omega)]; exact h6 k hk
  · rw [U (45 + c) m (by omega) (by omega) (by omega), ev _ (by omega)]; exact h7 m c hm hc
  · rw [ev _ (by omega)]; exact h8 m c hm hc
  · rw [U 44 8 (by omega) (by omega) (by omega)]; exact h9
  · rw [ev _ (by omega)]; exact h10 m hm
  · rw [U 50 m (by omega) (by omega) (by omega), ev _ (by omega)]; exact h11 m hm
  · rw [U 49 _ (by omega) (by omega) (by omega), ev _ (by omega)]; exact h12 m j hm hj
/-- a veto -/
theorem RPA_vet {T2 i : Nat} (h : RPA n V T u v) (hT : T2 < 64) (hi : i < 6) (eu : ∀ c j, 44 ≤ c → c ≤ 51 → ¬ (c = 44 ∧ j = 8) → u2 c j = u c j) (e10 : u2 43 10 = u 43 10) (e11 : u2 43 11 = nI T2) (e1 : u2 44 8 = nI (V ||| 2 ^ i)) (ev : ∀ j, j ≠ 14 + 18 * i → v2 67 j = v 67 j) (e2 : v2 67 (14 + 18 * i) = 1) (e9 : v2 64 9 = gr T2) : RPA n (V ||| 2 ^ i) T2 u2 v2 := by
  obtain ⟨h1, ⟨h2, h3, h4⟩, h5, h6, ⟨h7, h8⟩, ⟨h9, h10⟩, h11, h12, h13, h14⟩ := h
  have U : ∀ c j, 44 ≤ c → c ≤ 51 → (c = 44 → j ≠ 8) → u2 c j = u c j := fun c j a b q => eu c j a b (fun z => q z.1 z.2)
  refine ⟨⟨h1.1, (tl_or V h1.2.1 i hi).2, hT⟩, ⟨by rw [U 44 0 (by omega) (by omega) (by omega)]; exact h2, by rw [e10]; exact h3, by rw [ev 0 (by omega)]; exact h4⟩, fun k hk => ?_, fun k hk => ?_, ⟨fun m c hm hc => ?_, fun m c hm hc => ?_⟩, ⟨e1, fun m hm => ?_⟩, fun m hm => ?_, fun m j hm hj => ?_, e11, e9⟩
  · rw [U 44 (9 + k) (by omega) (by omega) (by omega), ev (1 + k) (by omega)]; exact h5 k hk
  · rw [U 51 k (by omega) (by omega) (by omega), ev (6 + k) (by omega)]; exact h6 k hk
  · rw [U (45 + c) m (by omega) (by omega) (by omega), ev _ (by omega)]; exact h7 m c hm hc
  · rw [ev _ (by omega)]; exact h8 m c hm hc
  · rw [vt_or V h1.2.1 i hi m hm]
    by_cases q : m = i
    · subst q; rw [e2]; simp
    · have q2 : (m == i) = false := by simpa using q
      rw [ev _ (by omega), q2, Bool.or_false]; exact h10 m hm
  · rw [U 50 m (by omega) (by omega) (by omega), ev _ (by omega)]; exact h11 m hm
  · rw [U 49 _ (by omega) (by omega) (by omega), ev _ (by omega)]; exact h12 m j hm hj
/-- a feud: one side of it -/
theorem RPA_feu {i : Nat} {x : Int32} (h : RPA n V T u v) (hi : i < 6) (hx : NB x 63) (eu : ∀ c j, 43 ≤ c → c ≤ 51 → ¬ (c = 50 ∧ j = i) → ¬ (c = 43 ∧ j ≠ 10 ∧ j ≠ 11) → u2 c j = u c j) (e1 : u2 50 i = x) (ev : ∀ j, j ≠ 15 + 18 * i → v2 67 j = v 67 j) (e2 : v2 67 (15 + 18 * i) = x) (e9 : v2 64 9 = v 64 9) : RPA n V T u2 v2 := by
  obtain ⟨h1, ⟨h2, h3, h4⟩, h5, h6, ⟨h7, h8⟩, ⟨h9, h10⟩, h11, h12, h13, h14⟩ := h
  have U : ∀ c j, 43 ≤ c → c ≤ 51 → (c = 43 → j = 10 ∨ j = 11) → (c = 50 → j ≠ i) → u2 c j = u c j := fun c j a b p q => eu c j a b (fun z => q z.1 z.2) (fun z => (p z.1).elim z.2.1 z.2.2)
  refine ⟨h1, ⟨by rw [U 44 0 (by omega) (by omega) (by omega) (by omega)]; exact h2, by rw [U 43 10 (by omega) (by omega) (by omega) (by omega)]; exact h3, by rw [ev 0 (by omega)]; exact h4⟩, fun k hk => ?_, fun k hk => ?_, ⟨fun m c hm hc => ?_, fun m c hm hc => ?_⟩, ⟨?_, fun m hm => ?_⟩, fun m hm => ?_, fun m j hm hj => ?_, ?_, by rw [e9]; exact h14⟩
  · rw [U 44 (9 + k) (by omega) (by omega) (by omega) (by omega), ev (1 + k) (by omega)]; exact h5 k hk
  · rw [U 51 k (by omega) (by omega) (by omega) (by omega), ev (6 + k) (by omega)]; exact h6 k hk
  · rw [U (45 + c) m (by omega) (by omega) (by omega) (by omega), ev _ (by omega)]; exact h7 m c hm hc
  · rw [ev _ (by omega)]; exact h8 m c hm hc
  · rw [U 44 8 (by omega) (by omega) (by omega) (by omega)]; exact h9
  · rw [ev _ (by omega)]; exact h10 m hm
  · by_cases q : m = i
    · subst q; rw [e1, e2]; exact ⟨rfl, hx⟩
    · rw [U 50 m (by omega) (by omega) (by omega) (by omega), ev _ (by omega)]; exact h11 m hm
  · rw [U 49 _ (by omega) (by omega) (by omega) (by omega), ev _ (by omega)]; exact h12 m j hm hj
  · rw [U 43 11 (by omega) (by omega) (by omega) (by omega)]; exact h13
/-- one want -/
theorem RPA_wan {i k : Nat} {x : Int32} (h : RPA n V T u v) (hi : i < 6) (hk : k < 12) (hx : NB x 9) (eu : ∀ c j, 43 ≤ c → c ≤ 51 → ¬ (c = 49 ∧ j = 12 * i + k) → ¬ (c = 43 ∧ j ≠ 10 ∧ j ≠ 11) → u2 c j = u c j) (e1 : u2 49 (12 * i + k) = x) (ev : ∀ j, j ≠ 16 + 18 * i + k → v2 67 j = v 67 j) (e2 : v2 67 (16 + 18 * i + k) = x) (e9 : v2 64 9 = v 64 9) : RPA n V T u2 v2 := by
  obtain ⟨h1, ⟨h2, h3, h4⟩, h5, h6, ⟨h7, h8⟩, ⟨h9, h10⟩, h11, h12, h13, h14⟩ := h
  have U : ∀ c j, 43 ≤ c → c ≤ 51 → (c = 43 → j = 10 ∨ j = 11) → (c = 49 → j ≠ 12 * i + k) → u2 c j = u c j := fun c j a b p q => eu c j a b (fun z => q z.1 z.2) (fun z => (p z.1).elim z.2.1 z.2.2)
  refine ⟨h1, ⟨by rw [U 44 0 (by omega) (by omega) (by omega) (by omega)]; exact h2, by rw [U 43 10 (by omega) (by omega) (by omega) (by omega)]; exact h3, by rw [ev 0 (by omega)]; exact h4⟩, fun j hj => ?_, fun j hj => ?_, ⟨fun m c hm hc => ?_, fun m c hm hc => ?_⟩, ⟨?_, fun m hm => ?_⟩, fun m hm => ?_, fun m j hm hj => ?_, ?_, by rw [e9]; exact h14⟩
  · rw [U 44 (9 + j) (by omega) (by omega) (by omega) (by omega), ev (1 + j) (by omega)]; exact h5 j hj
  · rw [U 51 j (by omega) (by omega) (by omega) (by omega), ev (6 + j) (by omega)]; exact h6 j hj
  · rw [U (45 + c) m (by omega) (by omega) (by omega) (by omega), ev _ (by omega)]; exact h7 m c hm hc
  · rw [ev _ (by omega)]; exact h8 m c hm hc
  · rw [U 44 8 (by omega) (by omega) (by omega) (by omega)]; exact h9
  · rw [ev _ (by omega)]; exact h10 m hm
  · rw [U 50 m (by omega) (by omega) (by omega) (by omega), ev _ (by omega)]; exact h11 m hm
  · by_cases q : m = i ∧ j = k
    · obtain ⟨rfl, rfl⟩ := q; rw [e1, e2]; exact ⟨rfl, hx⟩
    · rw [U 49 _ (by omega) (by omega) (by omega) (by omega), ev _ (by omega)]; exact h12 m j hm hj
  · rw [U 43 11 (by omega) (by omega) (by omega) (by omega)]; exact h13
/-- a minister more -/
theorem RPA_min {x : Nat → Int32} (h : RPA n V T u v) (hn : n < 6) (hx : ∀ c, c < 4 → NB (x c) 27) (eu : ∀ c j, 44 ≤ c → c ≤ 51 → ¬ (c = 44 ∧ j = 0) → ¬ (45 ≤ c ∧ c ≤ 48 ∧ j = n) → u2 c j = u c j) (e10 : u2 43 10 = nI (n + 1)) (e11 : u2 43 11 = u 43 11) (e0 : u2 44 0 = nI (n + 1)) (e1 : ∀ c, c < 4 → u2 (45 + c) n = x c) (ev : ∀ j, j ≠ 0 → (j < 10 + 18 * n ∨ 14 + 18 * n ≤ j) → v2 67 j = v 67 j) (ev0 : v2 67 0 = nI (n + 1)) (e2 : ∀ c, c < 4 → v2 67 (10 + 18 * n + c) = x c) (e9 : v2 64 9 = v 64 9) : RPA (n + 1) V T u2 v2 := by
  obtain ⟨h1, ⟨h2, h3, h4⟩, h5, h6, ⟨h7, h8⟩, ⟨h9, h10⟩, h11, h12, h13, h14⟩ := h
  have U : ∀ c j, 44 ≤ c → c ≤ 51 → (c = 44 → j ≠ 0) → (45 ≤ c → c ≤ 48 → j ≠ n) → u2 c j = u c j := fun c j a b p q => eu c j a b (fun z => p z.1 z.2) (fun z => q z.1 z.2.1 z.2.2)
  refine ⟨⟨by omega, h1.2⟩, ⟨e0, e10, ev0⟩, fun j hj => ?_, fun j hj => ?_, ⟨fun m c hm hc => ?_, fun m c hm hc => ?_⟩, ⟨?_, fun m hm => ?_⟩, fun m hm => ?_, fun m j hm hj => ?_, by rw [e11]; exact h13, by rw [e9]; exact h14⟩
  · rw [U 44 (9 + j) (by omega) (by omega) (by omega) (by omega), ev (1 + j) (by omega) (by omega)]; exact h5 j hj
  · rw [U 51 j (by omega) (by omega) (by omega) (by omega), ev (6 + j) (by omega) (by omega)]; exact h6 j hj
  · by_cases q : m = n
    · subst q; rw [e1 c hc, e2 c hc]
    · rw [U (45 + c) m (by omega) (by omega) (by omega) (by omega), ev _ (by omega) (by omega)]; exact h7 m c (by omega) hc
  · by_cases q : m = n
    · subst q; rw [e2 c hc]; exact hx c hc
    · rw [ev _ (by omega) (by omega)]; exact h8 m c hm hc
  · rw [U 44 8 (by omega) (by omega) (by omega) (by omega)]; exact h9
  · rw [ev _ (by omega) (by omega)]; exact h10 m hm
  · rw [U 50 m (by omega) (by omega) (by omega) (by omega), ev _ (by omega) (by omega)]; exact h11 m hm
  · rw [U 49 _ (by omega) (by omega) (by omega) (by omega), ev _ (by omega) (by omega)]; exact h12 m j hm hj
end RPU
/-- who was told of -/
theorem RPA_tld {n V T T2 : Nat} {u v u2 v2 : SG} (h : RPA n V T u v) (hT : T2 < 64) (eu : ∀ c, 44 ≤ c → c ≤ 51 → u2 c = u c) (e10 : u2 43 10 = u 43 10) (e11 : u2 43 11 = nI T2) (e67 : v2 67 = v 67) (e9 : v2 64 9 = gr T2) : RPA n V T2 u2 v2 := by
  obtain ⟨h1, ⟨h2, h3, h4⟩, h5, h6, ⟨h7, h8⟩, ⟨h9, h10⟩, h11, h12, h13, h14⟩ := h
  unfold RPA
  rw [e67, e10]
  refine ⟨⟨h1.1, h1.2.1, hT⟩, ⟨by rw [eu 44 (by omega) (by omega)]; exact h2, h3, h4⟩, fun i hi => ⟨by rw [eu 44 (by omega) (by omega)]; exact (h5 i hi).1, (h5 i hi).2⟩, fun k hk => ⟨by rw [eu 51 (by omega) (by omega)]; exact (h6 k hk).1, (h6 k hk).2⟩, ⟨fun m c hm hc => by rw [eu (45 + c) (by omega) (by omega)]; exact h7 m c hm hc, h8⟩, ⟨by rw [eu 44 (by omega) (by omega)]; exact h9, h10⟩, fun m hm => ⟨by rw [eu 50 (by omega) (by omega)]; exact (h11 m hm).1, (h11 m hm).2⟩, fun m i hm hi => ⟨by rw [eu 49 (by omega) (by omega)]; exact (h12 m i hm hi).1, (h12 m i hm hi).2⟩, e11, e9⟩
theorem NB_w {x : Int32} {a b : Nat} (h : NB x a) (l : a ≤ b) : NB x b := by
  obtain ⟨n, en, hn⟩ := h
  exact ⟨n, en, by omega⟩
theorem pt_e {n : Nat} {s : SG} {k i : Nat} {x : Int32} (hi : i < n) (hn : n < 2 ^ 31) : pt n s k (nI i) x = up s k i x := by
  unfold pt
  rw [if_neg (nI_pos (by omega)), if_neg (nI_ge (by omega) hn), nI_clamp (by omega)]
theorem w_223 {u v : SG} {y1 y2 : Int32} (hw : WE u v) : pc (RrepublicLine_223 v y1 y2) (fun w => WE u w) := by
  unfold RrepublicLine_223
  exact we_sem hw (pc_s hw)
section REP
variable {f : Nat → Int32} {L a a2 e2 : Nat} {u0 w0 : SG} {y1 y2 : Int32}
theorem RPS_4 {u1 u4 : SG} (ct : w0 65 7 = 0 → RPS u0 w0) (z : w0 65 7 = 0) (f1 : FRc u0 u1) (f2 : FRc u1 u4) : ∃ n V T, RPA n V T u4 w0 := by
  obtain ⟨n, V, T, h⟩ := ct z
  have f := FRc_tr f1 f2
  exact ⟨n, V, T, RPA_g h (fun c h1 h2 => f.1 c (by omega) (by omega)) (f.2 10 (by decide) (by decide) (by decide) (by decide) (by decide)) (f.2 11 (by decide) (by decide) (by decide) (by decide) (by decide)) rfl rfl⟩
theorem rep_5 (ha2 : a < a2) (sm : SM f L a2 e2 u0 w0) (ct : w0 65 7 = 0 → RPS u0 w0) : pc (RrepublicLine_14 w0 y1 y2 (nI 6)) (fun w => LE (QL f L a RPS) (rlC 0 (nI 5) [113, 59] u0 0) w) := by
  unfold RrepublicLine_14
  rw [if_neg (by decide), if_neg (by decide), if_neg (by decide), if_neg (by decide), if_neg (by decide), if_pos (show nI 6 = 6 from rfl)]
  refine LX_q sm (by omega) (fun u1 p b1 e1 x hb1 sm1 frc1 g1 frr1 hx nb => ?_) (fun _ _ hw => we_wri hw (fun _ h2 => w_223 (y1 := y1) (y2 := y2) h2))
  refine pc_wrv (e := 1) rfl (by decide) (by decide) ?_
  unfold RrepublicLine_223
  refine end_l (by omega) (SM_67 sm1 (fun c hc => up_n hc)) (fun z u4 w5 frc f55 frr => ?_)
  rw [up_n (by decide)] at z
  obtain ⟨z0, vx⟩ := hx z
  obtain ⟨n, V, T, rp⟩ := RPS_4 ct z0 frc1 frc
  have d0 : cl 5 (u4 55) 0 = p.1 := by rw [show cl 5 (u4 55) 0 = u4 55 0 from cl5 (k := 0) (by decide), f55, g1, upd_a, vx]
  have tk : takSW u4 (nI 5) (cl 5 (u4 55) 0) (cl 5 (u4 55) 1) (nI 5) = up u4 44 9 p.1 := by
    unfold takSW setN setNW
    rw [if_neg (by decide), if_neg (by decide), if_neg (by decide), if_neg (by decide), if_neg (by decide), d0]
    simp (decide := true) only [if_true, if_false]
  have e11 : up u4 44 9 p.1 43 11 = nI T := by rw [up_n (by decide)]; exact rp.2.2.2.2.2.2.2.2.1
  have et : tkeS u4 0 (nI 5) = up (up u4 44 9 p.1) 43 11 (nI T) := by
    rw [tke_0, tk]
    unfold ttoS
    rw [if_neg (by decide), if_neg (by decide), if_neg (by decide), if_neg (by decide), if_neg (by decide), e11, or_0, or_0, up_up]
  rw [et]
  have e67 := frr.1 67 (by decide) (by decide)
  refine ⟨fun j hj => by rw [up_bn hj, up_n (by decide)], by rw [up_n (by decide), up_n (by decide)], n, V, T, RPA_num (i := 0) (x := p.1) rp (by decide) (NB_w nb (by decide)) (fun c j h1 h2 h3 h4 => ?_) ?_ (fun j hj => ?_) ?_ ?_⟩
  · by_cases q : c = 43
    · subst q
      by_cases q2 : j = 11
      · subst q2; rw [up_a]; exact rp.2.2.2.2.2.2.2.2.1.symm
      · rw [up_bn q2, up_n (by decide)]
    · rw [up_n q]
      by_cases q3 : c = 44
      · subst q3; rw [up_bn (fun q4 => h3 ⟨rfl, q4⟩)]
      · rw [up_n q3]
  · rw [up_n (by decide), up_a]
  · rw [e67, up_bn hj, frr1.1 67 (by decide) (by decide)]
  · rw [e67, up_a]
  · rw [frr.2.2 9 (by omega), up_n (by decide), frr1.2.2 9 (by omega)]
theorem rep_6 (ha2 : a < a2) (sm : SM f L a2 e2 u0 w0) (ct : w0 65 7 = 0 → RPS u0 w0) : pc (RrepublicLine_14 w0 y1 y2 (nI 7)) (fun w => LE (QL f L a RPS) (rlC 0 (nI 6) [97, 59] u0 0) w) := by
  unfold RrepublicLine_14
  rw [if_neg (by decide), if_neg (by decide), if_neg (by decide), if_neg (by decide), if_neg (by decide), if_neg (by decide), if_pos (show nI 7 = 7 from rfl)]
  refine LX_a sm (by omega) (fun u1 p b1 e1 x hb1 sm1 frc1 g1 frr1 hx nb => ?_) (fun _ _ hw => we_wri hw (fun _ h2 => w_223 (y1 := y1) (y2 := y2) h2))
  refine pc_wrv (e := 2) rfl (by decide) (by decide) ?_
  unfold RrepublicLine_223
  refine end_l (by omega) (SM_67 sm1 (fun c hc => up_n hc)) (fun z u4 w5 frc f55 frr => ?_)
  rw [up_n (by decide)] at z
  obtain ⟨z0, vx⟩ := hx z
  obtain ⟨n, V, T, rp⟩ := RPS_4 ct z0 frc1 frc
  have d0 : cl 5 (u4 55) 0 = p.1 := by rw [show cl 5 (u4 55) 0 = u4 55 0 from cl5 (k := 0) (by decide), f55, g1, upd_a, vx]
  have tk : takSW u4 (nI 6) (cl 5 (u4 55) 0) (cl 5 (u4 55) 1) (nI 6) = up u4 44 10 p.1 := by
    unfold takSW setN setNW
    rw [if_neg (by decide), if_neg (by decide), if_neg (by decide), if_neg (by decide), if_neg (by decide), d0]
    simp (decide := true) only [if_true, if_false]
  have e11 : up u4 44 10 p.1 43 11 = nI T := by rw [up_n (by decide)]; exact rp.2.2.2.2.2.2.2.2.1
  have et : tkeS u4 0 (nI 6) = up (up u4 44 10 p.1) 43 11 (nI T) := by
    rw [tke_0, tk]
    unfold ttoS
    rw [if_neg (by decide), if_neg (by decide), if_neg (by decide), if_neg (by decide), if_neg (by decide), e11, or_0, or_0, up_up]
  rw [et]
  have e67 := frr.1 67 (by decide) (by decide)
  refine ⟨fun j hj => by rw [up_bn hj, up_n (by decide)], by rw [up_n (by decide), up_n (by decide)], n, V, T, RPA_num (i := 1) (x := p.1) rp (by decide) (NB_w nb (by decide)) (fun c j h1 h2 h3 h4 => ?_) ?_ (fun j hj => ?_) ?_ ?_⟩
  · by_cases q : c = 43
    · subst q
      by_cases q2 : j = 11
      · subst q2; rw [up_a]; exact rp.2.2.2.2.2.2.2.2.1.symm
      · rw [up_bn q2, up_n (by decide)]
    · rw [up_n q]
      by_cases q3 : c = 44
      · subst q3; rw [up_bn (fun q4 => h3 ⟨rfl, q4⟩)]
      · rw [up_n q3]
  · rw [up_n (by decide), up_a]
  · rw [e67, up_bn hj, frr1.1 67 (by decide) (by decide)]
  · rw [e67, up_a]
  · rw [frr.2.2 9 (by omega), up_n (by decide), frr1.2.2 9 (by omega)]
theorem rep_7 (ha2 : a < a2) (sm : SM f L a2 e2 u0 w0) (ct : w0 65 7 = 0 → RPS u0 w0) : pc (RrepublicLine_14 w0 y1 y2 (nI 8)) (fun w => LE (QL f L a RPS) (rlC 0 (nI 7) [104, 59] u0 0) w) := by
  unfold RrepublicLine_14
  rw [if_neg (by decide), if_neg (by decide), if_neg (by decide), if_neg (by decide), if_neg (by decide), if_neg (by decide), if_neg (by decide), if_pos (show nI 8 = 8 from rfl)]
  refine LX_h sm (by omega) (fun u1 p b1 e1 x hb1 sm1 frc1 g1 frr1 hx nb => ?_) (fun _ _ hw => we_wri hw (fun _ h2 => w_223 (y1 := y1) (y2 := y2) h2))
  refine pc_wrv (e := 3) rfl (by decide) (by decide) ?_
  unfold RrepublicLine_223
  refine end_l (by omega) (SM_67 sm1 (fun c hc => up_n hc)) (fun z u4 w5 frc f55 frr => ?_)
  rw [up_n (by decide)] at z
  obtain ⟨z0, vx⟩ := hx z
  obtain ⟨n, V, T, rp⟩ := RPS_4 ct z0 frc1 frc
  have d0 : cl 5 (u4 55) 0 = p.1 := by rw [show cl 5 (u4 55) 0 = u4 55 0 from cl5 (k := 0) (by decide), f55, g1, upd_a, vx]
  have tk : takSW u4 (nI 7) (cl 5 (u4 55) 0) (cl 5 (u4 55) 1) (nI 7) = up u4 44 11 p.1 := by
    unfold takSW setN setNW
    rw [if_neg (by decide), if_neg (by decide), if_neg (by decide), if_neg (by decide), if_neg (by decide), d0]
    simp (decide := true) only [if_true, if_false]
  have e11 : up u4 44 11 p.1 43 11 = nI T := by rw [up_n (by decide)]; exact rp.2.2.2.2.2.2.2.2.1
  have et : tkeS u4 0 (nI 7) = up (up u4 44 11 p.1) 43 11 (nI T) := by
    rw [tke_0, tk]
    unfold ttoS
    rw [if_neg (by decide), if_neg (by decide), if_neg (by decide), if_neg (by decide), if_neg (by decide), e11, or_0, or_0, up_up]
  rw [et]
  have e67 := frr.1 67 (by decide) (by decide)
  refine ⟨fun j hj => by rw [up_bn hj, up_n (by decide)], by rw [up_n (by decide), up_n (by decide)], n, V, T, RPA_num (i := 2) (x := p.1) rp (by decide) (NB_w nb (by decide)) (fun c j h1 h2 h3 h4 => ?_) ?_ (fun j hj => ?_) ?_ ?_⟩
  · by_cases q : c = 43
    · subst q
      by_cases q2 : j = 11
      · subst q2; rw [up_a]; exact rp.2.2.2.2.2.2.2.2.1.symm
      · rw [up_bn q2, up_n (by decide)]
    · rw [up_n q]
      by_cases q3 : c = 44
      · subst q3; rw [up_bn (fun q4 => h3 ⟨rfl, q4⟩)]
      · rw [up_n q3]
  · rw [up_n (by decide), up_a]
  · rw [e67, up_bn hj, frr1.1 67 (by decide) (by decide)]
  · rw [e67, up_a]
  · rw [frr.2.2 9 (by omega), up_n (by decide), frr1.2.2 9 (by omega)]
theorem rep_8 (ha2 : a < a2) (sm : SM f L a2 e2 u0 w0) (ct : w0 65 7 = 0 → RPS u0 w0) : pc (RrepublicLine_14 w0 y1 y2 (nI 9)) (fun w => LE (QL f L a RPS) (rlC 0 (nI 8) [104, 59] u0 0) w) := by
  unfold RrepublicLine_14
  rw [if_neg (by decide), if_neg (by decide), if_neg (by decide), if_neg (by decide), if_neg (by decide), if_neg (by decide), if_neg (by decide), if_neg (by decide), if_pos (show nI 9 = 9 from rfl)]
  refine LX_h sm (by omega) (fun u1 p b1 e1 x hb1 sm1 frc1 g1 frr1 hx nb => ?_) (fun _ _ hw => we_wri hw (fun _ h2 => w_223 (y1 := y1) (y2 := y2) h2))
  refine pc_wrv (e := 4) rfl (by decide) (by decide) ?_
  unfold RrepublicLine_223
  refine end_l (by omega) (SM_67 sm1 (fun c hc => up_n hc)) (fun z u4 w5 frc f55 frr => ?_)
  rw [up_n (by decide)] at z
  obtain ⟨z0, vx⟩ := hx z
  obtain ⟨n, V, T, rp⟩ := RPS_4 ct z0 frc1 frc
  have d0 : cl 5 (u4 55) 0 = p.1 := by rw [show cl 5 (u4 55) 0 = u4 55 0 from cl5 (k := 0) (by decide), f55, g1, upd_a, vx]
  have tk : takSW u4 (nI 8) (cl 5 (u4 55) 0) (cl 5 (u4 55) 1) (nI 8) = up u4 44 12 p.1 := by
    unfold takSW setN setNW
    rw [if_neg (by decide), if_neg (by decide), if_neg (by decide), if_neg (by decide), if_neg (by decide), d0]
    simp (decide := true) only [if_true, if_false]
  have e11 : up u4 44 12 p.1 43 11 = nI T := by rw [up_n (by decide)]; exact rp.2.2.2.2.2.2.2.2.1
  have et : tkeS u4 0 (nI 8) = up (up u4 44 12 p.1) 43 11 (nI T) := by
    rw [tke_0, tk]
    unfold ttoS
    rw [if_neg (by decide), if_neg (by decide), if_neg (by decide), if_neg (by decide), if_neg (by decide), e11, or_0, or_0, up_up]
  rw [et]
  have e67 := frr.1 67 (by decide) (by decide)
  refine ⟨fun j hj => by rw [up_bn hj, up_n (by decide)], by rw [up_n (by decide), up_n (by decide)], n, V, T, RPA_num (i := 3) (x := p.1) rp (by decide) (NB_w nb (by decide)) (fun c j h1 h2 h3 h4 => ?_) ?_ (fun j hj => ?_) ?_ ?_⟩
  · by_cases q : c = 43
    · subst q
      by_cases q2 : j = 11
      · subst q2; rw [up_a]; exact rp.2.2.2.2.2.2.2.2.1.symm
      · rw [up_bn q2, up_n (by decide)]
    · rw [up_n q]
      by_cases q3 : c = 44
      · subst q3; rw [up_bn (fun q4 => h3 ⟨rfl, q4⟩)]
      · rw [up_n q3]
  · rw [up_n (by decide), up_a]
  · rw [e67, up_bn hj, frr1.1 67 (by decide) (by decide)]
  · rw [e67, up_a]
  · rw [frr.2.2 9 (by omega), up_n (by decide), frr1.2.2 9 (by omega)]
theorem rep_9 (ha2 : a < a2) (sm : SM f L a2 e2 u0 w0) (ct : w0 65 7 = 0 → RPS u0 w0) : pc (RrepublicLine_14 w0 y1 y2 (nI 10)) (fun w => LE (QL f L a RPS) (rlC 0 (nI 9) [104, 59] u0 0) w) := by
  unfold RrepublicLine_14
  rw [if_neg (by decide), if_neg (by decide), if_neg (by decide), if_neg (by decide), if_neg (by decide), if_neg (by decide), if_neg (by decide), if_neg (by decide), if_neg (by decide), if_pos (show nI 10 = 10 from rfl)]
  refine LX_h sm (by omega) (fun u1 p b1 e1 x hb1 sm1 frc1 g1 frr1 hx nb => ?_) (fun _ _ hw => we_wri hw (fun _ h2 => w_223 (y1 := y1) (y2 := y2) h2))
  refine pc_wrv (e := 5) rfl (by decide) (by decide) ?_
  unfold RrepublicLine_223
  refine end_l (by omega) (SM_67 sm1 (fun c hc => up_n hc)) (fun z u4 w5 frc f55 frr => ?_)
  rw [up_n (by decide)] at z
  obtain ⟨z0, vx⟩ := hx z
  obtain ⟨n, V, T, rp⟩ := RPS_4 ct z0 frc1 frc
  have d0 : cl 5 (u4 55) 0 = p.1 := by rw [show cl 5 (u4 55) 0 = u4 55 0 from cl5 (k := 0) (by decide), f55, g1, upd_a, vx]
  have tk : takSW u4 (nI 9) (cl 5 (u4 55) 0) (cl 5 (u4 55) 1) (nI 9) = up u4 44 13 p.1 := by
    unfold takSW setN setNW
    rw [if_neg (by decide), if_neg (by decide), if_neg (by decide), if_neg (by decide), if_neg (by decide), d0]
    simp (decide := true) only [if_true, if_false]
  have e11 : up u4 44 13 p.1 43 11 = nI T := by rw [up_n (by decide)]; exact rp.2.2.2.2.2.2.2.2.1
  have et : tkeS u4 0 (nI 9) = up (up u4 44 13 p.1) 43 11 (nI T) := by
    rw [tke_0, tk]
    unfold ttoS
    rw [if_neg (by decide), if_neg (by decide), if_neg (by decide), if_neg (by decide), if_neg (by decide), e11, or_0, or_0, up_up]
  rw [et]
  have e67 := frr.1 67 (by decide) (by decide)
  refine ⟨fun j hj => by rw [up_bn hj, up_n (by decide)], by rw [up_n (by decide), up_n (by decide)], n, V, T, RPA_num (i := 4) (x := p.1) rp (by decide) (NB_w nb (by decide)) (fun c j h1 h2 h3 h4 => ?_) ?_ (fun j hj => ?_) ?_ ?_⟩
  · by_cases q : c = 43
    · subst q
      by_cases q2 : j = 11
      · subst q2; rw [up_a]; exact rp.2.2.2.2.2.2.2.2.1.symm
      · rw [up_bn q2, up_n (by decide)]
    · rw [up_n q]
      by_cases q3 : c = 44
      · subst q3; rw [up_bn (fun q4 => h3 ⟨rfl, q4⟩)]
      · rw [up_n q3]
  · rw [up_n (by decide), up_a]
  · rw [e67, up_bn hj, frr1.1 67 (by decide) (by decide)]
  · rw [e67, up_a]
  · rw [frr.2.2 9 (by omega), up_n (by decide), frr1.2.2 9 (by omega)]
theorem rep_2 (ha2 : a < a2) (sm : SM f L a2 e2 u0 w0) (ct : w0 65 7 = 0 → RPS u0 w0) : pc (RrepublicLine_14 w0 y1 y2 (nI 3)) (fun w => LE (QL f L a RPS) (rlC 0 (nI 2) [109, 59] u0 0) w) := by
  unfold RrepublicLine_14
  rw [if_neg (by decide), if_neg (by decide), if_pos (show nI 3 = 3 from rfl)]
  refine LX_min sm (by omega) (fun u1 w1 b1 e1 m x hb1 sm1 frc1 g1 frm1 e9 hx hm => ?_) (fun _ _ hw => we_wri hw (fun _ h2 => w_223 (y1 := y1) (y2 := y2) h2))
  try dsimp only
  refine pc_wrv (e := 14 + 18 * m) (by show nI 10 + nI 18 * nI m + nI 4 = _; rw [nI_mulx, nI_add, nI_add]; congr 1; omega) (by omega) (by decide) ?_
  unfold RrepublicLine_223
  refine end_l (by omega) (SM_67 sm1 (fun c hc => up_n hc)) (fun z u4 w5 frc f55 frr => ?_)
  rw [up_n (by decide)] at z
  obtain ⟨z0, vx⟩ := hx z
  obtain ⟨n, V, T, rp⟩ := RPS_4 ct z0 frc1 frc
  have d0 : u4 55 0 = nI m := by rw [f55, g1, upd_a, vx]
  have hV := tl_or V rp.1.2.1 m (by omega)
  have hT := tl_or T rp.1.2.2 m (by omega)
  have tk : takSW u4 (nI 2) (cl 5 (u4 55) 0) (cl 5 (u4 55) 1) (nI 2) = up u4 44 8 (nI (V ||| 2 ^ m)) := by
    unfold takSW
    rw [if_neg (by decide), if_neg (by decide), if_pos (show nI 2 = 2 from rfl), show cl 5 (u4 55) 0 = u4 55 0 from cl5 (k := 0) (by decide), d0, rp.2.2.2.2.2.1.1, hV.1]
  have et : tkeS u4 0 (nI 2) = up (up u4 44 8 (nI (V ||| 2 ^ m))) 43 11 (nI (T ||| 2 ^ m)) := by
    rw [tke_0, tk]
    exact tto_a (Or.inr rfl) (by omega) rp.1.2.2 (by rw [up_n (by decide)]; exact d0) (by rw [up_n (by decide)]; exact rp.2.2.2.2.2.2.2.2.1)
  rw [et]
  have e67 := frr.1 67 (by decide) (by decide)
  refine ⟨fun j hj => by rw [up_bn hj, up_n (by decide)], by rw [up_n (by decide), up_n (by decide)], n, V ||| 2 ^ m, T ||| 2 ^ m, RPA_vet (i := m) rp hT.2 (by omega) (fun c j h1 h2 h3 => ?_) ?_ up_a ?_ (fun j hj => ?_) ?_ ?_⟩
  · rw [up_n (by omega)]
    by_cases q : c = 44
    · subst q; rw [up_bn (fun q2 => h3 ⟨rfl, q2⟩)]
    · rw [up_n q]
  · rw [up_bn (by decide), up_n (by decide)]
  · rw [up_n (by decide), up_a]
  · rw [e67, up_bn hj, frm1.1 67 (by decide) (by decide)]
  · rw [e67, up_a]
  · rw [frr.2.2 9 (by omega), up_n (by decide), e9, rp.2.2.2.2.2.2.2.2.2]; exact gr_or T rp.1.2.2 m (by omega)
theorem rep_4 (ha2 : a < a2) (sm : SM f L a2 e2 u0 w0) (ct : w0 65 7 = 0 → RPS u0 w0) : pc (RrepublicLine_14 w0 y1 y2 (nI 5)) (fun w => LE (QL f L a RPS) (rlC 0 (nI 4) [107, 109, 59] u0 0) w) := by
  unfold RrepublicLine_14
  rw [if_neg (by decide), if_neg (by decide), if_neg (by decide), if_neg (by decide), if_pos (show nI 5 = 5 from rfl)]
  refine LX_kin sm (by omega) (fun u1 w1 b1 e1 k hb1 hk sm1 frc1 g1 frr1 h65 => ?_) (fun _ _ hw => we_min hw (fun _ _ h2 => pc_i (fun z => absurd z h2.1) (fun _ => w_223 (y1 := y1) (y2 := y2) h2)))
  try dsimp only
  refine LX_min sm1 (by omega) (fun u2 w2 b2 e2 m x hb2 sm2 frc2 g2 frm2 e9 hx hm => ?_) (fun _ _ hw => pc_i (fun z => absurd z hw.1) (fun _ => w_223 (y1 := y1) (y2 := y2) hw))
  try dsimp only
  rw [if_pos sm2.2.2.1]
  refine pc_wrv (e := 6 + k) (nI_add 6 k) (by omega) (by decide) ?_
  unfold RrepublicLine_223
  refine end_l (by omega) (SM_67 sm2 (fun c hc => up_n hc)) (fun z u4 w5 frc f55 frr => ?_)
  rw [up_n (by decide)] at z
  obtain ⟨z1, vx⟩ := hx z
  rw [h65] at z1
  obtain ⟨n, V, T, rp⟩ := RPS_4 ct z1 frc1 (FRc_tr frc2 frc)
  have d0 : u4 55 0 = nI k := by rw [f55, g2, upd_b (by decide), g1, upd_a]
  have d1 : u4 55 1 = nI m := by rw [f55, g2, upd_a, vx]
  have hT := tl_or T rp.1.2.2 m (by omega)
  have tk : takSW u4 (nI 4) (cl 5 (u4 55) 0) (cl 5 (u4 55) 1) (nI 4) = up u4 51 k (nI m) := by
    unfold takSW
    rw [if_neg (by decide), if_neg (by decide), if_neg (by decide), if_neg (by decide), if_pos (show nI 4 = 4 from rfl), show cl 5 (u4 55) 0 = u4 55 0 from cl5 (k := 0) (by decide), show cl 5 (u4 55) 1 = u4 55 1 from cl5 (k := 1) (by decide), d0, d1, pt_e (by omega) (by decide)]
  have et : tkeS u4 0 (nI 4) = up (up u4 51 k (nI m)) 43 11 (nI (T ||| 2 ^ m)) := by
    rw [tke_0, tk]
    unfold ttoS
    rw [if_neg (by decide), if_neg (by decide), if_neg (by decide), if_neg (by decide), if_pos (show nI 4 = 4 from rfl), show cl 5 (up u4 51 k (nI m) 55) 1 = nI m by rw [up_n (by decide), show cl 5 (u4 55) 1 = u4 55 1 from cl5 (k := 1) (by decide), d1], or_0, up_n (by decide), rp.2.2.2.2.2.2.2.2.1, hT.1, up_up]
  rw [et]
  have e67 := frr.1 67 (by decide) (by decide)
  refine ⟨fun j hj => by rw [up_bn hj, up_n (by decide)], by rw [up_n (by decide), up_n (by decide)], n, V, T ||| 2 ^ m, RPA_off (i := k) (x := nI m) rp hT.2 (by omega) ⟨m, rfl, hm⟩ (fun c j h1 h2 h3 => ?_) ?_ up_a ?_ (fun j hj => ?_) ?_ ?_⟩
  · rw [up_n (by omega)]
    by_cases q : c = 51
    · subst q; rw [up_bn (fun q2 => h3 ⟨rfl, q2⟩)]
    · rw [up_n q]
  · rw [up_bn (by decide), up_n (by decide)]
  · rw [up_n (by decide), up_a]
  · rw [e67, up_bn hj, frm2.1 67 (by decide) (by decide), frr1.1 67 (by decide) (by decide)]
  · rw [e67, up_a]
  · rw [frr.2.2 9 (by omega), up_n (by decide), e9, frr1.2.2 9 (by omega), rp.2.2.2.2.2.2.2.2.2]; exact gr_or T rp.1.2.2 m (by omega)
theorem sh3 {c1 c2 c3 : Prop} [Decidable c1] [Decidable c2] [Decidable c3] {α β : Type} {A B : Option α} {g : α → Option β} : (if c1 then (if c2 then (if c3 then A else B) else B) else B).bind g = (if c1 then (if c2 then (if c3 then A.bind g else B.bind g) else B.bind g) else B.bind g) := by
  by_cases k1 : c1
  · rw [if_pos k1, if_pos k1]
    by_cases k2 : c2
    · rw [if_pos k2, if_pos k2]
      by_cases k3 : c3
      · rw [if_pos k3, if_pos k3]
      · rw [if_neg k3, if_neg k3]
    · rw [if_neg k2, if_neg k2]
  · rw [if_neg k1, if_neg k1]
theorem w_37 {u v : SG} {x : Int32} (hw : WE u v) : pc ((RfeudLine_37 v x).bind fun s => RrepublicLine_223 s y1 y2) (fun w => WE u w) := by
  unfold RfeudLine_37
  refine pc_as (we_min hw (fun _ _ h2 => pc_as (pc_rd (fun _ => pc_as (we_wri h2 (fun _ h3 => pc_as (pc_rd (fun _ => pc_as (we_wri h3 (fun _ h4 => ?_))))))))))
  exact w_223 (y1 := y1) (y2 := y2) h4
theorem rep_3 (ha2 : a < a2) (sm : SM f L a2 e2 u0 w0) (ct : w0 65 7 = 0 → RPS u0 w0) : pc (RrepublicLine_14 w0 y1 y2 (nI 4)) (fun w => LE (QL f L a RPS) (rlC 0 (nI 3) [109, 102, 59] u0 0) w) := by
  unfold RrepublicLine_14
  rw [if_neg (by decide), if_neg (by decide), if_neg (by decide), if_pos (show nI 4 = 4 from rfl)]
  unfold RfeudLine
  refine pc_as ?_
  refine LX_min sm (by omega) (fun u1 w1 b1 e1 m x hb1 sm1 frc1 g1 frm1 e9 hx hm => ?_) (fun _ _ hw => ?_)
  try dsimp only
  · show pc ((if (w1 64 8) = 0 then (if (w1 64 5) = 1 then (if (w1 64 6) = nI m then ((Ralso w1 2 (w1 64 4)).bind fun s2 => RfeudLine_37 s2 (nI m)) else RfeudLine_37 w1 (nI m)) else RfeudLine_37 w1 (nI m)) else RfeudLine_37 w1 (nI m)).bind fun s => RrepublicLine_223 s y1 y2) _
    rw [sh3, show (((Ralso w1 2 (w1 64 4)).bind fun s2 => RfeudLine_37 s2 (nI m)).bind fun s => RrepublicLine_223 s y1 y2) = (Ralso w1 2 (w1 64 4)).bind (fun s2 => (RfeudLine_37 s2 (nI m)).bind fun s => RrepublicLine_223 s y1 y2) by cases Ralso w1 2 (w1 64 4) <;> rfl]
    refine LX_feu (X := fun s => (RfeudLine_37 s (nI m)).bind fun s => RrepublicLine_223 s y1 y2) (k := fun p1 => ((rdI p1.2 67 201 ((10 + (18 * nI m)) + 5)).bind fun g2 => (wrI p1.2 67 201 ((10 + (18 * nI m)) + 5) (g2 ||| (1 <<< (p1.1 &&& 31)))).bind fun s3 => (rdI s3 67 201 ((10 + (18 * p1.1)) + 5)).bind fun g4 => (wrI s3 67 201 ((10 + (18 * p1.1)) + 5) (g4 ||| (1 <<< (nI m &&& 31)))).bind fun s5 => some s5).bind fun s => RrepublicLine_223 s y1 y2) sm1 (fun s => by unfold RfeudLine_37; cases RministerTold s <;> rfl) (fun z => by rw [g1, upd_a]; exact (hx z).2) (fun u2 w2 b2 e2 m2 x2 hb2 sm2 frc2 g2 frm2 e92 hx2 hm2 => ?_) (fun _ _ hw => pc_as (pc_rd (fun _ => pc_as (we_wri hw (fun _ h3 => pc_as (pc_rd (fun _ => pc_as (we_wri h3 (fun _ h4 => w_223 (y1 := y1) (y2 := y2) h4)))))))))
    have i1 : ∀ k : Nat, (10 : Int32) + 18 * nI k + 5 = nI (15 + 18 * k) := by
      intro k
      show nI 10 + nI 18 * nI k + nI 5 = _
      rw [nI_mulx, nI_add, nI_add]; congr 1; omega
    show pc (((rdI w2 67 201 ((10 + (18 * nI m)) + 5)).bind fun g2 => (wrI w2 67 201 ((10 + (18 * nI m)) + 5) (g2 ||| (1 <<< (nI m2 &&& 31)))).bind fun s3 => (rdI s3 67 201 ((10 + (18 * nI m2)) + 5)).bind fun g4 => (wrI s3 67 201 ((10 + (18 * nI m2)) + 5) (g4 ||| (1 <<< (nI m &&& 31)))).bind fun s5 => some s5).bind fun s => RrepublicLine_223 s y1 y2) _
    rw [i1 m, i1 m2]
    refine pc_as (pc_rdv (e := 15 + 18 * m) rfl (by omega) (by decide) (pc_as (pc_wrv (e := 15 + 18 * m) rfl (by omega) (by decide) (pc_as (pc_rdv (e := 15 + 18 * m2) rfl (by omega) (by decide) (pc_as (pc_wrv (e := 15 + 18 * m2) rfl (by omega) (by decide) ?_)))))))
    show pc (RrepublicLine_223 (up (up w2 67 (15 + 18 * m) (w2 67 (15 + 18 * m) ||| (1 <<< (nI m2 &&& 31)))) 67 (15 + 18 * m2) (up w2 67 (15 + 18 * m) (w2 67 (15 + 18 * m) ||| (1 <<< (nI m2 &&& 31))) 67 (15 + 18 * m2) ||| (1 <<< (nI m &&& 31)))) y1 y2) _
    unfold RrepublicLine_223
    refine end_l (by omega) (SM_67 sm2 (fun c hc => by rw [up_n hc, up_n hc])) (fun z u4 w5 frc f55 frr => ?_)
    rw [up_n (by decide), up_n (by decide)] at z
    obtain ⟨z1, vx2⟩ := hx2 z
    obtain ⟨z0, vx⟩ := hx z1
    obtain ⟨n, V, T, rp⟩ := RPS_4 ct z0 frc1 (FRc_tr frc2 frc)
    have d0 : u4 55 0 = nI m := by rw [f55, g2, upd_b (by decide), g1, upd_a, vx]
    have d1 : u4 55 1 = nI m2 := by rw [f55, g2, upd_a, vx2]
    have w67 : w2 67 = w0 67 := by rw [frm2.1 67 (by decide) (by decide), frm1.1 67 (by decide) (by decide)]
    have hT := tl_or T rp.1.2.2 m (by omega)
    have hT2 := tl_or _ hT.2 m2 (by omega)
    have f50 : ∀ k, k < 6 → u4 50 k = w0 67 (15 + 18 * k) ∧ NB (w0 67 (15 + 18 * k)) 63 := rp.2.2.2.2.2.2.1
    have nb63 : ∀ (y : Int32) (k : Nat), k < 6 → NB y 63 → NB (y ||| (1 <<< (nI k &&& 31))) 63 := by
      intro y k hk hy
      obtain ⟨c, ec, hc⟩ := hy
      have q := tl_or c (by omega) k hk
      rw [ec, q.1]
      exact ⟨_, rfl, by have := q.2; omega⟩
    obtain ⟨A, eA⟩ : ∃ A, A = (w0 67 (15 + 18 * m) ||| (1 <<< (nI m2 &&& 31))) := ⟨_, rfl⟩
    have hA : NB A 63 := by rw [eA]; exact nb63 _ m2 (by omega) (f50 m (by omega)).2
    have rp1 : RPA n V T (up u4 50 m A) (up w0 67 (15 + 18 * m) A) := RPA_feu (i := m) (x := A) rp (by omega) hA (fun c j h1 h2 h3 h4 => by
      by_cases q : c = 50
      · subst q; rw [up_bn (fun q2 => h3 ⟨rfl, q2⟩)]
      · rw [up_n q]) up_a (fun j hj => up_bn hj) up_a (by rw [up_n (by decide)])
    have f50' : ∀ k, k < 6 → up u4 50 m A 50 k = up w0 67 (15 + 18 * m) A 67 (15 + 18 * k) ∧ NB (up w0 67 (15 + 18 * m) A 67 (15 + 18 * k)) 63 := rp1.2.2.2.2.2.2.1
    obtain ⟨B, eB⟩ : ∃ B, B = (up w0 67 (15 + 18 * m) A 67 (15 + 18 * m2) ||| (1 <<< (nI m &&& 31))) := ⟨_, rfl⟩
    have hB : NB B 63 := by rw [eB]; exact nb63 _ m (by omega) (f50' m2 (by omega)).2
    have rp2 : RPA n V T (up (up u4 50 m A) 50 m2 B) (up (up w0 67 (15 + 18 * m) A) 67 (15 + 18 * m2) B) := RPA_feu (i := m2) (x := B) rp1 (by omega) hB (fun c j h1 h2 h3 h4 => by
      by_cases q : c = 50
      · subst q; rw [up_bn (fun q2 => h3 ⟨rfl, q2⟩)]
      · rw [up_n q]) up_a (fun j hj => up_bn hj) up_a (by rw [up_n (by decide)])
    have cl6 : ∀ (g : Nat → Int32) (k : Nat), k < 6 → cl 6 g (nI k) = g k := fun g k hk => cl_nI hk (by decide)
    have tk : takSW u4 (nI 3) (cl 5 (u4 55) 0) (cl 5 (u4 55) 1) (nI 3) = up (up u4 50 m A) 50 m2 B := by
      unfold takSW
      rw [if_neg (by decide), if_neg (by decide), if_neg (by decide), if_pos (show nI 3 = 3 from rfl), show cl 5 (u4 55) 0 = u4 55 0 from cl5 (k := 0) (by decide), show cl 5 (u4 55) 1 = u4 55 1 from cl5 (k := 1) (by decide), d0, d1, cl6 _ m (by omega), pt_e (by omega) (by decide), pt_e (by omega) (by decide), cl6 _ m2 (by omega), (f50 m (by omega)).1, ← eA, (f50' m2 (by omega)).1, ← eB]
    have et : tkeS u4 0 (nI 3) = up (up (up u4 50 m A) 50 m2 B) 43 11 (nI ((T ||| 2 ^ m) ||| 2 ^ m2)) := by
      rw [tke_0, tk]
      exact tto_3 (by omega) (by omega) rp.1.2.2 (by rw [up_n (by decide), up_n (by decide)]; exact d0) (by rw [up_n (by decide), up_n (by decide)]; exact d1) (by rw [up_n (by decide), up_n (by decide)]; exact rp.2.2.2.2.2.2.2.2.1)
    rw [et]
    have e67 := frr.1 67 (by decide) (by decide)
    refine ⟨fun j hj => by rw [up_bn hj, up_n (by decide), up_n (by decide)], by rw [up_n (by decide), up_n (by decide), up_n (by decide)], n, V, _, RPA_tld rp2 hT2.2 (fun c h1 h2 => up_n (by omega)) (up_bn (by decide)) up_a ?_ ?_⟩
    · rw [e67, up_s, up_s, up_s, up_s, w67, ← eA]
      rw [eB, up_s]
    · rw [frr.2.2 9 (by omega), up_n (by decide), up_n (by decide), e92, e9, rp.2.2.2.2.2.2.2.2.2, gr_or T rp.1.2.2 m (by omega)]
      exact gr_or _ hT.2 m2 (by omega)
  · refine pc_ib (pc_i (fun z => absurd z hw.1) (fun _ => ?_))
    exact w_37 hw
/-! wants -/
theorem wan_s {z i : Nat} {s : SG} {x y : Int32} (hi : i < 3) : RwantLine_12 (RwantLine_R (z + 1)) s x y (nI i) = (Rnumbered s 0 9).bind fun p1 => if (p1.2 64 8) = 0 then ((wrI p1.2 67 201 ((((10 + (18 * x)) + 6) + (3 * y)) + nI i) p1.1).bind fun s2 => RwantLine_12 (RwantLine_R z) s2 x y (nI (i + 1))) else RwantLine_12 (RwantLine_R z) p1.2 x y (nI (i + 1)) := by
  have e : ∀ s, RwantLine_R (z + 1) s x y (nI i + 1) = RwantLine_12 (RwantLine_R z) s x y (nI (i + 1)) := fun s => by rw [nI_succ]; rfl
  rw [RwantLine_12, if_neg (show ¬ (3 : Int32) ≤ nI i from nI_ge (b := 3) hi (by decide))]
  simp only [e]
theorem wan_e {z : Nat} {s : SG} {x y : Int32} : RwantLine_12 (RwantLine_R z) s x y (nI 3) = some s := by
  unfold RwantLine_12
  rw [if_pos (show (3 : Int32) ≤ nI 3 by decide)]
theorem w_wan {u v : SG} {x y : Int32} {i z : Nat} : ∀ n, i + n = 3 → n ≤ z → WE u v → pc ((RwantLine_12 (RwantLine_R z) v x y (nI i)).bind fun s => RrepublicLine_223 s y1 y2) (fun w => WE u w) := by
  intro n
  induction n generalizing i z with
  | zero =>
    intro h1 h2 hw
    obtain rfl : i = 3 := by omega
    rw [wan_e, Option.bind_some]; exact w_223 (y1 := y1) (y2 := y2) hw
  | succ n ih =>
    intro h1 h2 hw
    obtain ⟨z, rfl⟩ : ∃ z', z = z' + 1 := ⟨z - 1, by omega⟩
    rw [wan_s (by omega)]
    exact pc_as (we_num hw (fun _ => pc_ib (pc_i (fun q => absurd q hw.1) (fun _ => ih (by omega) (by omega) hw))))
theorem rep_1 (ha2 : a < a2) (sm : SM f L a2 e2 u0 w0) (ct : w0 65 7 = 0 → RPS u0 w0) : pc (RrepublicLine_14 w0 y1 y2 (nI 2)) (fun w => LE (QL f L a RPS) (rlC 0 (nI 1) [109, 115, 97, 97, 97, 59] u0 0) w) := by
  unfold RrepublicLine_14
  rw [if_neg (by decide), if_pos (show nI 2 = 2 from rfl)]
  unfold RwantLine
  obtain ⟨z, hz⟩ : ∃ z, xF = z + 1 + 1 + 1 := ⟨xF - 3, by have := xF_ge; omega⟩
  rw [hz]
  refine pc_as ?_
  refine LX_min sm (by omega) (fun u1 w1 b1 e1 m x hb1 sm1 frc1 g1 frm1 e9 hx hm => ?_) (fun _ _ hw => pc_as (we_sea hw (fun _ => w_wan (i := 0) 3 (by omega) (by omega) hw)))
  try dsimp only
  refine pc_as ?_
  refine LX_sea sm1 (by omega) (fun u2 w2 b2 e2 j hb2 hj sm2 frc2 g2 frr2 h652 => ?_) (fun _ _ hw => w_wan (i := 0) 3 (by omega) (by omega) hw)
  try dsimp only
  show pc ((RwantLine_12 (RwantLine_R (z + 1 + 1 + 1)) w2 (nI m) (nI j) (nI 0)).bind fun s => RrepublicLine_223 s y1 y2) _
  have idx : ∀ i : Nat, ((((10 : Int32) + (18 * nI m)) + 6) + (3 * nI j)) + nI i = nI (16 + 18 * m + (3 * j + i)) := by
    intro i
    show nI 10 + nI 18 * nI m + nI 6 + nI 3 * nI j + nI i = _
    rw [nI_mulx, nI_mulx, nI_add, nI_add, nI_add, nI_add]; congr 1; omega
  rw [wan_s (by omega)]
  refine pc_as ?_
  refine LX_a sm2 (by omega) (fun u3 p3 b3 e3 x3 hb3 sm3 frc3 g3 frr3 hx3 nb3 => ?_) (fun _ _ hw => pc_ib (pc_i (fun q => absurd q hw.1) (fun _ => w_wan (i := 1) 2 (by omega) (by omega) hw)))
  rw [if_pos sm3.2.2.1, idx]
  refine pc_as (pc_wrv (e := 16 + 18 * m + (3 * j + 0)) rfl (by omega) (by decide) ?_)
  rw [wan_s (by omega)]
  refine pc_as ?_
  refine LX_a (SM_67 sm3 (fun c hc => up_n hc)) (by omega) (fun u4 p4 b4 e4 x4 hb4 sm4 frc4 g4 frr4 hx4 nb4 => ?_) (fun _ _ hw => pc_ib (pc_i (fun q => absurd q hw.1) (fun _ => w_wan (i := 2) 1 (by omega) (by omega) hw)))
  rw [if_pos sm4.2.2.1, idx]
  refine pc_as (pc_wrv (e := 16 + 18 * m + (3 * j + (0 + 1))) rfl (by omega) (by decide) ?_)
  rw [wan_s (by omega)]
  refine pc_as ?_
  refine LX_a (SM_67 sm4 (fun c hc => up_n hc)) (by omega) (fun u5 p5 b5 e5 x5 hb5 sm5 frc5 g5 frr5 hx5 nb5 => ?_) (fun _ _ hw => pc_ib (pc_i (fun q => absurd q hw.1) (fun _ => w_wan (i := 3) 0 (by omega) (by omega) hw)))
  rw [if_pos sm5.2.2.1, idx]
  refine pc_as (pc_wrv (e := 16 + 18 * m + (3 * j + (0 + 1 + 1))) rfl (by omega) (by decide) ?_)
  rw [wan_e]
  show pc (RrepublicLine_223 _ y1 y2) _
  unfold RrepublicLine_223
  refine end_l (by omega) (SM_67 sm5 (fun c hc => up_n hc)) (fun q u6 w6 frc f55 frr => ?_)
  rw [up_n (by decide)] at q
  obtain ⟨q5, v5⟩ := hx5 q
  rw [up_n (by decide)] at q5
  obtain ⟨q4, v4⟩ := hx4 q5
  rw [up_n (by decide)] at q4
  obtain ⟨q3, v3⟩ := hx3 q4
  rw [h652] at q3
  obtain ⟨q0, vx⟩ := hx q3
  obtain ⟨n, V, T, rp⟩ := RPS_4 ct q0 frc1 (FRc_tr frc2 (FRc_tr frc3 (FRc_tr frc4 (FRc_tr frc5 frc))))
  have d0 : u6 55 0 = nI m := by rw [f55, g5, upd_b (by decide), g4, upd_b (by decide), g3, upd_b (by decide), g2, upd_b (by decide), g1, upd_a, vx]
  have d1 : u6 55 1 = nI j := by rw [f55, g5, upd_b (by decide), g4, upd_b (by decide), g3, upd_b (by decide), g2, upd_a]
  have d2 : u6 55 2 = p3.1 := by rw [f55, g5, upd_b (by decide), g4, upd_b (by decide), g3, upd_a, v3]
  have d3 : u6 55 3 = p4.1 := by rw [f55, g5, upd_b (by decide), g4, upd_a, v4]
  have d4 : u6 55 4 = p5.1 := by rw [f55, g5, upd_a, v5]
  have hT := tl_or T rp.1.2.2 m (by omega)
  have w3 : ∀ (s : SG) (i : Nat) (y : Int32), i < 3 → pt 72 s 49 (((nI m * 4 + nI j) * 3) + nI i) y = up s 49 (12 * m + (3 * j + i)) y := by
    intro s i y hi
    have e : ((nI m * 4 + nI j) * 3) + nI i = nI (12 * m + (3 * j + i)) := by
      show (nI m * nI 4 + nI j) * nI 3 + nI i = _
      rw [nI_mulx, nI_add, nI_mulx, nI_add]; congr 1; omega
    rw [e, pt_e (by omega) (by decide)]
  have c55 : ∀ (s : SG) (i : Nat), s 55 = u6 55 → i < 3 → cl 5 (s 55) (2 + nI i) = u6 55 (2 + i) := by
    intro s i hs hi
    rw [hs, show (2 : Int32) + nI i = nI (2 + i) from nI_add 2 i]; exact cl5 (by omega)
  have tk : takSW u6 (nI 1) (cl 5 (u6 55) 0) (cl 5 (u6 55) 1) (nI 1) = up (up (up u6 49 (12 * m + (3 * j + 0)) p3.1) 49 (12 * m + (3 * j + 1)) p4.1) 49 (12 * m + (3 * j + 2)) p5.1 := by
    unfold takSW
    rw [if_neg (by decide), if_pos (show nI 1 = 1 from rfl), show cl 5 (u6 55) 0 = u6 55 0 from cl5 (k := 0) (by decide), show cl 5 (u6 55) 1 = u6 55 1 from cl5 (k := 1) (by decide), d0, d1]
    rw [takSL, takSL, takSL, takSL, w3 _ 0 _ (by omega), c55 _ 0 rfl (by omega), w3 _ (0 + 1) _ (by omega), c55 _ (0 + 1) (up_n (by decide)) (by omega), w3 _ (0 + 1 + 1) _ (by omega), c55 _ (0 + 1 + 1) (by rw [up_n (by decide), up_n (by decide)]) (by omega), d2, d3, d4]
  have et : tkeS u6 0 (nI 1) = up (up (up (up u6 49 (12 * m + (3 * j + 0)) p3.1) 49 (12 * m + (3 * j + 1)) p4.1) 49 (12 * m + (3 * j + 2)) p5.1) 43 11 (nI (T ||| 2 ^ m)) := by
    rw [tke_0, tk]
    exact tto_a (Or.inl rfl) (by omega) rp.1.2.2 (by rw [up_n (by decide), up_n (by decide), up_n (by decide)]; exact d0) (by rw [up_n (by decide), up_n (by decide), up_n (by decide)]; exact rp.2.2.2.2.2.2.2.2.1)
  rw [et]
  have wst : ∀ {s t : SG} (i : Nat) (y : Int32), RPA n V T s t → i < 3 → NB y 9 → RPA n V T (up s 49 (12 * m + (3 * j + i)) y) (up t 67 (16 + 18 * m + (3 * j + i)) y) := by
    intro s t i y h hi hy
    exact RPA_wan (i := m) (k := 3 * j + i) h (by omega) (by omega) hy (fun c l h1 h2 h3 h4 => by
      by_cases q : c = 49
      · subst q; rw [up_bn (fun q2 => h3 ⟨rfl, q2⟩)]
      · rw [up_n q]) up_a (fun l hl => up_bn hl) up_a (by rw [up_n (by decide)])
  have rp3 := wst 2 p5.1 (wst 1 p4.1 (wst 0 p3.1 rp (by omega) nb3) (by omega) nb4) (by omega) nb5
  have e67 := frr.1 67 (by decide) (by decide)
  refine ⟨fun l hl => by rw [up_bn hl, up_n (by decide), up_n (by decide), up_n (by decide)], by rw [up_n (by decide), up_n (by decide), up_n (by decide), up_n (by decide)], n, V, _, RPA_tld rp3 hT.2 (fun c h1 h2 => up_n (by omega)) (up_bn (by decide)) up_a ?_ ?_⟩
  · rw [e67, up_s, frr5.1 67 (by decide) (by decide), up_s, frr4.1 67 (by decide) (by decide), up_s, frr3.1 67 (by decide) (by decide), frr2.1 67 (by decide) (by decide), frm1.1 67 (by decide) (by decide), up_s, up_s, up_s]
  · rw [frr.2.2 9 (by omega), up_n (by decide), frr5.2.2 9 (by omega), up_n (by decide), frr4.2.2 9 (by omega), up_n (by decide), frr3.2.2 9 (by omega), frr2.2.2 9 (by omega), e9, rp.2.2.2.2.2.2.2.2.2]
    exact gr_or T rp.1.2.2 m (by omega)
end REP
end XTO
end
section
section XTQ
variable {sc : Nat × (Nat → Int32)} {d : Nat} {K : List KD} {r q t a B m : Nat} {w : EW}
/-! a minister's line, and any line of a republic -/
theorem up_x {s : SG} {k i c j : Nat} {x : Int32} (h : ¬ (c = k ∧ j = i)) : up s k i x c j = s c j := by
  by_cases q : c = k
  · subst q; exact up_bn (fun z => h ⟨rfl, z⟩)
  · rw [up_n q]
theorem w_27t {u v : SG} {y1 y2 y z1 z2 z3 z4 : Int32} (hw : WE u v) : pc ((if y = 0 then some v else (rdI v 67 201 0).bind fun g5 => (wrI v 67 201 ((10 + (18 * g5)) + 0) z1).bind fun s6 => (wrI s6 67 201 ((10 + (18 * g5)) + 1) z2).bind fun s7 => (wrI s7 67 201 ((10 + (18 * g5)) + 2) z3).bind fun s8 => (wrI s8 67 201 ((10 + (18 * g5)) + 3) z4).bind fun s9 => (rdI s9 67 201 0).bind fun g10 => (wrI s9 67 201 0 (g10 + 1)).bind fun s11 => some s11).bind fun s => RrepublicLine_223 s y1 y2) (fun w => WE u w) := by
  by_cases c : y = 0
  · rw [if_pos c]; exact w_223 (y1 := y1) (y2 := y2) hw
  · rw [if_neg c]
    exact pc_as (pc_rd (fun _ => pc_as (we_wri hw (fun _ h1 => pc_as (we_wri h1 (fun _ h2 => pc_as (we_wri h2 (fun _ h3 => pc_as (we_wri h3 (fun _ h4 => pc_as (pc_rd (fun _ => pc_as (we_wri h4 (fun _ h5 => w_223 (y1 := y1) (y2 := y2) h5))))))))))))))
theorem w_27 {u v : SG} {y1 y2 y y3 : Int32} (hw : WE u v) : pc ((RministerLine_27 v y3 y).bind fun s => RrepublicLine_223 s y1 y2) (fun w => WE u w) := by
  unfold RministerLine_27
  exact pc_as (we_num hw (fun _ => pc_as (we_num hw (fun _ => pc_as (we_num hw (fun _ => pc_as (we_num hw (fun _ => w_27t hw))))))))
theorem w_min {u v : SG} {y1 y2 y3 : Int32} (hw : WE u v) : pc ((RministerLine v y3).bind fun s => RrepublicLine_223 s y1 y2) (fun w => WE u w) := by
  have h16 : ∀ y, pc ((RministerLine_16 v y3 y).bind fun s => RrepublicLine_223 s y1 y2) (fun w => WE u w) := by
    intro y
    unfold RministerLine_16
    rw [wr_also hw.1]
    refine pc_ib (pc_i (fun _ => ?_) (fun _ => w_27 (y3 := y3) hw))
    exact w_27 (y3 := y3) hw
  unfold RministerLine
  exact pc_as (pc_rd (fun _ => pc_ib (pc_i (fun _ => h16 0) (fun _ => h16 1))))
theorem w_14 {u v : SG} {y1 y2 y : Int32} (hw : WE u v) : pc (RrepublicLine_14 v y1 y2 y) (fun w => WE u w) := by
  have N : ∀ (lo hi i : Int32), pc ((Rnumbered v lo hi).bind fun p => (wrI p.2 67 201 i p.1).bind fun s => RrepublicLine_223 s y1 y2) (fun w => WE u w) := fun lo hi i => we_num hw (fun _ => we_wri hw (fun _ h2 => w_223 (y1 := y1) (y2 := y2) h2))
  have W : pc ((RwantLine v).bind fun s => RrepublicLine_223 s y1 y2) (fun w => WE u w) := by
    unfold RwantLine
    exact pc_as (we_min hw (fun _ _ h2 => pc_as (we_sea h2 (fun _ => w_wan (i := 0) 3 (by omega) (by have := xF_ge; omega) h2))))
  have F : pc ((RfeudLine v).bind fun s => RrepublicLine_223 s y1 y2) (fun w => WE u w) := by
    unfold RfeudLine
    exact pc_as (we_min hw (fun _ _ h2 => pc_ib (pc_i (fun z => absurd z h2.1) (fun _ => w_37 h2))))
  unfold RrepublicLine_14
  refine pc_i (fun _ => w_min hw) (fun _ => pc_i (fun _ => W) (fun _ => pc_i (fun _ => ?_) (fun _ => pc_i (fun _ => F) (fun _ => pc_i (fun _ => ?_) (fun _ => pc_i (fun _ => N _ _ _) (fun _ => pc_i (fun _ => N _ _ _) (fun _ => pc_i (fun _ => N _ _ _) (fun _ => pc_i (fun _ => N _ _ _) (fun _ => pc_i (fun _ => N _ _ _) (fun _ => w_223 (y1 := y1) (y2 := y2) hw))))))))))
  · exact we_min hw (fun _ _ h2 => we_wri h2 (fun _ h3 => w_223 (y1 := y1) (y2 := y2) h3))
  · exact we_kin hw (fun _ => we_min hw (fun _ _ h2 => pc_i (fun z => absurd z h2.1) (fun _ => w_223 (y1 := y1) (y2 := y2) h2)))
section REQ
variable {f : Nat → Int32} {L a a2 e2 : Nat} {u v u0 w0 : SG} {y1 y2 y3 : Int32}
/-- a minister's line beyond the last that may be: nothing is taken -/
theorem rep_0y (ha2 : a < a2) (sm : SM f L a2 e2 u0 w0) (nz : ¬ w0 65 7 = 0) : pc ((RministerLine_27 w0 y3 0).bind fun s => RrepublicLine_223 s y1 y2) (fun w => LE (QL f L a RPS) (rlC 0 (nI 0) [118, 116, 97, 97, 59] u0 0) w) := by
  unfold RministerLine_27
  refine pc_as ?_
  refine LX_v sm (by omega) (fun u1 p1 b1 e1 x1 hb1 sm1 frc1 g1 frr1 hx1 nb1 => ?_) (fun _ _ hw => pc_as (we_num hw (fun _ => pc_as (we_num hw (fun _ => pc_as (we_num hw (fun _ => w_27t hw)))))))
  refine pc_as ?_
  refine LX_t sm1 (by omega) (fun u2 p2 b2 e2 x2 hb2 sm2 frc2 g2 frr2 hx2 nb2 => ?_) (fun _ _ hw => pc_as (we_num hw (fun _ => pc_as (we_num hw (fun _ => w_27t hw)))))
  refine pc_as ?_
  refine LX_a sm2 (by omega) (fun u3 p3 b3 e3 x3 hb3 sm3 frc3 g3 frr3 hx3 nb3 => ?_) (fun _ _ hw => pc_as (we_num hw (fun _ => w_27t hw)))
  refine pc_as ?_
  refine LX_a sm3 (by omega) (fun u4 p4 b4 e4 x4 hb4 sm4 frc4 g4 frr4 hx4 nb4 => ?_) (fun _ _ hw => w_27t hw)
  rw [if_pos (show (0 : Int32) = 0 from rfl)]
  show pc (RrepublicLine_223 p4.2 y1 y2) _
  unfold RrepublicLine_223
  refine end_l (by omega) sm4 (fun q _ _ _ _ _ => absurd (hx1 (hx2 (hx3 (hx4 q).1).1).1).1 nz)
/-- a minister's line that may be -/
theorem rep_0x (ha2 : a < a2) (sm : SM f L a2 e2 u0 w0) (f0 : RL0 u u0) (ct : v 65 7 = 0 → RPS u v) (f67 : w0 67 = v 67) (f9 : w0 64 9 = v 64 9) (hz : w0 65 7 = 0 → v 65 7 = 0 ∧ ∃ n, n < 6 ∧ u 43 10 = nI n ∧ v 67 0 = nI n) : pc ((RministerLine_27 w0 y3 1).bind fun s => RrepublicLine_223 s y1 y2) (fun w => LE (QL f L a RPS) (rlC 0 (nI 0) [118, 116, 97, 97, 59] u0 0) w) := by
  unfold RministerLine_27
  refine pc_as ?_
  refine LX_v sm (by omega) (fun u1 p1 b1 e1 x1 hb1 sm1 frc1 g1 frr1 hx1 nb1 => ?_) (fun _ _ hw => pc_as (we_num hw (fun _ => pc_as (we_num hw (fun _ => pc_as (we_num hw (fun _ => w_27t hw)))))))
  refine pc_as ?_
  refine LX_t sm1 (by omega) (fun u2 p2 b2 e2 x2 hb2 sm2 frc2 g2 frr2 hx2 nb2 => ?_) (fun _ _ hw => pc_as (we_num hw (fun _ => pc_as (we_num hw (fun _ => w_27t hw)))))
  refine pc_as ?_
  refine LX_a sm2 (by omega) (fun u3 p3 b3 e3 x3 hb3 sm3 frc3 g3 frr3 hx3 nb3 => ?_) (fun _ _ hw => pc_as (we_num hw (fun _ => w_27t hw)))
  refine pc_as ?_
  refine LX_a sm3 (by omega) (fun u4 p4 b4 e4 x4 hb4 sm4 frc4 g4 frr4 hx4 nb4 => ?_) (fun _ _ hw => w_27t hw)
  rw [if_neg (show ¬ (1 : Int32) = 0 by decide)]
  refine pc_as ?_
  by_cases z4 : p4.2 65 7 = 0
  · obtain ⟨z3, v4⟩ := hx4 z4
    obtain ⟨z2, v3⟩ := hx3 z3
    obtain ⟨z1, v2⟩ := hx2 z2
    obtain ⟨z0, v1⟩ := hx1 z1
    obtain ⟨zv, n, hn, e10, r67⟩ := hz z0
    obtain ⟨n2, V, T, rp⟩ := ct zv
    obtain rfl : n2 = n := nI_inj (by have := rp.1.1; omega) (by omega) (rp.2.1.2.2.symm.trans r67)
    have k67 : p4.2 67 = v 67 := by rw [frr4.1 67 (by decide) (by decide), frr3.1 67 (by decide) (by decide), frr2.1 67 (by decide) (by decide), frr1.1 67 (by decide) (by decide), f67]
    have idx : ∀ i : Nat, (10 : Int32) + 18 * nI n2 + nI i = nI (10 + 18 * n2 + i) := by
      intro i
      show nI 10 + nI 18 * nI n2 + nI i = _
      rw [nI_mulx, nI_add, nI_add]
    refine pc_rdv (e := 0) rfl (by decide) (by decide) ?_
    rw [k67, r67]
    refine pc_as (pc_wrv (e := 10 + 18 * n2 + 0) (idx 0) (by omega) (by decide) ?_)
    refine pc_as (pc_wrv (e := 10 + 18 * n2 + 1) (idx 1) (by omega) (by decide) ?_)
    refine pc_as (pc_wrv (e := 10 + 18 * n2 + 2) (idx 2) (by omega) (by decide) ?_)
    refine pc_as (pc_wrv (e := 10 + 18 * n2 + 3) (idx 3) (by omega) (by decide) ?_)
    refine pc_as (pc_rdv (e := 0) rfl (by decide) (by decide) ?_)
    refine pc_as (pc_wrv (e := 0) rfl (by decide) (by decide) ?_)
    rw [up_bn (by omega), up_bn (by omega), up_bn (by omega), up_bn (by omega), k67, r67, ← nI_succ]
    show pc (RrepublicLine_223 (up (up (up (up (up p4.2 67 (10 + 18 * n2 + 0) p1.1) 67 (10 + 18 * n2 + 1) p2.1) 67 (10 + 18 * n2 + 2) p3.1) 67 (10 + 18 * n2 + 3) p4.1) 67 0 (nI (n2 + 1))) y1 y2) _
    unfold RrepublicLine_223
    refine end_l (by omega) (SM_67 sm4 (fun c hc => by rw [up_n hc, up_n hc, up_n hc, up_n hc, up_n hc])) (fun q u5 w5 frc f55 frr => ?_)
    have F : FRc u0 u5 := FRc_tr frc1 (FRc_tr frc2 (FRc_tr frc3 (FRc_tr frc4 frc)))
    have fu : ∀ c, 44 ≤ c → c ≤ 51 → u5 c = u c := fun c h1 h2 => by rw [F.1 c (by omega) (by omega), f0.1 c (by omega) (by omega)]
    have d0 : cl 5 (u5 55) 0 = p1.1 := by rw [show cl 5 (u5 55) 0 = u5 55 0 from cl5 (k := 0) (by decide), f55, g4, upd_b (by decide), g3, upd_b (by decide), g2, upd_b (by decide), g1, upd_a, v1]
    have d1 : cl 5 (u5 55) 1 = p2.1 := by rw [show cl 5 (u5 55) 1 = u5 55 1 from cl5 (k := 1) (by decide), f55, g4, upd_b (by decide), g3, upd_b (by decide), g2, upd_a, v2]
    have d2 : cl 5 (u5 55) 2 = p3.1 := by rw [show cl 5 (u5 55) 2 = u5 55 2 from cl5 (k := 2) (by decide), f55, g4, upd_b (by decide), g3, upd_a, v3]
    have d3 : cl 5 (u5 55) 3 = p4.1 := by rw [show cl 5 (u5 55) 3 = u5 55 3 from cl5 (k := 3) (by decide), f55, g4, upd_a, v4]
    have en : u5 44 0 = nI n2 := by rw [fu 44 (by decide) (by decide)]; exact rp.2.1.1
    have e10' : u5 43 10 = nI (n2 + 1) := by rw [F.2 10 (by decide) (by decide) (by decide) (by decide) (by decide), f0.2.1, e10, ← nI_succ]
    have e11' : u5 43 11 = nI T := by rw [F.2 11 (by decide) (by decide) (by decide) (by decide) (by decide), f0.2.2.1]; exact rp.2.2.2.2.2.2.2.2.1
    have am : admS u5 = up (up (up (up (up u5 45 n2 p1.1) 46 n2 p2.1) 47 n2 p3.1) 48 n2 p4.1) 44 0 (nI (n2 + 1)) := by
      unfold admS
      rw [en, if_neg (show ¬ (6 : Int32) ≤ nI n2 from nI_ge (b := 6) (by omega) (by decide)), d0, d1, d2, d3, pt_e hn (by decide), pt_e hn (by decide), pt_e hn (by decide), pt_e hn (by decide), ← nI_succ]
    have tk : takSW u5 (nI 0) (cl 5 (u5 55) 0) (cl 5 (u5 55) 1) (nI 0) = admS u5 := by
      unfold takSW
      rw [if_pos (show nI 0 = 0 from rfl)]
    have e11 : up (up (up (up (up u5 45 n2 p1.1) 46 n2 p2.1) 47 n2 p3.1) 48 n2 p4.1) 44 0 (nI (n2 + 1)) 43 11 = nI T := by
      rw [up_n (by decide), up_n (by decide), up_n (by decide), up_n (by decide), up_n (by decide)]; exact e11'
    have et : tkeS u5 0 (nI 0) = up (up (up (up (up (up u5 45 n2 p1.1) 46 n2 p2.1) 47 n2 p3.1) 48 n2 p4.1) 44 0 (nI (n2 + 1))) 43 11 (nI T) := by
      rw [tke_0, tk, am]
      unfold ttoS
      rw [if_neg (by decide), if_neg (by decide), if_neg (by decide), if_neg (by decide), if_neg (by decide), e11, or_0, or_0, up_up]
    rw [et]
    have e67 := frr.1 67 (by decide) (by decide)
    refine ⟨fun j hj => by rw [up_bn hj, up_n (by decide), up_n (by decide), up_n (by decide), up_n (by decide), up_n (by decide)], by rw [up_n (by decide), up_n (by decide), up_n (by decide), up_n (by decide), up_n (by decide), up_n (by decide)], n2 + 1, V, T, RPA_min (x := fun c => if c = 0 then p1.1 else if c = 1 then p2.1 else if c = 2 then p3.1 else p4.1) rp hn (fun c hc => ?_) (fun c j h1 h2 h3 h4 => ?_) ?_ ?_ ?_ (fun c hc => ?_) (fun j h1 h2 => ?_) ?_ (fun c hc => ?_) ?_⟩
    · rcases (by omega : c = 0 ∨ c = 1 ∨ c = 2 ∨ c = 3) with rfl | rfl | rfl | rfl
      · exact NB_w nb1 (by decide)
      · exact nb2
      · exact NB_w nb3 (by decide)
      · exact NB_w nb4 (by decide)
    · rw [up_x (by omega), up_x (by omega), up_x (by omega), up_x (by omega), up_x (by omega), up_x (by omega), fu c h1 h2]
    · rw [up_bn (by decide), up_n (by decide), up_n (by decide), up_n (by decide), up_n (by decide), up_n (by decide)]; exact e10'
    · rw [up_a]; exact rp.2.2.2.2.2.2.2.2.1.symm
    · rw [up_n (by decide), up_a]
    · rcases (by omega : c = 0 ∨ c = 1 ∨ c = 2 ∨ c = 3) with rfl | rfl | rfl | rfl
      · rw [up_n (by decide), up_n (by decide), up_n (by decide), up_n (by decide), up_n (by decide)]; exact up_a
      · rw [up_n (by decide), up_n (by decide), up_n (by decide), up_n (by decide)]; exact up_a
      · rw [up_n (by decide), up_n (by decide), up_n (by decide)]; exact up_a
      · rw [up_n (by decide), up_n (by decide)]; exact up_a
    · rw [e67, up_bn h1, up_bn (by omega), up_bn (by omega), up_bn (by omega), up_bn (by omega), k67]
    · rw [e67, up_a]
    · rw [e67]
      rcases (by omega : c = 0 ∨ c = 1 ∨ c = 2 ∨ c = 3) with rfl | rfl | rfl | rfl
      · rw [up_bn (by omega), up_bn (by omega), up_bn (by omega), up_bn (by omega)]; exact up_a
      · rw [up_bn (by omega), up_bn (by omega), up_bn (by omega)]; exact up_a
      · rw [up_bn (by omega), up_bn (by omega)]; exact up_a
      · rw [up_bn (by omega)]; exact up_a
    · rw [frr.2.2 9 (by omega), up_n (by decide), up_n (by decide), up_n (by decide), up_n (by decide), up_n (by decide), frr4.2.2 9 (by omega), frr3.2.2 9 (by omega), frr2.2.2 9 (by omega), frr1.2.2 9 (by omega), f9]
  · refine pc_rd (fun _ => pc_as (pc_wr (fun _ => pc_as (pc_wr (fun _ => pc_as (pc_wr (fun _ => pc_as (pc_wr (fun _ => pc_as (pc_rd (fun _ => pc_as (pc_wr (fun _ => ?_)))))))))))))
    show pc (RrepublicLine_223 _ y1 y2) _
    unfold RrepublicLine_223
    refine end_l (by omega) (SM_67 sm4 (fun c hc => by rw [up_n hc, up_n hc, up_n hc, up_n hc, up_n hc])) (fun q _ _ _ _ _ => ?_)
    rw [up_n (by decide), up_n (by decide), up_n (by decide), up_n (by decide), up_n (by decide)] at q
    exact absurd q z4
theorem min_eq {w : SG} {y : Int32} (h8 : w 64 8 = 0) : RministerLine w y = (if (w 64 8) = 0 then ((rdI w 67 201 0).bind fun g2 => if g2 < nI 6 then RministerLine_27 w y 1 else (Ralso w 3 y).bind fun s3 => RministerLine_27 s3 y 0) else RministerLine_27 w y 1) := by
  unfold RministerLine RministerLine_16
  rw [if_pos h8]
  cases rdI w 67 201 0 with
  | none => rfl
  | some g =>
    show (if 6 ≤ g then (if (0 : Int32) = 0 then ((Ralso w 3 y).bind fun s1 => RministerLine_27 s1 y 0) else RministerLine_27 w y 0) else (if (1 : Int32) = 0 then ((Ralso w 3 y).bind fun s1 => RministerLine_27 s1 y 1) else RministerLine_27 w y 1)) = (if g < nI 6 then RministerLine_27 w y 1 else (Ralso w 3 y).bind fun s3 => RministerLine_27 s3 y 0)
    rw [if_pos (show (0 : Int32) = 0 from rfl), if_neg (show ¬ (1 : Int32) = 0 by decide)]
    by_cases c : g < nI 6
    · rw [if_pos c, if_neg (show ¬ (6 : Int32) ≤ g from Int32.not_le.mpr c)]
    · rw [if_neg c, if_pos (show (6 : Int32) ≤ g from Int32.not_lt.mp c)]
theorem lin_0 {e : Nat} (h : SM f L a e u v) (ct : v 65 7 = 0 → RPS u v) : pc (RrepublicLine v) (fun w => LE (QL f L a RPS) (rliP u 0) w) := by
  unfold RrepublicLine
  refine pc_b (key_c (z := 0) (lo := 1) (hi := 10) h (by decide) (by decide +kernel) (by decide) (by decide) (by decide)) (fun p hp => ?_)
  rcases hp with ⟨c1, we⟩ | ⟨k, ae, hk, c1, ep, ky⟩
  · rw [rliP_n (so := 0) (show choI u (worZ 0) = -1 from c1)]
    exact pc_w (Q := fun w => WE u w) (w_14 we) (fun w hw => LE_w hw)
  have c2 : choI u (worZ 0) = nI k := c1
  rw [rliP_c (so := 0) (by rw [c2]; exact nI_n1 (by omega)), c2, ep]
  by_cases k0 : k = 0
  · subst k0
    rw [show forms 0 (nI 0) = [118, 116, 97, 97, 59] by decide +kernel]
    obtain ⟨n1, n2, n3⟩ := cnt_f (u := u) (so := 0)
    have cnt : couS u 0 (choI u (worZ 0)) = cntS u 0 := cou_e (Or.inr (by rw [c2]; rfl))
    have KK := ky (cntS u 0) (n2 6 (by decide) (by decide) (by decide)) (n2 9 (by decide) (by decide) (by decide)) (n1 54 (by decide))
    have w8 : p.2 64 8 = 0 := by obtain ⟨⟨_, _, _, _, _, w8, _⟩, _⟩ := KK; exact w8
    show pc (RrepublicLine_14 p.2 (v 64 4) (nI (1 + 0)) (nI 1)) _
    unfold RrepublicLine_14
    rw [if_pos (show nI 1 = 1 from rfl), min_eq w8, show ∀ (c : Prop) [Decidable c] (A B : Option SG), ((if c then A else B).bind fun s => RrepublicLine_223 s (v 64 4) (nI (1 + 0))) = (if c then A.bind fun s => RrepublicLine_223 s (v 64 4) (nI (1 + 0)) else B.bind fun s => RrepublicLine_223 s (v 64 4) (nI (1 + 0))) from fun c _ A B => by split <;> rfl]
    have sh : ((rdI p.2 67 201 0).bind fun g2 => if g2 < nI 6 then RministerLine_27 p.2 (v 64 4) 1 else (Ralso p.2 3 (v 64 4)).bind fun s3 => RministerLine_27 s3 (v 64 4) 0).bind (fun s => RrepublicLine_223 s (v 64 4) (nI (1 + 0))) = (rdI p.2 67 201 0).bind (fun g2 => if g2 < nI 6 then (RministerLine_27 p.2 (v 64 4) 1).bind (fun s => RrepublicLine_223 s (v 64 4) (nI (1 + 0))) else (Ralso p.2 3 (v 64 4)).bind fun s3 => (RministerLine_27 s3 (v 64 4) 0).bind (fun s => RrepublicLine_223 s (v 64 4) (nI (1 + 0)))) := by
      cases rdI p.2 67 201 0 with
      | none => rfl
      | some g =>
        simp only [Option.bind_some]
        by_cases hg : g < nI 6
        · rw [if_pos hg, if_pos hg]
        · rw [if_neg hg, if_neg hg]
          cases Ralso p.2 3 (v 64 4) <;> rfl
    rw [sh]
    refine sta_2 (so := 0) (M := 6) (X := fun w => (RministerLine_27 w (v 64 4) 1).bind (fun s => RrepublicLine_223 s (v 64 4) (nI (1 + 0)))) (Y := fun w => (RministerLine_27 w (v 64 4) 0).bind (fun s => RrepublicLine_223 s (v 64 4) (nI (1 + 0)))) h (by decide) (by decide) cnt KK (fun z => by obtain ⟨n, V, T, rp⟩ := ct z; exact ⟨n, rp.1.1, rp.2.1.2.1, rp.2.1.2.2⟩) (fun w0 a2 e2 ha2 sm f0 f67 f65 f64 hz => ?_) (fun w0 a2 e2 ha2 sm f0 f67 f65 f64 nz => ?_)
    · exact rep_0x ha2 sm f0 ct (f67 67 (by decide) (by decide)) (f64 9 (by omega)) hz
    · exact rep_0y ha2 sm nz
  · have KK := ky u rfl rfl rfl
    have e65 : p.2 65 = v 65 := KK.2.1 65 (by decide)
    have e67 : p.2 67 = v 67 := KK.2.1 67 (by decide)
    have e9 : p.2 64 9 = v 64 9 := KK.2.2 9 (by omega)
    have fl : FL a u v := h.2.2.2.2
    have nk : ¬ nI k = 0 := fun q => k0 (nI_inj (a := k) (b := 0) (by omega) (by decide) q)
    obtain ⟨a2, e2, ha2, sm, g1, g2, g3, g4⟩ := sta_n (so := 0) h (by rw [c2]; exact (cou_n rfl nk).symm) (fun _ _ => rfl) (fun _ _ _ _ => rfl) KK (fun b hb => FL_lo fl hb rfl rfl (by rw [e65]) (by rw [e65]))
    have ct0 : p.2 65 7 = 0 → RPS (rl0 u 0) p.2 := by
      intro z
      rw [e65] at z
      obtain ⟨n, V, T, rp⟩ := ct z
      exact ⟨n, V, T, RPA_g rp (fun c h1 h2 => g1 c (by omega) (by omega)) g2 g3 e67 e9⟩
    rcases (by omega : k = 1 ∨ k = 2 ∨ k = 3 ∨ k = 4 ∨ k = 5 ∨ k = 6 ∨ k = 7 ∨ k = 8 ∨ k = 9) with rfl | rfl | rfl | rfl | rfl | rfl | rfl | rfl | rfl
    · rw [show forms 0 (nI 1) = [109, 115, 97, 97, 97, 59] by decide +kernel]; exact rep_1 ha2 sm ct0
    · rw [show forms 0 (nI 2) = [109, 59] by decide +kernel]; exact rep_2 ha2 sm ct0
    · rw [show forms 0 (nI 3) = [109, 102, 59] by decide +kernel]; exact rep_3 ha2 sm ct0
    · rw [show forms 0 (nI 4) = [107, 109, 59] by decide +kernel]; exact rep_4 ha2 sm ct0
    · rw [show forms 0 (nI 5) = [113, 59] by decide +kernel]; exact rep_5 ha2 sm ct0
    · rw [show forms 0 (nI 6) = [97, 59] by decide +kernel]; exact rep_6 ha2 sm ct0
    · rw [show forms 0 (nI 7) = [104, 59] by decide +kernel]; exact rep_7 ha2 sm ct0
    · rw [show forms 0 (nI 8) = [104, 59] by decide +kernel]; exact rep_8 ha2 sm ct0
    · rw [show forms 0 (nI 9) = [104, 59] by decide +kernel]; exact rep_9 ha2 sm ct0
end REQ
end XTQ
end
