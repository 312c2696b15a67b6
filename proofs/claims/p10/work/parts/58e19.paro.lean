section XTV
variable {sc : Nat × (Nat → Int32)} {d : Nat} {K : List KD} {r q t a B m : Nat} {w : EW}
/-! a text keeps what is told the same on both sides -/
def SIMn (s : SG) : Prop := (s 1 1 = s 65 6 ∧ s 1 2 = s 65 7 ∧ s 1 3 = s 65 8) ∧ (∀ j, j < 600 → s 2 j = s 65 (10 + j) ∧ 0 ≤ s 65 (10 + j)) ∧ (∀ k, k < 6 → s 3 k = s 65 k) ∧ ∀ k i n, k < 6 → i < 2 → s 65 k = nI n → n ≤ 2 → i < n → KEQ k (fun e j => s (1 + (CPK k i + e)) j) (fun j => s 65 (PLK k i + j))
theorem SIM_n {s : SG} : SIM1 s 1 0 ↔ SIMn s := by
  have e : (fun j => s 65 (0 + j)) = s 65 := funext (fun j => by rw [Nat.zero_add])
  unfold SIM1
  rw [e]
  exact Iff.rfl
/-- a call that changes lengths and faults alone -/
theorem SIM_fr {s w : SG} (h : SIMn s) (fr : ∀ c, 2 ≤ c → c < 42 → w c = s c) (h1 : w 1 1 = w 65 6 ∧ w 1 2 = w 65 7 ∧ w 1 3 = w 65 8) (f65 : ∀ j, j ≠ 6 → j ≠ 7 → j ≠ 8 → w 65 j = s 65 j) : SIMn w := by
  obtain ⟨_, h4, h5, h6⟩ := h
  refine ⟨h1, fun j hj => ?_, fun k hk => ?_, fun k i n hk hi en hn hin => ?_⟩
  · rw [fr 2 (by omega) (by omega), f65 (10 + j) (by omega) (by omega) (by omega)]; exact h4 j hj
  · rw [fr 3 (by omega) (by omega), f65 k (by omega) (by omega) (by omega)]; exact h5 k hk
  · rw [f65 k (by omega) (by omega) (by omega)] at en
    have pl := PLK_in hk hi
    refine KEQ_g hk (fun e j hd => ?_) (fun j _ => f65 _ (by omega) (by omega) (by omega)) (h6 k i n hk hi en hn hin)
    have c41 := tD_c (CPK_tD hk hi hd)
    have c5 : 5 ≤ CPK k i := by
      cases k with
      | zero => unfold CPK; (try dsimp only); omega
      | succ k => unfold CPK; (try dsimp only); omega
    show w (1 + (CPK k i + e)) j = s (1 + (CPK k i + e)) j
    rw [fr _ (by omega) (by omega)]
theorem KD_e {k e j : Nat} (h : KDD k e j) : e < (if k = 0 then 8 else 2) := by
  cases k with
  | zero => exact h.1
  | succ k => rw [if_neg (by omega)]; exact h.1
theorem iz_n {n : Nat} {x : Int32} (hn : n ≤ 2) : inI x 0 (nI n - 1) = 0 ↔ (x < 0 ∨ nI n ≤ x) := by
  have q : nI n - 1 < x ↔ nI n ≤ x := by
    rcases (by omega : n = 0 ∨ n = 1 ∨ n = 2) with rfl | rfl | rfl
    · rw [Int32.lt_iff_toInt_lt, Int32.le_iff_toInt_le]
      have e1 : (nI 0 - 1 : Int32).toInt = -1 := by decide
      have e2 : (nI 0 : Int32).toInt = 0 := by decide
      omega
    · rw [Int32.lt_iff_toInt_lt, Int32.le_iff_toInt_le]
      have e1 : (nI 1 - 1 : Int32).toInt = 0 := by decide
      have e2 : (nI 1 : Int32).toInt = 1 := by decide
      omega
    · rw [Int32.lt_iff_toInt_lt, Int32.le_iff_toInt_le]
      have e1 : (nI 2 - 1 : Int32).toInt = 1 := by decide
      have e2 : (nI 2 : Int32).toInt = 2 := by decide
      omega
  unfold inI
  by_cases c : x < 0
  · rw [if_pos c]; exact ⟨fun _ => Or.inl c, fun _ => rfl⟩
  · rw [if_neg c]
    by_cases c2 : nI n - 1 < x
    · rw [if_pos c2]; exact ⟨fun _ => Or.inr (q.1 c2), fun _ => rfl⟩
    · rw [if_neg c2]
      exact ⟨fun h => absurd h (by decide), fun h => h.elim (fun g => absurd g c) (fun g => absurd (q.2 g) c2)⟩
theorem inI5_n {x : Int32} : inI x 0 5 = 0 ↔ (x < 0 ∨ ¬ x < 6) := by
  have q : 5 < x ↔ ¬ x < 6 := by
    rw [Int32.lt_iff_toInt_lt, Int32.lt_iff_toInt_lt]
    have e1 : (5 : Int32).toInt = 5 := by decide
    have e2 : (6 : Int32).toInt = 6 := by decide
    omega
  unfold inI
  by_cases c : x < 0
  · rw [if_pos c]; exact ⟨fun _ => Or.inl c, fun _ => rfl⟩
  · rw [if_neg c]
    by_cases c2 : 5 < x
    · rw [if_pos c2]; exact ⟨fun _ => Or.inr (q.1 c2), fun _ => rfl⟩
    · rw [if_neg c2]
      exact ⟨fun h => absurd h (by decide), fun h => h.elim (fun g => absurd g c) (fun g => absurd (q.2 g) c2)⟩
/-- what is told after a text that was taken -/
theorem SIM_ok {s p2 U v : SG} {k n j l : Nat} {x2 : Int32} (h : SIMn s) (hk : k < 6) (hj : j < 2) (en : s 65 k = nI n) (hn : n ≤ 2) (hjn : (n = j) ∨ j < n) (hv : RK k U v) (eU : ∀ c, c < 42 → c ≠ 1 → U c = s c)
    (e1 : p2 1 1 = p2 65 6 ∧ p2 1 2 = p2 65 7 ∧ p2 1 3 = p2 65 8) (e2 : ∀ c, 2 ≤ c → c < 42 → p2 c = keeS U (nI k) (nI j) c) (f65 : ∀ x, x ≠ 6 → x ≠ 7 → x ≠ 8 → x ≠ k → (x < PLK k j ∨ PLK k j + SZK k ≤ x) → p2 65 x = s 65 x) (fk : p2 65 k = nI (if n = j then j + 1 else n)) (fS : ∀ x, x < SZK k → p2 65 (PLK k j + x) = v 67 x) : SIMn p2 := by
  obtain ⟨_, h4, h5, h6⟩ := h
  have plj := PLK_in hk hj
  have kc : ∀ c, c ≠ 3 → keeS U (nI k) (nI j) c = kee1 U (nI k) (nI j) c := fun c hc => by unfold keeS; exact pt_n hc
  have k3 : kee1 U (nI k) (nI j) 3 = s 3 := by
    rw [kee1_b hk hj (fun e _ => ?_), eU 3 (by omega) (by omega)]
    cases k with
    | zero => unfold CPK; (try dsimp only); omega
    | succ k => unfold CPK; (try dsimp only); omega
  have e3k : cl 6 (s 3) (nI k) = nI n := by rw [cl_nI hk (by decide), h5 k hk, en]
  refine ⟨e1, fun i hi => ?_, fun i hi => ?_, fun k2 i n2 hk2 hi en2 hn2 hin => ?_⟩
  · rw [e2 2 (by omega) (by omega), kc 2 (by omega), kee1_b hk hj (fun e _ => ?_), eU 2 (by omega) (by omega), f65 (10 + i) (by omega) (by omega) (by omega) (by omega) (by omega)]
    · exact h4 i hi
    · cases k with
      | zero => unfold CPK; (try dsimp only); omega
      | succ k => unfold CPK; (try dsimp only); omega
  · rw [e2 3 (by omega) (by omega)]
    unfold keeS
    rw [pt_e hk (by decide), k3, e3k]
    by_cases q : i = k
    · subst q
      rw [up_a, fk, show (nI j + 1 : Int32) = nI (j + 1) from (nI_succ j).symm]
      by_cases g : n = j
      · rw [if_pos g, if_pos]
        rw [g]; exact nI_lt2 (by omega) (by omega)
      · rw [if_neg g, if_neg]
        exact Int32.not_lt.mpr (nI_le2 (by omega) (by omega))
    · rw [up_bn q, k3, f65 i (by omega) (by omega) (by omega) q (by omega)]; exact h5 i hi
  · have pl := PLK_in hk2 hi
    by_cases q : k2 = k ∧ i = j
    · obtain ⟨rfl, rfl⟩ := q
      refine KEQ_g hk (fun e x hd => ?_) (fun x hx => fS x hx) (KEQ_R hk hv)
      have c41 := tD_c (CPK_tD hk hi hd)
      have c5 : 5 ≤ CPK k2 i := by
        cases k2 with
        | zero => unfold CPK; (try dsimp only); omega
        | succ k => unfold CPK; (try dsimp only); omega
      show p2 (1 + (CPK k2 i + e)) x = U (CK k2 + e) x
      rw [e2 _ (by omega) (by omega), kc _ (by omega), ← Nat.add_assoc]
      exact kee1_a hk hi hd
    · have dis := PLK_dis k hk k2 hk2 j hj i hi (fun g => q ⟨g.1.symm, g.2.symm⟩)
      have old : ∃ n3, s 65 k2 = nI n3 ∧ n3 ≤ 2 ∧ i < n3 := by
        by_cases g : k2 = k
        · subst g
          rw [fk] at en2
          have e : (if n = j then j + 1 else n) = n2 := nI_inj (by split <;> omega) (by omega) en2
          refine ⟨n, en, hn, ?_⟩
          by_cases g2 : n = j
          · rw [if_pos g2] at e; omega
          · rw [if_neg g2] at e; omega
        · rw [f65 k2 (by omega) (by omega) (by omega) g (by omega)] at en2
          exact ⟨n2, en2, hn2, hin⟩
      obtain ⟨n3, g1, g2, g3⟩ := old
      refine KEQ_g hk2 (fun e x hd => ?_) (fun x hx => f65 _ (by omega) (by omega) (by omega) (by omega) (by omega)) (h6 k2 i n3 hk2 hi g1 g2 g3)
      have c41 := tD_c (CPK_tD hk2 hi hd)
      have c5 : 5 ≤ CPK k2 i := by
        cases k2 with
        | zero => unfold CPK; (try dsimp only); omega
        | succ k => unfold CPK; (try dsimp only); omega
      show p2 (1 + (CPK k2 i + e)) x = s (1 + (CPK k2 i + e)) x
      rw [e2 _ (by omega) (by omega), kc _ (by omega), kee1_b hk hj (fun e2 he2 => ?_), eU _ (by omega) (by omega)]
      have := CPK_dis hk2 hk hi hj q (KD_e hd) he2
      omega
/-- off the cells it speaks of, a told thing hangs on nothing -/
theorem RK_g {k : Nat} {u u2 v : SG} (h : RK k u v) (e : ∀ c, 43 ≤ c → c ≤ 53 → u2 c = u c) : RK k u2 v := by
  have e43 := e 43 (by omega) (by omega)
  have e52 := e 52 (by omega) (by omega)
  have e53 := e 53 (by omega) (by omega)
  have rw_ : ∀ {c N : Nat}, RWS c N u v → RWS c N u2 v := fun {c N} h => by unfold RWS; rw [e43, e52, e53]; exact h
  match k, h with
  | 0, h =>
    obtain ⟨n, V, T, rp⟩ := h
    exact ⟨n, V, T, RPA_g rp (fun c h1 h2 => e c (by omega) (by omega)) (by rw [e43]) (by rw [e43]) rfl rfl⟩
  | 1, h => exact rw_ h
  | 2, h => exact rw_ h
  | 3, h => exact rw_ h
  | 4, h => exact rw_ h
  | k + 5, h =>
    show BGS u2 v
    have h : BGS u v := h
    unfold BGS
    rw [e43, e53]; exact h
theorem cp_a' {n : Nat} {s : SG} {e k j : Nat} (h : j < n) : cpS n s e k k j = s e j := cp_a h
theorem TX_sim {s : SG} {x1 x2 : Int32} {p : Int32 × SG} (tb : TB s 1) (r : RI s) (h0 : SIM1 s 1 0) (e : Rtext (texP s x1 x2).2 x1 x2 = some p) : (texP s x1 x2).1 = p.1 ∧ SIM1 p.2 1 0 := by
  have h := SIM_n.1 h0
  obtain ⟨l, el, hl⟩ := TB_l tb
  obtain ⟨⟨H1, H2, H3⟩, H4, H5, H6⟩ := id h
  have els : le s = l := by unfold le; rw [el, nI_clamp (by omega)]
  have l0 : (texP s x1 x2).2 1 1 = 0 := texP_l
  have c65 : (texP s x1 x2).2 65 = s 65 := texP_n (by omega)
  obtain ⟨s1, es1⟩ : ∃ s1, s1 = (texP s x1 x2).2 := ⟨_, rfl⟩
  rw [← es1] at e l0 c65
  obtain ⟨t, et⟩ : ∃ t, t = up (up (up (up s1 64 2 (nI l)) 65 6 0) 65 7 0) 65 8 (-1) := ⟨_, rfl⟩
  have T65 : ∀ j, j ≠ 6 → j ≠ 7 → j ≠ 8 → t 65 j = s 65 j := fun j a b c => by rw [et, up_bn c, up_bn b, up_bn a, up_n (by decide), c65]
  have T6 : t 65 6 = 0 := by rw [et, up_bn (by decide), up_bn (by decide), up_a]
  have T7 : t 65 7 = 0 := by rw [et, up_bn (by decide), up_a]
  have T8 : t 65 8 = -1 := by rw [et, up_a]
  have T2 : t 64 2 = nI l := by rw [et, up_n (by decide), up_n (by decide), up_n (by decide), up_a]
  have Tc : ∀ c, c ≠ 64 → c ≠ 65 → t c = s1 c := fun c a b => by rw [et, up_n b, up_n b, up_n b, up_n a]
  have key : Rtext s1 x1 x2 = (if inI x1 0 5 = 0 then some (-2, t) else if x2 = -1 then ((rdI t 65 5768 x1).bind fun g5 => if g5 < 2 then Rtext_74 (Rtext_R xF).1 (Rtext_R xF).2 t x1 x2 else some (-2, t)) else (RisOf t x1 x2).bind fun q6 => if q6 = 0 then some (-2, t) else Rtext_74 (Rtext_R xF).1 (Rtext_R xF).2 t x1 x2) := by
    unfold Rtext
    rw [rd_nI (x := 6) (e := 6) rfl (by decide) (by decide), c65, ← H1, el, Option.bind_some, wr_nI (x := 6) (e := 6) rfl (by decide) (by decide), Option.bind_some, wr_nI (x := 7) (e := 7) rfl (by decide) (by decide), Option.bind_some, wr_nI (x := 8) (e := 8) rfl (by decide) (by decide), Option.bind_some, et]
  rw [key] at e
  -- neither takes the text
  have none : plaI s x1 x2 = -1 → p = (-2, t) → (texP s x1 x2).1 = p.1 ∧ SIM1 p.2 1 0 := by
    intro c ep
    have x : texP s x1 x2 = (-2, txt1 s) := by unfold texP; rw [if_pos c]
    rw [ep, x]
    have s1e : s1 = txt1 s := by rw [es1, x]
    refine ⟨rfl, SIM_n.2 (SIM_fr h (fun c h2 h3 => ?_) ⟨?_, ?_, ?_⟩ T65)⟩
    · show t c = s c
      rw [Tc c (by omega) (by omega), s1e]
      unfold txt1
      rw [up_n (by omega), up_n (by omega), up_n (by omega)]
    · show t 1 1 = t 65 6
      rw [Tc 1 (by omega) (by omega), l0, T6]
    · show t 1 2 = t 65 7
      rw [Tc 1 (by omega) (by omega), s1e, T7]
      unfold txt1
      rw [up_bn (by decide), up_a]
    · show t 1 3 = t 65 8
      rw [Tc 1 (by omega) (by omega), s1e, T8]
      unfold txt1
      rw [up_a]
  by_cases c5 : inI x1 0 5 = 0
  · rw [if_pos c5] at e
    refine none ?_ (Option.some.inj e).symm
    unfold plaI
    rcases inI5_n.1 c5 with g | g
    · rw [if_pos g]
    · rw [if_neg g]; split <;> rfl
  rw [if_neg c5] at e
  obtain ⟨k, ek, hk5⟩ := inI_nI (b := 5) (by decide) c5
  have hk : k < 6 := by omega
  obtain ⟨n, en, hn⟩ := r.1.1 k hk
  have t65k : t 65 k = nI n := by rw [T65 k (by omega) (by omega) (by omega)]; exact en
  have pla : plaI s x1 x2 = if x2 = -1 then (if 2 ≤ nI n then -1 else nI n) else if x2 < 0 then -1 else if nI n ≤ x2 then -1 else x2 := by
    unfold plaI
    rw [ek, if_neg (nI_pos (by omega)), if_pos (show nI k < 6 from nI_lt2 (b := 6) hk (by decide)), cl_nI hk (by decide), H5 k hk, en]
  -- both read the text
  have go : ∀ j, j < 2 → plaI s x1 x2 = nI j → (n = j ∨ j < n) → (x2 = -1 → n = j) → (¬ x2 = -1 → j < n) → TY x2 k t → Rtext_74 (Rtext_R xF).1 (Rtext_R xF).2 t x1 x2 = some p → (texP s x1 x2).1 = p.1 ∧ SIM1 p.2 1 0 := by
    intro j hj pj hjn hm1 hm2 ty e74
    have npl : ¬ plaI s x1 x2 = -1 := by rw [pj]; exact nI_n1 (by omega)
    have pe := text_k (f := fun j => s 65 (10 + j)) (L := l) (c0 := cpS 600 (txt1 s) 2 54) hk ek T2 hl ty (fun j hj => T65 _ (by omega) (by omega) (by omega)) (fun j hj => (H4 j (by omega)).2) T7 T8 (fun j hj => by
      rw [cp_a' (by omega)]
      unfold txt1
      rw [up_n (by decide), up_n (by decide), up_n (by decide)]; exact (H4 j (by omega)).1) p e74
    have eU : redS (txt1 s) 2 (le s) x1 = redL x1 600 (sonS (cpS 600 (txt1 s) 2 54) l) 1 := by rw [els]; rfl
    rw [← eU] at pe
    have t2 : txt2 s x1 = up (up (redS (txt1 s) 2 (le s) x1) 1 2 (redS (txt1 s) 2 (le s) x1 43 2)) 1 3 (redS (txt1 s) 2 (le s) x1 43 3) := rfl
    have t43 : txt2 s x1 43 2 = redS (txt1 s) 2 (le s) x1 43 2 := by rw [t2, up_n (by decide), up_n (by decide)]
    have t12 : txt2 s x1 1 2 = redS (txt1 s) 2 (le s) x1 43 2 := by rw [t2, up_bn (by decide), up_a]
    have t13 : txt2 s x1 1 3 = redS (txt1 s) 2 (le s) x1 43 3 := by rw [t2, up_a]
    rcases pe with ⟨n7, p1, u2, u3, fr⟩ | ⟨z7, z8, u2, u3, j2, v, hj2, p1, cnt, rk, fc, fx, fS⟩
    · have x : texP s x1 x2 = (-1, txt2 s x1) := by
        unfold texP
        rw [if_neg npl, if_neg (by rw [t43, u2]; exact n7)]
      have s1e : s1 = txt2 s x1 := by rw [es1, x]
      refine ⟨by rw [x, p1], SIM_n.2 (SIM_fr h (fun c h2 h3 => ?_) ⟨?_, ?_, ?_⟩ (fun j a b c => ?_))⟩
      · rw [fr.2 c (by omega) (by omega) (by omega), Tc c (by omega) (by omega), s1e]
        exact txt2_n (by omega) (by omega)
      · rw [fr.2 1 (by omega) (by omega) (by omega), Tc 1 (by omega) (by omega), l0, fr.1 6 (by omega) (by omega), T6]
      · rw [fr.2 1 (by omega) (by omega) (by omega), Tc 1 (by omega) (by omega), s1e, t12]; exact u2
      · rw [fr.2 1 (by omega) (by omega) (by omega), Tc 1 (by omega) (by omega), s1e, t13]; exact u3
      · rw [fr.1 j b c, T65 j a b c]
    · have x : texP s x1 x2 = (plaI s x1 x2, keeS (txt2 s x1) x1 (plaI s x1 x2)) := by
        unfold texP
        rw [if_neg npl, if_pos (by rw [t43]; exact u2)]
      have s1e : s1 = keeS (txt2 s x1) (nI k) (nI j) := by rw [es1, x, pj, ek]
      have ej : j2 = j := by
        rcases cnt with ⟨g1, g2, _⟩ | ⟨g1, g2, _⟩
        · rw [t65k] at g2
          have := nI_inj (by omega) (by omega) g2
          have := hm1 g1
          omega
        · rw [pla, if_neg g1, g2] at pj
          have g3 : ¬ nI j2 < 0 := nI_pos (by omega)
          rw [if_neg g3] at pj
          by_cases g4 : nI n ≤ nI j2
          · rw [if_pos g4] at pj; exact absurd pj.symm (nI_n1 (by omega))
          · rw [if_neg g4] at pj; exact nI_inj (by omega) (by omega) pj
      subst ej
      have fk : p.2 65 k = nI (if n = j2 then j2 + 1 else n) := by
        rcases cnt with ⟨g1, _, g3⟩ | ⟨g1, _, g3⟩
        · rw [if_pos (hm1 g1)]; exact g3
        · have := hm2 g1
          rw [if_neg (by omega), g3, t65k]
      have k5 : keeS (txt2 s x1) (nI k) (nI j2) 1 = txt2 s x1 1 := keeS_n (by omega)
      refine ⟨by rw [x, pj, p1], SIM_n.2 (SIM_ok (U := txt2 s x1) (v := v) (l := l) (x2 := x2) h hk hj en hn hjn ?_ (fun c h1 h2 => txt2_n h2 (by omega)) ⟨?_, ?_, ?_⟩ (fun c h1 h2 => by rw [fc c (by omega) (by omega) (by omega), Tc c (by omega) (by omega), s1e]) (fun x a b c g1 g2 => by rw [fx x b c g1 g2, T65 x a b c]) fk fS)⟩
      · exact RK_g rk (fun c h1 h2 => by rw [t2, up_n (by omega), up_n (by omega)])
      · have pl := PLK_in hk hj
        rw [fc 1 (by omega) (by omega) (by omega), Tc 1 (by omega) (by omega), l0, fx 6 (by omega) (by omega) (by omega) (by omega), T6]
      · rw [fc 1 (by omega) (by omega) (by omega), Tc 1 (by omega) (by omega), s1e, k5, t12, u2, z7]
      · rw [fc 1 (by omega) (by omega) (by omega), Tc 1 (by omega) (by omega), s1e, k5, t13, u3, z8]
  by_cases c1 : x2 = -1
  · rw [if_pos c1, rd_nI ek (by omega) (by decide)] at e
    replace e : (if t 65 k < 2 then Rtext_74 (Rtext_R xF).1 (Rtext_R xF).2 t x1 x2 else some (-2, t)) = some p := e
    rw [t65k] at e
    rw [if_pos c1] at pla
    by_cases c2 : nI n < 2
    · rw [if_pos c2] at e
      rw [if_neg (Int32.not_le.mpr c2)] at pla
      have n2 : n < 2 := by
        rw [Int32.lt_iff_toInt_lt, nI_toInt (by omega)] at c2
        have : (2 : Int32).toInt = 2 := by decide
        omega
      exact go n n2 pla (Or.inl rfl) (fun _ => rfl) (fun g => absurd c1 g) (Or.inl ⟨c1, n, t65k, n2⟩) e
    · rw [if_neg c2] at e
      rw [if_pos (Int32.not_lt.mp c2)] at pla
      exact none pla (Option.some.inj e).symm
  · have is : RisOf t x1 x2 = some (inI x2 0 (nI n - 1)) := by
      unfold RisOf
      rw [rd_nI ek (by omega) (by decide), t65k]; rfl
    rw [if_neg c1, is] at e
    replace e : (if inI x2 0 (nI n - 1) = 0 then some (-2, t) else Rtext_74 (Rtext_R xF).1 (Rtext_R xF).2 t x1 x2) = some p := e
    rw [if_neg c1] at pla
    by_cases c2 : inI x2 0 (nI n - 1) = 0
    · rw [if_pos c2] at e
      refine none ?_ (Option.some.inj e).symm
      rw [pla]
      rcases (iz_n hn).1 c2 with g | g
      · rw [if_pos g]
      · rw [if_pos g]; split <;> rfl
    · rw [if_neg c2] at e
      have g1 : ¬ x2 < 0 := fun g => c2 ((iz_n hn).2 (Or.inl g))
      have g2 : ¬ nI n ≤ x2 := fun g => c2 ((iz_n hn).2 (Or.inr g))
      rw [if_neg g1, if_neg g2] at pla
      obtain ⟨j, hjn, ej⟩ := nat_of g1 (Int32.not_le.mp g2) (by omega)
      exact go j (by omega) (pla.trans ej) (Or.inr hjn) (fun g => absurd g c1) (fun _ => hjn) (Or.inr ⟨c1, j, ej, by omega⟩) e
end XTV
