section
section XSA
variable {sc : Nat × (Nat → Int32)} {d : Nat} {K : List KD} {r q t a B m : Nat} {w : EW}
/-! what is told, place by place: copies -/
theorem cp_a {n : Nat} {s : SG} {e k j : Nat} (h : j < n) : cpS n s e k k j = s e j := by
  unfold cpS
  rw [sF_s]; exact if_pos h
/-- a place within a republic's eight cells -/
def rD (e j : Nat) : Prop := (e = 0 ∧ (j = 0 ∨ (8 ≤ j ∧ j ≤ 13))) ∨ ((e = 1 ∨ e = 2 ∨ e = 3 ∨ e = 4 ∨ e = 6) ∧ j < 6) ∨ (e = 5 ∧ j < 72) ∨ (e = 7 ∧ j < 3)
/-- a place within the cells of rows -/
def wD (e j : Nat) : Prop := (e = 0 ∧ j = 0) ∨ (e = 1 ∧ j < 200)
/-- a place within what is told -/
def tD (c j : Nat) : Prop := (c = 0 ∧ 1 ≤ j ∧ j ≤ 3) ∨ (c = 1 ∧ j < 600) ∨ (c = 2 ∧ j < 6) ∨ (∃ i e, i < 2 ∧ e < 8 ∧ c = 5 + 8 * i + e ∧ rD e j) ∨ (∃ k e, k < 10 ∧ e < 2 ∧ c = 21 + 2 * k + e ∧ wD e j)
theorem tD_c {c j : Nat} (h : tD c j) : c < 41 := by
  rcases h with ⟨rfl, _⟩ | ⟨rfl, _⟩ | ⟨rfl, _⟩ | ⟨i, e, h1, h2, rfl, _⟩ | ⟨k, e, h1, h2, rfl, _⟩ <;> omega
theorem cprS_e {s : SG} {r t : Nat} (hd : r + 8 ≤ t ∨ t + 8 ≤ r) {e j : Nat} (h : rD e j) : cprS s r t (r + e) j = s (t + e) j := by
  rcases h with ⟨rfl, h⟩ | ⟨h, hj⟩ | ⟨rfl, hj⟩ | ⟨rfl, hj⟩
  · rcases (by omega : j = 0 ∨ j = 8 ∨ j = 9 ∨ j = 10 ∨ j = 11 ∨ j = 12 ∨ j = 13) with rfl | rfl | rfl | rfl | rfl | rfl | rfl <;> (unfold cprS; simp (disch := omega) only [Nat.add_zero, up_n, up_bn, up_a, cp_n])
  · rcases h with rfl | rfl | rfl | rfl | rfl <;> (unfold cprS; simp (disch := omega) only [up_n, cp_n, cp_a hj])
  · unfold cprS; simp (disch := omega) only [up_n, cp_n, cp_a hj]
  · unfold cprS; simp (disch := omega) only [up_n, cp_n, cp_a hj]
theorem cpwS_e {s : SG} {q t : Nat} (hd : q + 2 ≤ t ∨ t + 2 ≤ q) {e j : Nat} (h : wD e j) : cpwS s q t (q + e) j = s (t + e) j := by
  rcases h with ⟨rfl, rfl⟩ | ⟨rfl, hj⟩
  · unfold cpwS; simp (disch := omega) only [Nat.add_zero, up_a, cp_n]
  · unfold cpwS; simp (disch := omega) only [up_n, cp_a hj]
theorem cpTw_e {s : SG} {B C : Nat} (hd : B + 41 ≤ C ∨ C + 41 ≤ B) {k e j : Nat} (he : e < 2) (h : wD e j) : ∀ m, m ≤ 10 → k < m → cpTw s B C m (B + (21 + 2 * k + e)) j = s (C + (21 + 2 * k + e)) j := by
  intro m
  induction m with
  | zero => intro _ h0; omega
  | succ m ih =>
    intro hm h0
    rw [cpTw]
    by_cases q : k = m
    · subst q
      rw [show B + (21 + 2 * k + e) = B + 21 + 2 * k + e by omega, cpwS_e (by omega) h, cpTw_n k (by omega), show C + 21 + 2 * k + e = C + (21 + 2 * k + e) by omega]
    · rw [cpwS_n (by omega)]
      exact ih (by omega) (by omega)
theorem cpTr_e {s : SG} {B C : Nat} (hd : B + 41 ≤ C ∨ C + 41 ≤ B) {k e j : Nat} (he : e < 8) (h : rD e j) : ∀ m, m ≤ 2 → k < m → cpTr s B C m (B + (5 + 8 * k + e)) j = s (C + (5 + 8 * k + e)) j := by
  intro m
  induction m with
  | zero => intro _ h0; omega
  | succ m ih =>
    intro hm h0
    rw [cpTr]
    by_cases q : k = m
    · subst q
      rw [show B + (5 + 8 * k + e) = B + 5 + 8 * k + e by omega, cprS_e (by omega) h, cpTr_n k (by omega), show C + 5 + 8 * k + e = C + (5 + 8 * k + e) by omega]
    · rw [cprS_n (by omega)]
      exact ih (by omega) (by omega)
theorem cpTS_e {s : SG} {B C : Nat} (hd : B + 41 ≤ C ∨ C + 41 ≤ B) {c j : Nat} (h : tD c j) : cpTS s B C (B + c) j = s (C + c) j := by
  unfold cpTS
  rcases h with ⟨rfl, h1, h2⟩ | ⟨rfl, h1⟩ | ⟨rfl, h1⟩ | ⟨i, e, h1, h2, rfl, h3⟩ | ⟨k, e, h1, h2, rfl, h3⟩
  · rw [cpTw_n 10 (by omega), cpTr_n 2 (by omega)]
    unfold cpT0
    rcases (by omega : j = 1 ∨ j = 2 ∨ j = 3) with rfl | rfl | rfl <;> simp (disch := omega) only [Nat.add_zero, up_n, up_bn, up_a, cp_n]
  · rw [cpTw_n 10 (by omega), cpTr_n 2 (by omega)]
    unfold cpT0
    simp (disch := omega) only [up_n, cp_n, cp_a h1]
  · rw [cpTw_n 10 (by omega), cpTr_n 2 (by omega)]
    unfold cpT0
    simp (disch := omega) only [up_n, cp_n, cp_a h1]
  · rw [cpTw_n 10 (by omega), cpTr_e hd h2 h3 2 (by omega) h1, cpT0_n (by omega)]
  · rw [cpTw_e hd h2 h3 10 (by omega) h1, cpTr_n 2 (by omega), cpT0_n (by omega)]
def kS1 : KD → Nat
  | .inl q => q.2.length
  | .inr (.inl q) => q.2
  | .inr (.inr q) => q.2.1
def kSL (K : List KD) : Nat := (K.map kS1).sum
def kT : Nat := kSL (KT 0)
theorem kSL_set : ∀ (K : List KD) (k : Nat) (a b : KD), K[k]? = some a → kS1 b = kS1 a → kSL (K.set k b) = kSL K := by
  intro K
  induction K with
  | nil => intro k a b h; cases h
  | cons c t ih =>
    intro k a b h e
    cases k with
    | zero =>
      obtain rfl : c = a := Option.some.inj h
      show kS1 b + kSL t = kS1 c + kSL t
      rw [e]
    | succ k =>
      show kS1 c + kSL (t.set k b) = kS1 c + kSL t
      rw [ih k a b h e]
theorem kSL_app {A B : List KD} : kSL (A ++ B) = kSL A + kSL B := by
  unfold kSL
  rw [List.map_append, List.sum_append]
theorem kSL_new {K : List KD} {n : Nat} {f g : Nat → Option Nat} (q : (K ++ KT n)[42]? = some (kQ 4 3 f)) : kSL ((K ++ KT n).set 42 (kQ 4 3 g)) = kSL K + kT := by
  rw [kSL_set _ 42 (kQ 4 3 f) (kQ 4 3 g) q rfl, kSL_app]; rfl
theorem c_imageL {sc : Nat × (Nat → Int32)} {d : Nat} {K : List KD} {s : SG} {f : Nat → Option Nat} {x : Int32} (ks : KS K s f) (tb : TB s 1) (inj : ∀ i j C, i < 3 → j < 3 → f i = some C → f j = some C → i = j) : ∃ K' s' f', xN sc (d + 4) 80 [.inr (.inr (.inl (some 0))), .inl x] (wl K s) = some (some (.inl (imgI x)), wl K' s') ∧ KS K' s' f' ∧ (∀ c, c < 72 → s' c = s c) ∧ ((imgI x = 0 ∧ K' = K ∧ s' = s ∧ f' = f) ∨ ∃ k, k < 3 ∧ x = nI k ∧ imgI x = 1 ∧ (∀ j, j ≠ k → f' j = f j) ∧ (f k = none → K'.length = K.length + 41 ∧ kSL K' = kSL K + kT) ∧ (f k ≠ none → K'.length = K.length ∧ kSL K' = kSL K) ∧ ∃ B, f' k = some B ∧ TB s' B ∧ (∀ c j, tD c j → s' (B + c) j = s (1 + c) j) ∧ ∀ j C, j < 3 → j ≠ k → f j = some C → C ≠ B ∧ ∀ c, c < 41 → s' (C + c) = s (C + c)) := by
  have h := KS_SH ks
  have h42 := KS_42 ks
  have hn : xnn sc (wl K s) (.inr (.inr (.inl (some 42)))) = some 3 := xnq_wl h42 rfl
  have h3 : (3 : Int32) = nI 3 := rfl
  by_cases c1 : x < 0
  · have e : imgI x = 0 := by unfold imgI; rw [if_pos c1]
    refine ⟨K, s, f, ?_, ks, fun _ _ => rfl, Or.inl ⟨e, rfl, rfl, rfl⟩⟩
    rw [mX6_image, e]
    simp only [uX6_image_0, uX6_image_4, uX6_image_13, qX6_image_0, qX6_image_4, qX6_image_13, jX6_image_4_13, jX6_image_13_15, jX6_image_24_34, jX6_image_34_40, if_pos c1]
  · by_cases c2 : x < nI 3
    · obtain ⟨k, hk, rfl⟩ := nat_of c1 c2 (by decide)
      have e : imgI (nI k) = 1 := by unfold imgI; rw [if_neg c1, if_pos (by rw [h3]; exact c2)]
      have xk : xvb (nI k) 3 = true := xvb_nI hk (by decide)
      have hq : xdq (wl K s) (nI k) (.inr (.inr (.inl (some 42)))) = some (f k) := by
        rw [xdq_wl h42 rfl xk, nI_clamp (by omega)]
      rcases ks.2 k hk with g | ⟨B, g, hB1, hB2, hB3, hB4⟩
      · -- a new one
        have hl := KS_len ks
        have n1 : TD (K ++ KT K.length) K.length := TD_new
        have n2 : TD (K ++ KT K.length) 1 := TD_app (cS_t h) (by omega)
        have hS : SH (K ++ KT K.length) := by
          obtain ⟨f, t, rfl⟩ := h
          exact ⟨f, t ++ KT _, List.append_assoc _ _ _⟩
        have i5 := c_init5 (sc := sc) (d := d + 1) (w := wl K s)
        rw [wl_len, wl_new] at i5
        have ct := c_copyTold (sc := sc) (d := d) (s := nwS s K.length) (B := K.length) (C := 1) n1 n2 (by omega)
        have q42 : (K ++ KT K.length)[42]? = some (kQ 4 3 f) := by rw [List.getElem?_append_left (by omega)]; exact h42
        have xt := xtq_wl (s := cpTS (nwS s K.length) K.length 1) (j := k) (ci := 5) (q := K.length) q42 (n1 0 (by decide)) rfl hk (by decide) rfl
        have rv : xrv (wl (K ++ KT K.length) (nwS s K.length)) 5 (.inr (.inr (.inl (some K.length)))) = true := cT_v n1
        have lo : ∀ c, c < K.length → nwS s K.length c = s c := by intro c hc; funext j; unfold nwS; rw [if_pos hc]
        have tb1 : TB (nwS s K.length) 1 := TB_of (fun c _ hc => lo c (by omega)) tb
        refine ⟨(K ++ KT K.length).set 42 (kQ 4 3 (va_up f k (some K.length))), cpTS (nwS s K.length) K.length 1, va_up f k (some K.length), ?_, ?_, ?_, Or.inr ⟨k, hk, rfl, e, fun j hj => va_up_ne f _ hj, fun _ => ?_, fun q => absurd g q, K.length, va_up_self f k _, cpTS_TB (by omega) tb1, ?_, ?_⟩⟩
        · rw [mX6_image, e]
          simp only [uX6_image_0, uX6_image_4, uX6_image_13, uX6_image_15, uX6_image_24, qX6_image_0, qX6_image_4, qX6_image_13, qX6_image_15, qX6_image_24, jX6_image_4_13, jX6_image_13_15, jX6_image_24_34, jX6_image_34_40, c0_g1 h, hn, bd_eq, if_neg c1, if_pos c2, hq, g, Option.isNone_none, cond_true, wl_len, i5, xcv_eq]
          simp only [uX6_image_40, qX6_image_40, jX6_image_4_13, jX6_image_13_15, jX6_image_24_34, jX6_image_34_40, c0_g0 hS, c0_g1 hS, bd_eq, rv, cond_true, ct, xcv_eq, xt]
        · refine ⟨?_, fun j hj => ?_⟩
          · obtain ⟨⟨t, et⟩, _⟩ := ks
            refine ⟨t ++ KT K.length, ?_⟩
            have : K ++ KT K.length = KB f ++ (t ++ KT K.length) := by rw [← List.append_assoc, ← et]
            rw [this]; exact KB_set
          · by_cases ej : j = k
            · subst ej
              refine Or.inr ⟨K.length, va_up_self f j _, hl, ?_, TD_set n1 hl, cpTS_TB (by omega) tb1⟩
              rw [List.length_set, List.length_append]; exact Nat.le_refl _
            · rw [va_up_ne f _ ej]
              rcases ks.2 j hj with q | ⟨B, q, hB1, hB2, hB3, hB4⟩
              · exact Or.inl q
              · refine Or.inr ⟨B, q, hB1, ?_, TD_set (TD_app hB3 hB2) hB1, ?_⟩
                · rw [List.length_set, List.length_append]; omega
                · refine TB_of (s := s) (fun c _ hc => ?_) hB4
                  rw [cpTS_n (by omega)]; exact lo c (by omega)
        · intro c hc
          rw [cpTS_n (by omega)]; exact lo c (by omega)
        · exact ⟨by rw [List.length_set, List.length_append]; rfl, kSL_new q42⟩
        · intro c j hc
          have := tD_c hc
          rw [cpTS_e (by omega) hc, lo (1 + c) (by omega)]
        · intro j C hj hne ej
          rcases ks.2 j hj with q | ⟨D, q, hD1, hD2, hD3, hD4⟩
          · rw [q] at ej; cases ej
          · rw [q] at ej; cases ej
            refine ⟨by omega, fun c hc => ?_⟩
            rw [cpTS_n (by omega), lo _ (by omega)]
      · -- one that stands
        have ct := c_copyTold (sc := sc) (d := d) (s := s) (B := B) (C := 1) hB3 (cS_t h) (by omega)
        have xt := xtq_wl (s := cpTS s B 1) (j := k) (ci := 5) (q := B) h42 (hB3 0 (by decide)) rfl hk (by decide) rfl
        have vf : va_up f k (some B) = f := by
          funext j
          by_cases ej : j = k
          · subst ej; rw [va_up_self, g]
          · exact va_up_ne f _ ej
        have kk : K.set 42 (kQ 4 3 f) = K := by
          obtain ⟨⟨t, et⟩, _⟩ := ks
          rw [et, KB_set]
        rw [vf, kk] at xt
        refine ⟨K, cpTS s B 1, f, ?_, ?_, ?_, Or.inr ⟨k, hk, rfl, e, fun _ _ => rfl, fun q => absurd (q ▸ g : none = some B) (by intro z; cases z), fun _ => ⟨rfl, rfl⟩, B, g, cpTS_TB (by omega) tb, ?_, ?_⟩⟩
        · rw [mX6_image, e]
          simp only [uX6_image_0, uX6_image_4, uX6_image_13, uX6_image_15, qX6_image_0, qX6_image_4, qX6_image_13, qX6_image_15, jX6_image_4_13, jX6_image_13_15, jX6_image_24_34, jX6_image_34_40, c0_g1 h, hn, bd_eq, if_neg c1, if_pos c2, hq, g, Option.isNone_some, cond_false]
          simp only [uX6_image_34, uX6_image_40, qX6_image_34, qX6_image_40, jX6_image_4_13, jX6_image_13_15, jX6_image_24_34, jX6_image_34_40, c0_g1 h, c0_g0 h, hq, g, bd_eq, cT_v hB3, cond_true, ct, xcv_eq, xt]
        · refine ⟨ks.1, fun j hj => ?_⟩
          by_cases ej : j = k
          · subst ej
            exact Or.inr ⟨B, g, hB1, hB2, hB3, cpTS_TB (by omega) tb⟩
          · rcases ks.2 j hj with q | ⟨C, q, hC1, hC2, hC3, hC4⟩
            · exact Or.inl q
            · refine Or.inr ⟨C, q, hC1, hC2, hC3, ?_⟩
              by_cases eB : C = B
              · subst eB; exact cpTS_TB (by omega) tb
              · exact TB_cp eB hC3 hB3 hC4
        · intro c hc
          exact cpTS_n (by omega)
        · intro c j hc
          exact cpTS_e (by omega) hc
        · intro j C hj hne ej
          have nB : C ≠ B := fun e => hne (inj j k B hj hk (by rw [← e]; exact ej) g)
          refine ⟨nB, fun c hc => ?_⟩
          rcases ks.2 j hj with q | ⟨D, q, hD1, hD2, hD3, hD4⟩
          · rw [q] at ej; cases ej
          · rw [q] at ej; cases ej
            refine cpTS_n ?_
            rcases Nat.lt_or_ge B C with z | z
            · have := TD_apart hB3 hD3 z; omega
            · have := TD_apart hD3 hB3 (by omega); omega
    · have e : imgI x = 0 := by unfold imgI; rw [if_neg c1, if_neg (by rw [h3]; exact c2)]
      refine ⟨K, s, f, ?_, ks, fun _ _ => rfl, Or.inl ⟨e, rfl, rfl, rfl⟩⟩
      rw [mX6_image, e]
      simp only [uX6_image_0, uX6_image_4, uX6_image_13, qX6_image_0, qX6_image_4, qX6_image_13, jX6_image_4_13, jX6_image_13_15, jX6_image_24_34, jX6_image_34_40, c0_g1 h, hn, bd_eq, if_neg c1, if_neg c2]def nn (f : Nat → Option Nat) : Nat := (if f 0 = none then 1 else 0) + (if f 1 = none then 1 else 0) + (if f 2 = none then 1 else 0)
theorem RI_65 {s t : SG} (e : t 65 = s 65) (h : RI s) : RI t := by
  unfold RI at *
  rw [e]; exact h
theorem nn_put {f g : Nat → Option Nat} {k : Nat} (hk : k < 3) (h : ∀ j, j ≠ k → g j = f j) (e : ¬ g k = none) : (f k = none → nn f = nn g + 1) ∧ (¬ f k = none → nn f = nn g) := by
  have c : k = 0 ∨ k = 1 ∨ k = 2 := by omega
  unfold nn
  rcases c with rfl | rfl | rfl
  · rw [h 1 (by decide), h 2 (by decide), if_neg e]
    exact ⟨fun z => by rw [if_pos z]; omega, fun z => by rw [if_neg z]⟩
  · rw [h 0 (by decide), h 2 (by decide), if_neg e]
    exact ⟨fun z => by rw [if_pos z]; omega, fun z => by rw [if_neg z]⟩
  · rw [h 0 (by decide), h 1 (by decide), if_neg e]
    exact ⟨fun z => by rw [if_pos z], fun z => by rw [if_neg z]⟩
theorem imgI_k {k : Nat} (hk : k < 3) : ¬ imgI (nI k) = 0 := by
  have c : k = 0 ∨ k = 1 ∨ k = 2 := by omega
  rcases c with rfl | rfl | rfl <;> decide
end XSA
end
section
section XSB
variable {sc : Nat × (Nat → Int32)} {d : Nat} {K : List KD} {r q t a B m : Nat} {w : EW}
/-! the law: what every call keeps, for any relation P of what is told (the class's at B, the reference's from o on) -/
def wLoc (P : SG → Nat → Nat → Prop) : Prop := ∀ (s t : SG) (B B2 o o2 : Nat), (∀ c j, tD c j → t (B2 + c) j = s (B + c) j) → (∀ j, j < 1442 → t 65 (o2 + j) = s 65 (o + j)) → P s B o → P t B2 o2
def INVP (P : SG → Nat → Nat → Prop) (K : List KD) (s : SG) : Prop := ∃ f, KS K s f ∧ TB s 1 ∧ RI s ∧ (K.length + 41 * nn f = 195 ∧ kSL K + kT * nn f = kSL KZ + kT * 3) ∧ (∀ k, k < 3 → (f k = none ↔ s 66 k = 0)) ∧ (∀ i j C, i < 3 → j < 3 → f i = some C → f j = some C → i = j) ∧ P s 1 0 ∧ ∀ k C, k < 3 → f k = some C → P s C (1442 * (k + 1))
theorem KS_72 {s : SG} {f : Nat → Option Nat} {k C : Nat} (h : KS K s f) (hk : k < 3) (e : f k = some C) : 72 ≤ C := by
  rcases h.2 k hk with q | ⟨D, q, hD, _⟩
  · rw [q] at e; cases e
  · rw [q] at e; cases e; exact hD
theorem INVP_SH {P : SG → Nat → Nat → Prop} {s : SG} (h : INVP P K s) : SH K := by
  obtain ⟨f, ks, _⟩ := h
  exact KS_SH ks
theorem INVP_TB {P : SG → Nat → Nat → Prop} {s : SG} (h : INVP P K s) : TB s 1 := by
  obtain ⟨f, _, tb, _⟩ := h
  exact tb
theorem INVP_RI {P : SG → Nat → Nat → Prop} {s : SG} (h : INVP P K s) : RI s := by
  obtain ⟨f, _, _, r, _⟩ := h
  exact r
theorem INVP_P {P : SG → Nat → Nat → Prop} {s : SG} (h : INVP P K s) : P s 1 0 := by
  obtain ⟨f, _, _, _, _, _, _, p, _⟩ := h
  exact p
/-- a call that tells nothing -/
theorem INVP_q {P : SG → Nat → Nat → Prop} (hP : wLoc P) {s s1 s2 : SG} (h : INVP P K s) (fr : ∀ c, (c < 42 ∨ 64 ≤ c) → s1 c = s c) (q : QI s1 s2) : INVP P K s2 := by
  obtain ⟨f, ks, tb, r, n0, im, inj, p0, pk⟩ := h
  have e : ∀ c, (c < 42 ∨ 72 ≤ c) → s2 c = s c := fun c hc => by rw [q.2.2 c (by omega), fr c (by omega)]
  have e65 : s2 65 = s 65 := by rw [q.1, fr 65 (by omega)]
  have e66 : s2 66 = s 66 := by rw [q.2.1, fr 66 (by omega)]
  refine ⟨f, KS_of (fun c hc => e c (Or.inr hc)) ks, TB_of (fun c _ hc => e c (by omega)) tb, RI_65 e65 r, n0, fun k hk => by rw [e66]; exact im k hk, inj, hP s s2 1 1 0 0 (fun c j hc => ?_) (fun j _ => by rw [e65]) p0, fun k C hk hf => hP s s2 C C _ _ (fun c j hc => ?_) (fun j _ => by rw [e65]) (pk k C hk hf)⟩
  · have := tD_c hc
    rw [e (1 + c) (by omega)]
  · have := KS_72 ks hk hf
    rw [e (C + c) (by omega)]
/-- a call that tells: the class changes what is told below its images, the reference likewise -/
theorem INVP_t {P : SG → Nat → Nat → Prop} (hP : wLoc P) {s s1 s2 : SG} (h : INVP P K s) (tb1 : TB s1 1) (fr : ∀ c, 64 ≤ c → s1 c = s c) (r2 : RI s2) (q : QA s1 s2) (p : P s2 1 0) : INVP P K s2 := by
  obtain ⟨f, ks, tb, r, n0, im, inj, p0, pk⟩ := h
  have e : ∀ c, 72 ≤ c → s2 c = s c := fun c hc => by rw [q.2.2 c (by omega), fr c (by omega)]
  have e66 : s2 66 = s 66 := by rw [q.2.1, fr 66 (by omega)]
  refine ⟨f, KS_of e ks, TB_of (fun c _ hc => q.2.2 c (by omega)) tb1, r2, n0, fun k hk => by rw [e66]; exact im k hk, inj, p, fun k C hk hf => hP s s2 C C _ _ (fun c j hc => ?_) (fun j _ => ?_) (pk k C hk hf)⟩
  · have := KS_72 ks hk hf
    rw [e (C + c) (by omega)]
  · rw [q.1 _ (by omega), fr 65 (by omega)]
section INVC
variable {sc : Nat × (Nat → Int32)} {d : Nat} {K : List KD} {P : SG → Nat → Nat → Prop} {s : SG}
/-- both keep an image, with one answer -/
theorem CE_image {x1 : Int32} (hP : wLoc P) (h : INVP P K s) : ∃ v K1 s1 s2, xN sc (d + 11) 80 [.inr (.inr (.inl (some 0))), .inl x1] (wl K s) = some (some (.inl v), wl K1 s1) ∧ SH K1 ∧ xN sc (d + 11) 281 [.inr (.inr (.inl (some 64))), .inl x1] (wl K1 s1) = some (some (.inl v), wl K1 s2) ∧ INVP P K1 s2 := by
  obtain ⟨f, ks, tb, r, n0, im, inj, p0, pk⟩ := h
  obtain ⟨K1, s1, f1, e1, ks1, fr, cs⟩ := c_imageL (sc := sc) (d := d + 7) (x := x1) ks tb inj
  have hK1 := KS_SH ks1
  have tb1 : TB s1 1 := TB_of (fun c _ hc => fr c (by omega)) tb
  have r1 : RI s1 := RI_65 (fr 65 (by omega)) r
  obtain ⟨p, e2, ep, r2, fr2, cr⟩ := image_ok (s := s1) (x := x1) r1
  have q2 := r_image (sc := sc) (d := d + 9) (s := s1) (x1 := x1) hK1
  rw [e2] at q2
  have q3 : xN sc (d + 11) 281 [.inr (.inr (.inl (some 64))), .inl x1] (wl K1 s1) = some (some (.inl (imgI x1)), wl K1 p.2) := by
    rw [← ep]; exact q2
  refine ⟨imgI x1, K1, s1, p.2, e1, hK1, q3, ?_⟩
  have ks2 : KS K1 p.2 f1 := KS_of (fun c hc => fr2 c (by omega)) ks1
  have tb2 : TB p.2 1 := TB_of (fun c _ hc => fr2 c (by omega)) tb1
  have lo : ∀ c, c < 41 → p.2 (1 + c) = s (1 + c) := fun c hc => by rw [fr2 (1 + c) (by omega), fr (1 + c) (by omega)]
  rcases cs with ⟨z, rfl, rfl, rfl⟩ | ⟨k, hk, ex, z, oth, l1, l2, B, eB, _, cpy, apart⟩
  · rcases cr with ⟨_, e⟩ | ⟨k, hk, ex, _⟩
    · rw [e]; exact ⟨f1, ks, tb, r, n0, im, inj, p0, pk⟩
    · rw [ex] at z; exact absurd z (imgI_k hk)
  · rcases cr with ⟨z2, e⟩ | ⟨k2, hk2, ex2, cur, o2, o3, own, o4⟩
    · rw [z2] at z; exact absurd z (by decide)
    · have hkk : k2 = k := nI_inj (by omega) (by omega) (ex2.symm.trans ex)
      subst hkk
      have ne : ¬ f1 k2 = none := by rw [eB]; exact fun h => nomatch h
      have np := nn_put hk2 oth ne
      have B72 := KS_72 ks1 hk2 eB
      refine ⟨f1, ks2, tb2, r2, ?_, fun j hj => ?_, fun i j C hi hj ei ej => ?_, hP s p.2 1 1 0 0 (fun c j hc => by rw [lo c (tD_c hc)]) (fun j hj => ?_) p0, fun m C hm hf => ?_⟩
      · by_cases w : f k2 = none
        · obtain ⟨q1, q2⟩ := l1 w
          rw [np.1 w, Nat.mul_add, Nat.mul_add] at n0
          exact ⟨by omega, by rw [q2]; omega⟩
        · obtain ⟨q1, q2⟩ := l2 w
          rw [np.2 w] at n0
          exact ⟨by omega, by rw [q2]; omega⟩
      · by_cases w : j = k2
        · subst w
          rw [o3]
          exact ⟨fun h => absurd h ne, fun h => absurd h (by decide)⟩
        · rw [oth j w, o2 j w, fr 66 (by omega)]; exact im j hj
      · by_cases wi : i = k2
        · by_cases wj : j = k2
          · rw [wi, wj]
          · subst wi
            rw [oth j wj] at ej
            rw [eB] at ei; cases ei
            exact absurd rfl (apart j _ hj wj ej).1
        · rw [oth i wi] at ei
          by_cases wj : j = k2
          · subst wj
            rw [eB] at ej; cases ej
            exact absurd rfl (apart i _ hi wi ei).1
          · rw [oth j wj] at ej
            exact inj i j C hi hj ei ej
      · rw [Nat.zero_add, cur j hj, fr 65 (by omega)]
      · by_cases w : m = k2
        · subst w
          rw [eB] at hf; cases hf
          refine hP s p.2 1 B 0 _ (fun c j hc => ?_) (fun j hj => ?_) p0
          · rw [fr2 (B + c) (by omega)]; exact cpy c j hc
          · rw [own j hj, Nat.zero_add, fr 65 (by omega)]
        · rw [oth m w] at hf
          have := KS_72 ks hm hf
          refine hP s p.2 C C _ _ (fun c j hc => ?_) (fun j hj => ?_) (pk m C hm hf)
          · rw [fr2 (C + c) (by omega), (apart m C hm w hf).2 c (tD_c hc)]
          · rw [o4 m hm w j hj, fr 65 (by omega)]
theorem again_k {k : Nat} (hk : k < 3) {s0 : SG} : ∀ (n j z : Nat) (t : SG), QA s0 t → (∀ i, i < j → t 65 i = s0 65 (1442 * (k + 1) + i)) → j + n = 1442 → n ≤ z → ok (Ragain_22 (Ragain_R z) t (nI k) (nI j)) (fun p => p.1 = 1 ∧ QA s0 p.2 ∧ ∀ i, i < 1442 → p.2 65 i = s0 65 (1442 * (k + 1) + i)) := by
  intro n
  induction n with
  | zero =>
    intro j z t qa h hj hz
    unfold Ragain_22
    rw [if_pos (show (1442 : Int32) ≤ nI j from k_ge (m := 1442) hj)]
    exact ok_s ⟨rfl, qa, fun i hi => h i (by omega)⟩
  | succ n ih =>
    intro j z t qa h hj hz
    obtain ⟨z, rfl⟩ : ∃ z', z = z' + 1 := ⟨z - 1, by omega⟩
    unfold Ragain_22
    rw [if_neg (show ¬ (1442 : Int32) ≤ nI j from k_lt (m := 1442) hj (by decide))]
    refine ok_be (rd_nI (e := 1442 * (k + 1) + j) (by show nI 1442 * (nI k + nI 1) + nI j = _; rw [nI_add, nI_mulx, nI_add]) (by omega) (by decide)) (ok_be (wr_nI rfl (by omega) (by decide)) ?_)
    show ok (Ragain_22 (Ragain_R z) (up t 65 j (t 65 (1442 * (k + 1) + j))) (nI k) (nI j + 1)) _
    rw [← nI_succ]
    refine ih (j + 1) z _ (QA_tr qa (QA_65 (by omega))) (fun i hi => ?_) (by omega) (by omega)
    by_cases e : i = j
    · subst e; rw [up_a]; exact qa.1 _ (by omega)
    · rw [up_bn (by omega)]; exact h i (by omega)
theorem again_w {s : SG} {x : Int32} (r : RI s) : ok (Ragain s x) (fun p => RI p.2 ∧ QA s p.2 ∧ ((p.1 = 0 ∧ p.2 = s ∧ ∀ k, k < 3 → x = nI k → s 66 k = 0) ∨ ∃ k, k < 3 ∧ x = nI k ∧ ¬ s 66 k = 0 ∧ p.1 = 1 ∧ ∀ i, i < 1442 → p.2 65 i = s 65 (1442 * (k + 1) + i))) := by
  unfold Ragain
  refine ok_i (fun c => ok_s ⟨r, QA_rfl, Or.inl ⟨rfl, rfl, fun k hk ek => ?_⟩⟩) (fun c => ?_)
  · exfalso
    rw [ek] at c
    rcases (by omega : k = 0 ∨ k = 1 ∨ k = 2) with rfl | rfl | rfl <;> exact absurd c (by decide)
  obtain ⟨k, ek, hk⟩ := inI_nI (b := 2) (by decide) c
  refine ok_be (rd_nI ek (by omega) (by decide)) (ok_i (fun c2 => ok_s ⟨r, QA_rfl, Or.inl ⟨rfl, rfl, fun j hj ej => ?_⟩⟩) (fun c2 => ?_))
  · have : j = k := nI_inj (by omega) (by omega) (ej.symm.trans ek)
    rw [this]; exact c2
  rw [ek]
  refine ok_w (again_k (k := k) (by omega) (s0 := s) 1442 0 xF s QA_rfl (fun i hi => absurd hi (by omega)) rfl (by have := xF_ge; omega)) (fun p hp => ⟨QA_RI hp.2.1 ?_ r, hp.2.1, Or.inr ⟨k, by omega, rfl, c2, hp.1, hp.2.2⟩⟩)
  refine RB0_of (f := fun j => s 65 (1442 * (k + 1) + j)) (fun j hj => hp.2.2 j (by omega)) ?_ (r.2 k (by omega))
  rw [hp.2.2 6 (by omega)]; exact (r.2 k (by omega)).2.1
theorem agaI_k {f : Nat → Option Nat} {k : Nat} (hk : k < 3) : agaI f (nI k) = if (f k).isNone then 0 else 1 := by
  unfold agaI
  rw [if_neg (nI_pos (by omega)), if_neg (show ¬ (3 : Int32) ≤ nI k from Int32.not_le.mpr (nI_lt2 (a := k) (b := 3) (by omega) (by decide))), nI_clamp (by omega)]
theorem agaI_0 {f : Nat → Option Nat} {x : Int32} (h : ∀ k, k < 3 → x = nI k → f k = none) : agaI f x = 0 := by
  by_cases c1 : x < 0
  · unfold agaI; rw [if_pos c1]
  · by_cases c2 : x < nI 3
    · obtain ⟨k, hk, rfl⟩ := nat_of c1 c2 (by decide)
      rw [agaI_k hk, h k hk rfl]; rfl
    · unfold agaI
      rw [if_neg c1, if_pos (show (3 : Int32) ≤ x from Int32.not_lt.mp c2)]
/-- both go back, with one answer -/
theorem CE_again {x1 : Int32} (hP : wLoc P) (h : INVP P K s) : ∃ v s1 s2, xN sc (d + 11) 81 [.inr (.inr (.inl (some 0))), .inl x1] (wl K s) = some (some (.inl v), wl K s1) ∧ xN sc (d + 11) 282 [.inr (.inr (.inl (some 64))), .inl x1] (wl K s1) = some (some (.inl v), wl K s2) ∧ INVP P K s2 := by
  have h0 := h
  obtain ⟨f, ks, tb, r, n0, im, inj, p0, pk⟩ := h
  have hK := KS_SH ks
  have e1 := c_again (sc := sc) (d := d + 7) (s := s) (x := x1) ks
  have tb1 := agaS_TB (x := x1) ks tb
  have fr : ∀ c, 42 ≤ c → agaS s f x1 c = s c := fun c hc => agaS_n hc
  have r1 : RI (agaS s f x1) := RI_65 (fr 65 (by omega)) r
  obtain ⟨p, e2, r2, qa, cr⟩ := again_w (s := agaS s f x1) (x := x1) r1
  have q2 := r_again (sc := sc) (d := d + 9) (s := agaS s f x1) (x1 := x1) hK
  rw [e2] at q2
  have q2 : xN sc (d + 11) 282 [.inr (.inr (.inl (some 64))), .inl x1] (wl K (agaS s f x1)) = some (some (.inl p.1), wl K p.2) := q2
  have ev : p.1 = agaI f x1 ∧ P p.2 1 0 := by
    rcases cr with ⟨z1, z2, z3⟩ | ⟨k, hk, ek, nz, z1, z2⟩
    · have z : agaI f x1 = 0 := agaI_0 (fun k hk ek => (im k hk).2 (by rw [← fr 66 (by omega)]; exact z3 k hk ek))
      refine ⟨z1.trans z.symm, ?_⟩
      have e : agaS s f x1 = s := by unfold agaS; rw [if_pos z]
      rw [z2, e]; exact p0
    · subst ek
      have nf : ¬ f k = none := fun e => nz (by rw [fr 66 (by omega)]; exact (im k hk).1 e)
      obtain ⟨C, eC⟩ : ∃ C, f k = some C := by
        cases e : f k with
        | none => exact absurd e nf
        | some C => exact ⟨C, rfl⟩
      have z : agaI f (nI k) = 1 := by rw [agaI_k hk, eC]; rfl
      refine ⟨z1.trans z.symm, ?_⟩
      have e : agaS s f (nI k) = cpTS s 1 C := by
        unfold agaS
        rw [z, if_neg (by decide), nI_clamp (by omega), eC]
      have C72 := KS_72 ks hk eC
      rw [e] at z2 qa
      refine hP s p.2 C 1 _ 0 (fun c j hc => ?_) (fun j hj => ?_) (pk k C hk eC)
      · have := tD_c hc
        rw [qa.2.2 (1 + c) (by omega)]
        exact cpTS_e (by omega) hc
      · rw [Nat.zero_add, z2 j hj, cpTS_n (by omega)]
  refine ⟨agaI f x1, agaS s f x1, p.2, e1, ?_, INVP_t hP h0 tb1 (fun c hc => fr c (by omega)) r2 qa ev.2⟩
  rw [← ev.1]; exact q2
/-- what a relation has to keep when something is told -/
def PGd (P : SG → Nat → Nat → Prop) : Prop := wLoc P ∧ (∀ (s : SG) (x1 x2 x3 x4 x5 : Int32) (p : Int32 × SG), TB s 1 → RI s → P s 1 0 → Rfeed (feeP s x1 x2 x3 x4 x5).2 x1 x2 x3 x4 x5 = some p → P p.2 1 0) ∧ (∀ (s : SG) (x1 : Int32) (p : Int32 × SG), TB s 1 → RI s → P s 1 0 → Rend (endP s x1).2 x1 = some p → P p.2 1 0) ∧ ∀ (s : SG) (x1 x2 : Int32) (p : Int32 × SG), TB s 1 → RI s → P s 1 0 → Rtext (texP s x1 x2).2 x1 x2 = some p → P p.2 1 0
theorem CQ_feed {x1 x2 x3 x4 x5 : Int32} (hP : PGd P) (h : INVP P K s) : ∃ p s2, xN sc (d + 11) 72 [.inr (.inr (.inl (some 0))), .inl x1, .inl x2, .inl x3, .inl x4, .inl x5] (wl K s) = some (some (.inl (feeP s x1 x2 x3 x4 x5).1), wl K (feeP s x1 x2 x3 x4 x5).2) ∧ xN sc (d + 11) 151 [.inr (.inr (.inl (some 64))), .inl x1, .inl x2, .inl x3, .inl x4, .inl x5] (wl K (feeP s x1 x2 x3 x4 x5).2) = some (some (.inl p), wl K s2) ∧ Rfeed (feeP s x1 x2 x3 x4 x5).2 x1 x2 x3 x4 x5 = some (p, s2) ∧ INVP P K s2 := by
  have hK := INVP_SH h
  have fr : ∀ c, 64 ≤ c → (feeP s x1 x2 x3 x4 x5).2 c = s c := fun c hc => feeP_n (by omega)
  have r1 : RI (feeP s x1 x2 x3 x4 x5).2 := RI_65 (fr 65 (by omega)) (INVP_RI h)
  obtain ⟨p, e2, r2, qa⟩ := feed_ok (x := x1) (y := x2) (z := x3) (u := x4) (v := x5) r1
  have q2 := r_feed (sc := sc) (d := d + 10) (s := (feeP s x1 x2 x3 x4 x5).2) (x1 := x1) (x2 := x2) (x3 := x3) (x4 := x4) (x5 := x5) hK
  rw [e2] at q2
  exact ⟨p.1, p.2, c_feed (sc := sc) (d := d + 8) (s := s) (x := x1) (y := x2) (z := x3) (u := x4) (v := x5) hK, q2, e2, INVP_t hP.1 h (feeP_TB (INVP_TB h)) fr r2 qa (hP.2.1 s x1 x2 x3 x4 x5 p (INVP_TB h) (INVP_RI h) (INVP_P h) e2)⟩
theorem CQ_end {x1 : Int32} (hP : PGd P) (h : INVP P K s) : ∃ p s2, xN sc (d + 11) 74 [.inr (.inr (.inl (some 0))), .inl x1] (wl K s) = some (some (.inl (endP s x1).1), wl K (endP s x1).2) ∧ xN sc (d + 11) 152 [.inr (.inr (.inl (some 64))), .inl x1] (wl K (endP s x1).2) = some (some (.inl p), wl K s2) ∧ Rend (endP s x1).2 x1 = some (p, s2) ∧ INVP P K s2 := by
  have hK := INVP_SH h
  have fr : ∀ c, 64 ≤ c → (endP s x1).2 c = s c := fun c hc => endP_n (by omega)
  have r1 : RI (endP s x1).2 := RI_65 (fr 65 (by omega)) (INVP_RI h)
  obtain ⟨p, e2, r2, qa⟩ := end_ok (x := x1) r1
  have q2 := r_end (sc := sc) (d := d + 10) (s := (endP s x1).2) (x1 := x1) hK
  rw [e2] at q2
  exact ⟨p.1, p.2, c_end (sc := sc) (d := d + 10) (s := s) (n := x1) hK, q2, e2, INVP_t hP.1 h (endP_TB (INVP_TB h)) fr r2 qa (hP.2.2.1 s x1 p (INVP_TB h) (INVP_RI h) (INVP_P h) e2)⟩
theorem CQ_text {x1 x2 : Int32} (hP : PGd P) (h : INVP P K s) : ∃ p s2, xN sc (d + 11) 75 [.inr (.inr (.inl (some 0))), .inl x1, .inl x2] (wl K s) = some (some (.inl (texP s x1 x2).1), wl K (texP s x1 x2).2) ∧ xN sc (d + 11) 185 [.inr (.inr (.inl (some 64))), .inl x1, .inl x2] (wl K (texP s x1 x2).2) = some (some (.inl p), wl K s2) ∧ Rtext (texP s x1 x2).2 x1 x2 = some (p, s2) ∧ INVP P K s2 := by
  have hK := INVP_SH h
  have fr : ∀ c, 64 ≤ c → (texP s x1 x2).2 c = s c := fun c hc => texP_n hc
  have r1 : RI (texP s x1 x2).2 := RI_65 (fr 65 (by omega)) (INVP_RI h)
  obtain ⟨p, e2, r2, qa⟩ := text_ok (x := x1) (y := x2) r1
  have q2 := r_text (sc := sc) (d := d) (s := (texP s x1 x2).2) (x1 := x1) (x2 := x2) hK
  rw [e2] at q2
  exact ⟨p.1, p.2, c_text (sc := sc) (d := d + 1) (s := s) (so := x1) (at_ := x2) hK (INVP_TB h), q2, e2, INVP_t hP.1 h (texP_TB (INVP_TB h)) fr r2 qa (hP.2.2.2 s x1 x2 p (INVP_TB h) (INVP_RI h) (INVP_P h) e2)⟩
end INVC
end XSB
end
section
section XSC
variable {sc : Nat × (Nat → Int32)} {d : Nat} {K : List KD} {r q t a B m : Nat} {w : EW}
/-! the tape's length, on both sides -/
def QB (s t : SG) : Prop := t 65 6 = s 65 6 ∧ QA s t
theorem QB_rfl {s : SG} : QB s s := ⟨rfl, QA_rfl⟩
theorem QB_tr {s t u : SG} (h : QB s t) (g : QB t u) : QB s u := ⟨g.1.trans h.1, QA_tr h.2 g.2⟩
section TX
variable {I : SG → Prop} {L : SG → Option SG} {k S : Nat} {P : Nat → Nat} {y1 y2 : Int32} {s : SG}
theorem texl226 (tf : TF I k S P) (tp : TP y1 k S P) {u : SG} (ty : TY y2 k u) (p : ∃ M, PB M u) (i : I u) (r : RI u) (q : QB s u) {z : Nat} (hz : 201 ≤ z) : ok (Rtext_226 (Rtext_R z).1 (Rtext_R z).2 u y1 y2) (fun p => RI p.2 ∧ QB s p.2) := by
  obtain ⟨e1, hk, hS, hS2, hP⟩ := tp
  unfold Rtext_226
  refine ok_be (rd_nI (e := 7) rfl (by omega) (by decide)) (ok_i (fun c7 => ?_) (fun _ => ok_s ⟨r, q⟩))
  have w8 : u 64 8 = 0 := by
    obtain ⟨M, sz, nx, _, _, _, _, h, _⟩ := p
    exact Decidable.byContradiction (fun c => h c c7)
  have go : ∀ (j : Nat) (w : SG), j < 2 → (∀ c, c ≠ 65 → w c = u c) → (∀ x, x ≠ k → w 65 x = u 65 x) → NB (w 65 k) 2 → ok (Rtext_272 (Rtext_R z).1 (Rtext_R z).2 w y1 y2 (nI j) 0) (fun p => RI p.2 ∧ QB s p.2) := by
    intro j w hj hw hx hn
    obtain ⟨hp, hp1, hp2⟩ := hP j hj
    refine ok_w (copy272 (P := P j) hp hS hp2 hS2 (w := w) S 0 z w (fun _ _ => rfl) (fun _ _ => rfl) (fun x hx => absurd hx (by omega)) (by omega) (by omega)) (fun v hv => ?_)
    obtain ⟨h1, h2, h3⟩ := hv
    have qv : QB s v.2 := QB_tr q ⟨by rw [h2 6 (by omega), hx 6 (by omega)], fun x hx2 => by rw [h2 x (by omega), hx x (by omega)], by rw [h1 66 (by decide), hw 66 (by decide)], fun c hc => by rw [h1 c (by omega), hw c (by omega)]⟩
    refine ⟨QA_RI (QA_tr QA_rfl (s := u) ⟨fun x hx2 => by rw [h2 x (by omega), hx x (by omega)], by rw [h1 66 (by decide), hw 66 (by decide)], fun c hc => by rw [h1 c (by omega), hw c (by omega)]⟩) ?_ r, qv⟩
    refine tf (u 65) (v.2 65) u j hj r.1 i w8 ⟨?_, fun x hx2 hne => ?_, fun x hx2 _ ho => ?_⟩ (fun x hx2 => ?_)
    · rw [h2 k (by omega)]; exact hn
    · rw [h2 x (by omega), hx x hne]
    · rw [h2 x ho, hx x (by omega)]
    · rw [h3 x hx2, hw 67 (by decide)]
  rcases ty with ⟨ey, c, ec, hc⟩ | ⟨ny, j, ey, hj⟩
  · rw [if_pos ey]
    refine ok_be (rd_nI (e := k) e1 (by omega) (by decide)) ?_
    rw [ec]
    unfold Rtext_253
    rw [if_pos ey]
    refine ok_be (rd_nI (e := k) e1 (by omega) (by decide)) ?_
    rw [ec]
    refine ok_be (wr_nI (e := k) e1 (by omega) (by decide)) ?_
    exact go c _ hc (fun d hd => up_n hd) (fun x hx => up_bn hx) ⟨c + 1, by rw [up_a, nI_succ], by omega⟩
  · rw [if_neg ny]
    unfold Rtext_253
    rw [if_neg ny]
    have g := go j u hj (fun _ _ => rfl) (fun _ _ => rfl) (r.1.1 k hk)
    rw [← ey] at g
    exact g
theorem texl190 (tf : TF I k S P) (tp : TP y1 k S P) (ti : ∀ t u, SR t u → I t → I u) {u : SG} (ty : TY y2 k u) (p : ∃ M, PB M u) (i : I u) (r : RI u) (q : QB s u) {z : Nat} (hz : 201 ≤ z) : ok (Rtext_190 (Rtext_R z).1 (Rtext_R z).2 u y1 y2) (fun p => RI p.2 ∧ QB s p.2) := by
  have go := texl226 tf tp ty p i r q hz
  unfold Rtext_190
  refine ok_be (rd_nI (e := 7) rfl (by omega) (by decide)) (ok_i (fun c7 => ok_i (fun _ => ?_) (fun _ => go)) (fun _ => go))
  refine ok_be (rd_nI (e := 0) rfl (by omega) (by decide)) (ok_i (fun _ => go) (fun _ => ok_b also_ok (fun v hv => ?_)))
  have f := hv.1.1.2
  have e65 : ∀ x, (x < 6 ∨ 610 ≤ x) → v 65 x = u 65 x := fun x hx => f.1 x (by omega) (by omega)
  have hk := tp.2.1
  have qv : QA u v := ⟨fun x hx => e65 x (by omega), f.2.1 66 (by decide) (by decide) (by decide), fun c hc => f.2.1 c (by omega) (by omega) (by omega)⟩
  refine texl226 tf tp ?_ (PV_SR hv.1 p) (ti _ _ hv.1 i) (QA_RI qv (RB0_of (fun x hx => e65 x (by omega)) ?_ r.1) r) (QB_tr q ⟨f.1 6 (by omega) (by omega), qv⟩) hz
  · rcases ty with ⟨ey, c, ec, hc⟩ | h
    · exact Or.inl ⟨ey, c, by rw [e65 k (by omega)]; exact ec, hc⟩
    · exact Or.inr h
  · rw [f.1 6 (by omega) (by omega)]; exact r.1.2.1
theorem texl98 (tf : TF I k S P) (tp : TP y1 k S P) (ti : ∀ t u, SR t u → I t → I u) (tl : ∀ t, (∃ M, PB M t) → I t → ok (L t) (fun u => LN t u ∧ I u)) (tb : ∀ r98 r272 t, Rtext_113 r98 r272 t y1 y2 y1 = (L t).bind fun u => r98 u y1 y2) : ∀ (n z : Nat) (u : SG), PB n u → TY y2 k u → I u → RI u → QB s u → n + 201 ≤ z → ok (Rtext_98 (Rtext_R z).1 (Rtext_R z).2 u y1 y2) (fun p => RI p.2 ∧ QB s p.2) := by
  intro n
  induction n with
  | zero =>
    intro z u p ty i r q hz
    unfold Rtext_98
    have go := texl190 tf tp ti ty ⟨0, p⟩ i r q (z := z) (by omega)
    refine ok_i (fun w => ok_i (fun _ => go) (fun c5 => ?_)) (fun _ => go)
    obtain ⟨sz, nx, _, _, _, _, _, h⟩ := p
    have := h w
    rw [if_neg c5] at this
    omega
  | succ n ih =>
    intro z u p ty i r q hz
    obtain ⟨z, rfl⟩ : ∃ z', z = z' + 1 := ⟨z - 1, by omega⟩
    unfold Rtext_98
    have go := texl190 tf tp ti ty ⟨_, p⟩ i r q (z := z + 1) (by omega)
    refine ok_i (fun w => ok_i (fun _ => go) (fun c5 => ?_)) (fun _ => go)
    rw [tb]
    refine ok_b (tl u ⟨_, p⟩ i) (fun v hv => ?_)
    have f := hv.1.2
    have e65 : ∀ x, (x < 6 ∨ 610 ≤ x) → v 65 x = u 65 x := fun x hx => f.1 x (by omega) (by omega)
    have hk := tp.2.1
    have qv : QA u v := ⟨fun x hx => e65 x (by omega), f.2.1 66 (by decide) (by decide) (by decide), fun c hc => f.2.1 c (by omega) (by omega) (by omega)⟩
    refine ih z v (hv.1.1 n p) ?_ hv.2 (QA_RI qv (RB0_of (fun x hx => e65 x (by omega)) ?_ r.1) r) (QB_tr q ⟨f.1 6 (by omega) (by omega), qv⟩) (by omega)
    · rcases ty with ⟨ey, c, ec, hc⟩ | h
      · exact Or.inl ⟨ey, c, by rw [e65 k (by omega)]; exact ec, hc⟩
      · exact Or.inr h
    · rw [f.1 6 (by omega) (by omega)]; exact r.1.2.1
theorem texl74 (tf : TF I k S P) (tp : TP y1 k S P) (ti : ∀ t u, SR t u → I t → I u) (tl : ∀ t, (∃ M, PB M t) → I t → ok (L t) (fun u => LN t u ∧ I u)) (tb : ∀ r98 r272 t, Rtext_113 r98 r272 t y1 y2 y1 = (L t).bind fun u => r98 u y1 y2) (t0 : ∀ u : SG, (y1 = 0 → R0 u) → (¬ y1 = 0 → ∀ i, i < 201 → u 67 i = 0) → I u) {t : SG} {sz : Nat} (e2 : t 64 2 = nI sz) (hs : sz ≤ 600) (ty : TY y2 k t) (r : RI t) (q : QB s t) : ok (Rtext_74 (Rtext_R xF).1 (Rtext_R xF).2 t y1 y2) (fun p => RI p.2 ∧ QB s p.2) := by
  unfold Rtext_74
  refine ok_b clears_ok (fun u hu => ?_)
  obtain ⟨h1, h2, h3⟩ := hu
  have i0 := t0 u h2 h3
  have e64 := h1 64 (by decide)
  have p : PB 601 u := by
    refine ⟨sz, 0, ?_, hs, ?_, by omega, fun c => ?_, fun _ => ?_⟩
    · rw [e64, up_bn (by decide), up_bn (by decide), up_bn (by decide)]; exact e2
    · rw [e64, up_bn (by decide), up_bn (by decide), up_a]; rfl
    · rw [e64, up_bn (by decide), up_a] at c; exact absurd rfl c
    · split <;> omega
  have e65 : u 65 = t 65 := by rw [h1 65 (by decide), up_n (by decide), up_n (by decide), up_n (by decide)]
  refine ok_b (advance_ok ⟨_, p⟩) (fun v hv => ?_)
  have f := hv.1.1.2
  have v65 : v 65 = t 65 := by rw [hv.2.2.1, e65]
  have qv : QA t v := ⟨fun x _ => by rw [v65], by rw [f.2.1 66 (by decide) (by decide) (by decide), h1 66 (by decide), up_n (by decide), up_n (by decide), up_n (by decide)], fun c hc => by rw [f.2.1 c (by omega) (by omega) (by omega), h1 c (by omega), up_n (by omega), up_n (by omega), up_n (by omega)]⟩
  refine texl98 tf tp ti tl tb 601 xF v (hv.1.1.1 _ p) ?_ (ti _ _ hv.1 i0) (QA_RI qv (by rw [v65]; exact r.1) r) (QB_tr q ⟨by rw [v65], qv⟩) (by have := xF_ge; omega)
  unfold TY
  rw [v65]; exact ty
end TX
theorem texlk {y1 y2 : Int32} {k sz : Nat} {s t : SG} (hk : k < 6) (e1 : y1 = nI k) (e2 : t 64 2 = nI sz) (hs : sz ≤ 600) (ty : TY y2 k t) (r : RI t) (q : QB s t) : ok (Rtext_74 (Rtext_R xF).1 (Rtext_R xF).2 t y1 y2) (fun p => RI p.2 ∧ QB s p.2) := by
  have hk2 : k = 0 ∨ k = 1 ∨ k = 2 ∨ k = 3 ∨ k = 4 ∨ k = 5 := by omega
  rcases hk2 with rfl | rfl | rfl | rfl | rfl | rfl <;> subst e1
  · exact texl74 TF0 ⟨rfl, by omega, by decide, by omega, fun j hj => ⟨place0, by dsimp only; omega, by dsimp only; omega⟩⟩ (fun _ _ => R0_SR) (fun _ p i => republicLine_ok p i) (fun _ _ _ => rfl) (fun u h _ => h rfl) e2 hs ty r q
  · exact texl74 TF1 ⟨rfl, by omega, by decide, by omega, fun j hj => ⟨place1, by dsimp only; omega, by dsimp only; omega⟩⟩ (fun _ _ => C8_SR) (fun _ p i => orderLine_ok p i) (fun _ _ _ => rfl) (fun u _ h => k0 (h (by decide)) 0 8 (by omega)) e2 hs ty r q
  · refine texl74 TF2 ⟨rfl, by omega, by decide, by omega, fun j hj => ⟨place2, by dsimp only; omega, by dsimp only; omega⟩⟩ (fun _ _ => Y0_SR) (fun _ p i => yearLine_ok p i) (fun _ _ _ => rfl) (fun u _ h => ?_) e2 hs ty r q
    have z := h (by decide)
    exact ⟨k0 z 0 40 (by omega), fun _ j hj => ⟨fun _ => k0 z _ 3 (by omega), fun _ => k0 z _ 2 (by omega)⟩⟩
  · exact texl74 TF3 ⟨rfl, by omega, by decide, by omega, fun j hj => ⟨place3, by dsimp only; omega, by dsimp only; omega⟩⟩ (fun _ _ => C8_SR) (fun _ p i => leakLine_ok p i) (fun _ _ _ => rfl) (fun u _ h => k0 (h (by decide)) 0 8 (by omega)) e2 hs ty r q
  · refine texl74 TF4 ⟨rfl, by omega, by decide, by omega, fun j hj => ⟨place4, by dsimp only; omega, by dsimp only; omega⟩⟩ (fun _ _ => S0_SR) (fun _ p i => summerLine_ok p i) (fun _ _ _ => rfl) (fun u _ h => ?_) e2 hs ty r q
    have z := h (by decide)
    exact ⟨k0 z 0 8 (by omega), fun _ j hj => ⟨k0 z _ 3 (by omega), k0 z _ 9 (by omega), k0 z _ 9 (by omega), k0 z _ 9 (by omega)⟩⟩
  · exact texl74 TF5 ⟨rfl, by omega, by decide, by omega, fun j hj => ⟨place5, by dsimp only; omega, by dsimp only; omega⟩⟩ (fun _ _ _ _ => trivial) (fun _ p _ => ok_w (bargainLine_ok p) (fun _ h => ⟨h, trivial⟩)) (fun _ _ _ => rfl) (fun _ _ _ => trivial) e2 hs ty r q
theorem text_l {s : SG} {x y : Int32} (r : RI s) : ok (Rtext s x y) (fun p => p.2 65 6 = 0) := by
  unfold Rtext
  refine ok_be (rd_nI (e := 6) rfl (by omega) (by decide)) ?_
  obtain ⟨sz, es, hs⟩ := r.1.2.1
  rw [es]
  refine ok_be (wr_nI (e := 6) rfl (by omega) (by decide)) (ok_be (wr_nI (e := 7) rfl (by omega) (by decide)) (ok_be (wr_nI (e := 8) rfl (by omega) (by decide)) ?_))
  have q : QA s (up (up (up (up s 64 2 (nI sz)) 65 6 0) 65 7 0) 65 8 (-1)) := by
    refine QA_tr (QA_tr (QA_tr (QA_QI (QI_up QI_rfl (by omega) (by omega))) (QA_65 (by omega))) (QA_65 (by omega))) (QA_65 (by omega))
  have b : RB0 (up (up (up (up s 64 2 (nI sz)) 65 6 0) 65 7 0) 65 8 (-1) 65) := by
    refine RB0_of (f := s 65) (fun j hj => ?_) ⟨0, ?_, by omega⟩ r.1
    · rw [up_bn (by omega), up_bn (by omega), up_bn (by omega), up_n (by decide)]
    · rw [up_bn (by decide), up_bn (by decide), up_a]; rfl
  have e2 : up (up (up (up s 64 2 (nI sz)) 65 6 0) 65 7 0) 65 8 (-1) 64 2 = nI sz := by
    rw [up_n (by decide), up_n (by decide), up_n (by decide), up_a]
  have e6 : up (up (up (up s 64 2 (nI sz)) 65 6 0) 65 7 0) 65 8 (-1) 65 6 = 0 := by
    rw [up_bn (by decide), up_bn (by decide), up_a]
  generalize up (up (up (up s 64 2 (nI sz)) 65 6 0) 65 7 0) 65 8 (-1) = t at q b e2 e6 ⊢
  have rt : RI t := QA_RI q b r
  refine ok_i (fun _ => ok_s e6) (fun c => ?_)
  obtain ⟨k, ek, hk⟩ := inI_nI (b := 5) (by decide) c
  refine ok_i (fun ey => ?_) (fun ny => ?_)
  · refine ok_be (rd_nI ek (by omega) (by decide)) (ok_i (fun h => ?_) (fun _ => ok_s e6))
    obtain ⟨n, en, hn⟩ := rt.1.1 k (by omega)
    refine ok_w (texlk (by omega) ek e2 hs (Or.inl ⟨ey, n, en, ?_⟩) rt QB_rfl) (fun p h => h.2.1.trans e6)
    rw [en] at h
    have : n ≠ 2 := fun e => by subst e; exact absurd h (by decide)
    omega
  · refine ok_be (q_isOf ek (by omega)) (ok_i (fun _ => ok_s e6) (fun h => ?_))
    exact ok_w (texlk (by omega) ek e2 hs (Or.inr ⟨ny, isOf_k rt (by omega) h⟩) rt QB_rfl) (fun p h => h.2.1.trans e6)
theorem feed_k {y1 y2 y3 y4 y5 : Int32} {l : Nat} (hl : l + 20 ≤ 600) : ∀ (n j z : Nat) (t : SG), t 65 6 = nI (l + j) → j + n = 20 → n ≤ z → ok (Rfeed_21 (Rfeed_R z) t y1 y2 y3 y4 y5 (nI j)) (fun p => p.1 = nI (l + 20) ∧ p.2 65 6 = nI (l + 20)) := by
  intro n
  induction n with
  | zero =>
    intro j z t e hj hz
    unfold Rfeed_21
    rw [if_pos (show (20 : Int32) ≤ nI j from k_ge (m := 20) hj)]
    have e20 : t 65 6 = nI (l + 20) := by rw [e, show l + j = l + 20 by omega]
    exact ok_be (rd_nI (e := 6) rfl (by decide) (by decide)) (ok_s ⟨e20, e20⟩)
  | succ n ih =>
    intro j z t e hj hz
    obtain ⟨z, rfl⟩ : ∃ z', z = z' + 1 := ⟨z - 1, by omega⟩
    have e74 : ∀ v, ok (Rfeed_74 (Rfeed_R (z + 1)) t y1 y2 y3 y4 y5 (nI j) v) (fun p => p.1 = nI (l + 20) ∧ p.2 65 6 = nI (l + 20)) := by
      intro v
      unfold Rfeed_74
      generalize (v >>> (24 - 8 * (nI j - nI j / 4 * 4) &&& 31)) &&& 255 = w
      refine ok_be (rd_nI (e := 6) rfl (by decide) (by decide)) (ok_be (wr_nI (e := 10 + (l + j)) (by rw [e]; show nI 10 + nI (l + j) = _; rw [nI_add]) (by omega) (by decide)) ?_)
      refine ok_be (rd_nI (e := 6) rfl (by decide) (by decide)) (ok_be (wr_nI (e := 6) rfl (by decide) (by decide)) ?_)
      have e6 : up t 65 (10 + (l + j)) w 65 6 = nI (l + j) := by rw [up_bn (by omega)]; exact e
      rw [e6]
      show ok (Rfeed_21 (Rfeed_R z) (up (up t 65 (10 + (l + j)) w) 65 6 (nI (l + j) + 1)) y1 y2 y3 y4 y5 (nI j + 1)) _
      rw [← nI_succ, ← nI_succ]
      exact ih (j + 1) z _ (by rw [up_a]; rfl) (by omega) (by omega)
    unfold Rfeed_21
    rw [if_neg (show ¬ (20 : Int32) ≤ nI j from k_lt (m := 20) hj (by decide))]
    exact ok_i (fun _ => ok_i (fun _ => ok_i (fun _ => ok_i (fun _ => e74 _) (fun _ => e74 _)) (fun _ => e74 _)) (fun _ => e74 _)) (fun _ => e74 _)
theorem le600 {l : Nat} (hl : l ≤ 600) : (nI l + 20 ≤ 600) ↔ l + 20 ≤ 600 := by
  rw [show (nI l + 20 : Int32) = nI (l + 20) from nI_add l 20, Int32.le_iff_toInt_le, nI_toInt (by omega)]
  have : (600 : Int32).toInt = 600 := by decide
  omega
theorem feed_v {s : SG} {x y z u v : Int32} {l : Nat} (e : s 65 6 = nI l) (hl : l ≤ 600) : ok (Rfeed s x y z u v) (fun p => (l + 20 ≤ 600 → p.1 = nI (l + 20) ∧ p.2 65 6 = nI (l + 20)) ∧ (600 < l + 20 → p.1 = -1 ∧ p.2 = s)) := by
  unfold Rfeed
  refine ok_be (rd_nI (e := 6) rfl (by decide) (by decide)) ?_
  rw [e]
  refine ok_i (fun c => ?_) (fun c => ok_s ⟨fun h => absurd ((le600 hl).2 h) c, fun _ => ⟨rfl, rfl⟩⟩)
  have c := (le600 hl).1 c
  exact ok_w (feed_k c 20 0 xF s e rfl (by have := xF_ge; omega)) (fun p hp => ⟨fun _ => hp, fun h => by omega⟩)
theorem feeP_v {s : SG} {x y z u v : Int32} {l : Nat} (e : s 1 1 = nI l) (hl : l ≤ 600) : (l + 20 ≤ 600 → (feeP s x y z u v).1 = nI (l + 20) ∧ (feeP s x y z u v).2 1 1 = nI (l + 20)) ∧ (600 < l + 20 → (feeP s x y z u v).1 = -1 ∧ (feeP s x y z u v).2 = s) := by
  unfold feeP
  rw [e]
  refine ⟨fun h => ?_, fun h => ?_⟩
  · rw [if_pos ((le600 hl).2 h)]
    have q := fdnS_len (x := v) (fdnS_len (x := u) (fdnS_len (x := z) (fdnS_len (x := y) (fdnS_len (x := x) e))))
    exact ⟨q, q⟩
  · rw [if_neg (fun c => by have := (le600 hl).1 c; omega)]
    exact ⟨rfl, rfl⟩
theorem texP_l {s : SG} {so at_ : Int32} : (texP s so at_).2 1 1 = 0 := by
  have h2 : txt2 s so 1 1 = 0 := by
    unfold txt2 txt1
    simp (decide := true) only [up_b]
    rw [redS_lo (by omega)]
    simp (decide := true) only [up_a, up_b]
  unfold texP
  repeat' split
  · show (up (up (up s 1 1 0) 1 2 0) 1 3 (-1)) 1 1 = 0
    simp (decide := true) only [up_a, up_b]
  · show keeS _ _ _ 1 1 = 0
    rw [keeS_n (by omega)]; exact h2
  · exact h2
/-- the tape is as long on both sides -/
def TL (s : SG) (B o : Nat) : Prop := s B 1 = s 65 (o + 6)
theorem TL_loc : wLoc TL := by
  intro s t B B2 o o2 hc hj h
  have e1 := hc 0 1 (Or.inl ⟨rfl, by omega, by omega⟩)
  rw [Nat.add_zero, Nat.add_zero] at e1
  unfold TL at *
  rw [e1, hj 6 (by omega), h]
theorem TB_l {s : SG} (h : TB s 1) : ∃ l, s 1 1 = nI l ∧ l ≤ 600 := by
  obtain ⟨_, _, _, l, h4, h5⟩ := h
  exact ⟨l, h4, h5⟩
/-- what both answer to feed -/
theorem TL_feed {s : SG} {x1 x2 x3 x4 x5 : Int32} {p : Int32 × SG} (tb : TB s 1) (r : RI s) (h : s 1 1 = s 65 6) (e : Rfeed (feeP s x1 x2 x3 x4 x5).2 x1 x2 x3 x4 x5 = some p) : (feeP s x1 x2 x3 x4 x5).1 = p.1 ∧ TL p.2 1 0 := by
  obtain ⟨l, el, hl⟩ := TB_l tb
  have e65 : (feeP s x1 x2 x3 x4 x5).2 65 6 = nI l := by rw [feeP_n (by omega), ← h]; exact el
  have r1 : RI (feeP s x1 x2 x3 x4 x5).2 := RI_65 (feeP_n (by omega)) r
  obtain ⟨a, ea, k1, k2⟩ := feed_v (x := x1) (y := x2) (z := x3) (u := x4) (v := x5) e65 hl
  obtain ⟨b, eb, _, qa⟩ := feed_ok (x := x1) (y := x2) (z := x3) (u := x4) (v := x5) r1
  rw [e] at ea eb; cases ea; cases eb
  obtain ⟨c1, c2⟩ := feeP_v (x := x1) (y := x2) (z := x3) (u := x4) (v := x5) el hl
  unfold TL
  rw [qa.2.2 1 (by omega)]
  rcases Nat.lt_or_ge 600 (l + 20) with g | g
  · refine ⟨(c2 g).1.trans (k2 g).1.symm, ?_⟩
    rw [(k2 g).2]
    show (feeP s x1 x2 x3 x4 x5).2 1 1 = (feeP s x1 x2 x3 x4 x5).2 65 6
    rw [e65, (c2 g).2]; exact el
  · exact ⟨(c1 g).1.trans (k1 g).1.symm, (c1 g).2.trans (k1 g).2.symm⟩
theorem TL_end {s : SG} {x1 : Int32} {p : Int32 × SG} (h : s 1 1 = s 65 6) (e : Rend (endP s x1).2 x1 = some p) : (endP s x1).1 = p.1 ∧ TL p.2 1 0 := by
  have e65 : (endP s x1).2 65 = s 65 := endP_n (by omega)
  have rd : rdI (endP s x1).2 65 5768 6 = some (s 65 6) := by rw [rd_nI (x := 6) (e := 6) rfl (by decide) (by decide), e65]
  have wr : wrI (endP s x1).2 65 5768 6 x1 = some (up (endP s x1).2 65 6 x1) := wr_nI (e := 6) rfl (by decide) (by decide)
  unfold Rend at e
  rw [rd, wr] at e
  unfold endP at e ⊢
  unfold TL
  by_cases c1 : x1 < 0
  · simp only [if_pos c1] at e ⊢
    cases e
    exact ⟨rfl, h⟩
  · by_cases c2 : x1 ≤ s 65 6
    · simp only [if_neg c1, h, if_pos c2, Option.bind_some] at e ⊢
      cases e
      refine ⟨rfl, ?_⟩
      show up (up s 1 1 x1) 65 6 x1 1 1 = up (up s 1 1 x1) 65 6 x1 65 6
      rw [up_a, up_n (by decide), up_a]
    · simp only [if_neg c1, h, if_neg c2, Option.bind_some] at e ⊢
      cases e
      exact ⟨rfl, h⟩
theorem TL_gd : PGd TL := by
  refine ⟨TL_loc, fun s x1 x2 x3 x4 x5 p tb r h e => (TL_feed tb r h e).2, fun s x1 p _ _ h e => (TL_end h e).2, fun s x1 x2 p tb r h e => ?_⟩
  have r1 : RI (texP s x1 x2).2 := RI_65 (texP_n (by omega)) r
  obtain ⟨a, ea, k1⟩ := text_l (x := x1) (y := x2) r1
  obtain ⟨b, eb, _, qa⟩ := text_ok (x := x1) (y := x2) r1
  rw [e] at ea eb; cases ea; cases eb
  unfold TL
  rw [qa.2.2 1 (by omega)]
  exact texP_l.trans k1.symm
end XSC
end
section
section XSD
variable {sc : Nat × (Nat → Int32)} {d : Nat} {K : List KD} {P : SG → Nat → Nat → Prop} {s : SG}
/-! the law: what every query leaves -/
theorem CQ_republic {x1 x2 : Int32} (hP : wLoc P) (h : INVP P K s) : ∃ v1 v2 s1 s2, xN sc (d + 11) 84 [.inr (.inr (.inl (some 0))), .inl x1, .inl x2] (wl K s) = some (some (.inl v1), wl K s1) ∧ xN sc (d + 11) 193 [.inr (.inr (.inl (some 64))), .inl x1, .inl x2] (wl K s1) = some (some (.inl v2), wl K s2) ∧ INVP P K s2 := by
  have hK := INVP_SH h
  obtain ⟨v1, s1, e1, fr⟩ := LC_republic (sc := sc) (d := d) (x := x1) (y := x2) hK (TB_TV (INVP_TB h))
  have r1 : RI s1 := RI_65 (fr 65 (by omega)) (INVP_RI h)
  have q2 := r_republic (sc := sc) (d := d + 6) (s := s1) (x1 := x1) (x2 := x2) hK
  obtain ⟨p, e2, q⟩ : ok (Rrepublic s1 x1 x2) (fun p => QI s1 p.2) := republic_ok r1
  rw [e2] at q2
  exact ⟨v1, p.1, s1, p.2, e1, q2, INVP_q hP h fr q⟩
theorem CQ_minister {x1 x2 x3 : Int32} (hP : wLoc P) (h : INVP P K s) : ∃ v1 v2 s1 s2, xN sc (d + 11) 85 [.inr (.inr (.inl (some 0))), .inl x1, .inl x2, .inl x3] (wl K s) = some (some (.inl v1), wl K s1) ∧ xN sc (d + 11) 194 [.inr (.inr (.inl (some 64))), .inl x1, .inl x2, .inl x3] (wl K s1) = some (some (.inl v2), wl K s2) ∧ INVP P K s2 := by
  have hK := INVP_SH h
  obtain ⟨v1, s1, e1, fr⟩ := LC_minister (sc := sc) (d := d) (x := x1) (y := x2) (z := x3) hK (TB_TV (INVP_TB h))
  have r1 : RI s1 := RI_65 (fr 65 (by omega)) (INVP_RI h)
  have q2 := r_minister (sc := sc) (d := d + 6) (s := s1) (x1 := x1) (x2 := x2) (x3 := x3) hK
  obtain ⟨p, e2, q⟩ : ok (Rminister s1 x1 x2 x3) (fun p => QI s1 p.2) := minister_ok r1
  rw [e2] at q2
  exact ⟨v1, p.1, s1, p.2, e1, q2, INVP_q hP h fr q⟩
theorem CQ_order {x1 x2 x3 : Int32} (hP : wLoc P) (h : INVP P K s) : ∃ v1 v2 s1 s2, xN sc (d + 11) 86 [.inr (.inr (.inl (some 0))), .inl x1, .inl x2, .inl x3] (wl K s) = some (some (.inl v1), wl K s1) ∧ xN sc (d + 11) 211 [.inr (.inr (.inl (some 64))), .inl x1, .inl x2, .inl x3] (wl K s1) = some (some (.inl v2), wl K s2) ∧ INVP P K s2 := by
  have hK := INVP_SH h
  obtain ⟨v1, s1, e1, fr⟩ := LC_order (sc := sc) (d := d) (x := x1) (k := x2) (v := x3) hK (TB_TV (INVP_TB h))
  have r1 : RI s1 := RI_65 (fr 65 (by omega)) (INVP_RI h)
  have q2 := r_order (sc := sc) (d := d + 7) (s := s1) (x1 := x1) (x2 := x2) (x3 := x3) hK
  obtain ⟨p, e2, q⟩ : ok (Rorder s1 x1 x2 x3) (fun p => QI s1 p.2) := order_ok r1
  rw [e2] at q2
  exact ⟨v1, p.1, s1, p.2, e1, q2, INVP_q hP h fr q⟩
theorem CQ_deed {x1 x2 x3 : Int32} (hP : wLoc P) (h : INVP P K s) : ∃ v1 v2 s1 s2, xN sc (d + 11) 87 [.inr (.inr (.inl (some 0))), .inl x1, .inl x2, .inl x3] (wl K s) = some (some (.inl v1), wl K s1) ∧ xN sc (d + 11) 224 [.inr (.inr (.inl (some 64))), .inl x1, .inl x2, .inl x3] (wl K s1) = some (some (.inl v2), wl K s2) ∧ INVP P K s2 := by
  have hK := INVP_SH h
  obtain ⟨v1, s1, e1, fr⟩ := LC_deed (sc := sc) (d := d) (x := x1) (k := x2) (v := x3) hK (TB_TV (INVP_TB h))
  have r1 : RI s1 := RI_65 (fr 65 (by omega)) (INVP_RI h)
  have q2 := r_deed (sc := sc) (d := d + 8) (s := s1) (x1 := x1) (x2 := x2) (x3 := x3) hK
  obtain ⟨p, e2, q⟩ : ok (Rdeed s1 x1 x2 x3) (fun p => QI s1 p.2) := deed_ok r1
  rw [e2] at q2
  exact ⟨v1, p.1, s1, p.2, e1, q2, INVP_q hP h fr q⟩
theorem CQ_leak {x1 x2 x3 : Int32} (hP : wLoc P) (h : INVP P K s) : ∃ v1 v2 s1 s2, xN sc (d + 11) 88 [.inr (.inr (.inl (some 0))), .inl x1, .inl x2, .inl x3] (wl K s) = some (some (.inl v1), wl K s1) ∧ xN sc (d + 11) 271 [.inr (.inr (.inl (some 64))), .inl x1, .inl x2, .inl x3] (wl K s1) = some (some (.inl v2), wl K s2) ∧ INVP P K s2 := by
  have hK := INVP_SH h
  obtain ⟨v1, s1, e1, fr⟩ := LC_leak (sc := sc) (d := d) (x := x1) (k := x2) (v := x3) hK (TB_TV (INVP_TB h))
  have r1 : RI s1 := RI_65 (fr 65 (by omega)) (INVP_RI h)
  have q2 := r_leak (sc := sc) (d := d + 8) (s := s1) (x1 := x1) (x2 := x2) (x3 := x3) hK
  obtain ⟨p, e2, q⟩ : ok (Rleak s1 x1 x2 x3) (fun p => QI s1 p.2) := leak_ok r1
  rw [e2] at q2
  exact ⟨v1, p.1, s1, p.2, e1, q2, INVP_q hP h fr q⟩
theorem CQ_was {x1 x2 x3 : Int32} (hP : wLoc P) (h : INVP P K s) : ∃ v1 v2 s1 s2, xN sc (d + 11) 89 [.inr (.inr (.inl (some 0))), .inl x1, .inl x2, .inl x3] (wl K s) = some (some (.inl v1), wl K s1) ∧ xN sc (d + 11) 256 [.inr (.inr (.inl (some 64))), .inl x1, .inl x2, .inl x3] (wl K s1) = some (some (.inl v2), wl K s2) ∧ INVP P K s2 := by
  have hK := INVP_SH h
  obtain ⟨v1, s1, e1, fr⟩ := LC_was (sc := sc) (d := d) (x := x1) (k := x2) (v := x3) hK (TB_TV (INVP_TB h))
  have r1 : RI s1 := RI_65 (fr 65 (by omega)) (INVP_RI h)
  have q2 := r_was (sc := sc) (d := d + 7) (s := s1) (x1 := x1) (x2 := x2) (x3 := x3) hK
  obtain ⟨p, e2, q⟩ : ok (Rwas s1 x1 x2 x3) (fun p => QI s1 p.2) := was_ok r1
  rw [e2] at q2
  exact ⟨v1, p.1, s1, p.2, e1, q2, INVP_q hP h fr q⟩
theorem CQ_off {x1 x2 x3 x4 x5 x6 : Int32} (hP : wLoc P) (h : INVP P K s) : ∃ v1 v2 s1 s2, xN sc (d + 11) 92 [.inr (.inr (.inl (some 0))), .inl x1, .inl x2, .inl x3, .inl x4, .inl x5, .inl x6] (wl K s) = some (some (.inl v1), wl K s1) ∧ xN sc (d + 11) 207 [.inr (.inr (.inl (some 64))), .inl x1, .inl x2, .inl x3, .inl x4, .inl x5, .inl x6] (wl K s1) = some (some (.inl v2), wl K s2) ∧ INVP P K s2 := by
  have hK := INVP_SH h
  obtain ⟨v1, s1, e1, fr⟩ := LC_off (sc := sc) (d := d) (x := x1) (y := x2) (se := x3) (u := x4) (v := x5) (z := x6) hK (TB_TV (INVP_TB h))
  have r1 : RI s1 := RI_65 (fr 65 (by omega)) (INVP_RI h)
  have q2 := r_off (sc := sc) (d := d + 5) (s := s1) (x1 := x1) (x2 := x2) (x3 := x3) (x4 := x4) (x5 := x5) (x6 := x6) hK
  obtain ⟨p, e2, q⟩ : ok (Roff s1 x1 x2 x3 x4 x5 x6) (fun p => QI s1 p.2) := off_ok r1
  rw [e2] at q2
  exact ⟨v1, p.1, s1, p.2, e1, q2, INVP_q hP h fr q⟩
theorem CQ_vote {x1 x2 x3 x4 x5 x6 x7 : Int32} (hP : wLoc P) (h : INVP P K s) : ∃ v1 v2 s1 s2, xN sc (d + 11) 93 [.inr (.inr (.inl (some 0))), .inl x1, .inl x2, .inl x3, .inl x4, .inl x5, .inl x6, .inl x7] (wl K s) = some (some (.inl v1), wl K s1) ∧ xN sc (d + 11) 208 [.inr (.inr (.inl (some 64))), .inl x1, .inl x2, .inl x3, .inl x4, .inl x5, .inl x6, .inl x7] (wl K s1) = some (some (.inl v2), wl K s2) ∧ INVP P K s2 := by
  have hK := INVP_SH h
  obtain ⟨v1, s1, e1, fr⟩ := LC_vote (sc := sc) (d := d) (x := x1) (y := x2) (se := x3) (u := x4) (v := x5) (z := x6) (g := x7) hK (TB_TV (INVP_TB h))
  have r1 : RI s1 := RI_65 (fr 65 (by omega)) (INVP_RI h)
  have q2 := r_vote (sc := sc) (d := d + 4) (s := s1) (x1 := x1) (x2 := x2) (x3 := x3) (x4 := x4) (x5 := x5) (x6 := x6) (x7 := x7) hK
  obtain ⟨p, e2, q⟩ : ok (Rvote s1 x1 x2 x3 x4 x5 x6 x7) (fun p => QI s1 p.2) := vote_ok r1
  rw [e2] at q2
  exact ⟨v1, p.1, s1, p.2, e1, q2, INVP_q hP h fr q⟩
theorem CQ_broken {x1 x2 x3 x4 x5 x6 : Int32} (hP : wLoc P) (h : INVP P K s) : ∃ v1 v2 s1 s2, xN sc (d + 11) 94 [.inr (.inr (.inl (some 0))), .inl x1, .inl x2, .inl x3, .inl x4, .inl x5, .inl x6] (wl K s) = some (some (.inl v1), wl K s1) ∧ xN sc (d + 11) 215 [.inr (.inr (.inl (some 64))), .inl x1, .inl x2, .inl x3, .inl x4, .inl x5, .inl x6] (wl K s1) = some (some (.inl v2), wl K s2) ∧ INVP P K s2 := by
  have hK := INVP_SH h
  obtain ⟨v1, s1, e1, fr⟩ := LC_broken (sc := sc) (d := d) (x := x1) (se := x2) (u := x3) (v := x4) (z := x5) (g := x6) hK (TB_TV (INVP_TB h))
  have r1 : RI s1 := RI_65 (fr 65 (by omega)) (INVP_RI h)
  have q2 := r_broken (sc := sc) (d := d + 7) (s := s1) (x1 := x1) (x2 := x2) (x3 := x3) (x4 := x4) (x5 := x5) (x6 := x6) hK
  obtain ⟨p, e2, q⟩ : ok (Rbroken s1 x1 x2 x3 x4 x5 x6) (fun p => QI s1 p.2) := broken_ok r1
  rw [e2] at q2
  exact ⟨v1, p.1, s1, p.2, e1, q2, INVP_q hP h fr q⟩
theorem CQ_stop {x1 x2 x3 : Int32} (hP : wLoc P) (h : INVP P K s) : ∃ v1 v2 s1 s2, xN sc (d + 11) 97 [.inr (.inr (.inl (some 0))), .inl x1, .inl x2, .inl x3] (wl K s) = some (some (.inl v1), wl K s1) ∧ xN sc (d + 11) 230 [.inr (.inr (.inl (some 64))), .inl x1, .inl x2, .inl x3] (wl K s1) = some (some (.inl v2), wl K s2) ∧ INVP P K s2 := by
  have hK := INVP_SH h
  obtain ⟨v1, s1, e1, fr⟩ := LC_stop (sc := sc) (d := d) (x := x1) (y := x2) (z := x3) hK (TB_TV (INVP_TB h))
  have r1 : RI s1 := RI_65 (fr 65 (by omega)) (INVP_RI h)
  have q2 := r_stop (sc := sc) (d := d + 1) (s := s1) (x1 := x1) (x2 := x2) (x3 := x3) hK
  obtain ⟨p, e2, q⟩ : ok (Rstop s1 x1 x2 x3) (fun p => QI s1 p.2) := stop_ok r1
  rw [e2] at q2
  exact ⟨v1, p.1, s1, p.2, e1, q2, INVP_q hP h fr q⟩
theorem CQ_state {x1 x2 x3 x4 x5 : Int32} (hP : wLoc P) (h : INVP P K s) : ∃ v1 v2 s1 s2, xN sc (d + 11) 98 [.inr (.inr (.inl (some 0))), .inl x1, .inl x2, .inl x3, .inl x4, .inl x5] (wl K s) = some (some (.inl v1), wl K s1) ∧ xN sc (d + 11) 231 [.inr (.inr (.inl (some 64))), .inl x1, .inl x2, .inl x3, .inl x4, .inl x5] (wl K s1) = some (some (.inl v2), wl K s2) ∧ INVP P K s2 := by
  have hK := INVP_SH h
  obtain ⟨v1, s1, e1, fr⟩ := LC_state (sc := sc) (d := d) (x := x1) (y := x2) (z := x3) (n := x4) (v := x5) hK (TB_TV (INVP_TB h))
  have r1 : RI s1 := RI_65 (fr 65 (by omega)) (INVP_RI h)
  have q2 := r_state (sc := sc) (d := d + 1) (s := s1) (x1 := x1) (x2 := x2) (x3 := x3) (x4 := x4) (x5 := x5) hK
  obtain ⟨p, e2, q⟩ : ok (Rstate s1 x1 x2 x3 x4 x5) (fun p => QI s1 p.2) := state_ok r1
  rw [e2] at q2
  exact ⟨v1, p.1, s1, p.2, e1, q2, INVP_q hP h fr q⟩
theorem CQ_drawn {x1 x2 x3 x4 : Int32} (hP : wLoc P) (h : INVP P K s) : ∃ v1 v2 s1 s2, xN sc (d + 11) 100 [.inr (.inr (.inl (some 0))), .inl x1, .inl x2, .inl x3, .inl x4] (wl K s) = some (some (.inl v1), wl K s1) ∧ xN sc (d + 11) 279 [.inr (.inr (.inl (some 64))), .inl x1, .inl x2, .inl x3, .inl x4] (wl K s1) = some (some (.inl v2), wl K s2) ∧ INVP P K s2 := by
  have hK := INVP_SH h
  obtain ⟨v1, s1, e1, fr⟩ := LC_drawn (sc := sc) (d := d) (x := x1) (y := x2) (n := x3) (v := x4) hK (TB_TV (INVP_TB h))
  have r1 : RI s1 := RI_65 (fr 65 (by omega)) (INVP_RI h)
  have q2 := r_drawn (sc := sc) (d := d + 3) (s := s1) (x1 := x1) (x2 := x2) (x3 := x3) (x4 := x4) hK
  obtain ⟨p, e2, q⟩ : ok (Rdrawn s1 x1 x2 x3 x4) (fun p => QI s1 p.2) := drawn_ok r1
  rw [e2] at q2
  exact ⟨v1, p.1, s1, p.2, e1, q2, INVP_q hP h fr q⟩
theorem CQ_agreed {x1 x2 x3 x4 x5 : Int32} (hP : wLoc P) (h : INVP P K s) : ∃ v1 v2 s1 s2, xN sc (d + 11) 101 [.inr (.inr (.inl (some 0))), .inl x1, .inl x2, .inl x3, .inl x4, .inl x5] (wl K s) = some (some (.inl v1), wl K s1) ∧ xN sc (d + 11) 234 [.inr (.inr (.inl (some 64))), .inl x1, .inl x2, .inl x3, .inl x4, .inl x5] (wl K s1) = some (some (.inl v2), wl K s2) ∧ INVP P K s2 := by
  have hK := INVP_SH h
  obtain ⟨v1, s1, e1, fr⟩ := LC_agreed (sc := sc) (d := d) (x := x1) (y := x2) (who := x3) (se := x4) (v := x5) hK (TB_TV (INVP_TB h))
  have r1 : RI s1 := RI_65 (fr 65 (by omega)) (INVP_RI h)
  have q2 := r_agreed (sc := sc) (d := d + 3) (s := s1) (x1 := x1) (x2 := x2) (x3 := x3) (x4 := x4) (x5 := x5) hK
  obtain ⟨p, e2, q⟩ : ok (Ragreed s1 x1 x2 x3 x4 x5) (fun p => QI s1 p.2) := agreed_ok r1
  rw [e2] at q2
  exact ⟨v1, p.1, s1, p.2, e1, q2, INVP_q hP h fr q⟩
theorem CQ_power {x1 x2 x3 : Int32} (hP : wLoc P) (h : INVP P K s) : ∃ v1 v2 s1 s2, xN sc (d + 11) 106 [.inr (.inr (.inl (some 0))), .inl x1, .inl x2, .inl x3] (wl K s) = some (some (.inl v1), wl K s1) ∧ xN sc (d + 11) 241 [.inr (.inr (.inl (some 64))), .inl x1, .inl x2, .inl x3] (wl K s1) = some (some (.inl v2), wl K s2) ∧ INVP P K s2 := by
  have hK := INVP_SH h
  obtain ⟨v1, s1, e1, fr⟩ := LC_power (sc := sc) (d := d) (x := x1) (y := x2) (g := x3) hK (TB_TV (INVP_TB h))
  have r1 : RI s1 := RI_65 (fr 65 (by omega)) (INVP_RI h)
  have q2 := r_power (sc := sc) (d := d + 6) (s := s1) (x1 := x1) (x2 := x2) (x3 := x3) hK
  obtain ⟨p, e2, q⟩ : ok (Rpower s1 x1 x2 x3) (fun p => QI s1 p.2) := power_ok r1
  rw [e2] at q2
  exact ⟨v1, p.1, s1, p.2, e1, q2, INVP_q hP h fr q⟩
theorem CQ_coalition {x1 x2 : Int32} (hP : wLoc P) (h : INVP P K s) : ∃ v1 v2 s1 s2, xN sc (d + 11) 108 [.inr (.inr (.inl (some 0))), .inl x1, .inl x2] (wl K s) = some (some (.inl v1), wl K s1) ∧ xN sc (d + 11) 244 [.inr (.inr (.inl (some 64))), .inl x1, .inl x2] (wl K s1) = some (some (.inl v2), wl K s2) ∧ INVP P K s2 := by
  have hK := INVP_SH h
  obtain ⟨v1, s1, e1, fr⟩ := LC_coalition (sc := sc) (d := d) (x := x1) (v := x2) hK (TB_TV (INVP_TB h))
  have r1 : RI s1 := RI_65 (fr 65 (by omega)) (INVP_RI h)
  have q2 := r_coalition (sc := sc) (d := d + 5) (s := s1) (x1 := x1) (x2 := x2) hK
  obtain ⟨p, e2, q⟩ : ok (Rcoalition s1 x1 x2) (fun p => QI s1 p.2) := coalition_ok r1
  rw [e2] at q2
  exact ⟨v1, p.1, s1, p.2, e1, q2, INVP_q hP h fr q⟩
theorem CQ_bribe {x1 x2 x3 x4 x5 x6 x7 : Int32} (hP : wLoc P) (h : INVP P K s) : ∃ v1 v2 s1 s2, xN sc (d + 11) 112 [.inr (.inr (.inl (some 0))), .inl x1, .inl x2, .inl x3, .inl x4, .inl x5, .inl x6, .inl x7] (wl K s) = some (some (.inl v1), wl K s1) ∧ xN sc (d + 11) 246 [.inr (.inr (.inl (some 64))), .inl x1, .inl x2, .inl x3, .inl x4, .inl x5, .inl x6, .inl x7] (wl K s1) = some (some (.inl v2), wl K s2) ∧ INVP P K s2 := by
  have hK := INVP_SH h
  obtain ⟨v1, s1, e1, fr⟩ := LC_bribe (sc := sc) (d := d) (x := x1) (who := x2) (se := x3) (u := x4) (v := x5) (z := x6) (g := x7) hK (TB_TV (INVP_TB h))
  have r1 : RI s1 := RI_65 (fr 65 (by omega)) (INVP_RI h)
  have q2 := r_bribe (sc := sc) (d := d + 4) (s := s1) (x1 := x1) (x2 := x2) (x3 := x3) (x4 := x4) (x5 := x5) (x6 := x6) (x7 := x7) hK
  obtain ⟨p, e2, q⟩ : ok (Rbribe s1 x1 x2 x3 x4 x5 x6 x7) (fun p => QI s1 p.2) := bribe_ok r1
  rw [e2] at q2
  exact ⟨v1, p.1, s1, p.2, e1, q2, INVP_q hP h fr q⟩
theorem CQ_lobby {x1 x2 x3 x4 x5 x6 x7 : Int32} (hP : wLoc P) (h : INVP P K s) : ∃ v1 v2 s1 s2, xN sc (d + 11) 114 [.inr (.inr (.inl (some 0))), .inl x1, .inl x2, .inl x3, .inl x4, .inl x5, .inl x6, .inl x7] (wl K s) = some (some (.inl v1), wl K s1) ∧ xN sc (d + 11) 250 [.inr (.inr (.inl (some 64))), .inl x1, .inl x2, .inl x3, .inl x4, .inl x5, .inl x6, .inl x7] (wl K s1) = some (some (.inl v2), wl K s2) ∧ INVP P K s2 := by
  have hK := INVP_SH h
  obtain ⟨v1, s1, e1, fr⟩ := LC_lobby (sc := sc) (d := d) (x := x1) (who := x2) (se := x3) (u := x4) (v := x5) (z := x6) (k := x7) hK (TB_TV (INVP_TB h))
  have r1 : RI s1 := RI_65 (fr 65 (by omega)) (INVP_RI h)
  have q2 := r_lobby (sc := sc) (d := d + 2) (s := s1) (x1 := x1) (x2 := x2) (x3 := x3) (x4 := x4) (x5 := x5) (x6 := x6) (x7 := x7) hK
  obtain ⟨p, e2, q⟩ : ok (Rlobby s1 x1 x2 x3 x4 x5 x6 x7) (fun p => QI s1 p.2) := lobby_ok r1
  rw [e2] at q2
  exact ⟨v1, p.1, s1, p.2, e1, q2, INVP_q hP h fr q⟩
theorem CQ_bargain {x1 x2 x3 : Int32} (hP : wLoc P) (h : INVP P K s) : ∃ v1 v2 s1 s2, xN sc (d + 11) 118 [.inr (.inr (.inl (some 0))), .inl x1, .inl x2, .inl x3] (wl K s) = some (some (.inl v1), wl K s1) ∧ xN sc (d + 11) 251 [.inr (.inr (.inl (some 64))), .inl x1, .inl x2, .inl x3] (wl K s1) = some (some (.inl v2), wl K s2) ∧ INVP P K s2 := by
  have hK := INVP_SH h
  obtain ⟨v1, s1, e1, fr⟩ := LC_bargain (sc := sc) (d := d) (x := x1) (y := x2) (v := x3) hK (TB_TV (INVP_TB h))
  have r1 : RI s1 := RI_65 (fr 65 (by omega)) (INVP_RI h)
  have q2 := r_bargain (sc := sc) (d := d + 6) (s := s1) (x1 := x1) (x2 := x2) (x3 := x3) hK
  obtain ⟨p, e2, q⟩ : ok (Rbargain s1 x1 x2 x3) (fun p => QI s1 p.2) := bargain_ok r1
  rw [e2] at q2
  exact ⟨v1, p.1, s1, p.2, e1, q2, INVP_q hP h fr q⟩
theorem CQ_nature {x1 x2 x3 : Int32} (hP : wLoc P) (h : INVP P K s) : ∃ v1 v2 s1 s2, xN sc (d + 11) 121 [.inr (.inr (.inl (some 0))), .inl x1, .inl x2, .inl x3] (wl K s) = some (some (.inl v1), wl K s1) ∧ xN sc (d + 11) 262 [.inr (.inr (.inl (some 64))), .inl x1, .inl x2, .inl x3] (wl K s1) = some (some (.inl v2), wl K s2) ∧ INVP P K s2 := by
  have hK := INVP_SH h
  obtain ⟨v1, s1, e1, fr⟩ := LC_nature (sc := sc) (d := d) (x := x1) (y := x2) (v := x3) hK (TB_TV (INVP_TB h))
  have r1 : RI s1 := RI_65 (fr 65 (by omega)) (INVP_RI h)
  have q2 := r_nature (sc := sc) (d := d + 6) (s := s1) (x1 := x1) (x2 := x2) (x3 := x3) hK
  obtain ⟨p, e2, q⟩ : ok (Rnature s1 x1 x2 x3) (fun p => QI s1 p.2) := nature_ok r1
  rw [e2] at q2
  exact ⟨v1, p.1, s1, p.2, e1, q2, INVP_q hP h fr q⟩
theorem CQ_seats {x1 x2 x3 : Int32} (hP : wLoc P) (h : INVP P K s) : ∃ v1 v2 s1 s2, xN sc (d + 11) 124 [.inr (.inr (.inl (some 0))), .inl x1, .inl x2, .inl x3] (wl K s) = some (some (.inl v1), wl K s1) ∧ xN sc (d + 11) 267 [.inr (.inr (.inl (some 64))), .inl x1, .inl x2, .inl x3] (wl K s1) = some (some (.inl v2), wl K s2) ∧ INVP P K s2 := by
  have hK := INVP_SH h
  obtain ⟨v1, s1, e1, fr⟩ := LC_seats (sc := sc) (d := d) (x := x1) (y := x2) (v := x3) hK (TB_TV (INVP_TB h))
  have r1 : RI s1 := RI_65 (fr 65 (by omega)) (INVP_RI h)
  have q2 := r_seats (sc := sc) (d := d + 4) (s := s1) (x1 := x1) (x2 := x2) (x3 := x3) hK
  obtain ⟨p, e2, q⟩ : ok (Rseats s1 x1 x2 x3) (fun p => QI s1 p.2) := seats_ok r1
  rw [e2] at q2
  exact ⟨v1, p.1, s1, p.2, e1, q2, INVP_q hP h fr q⟩
theorem CQ_reshuffle {x1 x2 : Int32} (hP : wLoc P) (h : INVP P K s) : ∃ v1 v2 s1 s2, xN sc (d + 11) 129 [.inr (.inr (.inl (some 0))), .inl x1, .inl x2] (wl K s) = some (some (.inl v1), wl K s1) ∧ xN sc (d + 11) 269 [.inr (.inr (.inl (some 64))), .inl x1, .inl x2] (wl K s1) = some (some (.inl v2), wl K s2) ∧ INVP P K s2 := by
  have hK := INVP_SH h
  obtain ⟨v1, s1, e1, fr⟩ := LC_reshuffle (sc := sc) (d := d) (x := x1) (g := x2) hK (TB_TV (INVP_TB h))
  have r1 : RI s1 := RI_65 (fr 65 (by omega)) (INVP_RI h)
  have q2 := r_reshuffle (sc := sc) (d := d + 3) (s := s1) (x1 := x1) (x2 := x2) hK
  obtain ⟨p, e2, q⟩ : ok (Rreshuffle s1 x1 x2) (fun p => QI s1 p.2) := reshuffle_ok r1
  rw [e2] at q2
  exact ⟨v1, p.1, s1, p.2, e1, q2, INVP_q hP h fr q⟩
theorem CQ_fits {x1 x2 x3 x4 x5 : Int32} (hP : wLoc P) (h : INVP P K s) : ∃ v1 v2 s1 s2, xN sc (d + 11) 131 [.inr (.inr (.inl (some 0))), .inl x1, .inl x2, .inl x3, .inl x4, .inl x5] (wl K s) = some (some (.inl v1), wl K s1) ∧ xN sc (d + 11) 276 [.inr (.inr (.inl (some 64))), .inl x1, .inl x2, .inl x3, .inl x4, .inl x5] (wl K s1) = some (some (.inl v2), wl K s2) ∧ INVP P K s2 := by
  have hK := INVP_SH h
  obtain ⟨v1, s1, e1, fr⟩ := LC_fits (sc := sc) (d := d) (x := x1) (y := x2) (who := x3) (se := x4) (v := x5) hK (TB_TV (INVP_TB h))
  have r1 : RI s1 := RI_65 (fr 65 (by omega)) (INVP_RI h)
  have q2 := r_fits (sc := sc) (d := d + 3) (s := s1) (x1 := x1) (x2 := x2) (x3 := x3) (x4 := x4) (x5 := x5) hK
  obtain ⟨p, e2, q⟩ : ok (Rfits s1 x1 x2 x3 x4 x5) (fun p => QI s1 p.2) := fits_ok r1
  rw [e2] at q2
  exact ⟨v1, p.1, s1, p.2, e1, q2, INVP_q hP h fr q⟩
theorem CQ_fault {x1 : Int32} (hP : wLoc P) (h : INVP P K s) : ∃ v1 v2, xN sc (d + 11) 78 [.inr (.inr (.inl (some 0))), .inl x1] (wl K s) = some (some (.inl v1), wl K s) ∧ xN sc (d + 11) 186 [.inr (.inr (.inl (some 64))), .inl x1] (wl K s) = some (some (.inl v2), wl K s) ∧ INVP P K s := by
  have hK := INVP_SH h
  have q2 := r_fault (sc := sc) (d := d + 10) (s := s) (x1 := x1) hK
  obtain ⟨p, e2, _⟩ : ok (Rfault s x1) (fun _ => True) := fault_ok
  rw [e2] at q2
  exact ⟨_, p, c_fault (sc := sc) (d := d + 10) (s := s) (w := x1) hK, q2, h⟩
theorem CQ_count {x1 : Int32} (hP : wLoc P) (h : INVP P K s) : ∃ v1 v2, xN sc (d + 11) 79 [.inr (.inr (.inl (some 0))), .inl x1] (wl K s) = some (some (.inl v1), wl K s) ∧ xN sc (d + 11) 280 [.inr (.inr (.inl (some 64))), .inl x1] (wl K s) = some (some (.inl v2), wl K s) ∧ INVP P K s := by
  have hK := INVP_SH h
  have q2 := r_count (sc := sc) (d := d + 9) (s := s) (x1 := x1) hK
  obtain ⟨p, e2, _⟩ : ok (Rcount s x1) (fun _ => True) := count_ok
  rw [e2] at q2
  exact ⟨_, p, c_count (sc := sc) (d := d + 9) (s := s) (w := x1) hK, q2, h⟩
end XSD
end
section
section XTA
variable {sc : Nat × (Nat → Int32)} {d : Nat} {K : List KD} {r q t a B m : Nat} {w : EW}
/-! tokens of bytes, on both sides -/
/-- from j on, at most n further: the first byte that is no blank, no letter, no digit -/
def pB (f : Nat → Int32) : Nat → Nat → Nat
  | 0, j => j
  | n + 1, j => if isb_I (f j) = 0 then j else pB f n (j + 1)
def pL (f : Nat → Int32) : Nat → Nat → Nat
  | 0, j => j
  | n + 1, j => if isl_I (f j) = 0 then j else pL f n (j + 1)
def pD (f : Nat → Int32) : Nat → Nat → Nat
  | 0, j => j
  | n + 1, j => if isd_I (f j) = 0 then j else pD f n (j + 1)
theorem pB_le {f : Nat → Int32} : ∀ (n j : Nat), j ≤ pB f n j ∧ pB f n j ≤ j + n := by
  intro n
  induction n with
  | zero => intro j; rw [pB]; omega
  | succ n ih =>
    intro j
    rw [pB]
    split
    · omega
    · have := ih (j + 1); omega
theorem pL_le {f : Nat → Int32} : ∀ (n j : Nat), j ≤ pL f n j ∧ pL f n j ≤ j + n := by
  intro n
  induction n with
  | zero => intro j; rw [pL]; omega
  | succ n ih =>
    intro j
    rw [pL]
    split
    · omega
    · have := ih (j + 1); omega
theorem pD_le {f : Nat → Int32} : ∀ (n j : Nat), j ≤ pD f n j ∧ pD f n j ≤ j + n := by
  intro n
  induction n with
  | zero => intro j; rw [pD]; omega
  | succ n ih =>
    intro j
    rw [pD]
    split
    · omega
    · have := ih (j + 1); omega
theorem pL_in {f : Nat → Int32} : ∀ (n j i : Nat), j ≤ i → i < pL f n j → ¬ isl_I (f i) = 0 := by
  intro n
  induction n with
  | zero => intro j i h1 h2; rw [pL] at h2; omega
  | succ n ih =>
    intro j i h1 h2
    rw [pL] at h2
    split at h2
    · omega
    · rename_i c
      by_cases e : i = j
      · subst e; exact c
      · exact ih (j + 1) i (by omega) h2
/-! the class's side -/
/-- the class reads the bytes f, L of them -/
def CB (f : Nat → Int32) (L : Nat) (u : SG) : Prop := RA u ∧ ln u = L ∧ ∀ j, j < L → tok u j = f j
theorem skB_p {f : Nat → Int32} {L : Nat} {u : SG} (h : ∀ j, j < L → tok u j = f j) : ∀ (n j : Nat), j + n ≤ L → skB u n j = pB f n j := by
  intro n
  induction n with
  | zero => intro j _; rfl
  | succ n ih => intro j hj; rw [skB, pB, h j (by omega), ih (j + 1) (by omega)]
theorem skL_p {f : Nat → Int32} {L : Nat} {u : SG} (h : ∀ j, j < L → tok u j = f j) : ∀ (n j : Nat), j + n ≤ L → skL u n j = pL f n j := by
  intro n
  induction n with
  | zero => intro j _; rfl
  | succ n ih => intro j hj; rw [skL, pL, h j (by omega), ih (j + 1) (by omega)]
theorem skD_p {f : Nat → Int32} {L : Nat} {u : SG} (h : ∀ j, j < L → tok u j = f j) : ∀ (n j : Nat), j + n ≤ L → skD u n j = pD f n j := by
  intro n
  induction n with
  | zero => intro j _; rfl
  | succ n ih => intro j hj; rw [skD, pD, h j (by omega), ih (j + 1) (by omega)]
/-- what kind of token lies from a to e, as the class says it -/
def KC (f : Nat → Int32) (L a e : Nat) (k : Int32) : Prop := (a = L ∧ e = L ∧ k = 0) ∨ (a < L ∧ ¬ isl_I (f a) = 0 ∧ e = pL f (L - a) a ∧ k = 1) ∨ (a < L ∧ isl_I (f a) = 0 ∧ ¬ isd_I (f a) = 0 ∧ e = pD f (L - a) a ∧ k = if 2 < e - a then 4 else 2) ∨ (a < L ∧ isl_I (f a) = 0 ∧ isd_I (f a) = 0 ∧ e = a + 1 ∧ k = if f a = 59 then 3 else 4)
/-- the class's token, after it went on from p -/
def CT (f : Nat → Int32) (L p : Nat) (u : SG) : Prop := ∃ e, e ≤ L ∧ pB f (L - p) p ≤ e ∧ u 43 8 = nI (pB f (L - p) p) ∧ u 43 9 = nI e ∧ KC f L (pB f (L - p) p) e (u 43 7)
theorem adv_c {f : Nat → Int32} {L : Nat} {u : SG} (h : CB f L u) : CB f L (advS u) ∧ CT f L (en u) (advS u) ∧ (∀ c, c ≠ 43 → advS u c = u c) ∧ ∀ j, j ≠ 7 → j ≠ 8 → j ≠ 9 → advS u 43 j = u 43 j := by
  obtain ⟨ra, hl, hb⟩ := h
  have hL := ra.2.1
  have hE := ra.2.2.2
  rw [hl] at hL hE
  have eb : bg u = pB f (L - en u) (en u) := by unfold bg; rw [hl]; exact skB_p hb _ _ (by omega)
  have lb := pB_le (f := f) (L - en u) (en u)
  have fr : (∀ c, c ≠ 43 → advS u c = u c) ∧ ∀ j, j ≠ 7 → j ≠ 8 → j ≠ 9 → advS u 43 j = u 43 j := by
    unfold advS adv1
    refine ⟨fun c hc => ?_, fun j h7 h8 h9 => ?_⟩
    · repeat' split
      all_goals simp only [up_n hc]
    · repeat' split
      all_goals simp only [up_bn h7, up_bn h8, up_bn h9]
  have ct : CT f L (en u) (advS u) := by
    unfold CT
    rw [← eb]
    rw [← eb] at lb
    unfold advS adv1
    rw [hl]
    generalize bg u = b at lb ⊢
    by_cases c0 : b < L
    · have et := hb b c0
      have lt : nI b < nI L := nI_lt2 c0 (by omega)
      rw [if_pos lt, et]
      by_cases c1 : isl_I (f b) = 0
      · rw [if_pos c1]
        by_cases c2 : isd_I (f b) = 0
        · rw [if_pos c2]
          refine ⟨b + 1, by omega, by omega, ?_, ?_, Or.inr (Or.inr (Or.inr ⟨c0, c1, c2, rfl, ?_⟩))⟩
          · simp (disch := decide) only [up_a, up_bn]
          · rw [up_a, nI_succ]
          · simp (disch := decide) only [up_a, up_bn]
        · rw [if_neg c2]
          have eD := skD_p (u := u) hb (L - b) b (by omega)
          have lD := pD_le (f := f) (L - b) b
          rw [eD]
          refine ⟨pD f (L - b) b, by omega, by omega, ?_, ?_, Or.inr (Or.inr (Or.inl ⟨c0, c1, c2, rfl, ?_⟩))⟩
          · simp (disch := decide) only [up_a, up_bn]
          · simp (disch := decide) only [up_a, up_bn]
          · rw [up_a, nI_subn (by omega)]
            by_cases q : 2 < pD f (L - b) b - b
            · rw [if_pos q, if_pos (show (2 : Int32) < nI (pD f (L - b) b - b) from nI_lt2 (a := 2) q (by omega))]
            · rw [if_neg q, if_neg (show ¬ (2 : Int32) < nI (pD f (L - b) b - b) from Int32.not_lt.mpr (nI_le2 (b := 2) (by omega) (by omega)))]
      · rw [if_neg c1]
        have eL := skL_p (u := u) hb (L - b) b (by omega)
        have lL := pL_le (f := f) (L - b) b
        rw [eL]
        refine ⟨pL f (L - b) b, by omega, by omega, ?_, ?_, Or.inr (Or.inl ⟨c0, c1, rfl, ?_⟩)⟩
        · simp (disch := decide) only [up_a, up_bn]
        · rw [up_a]
        · simp (disch := decide) only [up_a, up_bn]
    · have bL : b = L := by omega
      rw [if_neg (Int32.not_lt.mpr (nI_le2 (by omega) (by omega)))]
      refine ⟨L, by omega, by omega, ?_, ?_, Or.inl ⟨bL, rfl, ?_⟩⟩
      · simp (disch := decide) only [up_a, up_bn]
      · rw [bL]; simp (disch := decide) only [up_a, up_bn]
      · rw [up_a]
  refine ⟨?_, ct, fr⟩
  obtain ⟨e, he, _, h8, h9, _⟩ := ct
  have e6 : advS u 43 6 = u 43 6 := fr.2 6 (by decide) (by decide) (by decide)
  have l6 : ln (advS u) = L := by unfold ln; rw [e6]; exact hl
  have e9 : en (advS u) = e := by unfold en; rw [h9, nI_clamp (by omega)]
  refine ⟨⟨by rw [l6, e6, ra.1, hl], by omega, by rw [e9]; exact h9, by omega⟩, l6, fun j hj => ?_⟩
  unfold tok
  rw [fr.1 54 (by decide)]; exact hb j hj
end XTA
end
