section XSA
variable {sc : Nat × (Nat → Int32)} {d : Nat} {K : List KD} {r q t a B m : Nat} {w : EW}
/-! what is told, place by place: copies -/
theorem cp_a {n : Nat} {s : SG} {e k j : Nat} (h : j < n) : cpS n s e k k j = s e j := by
  unfold cpS
  rw [sF_s]; exact if_pos h
/-- a place within a republic's eight cells -/
def rD (e j : Nat) : Prop := (e = 0 ∧ (j = 0 ∨ (8 ≤ j ∧ j ≤ 13))) ∨ ((e = 1 ∨ e = 2 ∨ e = 3 ∨ e = 4 ∨ e = 6) ∧ j < 6) ∨ (e = 5 ∧ j < 72) ∨ (e = 7 ∧ j < 3)
/-- a place within the cells of rows -/
def wD (e j : Nat) : Prop := (e = 0 ∧ j = 0) ∨ (e = 1 ∧ j < 200)
/-- a place within what is told -/
def tD (c j : Nat) : Prop := (c = 0 ∧ 1 ≤ j ∧ j ≤ 3) ∨ (c = 1 ∧ j < 600) ∨ (c = 2 ∧ j < 6) ∨ (∃ i e, i < 2 ∧ e < 8 ∧ c = 5 + 8 * i + e ∧ rD e j) ∨ (∃ k e, k < 10 ∧ e < 2 ∧ c = 21 + 2 * k + e ∧ wD e j)
theorem tD_c {c j : Nat} (h : tD c j) : c < 41 := by
  rcases h with ⟨rfl, _⟩ | ⟨rfl, _⟩ | ⟨rfl, _⟩ | ⟨i, e, h1, h2, rfl, _⟩ | ⟨k, e, h1, h2, rfl, _⟩ <;> omega
theorem cprS_e {s : SG} {r t : Nat} (hd : r + 8 ≤ t ∨ t + 8 ≤ r) {e j : Nat} (h : rD e j) : cprS s r t (r + e) j = s (t + e) j := by
  rcases h with ⟨rfl, h⟩ | ⟨h, hj⟩ | ⟨rfl, hj⟩ | ⟨rfl, hj⟩
  · rcases (by omega : j = 0 ∨ j = 8 ∨ j = 9 ∨ j = 10 ∨ j = 11 ∨ j = 12 ∨ j = 13) with rfl | rfl | rfl | rfl | rfl | rfl | rfl <;> (unfold cprS; simp (disch := omega) only [Nat.add_zero, up_n, up_bn, up_a, cp_n])
  · rcases h with rfl | rfl | rfl | rfl | rfl <;> (unfold cprS; simp (disch := omega) only [up_n, cp_n, cp_a hj])
  · unfold cprS; simp (disch := omega) only [up_n, cp_n, cp_a hj]
  · unfold cprS; simp (disch := omega) only [up_n, cp_n, cp_a hj]
theorem cpwS_e {s : SG} {q t : Nat} (hd : q + 2 ≤ t ∨ t + 2 ≤ q) {e j : Nat} (h : wD e j) : cpwS s q t (q + e) j = s (t + e) j := by
  rcases h with ⟨rfl, rfl⟩ | ⟨rfl, hj⟩
  · unfold cpwS; simp (disch := omega) only [Nat.add_zero, up_a, cp_n]
  · unfold cpwS; simp (disch := omega) only [up_n, cp_a hj]
theorem cpTw_e {s : SG} {B C : Nat} (hd : B + 41 ≤ C ∨ C + 41 ≤ B) {k e j : Nat} (he : e < 2) (h : wD e j) : ∀ m, m ≤ 10 → k < m → cpTw s B C m (B + (21 + 2 * k + e)) j = s (C + (21 + 2 * k + e)) j := by
  intro m
  induction m with
  | zero => intro _ h0; omega
  | succ m ih =>
    intro hm h0
    rw [cpTw]
    by_cases q : k = m
    · subst q
      rw [show B + (21 + 2 * k + e) = B + 21 + 2 * k + e by omega, cpwS_e (by omega) h, cpTw_n k (by omega), show C + 21 + 2 * k + e = C + (21 + 2 * k + e) by omega]
    · rw [cpwS_n (by omega)]
      exact ih (by omega) (by omega)
theorem cpTr_e {s : SG} {B C : Nat} (hd : B + 41 ≤ C ∨ C + 41 ≤ B) {k e j : Nat} (he : e < 8) (h : rD e j) : ∀ m, m ≤ 2 → k < m → cpTr s B C m (B + (5 + 8 * k + e)) j = s (C + (5 + 8 * k + e)) j := by
  intro m
  induction m with
  | zero => intro _ h0; omega
  | succ m ih =>
    intro hm h0
    rw [cpTr]
    by_cases q : k = m
    · subst q
      rw [show B + (5 + 8 * k + e) = B + 5 + 8 * k + e by omega, cprS_e (by omega) h, cpTr_n k (by omega), show C + 5 + 8 * k + e = C + (5 + 8 * k + e) by omega]
    · rw [cprS_n (by omega)]
      exact ih (by omega) (by omega)
theorem cpTS_e {s : SG} {B C : Nat} (hd : B + 41 ≤ C ∨ C + 41 ≤ B) {c j : Nat} (h : tD c j) : cpTS s B C (B + c) j = s (C + c) j := by
  unfold cpTS
  rcases h with ⟨rfl, h1, h2⟩ | ⟨rfl, h1⟩ | ⟨rfl, h1⟩ | ⟨i, e, h1, h2, rfl, h3⟩ | ⟨k, e, h1, h2, rfl, h3⟩
  · rw [cpTw_n 10 (by omega), cpTr_n 2 (by omega)]
    unfold cpT0
    rcases (by omega : j = 1 ∨ j = 2 ∨ j = 3) with rfl | rfl | rfl <;> simp (disch := omega) only [Nat.add_zero, up_n, up_bn, up_a, cp_n]
  · rw [cpTw_n 10 (by omega), cpTr_n 2 (by omega)]
    unfold cpT0
    simp (disch := omega) only [up_n, cp_n, cp_a h1]
  · rw [cpTw_n 10 (by omega), cpTr_n 2 (by omega)]
    unfold cpT0
    simp (disch := omega) only [up_n, cp_n, cp_a h1]
  · rw [cpTw_n 10 (by omega), cpTr_e hd h2 h3 2 (by omega) h1, cpT0_n (by omega)]
  · rw [cpTw_e hd h2 h3 10 (by omega) h1, cpTr_n 2 (by omega), cpT0_n (by omega)]
def kS1 : KD → Nat
  | .inl q => q.2.length
  | .inr (.inl q) => q.2
  | .inr (.inr q) => q.2.1
def kSL (K : List KD) : Nat := (K.map kS1).sum
def kT : Nat := kSL (KT 0)
theorem kSL_set : ∀ (K : List KD) (k : Nat) (a b : KD), K[k]? = some a → kS1 b = kS1 a → kSL (K.set k b) = kSL K := by
  intro K
  induction K with
  | nil => intro k a b h; cases h
  | cons c t ih =>
    intro k a b h e
    cases k with
    | zero =>
      obtain rfl : c = a := Option.some.inj h
      show kS1 b + kSL t = kS1 c + kSL t
      rw [e]
    | succ k =>
      show kS1 c + kSL (t.set k b) = kS1 c + kSL t
      rw [ih k a b h e]
theorem kSL_app {A B : List KD} : kSL (A ++ B) = kSL A + kSL B := by
  unfold kSL
  rw [List.map_append, List.sum_append]
theorem kSL_new {K : List KD} {n : Nat} {f g : Nat → Option Nat} (q : (K ++ KT n)[42]? = some (kQ 4 3 f)) : kSL ((K ++ KT n).set 42 (kQ 4 3 g)) = kSL K + kT := by
  rw [kSL_set _ 42 (kQ 4 3 f) (kQ 4 3 g) q rfl, kSL_app]; rfl
theorem c_imageL {sc : Nat × (Nat → Int32)} {d : Nat} {K : List KD} {s : SG} {f : Nat → Option Nat} {x : Int32} (ks : KS K s f) (tb : TB s 1) (inj : ∀ i j C, i < 3 → j < 3 → f i = some C → f j = some C → i = j) : ∃ K' s' f', xN sc (d + 4) 80 [.inr (.inr (.inl (some 0))), .inl x] (wl K s) = some (some (.inl (imgI x)), wl K' s') ∧ KS K' s' f' ∧ (∀ c, c < 72 → s' c = s c) ∧ ((imgI x = 0 ∧ K' = K ∧ s' = s ∧ f' = f) ∨ ∃ k, k < 3 ∧ x = nI k ∧ imgI x = 1 ∧ (∀ j, j ≠ k → f' j = f j) ∧ (f k = none → K'.length = K.length + 41 ∧ kSL K' = kSL K + kT) ∧ (f k ≠ none → K'.length = K.length ∧ kSL K' = kSL K) ∧ ∃ B, f' k = some B ∧ TB s' B ∧ (∀ c j, tD c j → s' (B + c) j = s (1 + c) j) ∧ ∀ j C, j < 3 → j ≠ k → f j = some C → C ≠ B ∧ ∀ c, c < 41 → s' (C + c) = s (C + c)) := by
  have h := KS_SH ks
  have h42 := KS_42 ks
  have hn : xnn sc (wl K s) (.inr (.inr (.inl (some 42)))) = some 3 := xnq_wl h42 rfl
  have h3 : (3 : Int32) = nI 3 := rfl
  by_cases c1 : x < 0
  · have e : imgI x = 0 := by unfold imgI; rw [if_pos c1]
    refine ⟨K, s, f, ?_, ks, fun _ _ => rfl, Or.inl ⟨e, rfl, rfl, rfl⟩⟩
    rw [mX6_image, e]
    simp only [uX6_image_0, uX6_image_4, uX6_image_13, qX6_image_0, qX6_image_4, qX6_image_13, jX6_image_4_13, jX6_image_13_15, jX6_image_24_34, jX6_image_34_40, if_pos c1]
  · by_cases c2 : x < nI 3
    · obtain ⟨k, hk, rfl⟩ := nat_of c1 c2 (by decide)
      have e : imgI (nI k) = 1 := by unfold imgI; rw [if_neg c1, if_pos (by rw [h3]; exact c2)]
      have xk : xvb (nI k) 3 = true := xvb_nI hk (by decide)
      have hq : xdq (wl K s) (nI k) (.inr (.inr (.inl (some 42)))) = some (f k) := by
        rw [xdq_wl h42 rfl xk, nI_clamp (by omega)]
      rcases ks.2 k hk with g | ⟨B, g, hB1, hB2, hB3, hB4⟩
      · -- a new one
        have hl := KS_len ks
        have n1 : TD (K ++ KT K.length) K.length := TD_new
        have n2 : TD (K ++ KT K.length) 1 := TD_app (cS_t h) (by omega)
        have hS : SH (K ++ KT K.length) := by
          obtain ⟨f, t, rfl⟩ := h
          exact ⟨f, t ++ KT _, List.append_assoc _ _ _⟩
        have i5 := c_init5 (sc := sc) (d := d + 1) (w := wl K s)
        rw [wl_len, wl_new] at i5
        have ct := c_copyTold (sc := sc) (d := d) (s := nwS s K.length) (B := K.length) (C := 1) n1 n2 (by omega)
        have q42 : (K ++ KT K.length)[42]? = some (kQ 4 3 f) := by rw [List.getElem?_append_left (by omega)]; exact h42
        have xt := xtq_wl (s := cpTS (nwS s K.length) K.length 1) (j := k) (ci := 5) (q := K.length) q42 (n1 0 (by decide)) rfl hk (by decide) rfl
        have rv : xrv (wl (K ++ KT K.length) (nwS s K.length)) 5 (.inr (.inr (.inl (some K.length)))) = true := cT_v n1
        have lo : ∀ c, c < K.length → nwS s K.length c = s c := by intro c hc; funext j; unfold nwS; rw [if_pos hc]
        have tb1 : TB (nwS s K.length) 1 := TB_of (fun c _ hc => lo c (by omega)) tb
        refine ⟨(K ++ KT K.length).set 42 (kQ 4 3 (va_up f k (some K.length))), cpTS (nwS s K.length) K.length 1, va_up f k (some K.length), ?_, ?_, ?_, Or.inr ⟨k, hk, rfl, e, fun j hj => va_up_ne f _ hj, fun _ => ?_, fun q => absurd g q, K.length, va_up_self f k _, cpTS_TB (by omega) tb1, ?_, ?_⟩⟩
        · rw [mX6_image, e]
          simp only [uX6_image_0, uX6_image_4, uX6_image_13, uX6_image_15, uX6_image_24, qX6_image_0, qX6_image_4, qX6_image_13, qX6_image_15, qX6_image_24, jX6_image_4_13, jX6_image_13_15, jX6_image_24_34, jX6_image_34_40, c0_g1 h, hn, bd_eq, if_neg c1, if_pos c2, hq, g, Option.isNone_none, cond_true, wl_len, i5, xcv_eq]
          simp only [uX6_image_40, qX6_image_40, jX6_image_4_13, jX6_image_13_15, jX6_image_24_34, jX6_image_34_40, c0_g0 hS, c0_g1 hS, bd_eq, rv, cond_true, ct, xcv_eq, xt]
        · refine ⟨?_, fun j hj => ?_⟩
          · obtain ⟨⟨t, et⟩, _⟩ := ks
            refine ⟨t ++ KT K.length, ?_⟩
            have : K ++ KT K.length = KB f ++ (t ++ KT K.length) := by rw [← List.append_assoc, ← et]
            rw [this]; exact KB_set
          · by_cases ej : j = k
            · subst ej
              refine Or.inr ⟨K.length, va_up_self f j _, hl, ?_, TD_set n1 hl, cpTS_TB (by omega) tb1⟩
              rw [List.length_set, List.length_append]; exact Nat.le_refl _
            · rw [va_up_ne f _ ej]
              rcases ks.2 j hj with q | ⟨B, q, hB1, hB2, hB3, hB4⟩
              · exact Or.inl q
              · refine Or.inr ⟨B, q, hB1, ?_, TD_set (TD_app hB3 hB2) hB1, ?_⟩
                · rw [List.length_set, List.length_append]; omega
                · refine TB_of (s := s) (fun c _ hc => ?_) hB4
                  rw [cpTS_n (by omega)]; exact lo c (by omega)
        · intro c hc
          rw [cpTS_n (by omega)]; exact lo c (by omega)
        · exact ⟨by rw [List.length_set, List.length_append]; rfl, kSL_new q42⟩
        · intro c j hc
          have := tD_c hc
          rw [cpTS_e (by omega) hc, lo (1 + c) (by omega)]
        · intro j C hj hne ej
          rcases ks.2 j hj with q | ⟨D, q, hD1, hD2, hD3, hD4⟩
          · rw [q] at ej; cases ej
          · rw [q] at ej; cases ej
            refine ⟨by omega, fun c hc => ?_⟩
            rw [cpTS_n (by omega), lo _ (by omega)]
      · -- one that stands
        have ct := c_copyTold (sc := sc) (d := d) (s := s) (B := B) (C := 1) hB3 (cS_t h) (by omega)
        have xt := xtq_wl (s := cpTS s B 1) (j := k) (ci := 5) (q := B) h42 (hB3 0 (by decide)) rfl hk (by decide) rfl
        have vf : va_up f k (some B) = f := by
          funext j
          by_cases ej : j = k
          · subst ej; rw [va_up_self, g]
          · exact va_up_ne f _ ej
        have kk : K.set 42 (kQ 4 3 f) = K := by
          obtain ⟨⟨t, et⟩, _⟩ := ks
          rw [et, KB_set]
        rw [vf, kk] at xt
        refine ⟨K, cpTS s B 1, f, ?_, ?_, ?_, Or.inr ⟨k, hk, rfl, e, fun _ _ => rfl, fun q => absurd (q ▸ g : none = some B) (by intro z; cases z), fun _ => ⟨rfl, rfl⟩, B, g, cpTS_TB (by omega) tb, ?_, ?_⟩⟩
        · rw [mX6_image, e]
          simp only [uX6_image_0, uX6_image_4, uX6_image_13, uX6_image_15, qX6_image_0, qX6_image_4, qX6_image_13, qX6_image_15, jX6_image_4_13, jX6_image_13_15, jX6_image_24_34, jX6_image_34_40, c0_g1 h, hn, bd_eq, if_neg c1, if_pos c2, hq, g, Option.isNone_some, cond_false]
          simp only [uX6_image_34, uX6_image_40, qX6_image_34, qX6_image_40, jX6_image_4_13, jX6_image_13_15, jX6_image_24_34, jX6_image_34_40, c0_g1 h, c0_g0 h, hq, g, bd_eq, cT_v hB3, cond_true, ct, xcv_eq, xt]
        · refine ⟨ks.1, fun j hj => ?_⟩
          by_cases ej : j = k
          · subst ej
            exact Or.inr ⟨B, g, hB1, hB2, hB3, cpTS_TB (by omega) tb⟩
          · rcases ks.2 j hj with q | ⟨C, q, hC1, hC2, hC3, hC4⟩
            · exact Or.inl q
            · refine Or.inr ⟨C, q, hC1, hC2, hC3, ?_⟩
              by_cases eB : C = B
              · subst eB; exact cpTS_TB (by omega) tb
              · exact TB_cp eB hC3 hB3 hC4
        · intro c hc
          exact cpTS_n (by omega)
        · intro c j hc
          exact cpTS_e (by omega) hc
        · intro j C hj hne ej
          have nB : C ≠ B := fun e => hne (inj j k B hj hk (by rw [← e]; exact ej) g)
          refine ⟨nB, fun c hc => ?_⟩
          rcases ks.2 j hj with q | ⟨D, q, hD1, hD2, hD3, hD4⟩
          · rw [q] at ej; cases ej
          · rw [q] at ej; cases ej
            refine cpTS_n ?_
            rcases Nat.lt_or_ge B C with z | z
            · have := TD_apart hB3 hD3 z; omega
            · have := TD_apart hD3 hB3 (by omega); omega
    · have e : imgI x = 0 := by unfold imgI; rw [if_neg c1, if_neg (by rw [h3]; exact c2)]
      refine ⟨K, s, f, ?_, ks, fun _ _ => rfl, Or.inl ⟨e, rfl, rfl, rfl⟩⟩
      rw [mX6_image, e]
      simp only [uX6_image_0, uX6_image_4, uX6_image_13, qX6_image_0, qX6_image_4, qX6_image_13, jX6_image_4_13, jX6_image_13_15, jX6_image_24_34, jX6_image_34_40, c0_g1 h, hn, bd_eq, if_neg c1, if_neg c2]def nn (f : Nat → Option Nat) : Nat := (if f 0 = none then 1 else 0) + (if f 1 = none then 1 else 0) + (if f 2 = none then 1 else 0)
theorem RI_65 {s t : SG} (e : t 65 = s 65) (h : RI s) : RI t := by
  unfold RI at *
  rw [e]; exact h
theorem nn_put {f g : Nat → Option Nat} {k : Nat} (hk : k < 3) (h : ∀ j, j ≠ k → g j = f j) (e : ¬ g k = none) : (f k = none → nn f = nn g + 1) ∧ (¬ f k = none → nn f = nn g) := by
  have c : k = 0 ∨ k = 1 ∨ k = 2 := by omega
  unfold nn
  rcases c with rfl | rfl | rfl
  · rw [h 1 (by decide), h 2 (by decide), if_neg e]
    exact ⟨fun z => by rw [if_pos z]; omega, fun z => by rw [if_neg z]⟩
  · rw [h 0 (by decide), h 2 (by decide), if_neg e]
    exact ⟨fun z => by rw [if_pos z]; omega, fun z => by rw [if_neg z]⟩
  · rw [h 0 (by decide), h 1 (by decide), if_neg e]
    exact ⟨fun z => by rw [if_pos z], fun z => by rw [if_neg z]⟩
theorem imgI_k {k : Nat} (hk : k < 3) : ¬ imgI (nI k) = 0 := by
  have c : k = 0 ∨ k = 1 ∨ k = 2 := by omega
  rcases c with rfl | rfl | rfl <;> decide
end XSA
