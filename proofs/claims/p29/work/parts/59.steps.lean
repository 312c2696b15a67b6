section XRQ
variable {sc : Nat × (Nat → Int32)} {d : Nat} {K : List KD} {r q t a B m : Nat} {w : EW}
def kS1 : KD → Nat
  | .inl q => q.2.length
  | .inr (.inl q) => q.2
  | .inr (.inr q) => q.2.1
def kSL (K : List KD) : Nat := (K.map kS1).sum
def kT : Nat := kSL (KT 0)
theorem kSL_set : ∀ (K : List KD) (k : Nat) (a b : KD), K[k]? = some a → kS1 b = kS1 a → kSL (K.set k b) = kSL K := by
  intro K
  induction K with
  | nil => intro k a b h; cases h
  | cons c t ih =>
    intro k a b h e
    cases k with
    | zero =>
      obtain rfl : c = a := Option.some.inj h
      show kS1 b + kSL t = kS1 c + kSL t
      rw [e]
    | succ k =>
      show kS1 c + kSL (t.set k b) = kS1 c + kSL t
      rw [ih k a b h e]
theorem kSL_app {A B : List KD} : kSL (A ++ B) = kSL A + kSL B := by
  unfold kSL
  rw [List.map_append, List.sum_append]
theorem kSL_new {K : List KD} {n : Nat} {f g : Nat → Option Nat} (q : (K ++ KT n)[42]? = some (kQ 4 3 f)) : kSL ((K ++ KT n).set 42 (kQ 4 3 g)) = kSL K + kT := by
  rw [kSL_set _ 42 (kQ 4 3 f) (kQ 4 3 g) q rfl, kSL_app]; rfl
theorem c_imageK {sc : Nat × (Nat → Int32)} {d : Nat} {K : List KD} {s : SG} {f : Nat → Option Nat} {x : Int32} (ks : KS K s f) (tb : TB s 1) : ∃ K' s' f', xN sc (d + 4) 80 [.inr (.inr (.inl (some 0))), .inl x] (wl K s) = some (some (.inl (imgI x)), wl K' s') ∧ KS K' s' f' ∧ (∀ c, c < 72 → s' c = s c) ∧ ((imgI x = 0 ∧ K' = K ∧ s' = s ∧ f' = f) ∨ ∃ k, k < 3 ∧ x = nI k ∧ imgI x = 1 ∧ (∀ j, j ≠ k → f' j = f j) ∧ (f k = none → K'.length = K.length + 41 ∧ kSL K' = kSL K + kT) ∧ (f k ≠ none → K'.length = K.length ∧ kSL K' = kSL K) ∧ ∃ B, f' k = some B ∧ TB s' B ∧ s' B 1 = s 1 1) := by
  have h := KS_SH ks
  have h42 := KS_42 ks
  have hn : xnn sc (wl K s) (.inr (.inr (.inl (some 42)))) = some 3 := xnq_wl h42 rfl
  have h3 : (3 : Int32) = nI 3 := rfl
  by_cases c1 : x < 0
  · have e : imgI x = 0 := by unfold imgI; rw [if_pos c1]
    refine ⟨K, s, f, ?_, ks, fun _ _ => rfl, Or.inl ⟨e, rfl, rfl, rfl⟩⟩
    rw [mX6_image, e]
    simp only [uX6_image_0, uX6_image_4, uX6_image_13, qX6_image_0, qX6_image_4, qX6_image_13, jX6_image_4_13, jX6_image_13_15, jX6_image_24_34, jX6_image_34_40, if_pos c1]
  · by_cases c2 : x < nI 3
    · obtain ⟨k, hk, rfl⟩ := nat_of c1 c2 (by decide)
      have e : imgI (nI k) = 1 := by unfold imgI; rw [if_neg c1, if_pos (by rw [h3]; exact c2)]
      have xk : xvb (nI k) 3 = true := xvb_nI hk (by decide)
      have hq : xdq (wl K s) (nI k) (.inr (.inr (.inl (some 42)))) = some (f k) := by
        rw [xdq_wl h42 rfl xk, nI_clamp (by omega)]
      rcases ks.2 k hk with g | ⟨B, g, hB1, hB2, hB3, hB4⟩
      · -- a new one
        have hl := KS_len ks
        have n1 : TD (K ++ KT K.length) K.length := TD_new
        have n2 : TD (K ++ KT K.length) 1 := TD_app (cS_t h) (by omega)
        have hS : SH (K ++ KT K.length) := by
          obtain ⟨f, t, rfl⟩ := h
          exact ⟨f, t ++ KT _, List.append_assoc _ _ _⟩
        have i5 := c_init5 (sc := sc) (d := d + 1) (w := wl K s)
        rw [wl_len, wl_new] at i5
        have ct := c_copyTold (sc := sc) (d := d) (s := nwS s K.length) (B := K.length) (C := 1) n1 n2 (by omega)
        have q42 : (K ++ KT K.length)[42]? = some (kQ 4 3 f) := by rw [List.getElem?_append_left (by omega)]; exact h42
        have xt := xtq_wl (s := cpTS (nwS s K.length) K.length 1) (j := k) (ci := 5) (q := K.length) q42 (n1 0 (by decide)) rfl hk (by decide) rfl
        have rv : xrv (wl (K ++ KT K.length) (nwS s K.length)) 5 (.inr (.inr (.inl (some K.length)))) = true := cT_v n1
        have lo : ∀ c, c < K.length → nwS s K.length c = s c := by intro c hc; funext j; unfold nwS; rw [if_pos hc]
        have tb1 : TB (nwS s K.length) 1 := TB_of (fun c _ hc => lo c (by omega)) tb
        refine ⟨(K ++ KT K.length).set 42 (kQ 4 3 (va_up f k (some K.length))), cpTS (nwS s K.length) K.length 1, va_up f k (some K.length), ?_, ?_, ?_, Or.inr ⟨k, hk, rfl, e, fun j hj => va_up_ne f _ hj, fun _ => ?_, fun q => absurd g q, K.length, va_up_self f k _, cpTS_TB (by omega) tb1, ?_⟩⟩
        · rw [mX6_image, e]
          simp only [uX6_image_0, uX6_image_4, uX6_image_13, uX6_image_15, uX6_image_24, qX6_image_0, qX6_image_4, qX6_image_13, qX6_image_15, qX6_image_24, jX6_image_4_13, jX6_image_13_15, jX6_image_24_34, jX6_image_34_40, c0_g1 h, hn, bd_eq, if_neg c1, if_pos c2, hq, g, Option.isNone_none, cond_true, wl_len, i5, xcv_eq]
          simp only [uX6_image_40, qX6_image_40, jX6_image_4_13, jX6_image_13_15, jX6_image_24_34, jX6_image_34_40, c0_g0 hS, c0_g1 hS, bd_eq, rv, cond_true, ct, xcv_eq, xt]
        · refine ⟨?_, fun j hj => ?_⟩
          · obtain ⟨⟨t, et⟩, _⟩ := ks
            refine ⟨t ++ KT K.length, ?_⟩
            have : K ++ KT K.length = KB f ++ (t ++ KT K.length) := by rw [← List.append_assoc, ← et]
            rw [this]; exact KB_set
          · by_cases ej : j = k
            · subst ej
              refine Or.inr ⟨K.length, va_up_self f j _, hl, ?_, TD_set n1 hl, cpTS_TB (by omega) tb1⟩
              rw [List.length_set, List.length_append]; exact Nat.le_refl _
            · rw [va_up_ne f _ ej]
              rcases ks.2 j hj with q | ⟨B, q, hB1, hB2, hB3, hB4⟩
              · exact Or.inl q
              · refine Or.inr ⟨B, q, hB1, ?_, TD_set (TD_app hB3 hB2) hB1, ?_⟩
                · rw [List.length_set, List.length_append]; omega
                · refine TB_of (s := s) (fun c _ hc => ?_) hB4
                  rw [cpTS_n (by omega)]; exact lo c (by omega)
        · intro c hc
          rw [cpTS_n (by omega)]; exact lo c (by omega)
        · exact ⟨by rw [List.length_set, List.length_append]; rfl, kSL_new q42⟩
        · unfold cpTS
          rw [cpTw_n 10 (by omega), cpTr_n 2 (by omega)]
          unfold cpT0
          rw [cp_n (by omega), up_bn (by decide), up_bn (by decide), up_a, lo 1 (by omega)]
      · -- one that stands
        have ct := c_copyTold (sc := sc) (d := d) (s := s) (B := B) (C := 1) hB3 (cS_t h) (by omega)
        have xt := xtq_wl (s := cpTS s B 1) (j := k) (ci := 5) (q := B) h42 (hB3 0 (by decide)) rfl hk (by decide) rfl
        have vf : va_up f k (some B) = f := by
          funext j
          by_cases ej : j = k
          · subst ej; rw [va_up_self, g]
          · exact va_up_ne f _ ej
        have kk : K.set 42 (kQ 4 3 f) = K := by
          obtain ⟨⟨t, et⟩, _⟩ := ks
          rw [et, KB_set]
        rw [vf, kk] at xt
        refine ⟨K, cpTS s B 1, f, ?_, ?_, ?_, Or.inr ⟨k, hk, rfl, e, fun _ _ => rfl, fun q => absurd (q ▸ g : none = some B) (by intro z; cases z), fun _ => ⟨rfl, rfl⟩, B, g, cpTS_TB (by omega) tb, ?_⟩⟩
        · rw [mX6_image, e]
          simp only [uX6_image_0, uX6_image_4, uX6_image_13, uX6_image_15, qX6_image_0, qX6_image_4, qX6_image_13, qX6_image_15, jX6_image_4_13, jX6_image_13_15, jX6_image_24_34, jX6_image_34_40, c0_g1 h, hn, bd_eq, if_neg c1, if_pos c2, hq, g, Option.isNone_some, cond_false]
          simp only [uX6_image_34, uX6_image_40, qX6_image_34, qX6_image_40, jX6_image_4_13, jX6_image_13_15, jX6_image_24_34, jX6_image_34_40, c0_g1 h, c0_g0 h, hq, g, bd_eq, cT_v hB3, cond_true, ct, xcv_eq, xt]
        · refine ⟨ks.1, fun j hj => ?_⟩
          by_cases ej : j = k
          · subst ej
            exact Or.inr ⟨B, g, hB1, hB2, hB3, cpTS_TB (by omega) tb⟩
          · rcases ks.2 j hj with q | ⟨C, q, hC1, hC2, hC3, hC4⟩
            · exact Or.inl q
            · refine Or.inr ⟨C, q, hC1, hC2, hC3, ?_⟩
              by_cases eB : C = B
              · subst eB; exact cpTS_TB (by omega) tb
              · exact TB_cp eB hC3 hB3 hC4
        · intro c hc
          exact cpTS_n (by omega)
        · unfold cpTS
          rw [cpTw_n 10 (by omega), cpTr_n 2 (by omega)]
          unfold cpT0
          rw [cp_n (by omega), up_bn (by decide), up_bn (by decide), up_a]
    · have e : imgI x = 0 := by unfold imgI; rw [if_neg c1, if_neg (by rw [h3]; exact c2)]
      refine ⟨K, s, f, ?_, ks, fun _ _ => rfl, Or.inl ⟨e, rfl, rfl, rfl⟩⟩
      rw [mX6_image, e]
      simp only [uX6_image_0, uX6_image_4, uX6_image_13, qX6_image_0, qX6_image_4, qX6_image_13, jX6_image_4_13, jX6_image_13_15, jX6_image_24_34, jX6_image_34_40, c0_g1 h, hn, bd_eq, if_neg c1, if_neg c2]
/-! the law: one call -/
def nn (f : Nat → Option Nat) : Nat := (if f 0 = none then 1 else 0) + (if f 1 = none then 1 else 0) + (if f 2 = none then 1 else 0)
def INV (K : List KD) (s : SG) : Prop := ∃ f, KS K s f ∧ TB s 1 ∧ RI s ∧ (K.length + 41 * nn f = 195 ∧ kSL K + kT * nn f = kSL KZ + kT * 3) ∧ ∀ k, k < 3 → (f k = none ↔ s 66 k = 0)
theorem RI_65 {s t : SG} (e : t 65 = s 65) (h : RI s) : RI t := by
  unfold RI at *
  rw [e]; exact h
theorem INV_st {K : List KD} {s s1 s2 : SG} {f : Nat → Option Nat} (ks : KS K s f) (n : K.length + 41 * nn f = 195 ∧ kSL K + kT * nn f = kSL KZ + kT * 3) (im : ∀ k, k < 3 → (f k = none ↔ s 66 k = 0)) (tb : TB s1 1) (fr : ∀ c, 64 ≤ c → s1 c = s c) (r : RI s2) (e : s2 66 = s1 66) (fr2 : ∀ c, (c < 64 ∨ 72 ≤ c) → s2 c = s1 c) : INV K s2 :=
  ⟨f, KS_of (fun c hc => by rw [fr2 c (by omega), fr c (by omega)]) ks, TB_of (fun c _ h => fr2 c (by omega)) tb, r, n, fun k hk => by rw [e, fr 66 (by omega)]; exact im k hk⟩
theorem cq_2 {K : List KD} {s : SG} {o : XR} (h : cq K s o) (tb : TB s 1) : ∃ v s1, o = some (some (.inl v), wl K s1) ∧ TB s1 1 ∧ ∀ c, 64 ≤ c → s1 c = s c := by
  obtain ⟨v, s1, e, fr⟩ := h
  exact ⟨v, s1, e, TB_of (fun c _ h => fr c (by omega)) tb, fun c hc => fr c (by omega)⟩
section LAW
variable {sc : Nat × (Nat → Int32)} {d : Nat} {K : List KD} {s : SG} {b : Nat → XL → List EV → EW → XR} {x a1 a2 a3 a4 a5 a6 a7 : Int32}
theorem LS_feed (h : INV K s) (g1 : ∀ w, xdi sc w (x + 1) (.inr (.inr (.inr 2))) = some a1) (g2 : ∀ w, xdi sc w (x + 2) (.inr (.inr (.inr 2))) = some a2) (g3 : ∀ w, xdi sc w (x + 3) (.inr (.inr (.inr 2))) = some a3) (g4 : ∀ w, xdi sc w (x + 4) (.inr (.inr (.inr 2))) = some a4) (g5 : ∀ w, xdi sc w (x + 5) (.inr (.inr (.inr 2))) = some a5) : ∃ s2, INV K s2 ∧ fW sc 8 4 false 4 (xN sc (d + 11)) b kL_law_164 164 [some (.inr (.inr (.inr 2))), some (.inr (.inr (.inl (some 0)))), some (.inr (.inr (.inl (some 64)))), some (.inl x)] [] (wl K s) = fW sc 8 4 false 4 (xN sc (d + 11)) b kL_law_1621 1621 [some (.inr (.inr (.inr 2))), some (.inr (.inr (.inl (some 0)))), some (.inr (.inr (.inl (some 64)))), some (.inl x)] [] (wl K s2) := by
  obtain ⟨f, ks, tb, r, n0, im⟩ := h
  have hK := KS_SH ks
  obtain ⟨v, s1, e1, tb1, fr⟩ : ∃ v s1, xN sc (d + 11) 72 [.inr (.inr (.inl (some 0))), .inl a1, .inl a2, .inl a3, .inl a4, .inl a5] (wl K s) = some (some (.inl v), wl K s1) ∧ TB s1 1 ∧ ∀ c, 64 ≤ c → s1 c = s c := ⟨_, _, c_feed (sc := sc) (d := d + 8) (s := s) (x := a1) (y := a2) (z := a3) (u := a4) (v := a5) hK, feeP_TB tb, fun c hc => feeP_n (by omega)⟩
  have r1 : RI s1 := RI_65 (fr 65 (by omega)) r
  obtain ⟨v2, s2, e2, r2, e66, fr2⟩ := rq_a (r_feed (sc := sc) (d := d + 10) (s := s1) (x1 := a1) (x2 := a2) (x3 := a3) (x4 := a4) (x5 := a5) hK) (feed_ok r1)
  refine ⟨s2, INV_st ks n0 im tb1 fr r2 e66 fr2, ?_⟩
  simp only [uL_law_164, qL_law_164, jL_law_164_227, jL_law_164_250, jL_law_164_283, jL_law_164_306, jL_law_164_339, jL_law_164_382, jL_law_164_457, jL_law_164_560, jL_law_164_603, jL_law_164_678, jL_law_164_721, jL_law_164_764, jL_law_164_827, jL_law_164_890, jL_law_164_949, jL_law_164_982, jL_law_164_1085, jL_law_164_1172, jL_law_164_1215, jL_law_164_1258, jL_law_164_1301, jL_law_164_1344, jL_law_164_1393, jL_law_164_1436, jL_law_164_1499, jL_law_164_1552, jL_law_164_1575, jL_law_164_1598, jL_law_164_1621, jL_law_227_1621, g1, g2, g3, g4, g5, bd2, c0_v hK, c64_v hK, cond_true, e1, e2, xci_eq]
theorem LS_end (h : INV K s) (g1 : ∀ w, xdi sc w (x + 1) (.inr (.inr (.inr 2))) = some a1) : ∃ s2, INV K s2 ∧ fW sc 8 4 false 4 (xN sc (d + 11)) b kL_law_227 227 [some (.inr (.inr (.inr 2))), some (.inr (.inr (.inl (some 0)))), some (.inr (.inr (.inl (some 64)))), some (.inl x)] [] (wl K s) = fW sc 8 4 false 4 (xN sc (d + 11)) b kL_law_1621 1621 [some (.inr (.inr (.inr 2))), some (.inr (.inr (.inl (some 0)))), some (.inr (.inr (.inl (some 64)))), some (.inl x)] [] (wl K s2) := by
  obtain ⟨f, ks, tb, r, n0, im⟩ := h
  have hK := KS_SH ks
  obtain ⟨v, s1, e1, tb1, fr⟩ : ∃ v s1, xN sc (d + 11) 74 [.inr (.inr (.inl (some 0))), .inl a1] (wl K s) = some (some (.inl v), wl K s1) ∧ TB s1 1 ∧ ∀ c, 64 ≤ c → s1 c = s c := ⟨_, _, c_end (sc := sc) (d := d + 10) (s := s) (n := a1) hK, endP_TB tb, fun c hc => endP_n (by omega)⟩
  have r1 : RI s1 := RI_65 (fr 65 (by omega)) r
  obtain ⟨v2, s2, e2, r2, e66, fr2⟩ := rq_a (r_end (sc := sc) (d := d + 10) (s := s1) (x1 := a1) hK) (end_ok r1)
  refine ⟨s2, INV_st ks n0 im tb1 fr r2 e66 fr2, ?_⟩
  simp only [uL_law_227, qL_law_227, jL_law_227_1621, jL_law_250_1621, g1, bd2, c0_v hK, c64_v hK, cond_true, e1, e2, xci_eq]
theorem LS_text (h : INV K s) (g1 : ∀ w, xdi sc w (x + 1) (.inr (.inr (.inr 2))) = some a1) (g2 : ∀ w, xdi sc w (x + 2) (.inr (.inr (.inr 2))) = some a2) : ∃ s2, INV K s2 ∧ fW sc 8 4 false 4 (xN sc (d + 11)) b kL_law_250 250 [some (.inr (.inr (.inr 2))), some (.inr (.inr (.inl (some 0)))), some (.inr (.inr (.inl (some 64)))), some (.inl x)] [] (wl K s) = fW sc 8 4 false 4 (xN sc (d + 11)) b kL_law_1621 1621 [some (.inr (.inr (.inr 2))), some (.inr (.inr (.inl (some 0)))), some (.inr (.inr (.inl (some 64)))), some (.inl x)] [] (wl K s2) := by
  obtain ⟨f, ks, tb, r, n0, im⟩ := h
  have hK := KS_SH ks
  obtain ⟨v, s1, e1, tb1, fr⟩ : ∃ v s1, xN sc (d + 11) 75 [.inr (.inr (.inl (some 0))), .inl a1, .inl a2] (wl K s) = some (some (.inl v), wl K s1) ∧ TB s1 1 ∧ ∀ c, 64 ≤ c → s1 c = s c := ⟨_, _, c_text (sc := sc) (d := d + 1) (s := s) (so := a1) (at_ := a2) hK tb, texP_TB tb, fun c hc => texP_n hc⟩
  have r1 : RI s1 := RI_65 (fr 65 (by omega)) r
  obtain ⟨v2, s2, e2, r2, e66, fr2⟩ := rq_a (r_text (sc := sc) (d := d + 0) (s := s1) (x1 := a1) (x2 := a2) hK) (text_ok r1)
  refine ⟨s2, INV_st ks n0 im tb1 fr r2 e66 fr2, ?_⟩
  simp only [uL_law_250, qL_law_250, jL_law_250_1621, jL_law_283_1621, g1, g2, bd2, c0_v hK, c64_v hK, cond_true, e1, e2, xci_eq]
theorem LS_fault (h : INV K s) (g1 : ∀ w, xdi sc w (x + 1) (.inr (.inr (.inr 2))) = some a1) : ∃ s2, INV K s2 ∧ fW sc 8 4 false 4 (xN sc (d + 11)) b kL_law_283 283 [some (.inr (.inr (.inr 2))), some (.inr (.inr (.inl (some 0)))), some (.inr (.inr (.inl (some 64)))), some (.inl x)] [] (wl K s) = fW sc 8 4 false 4 (xN sc (d + 11)) b kL_law_1621 1621 [some (.inr (.inr (.inr 2))), some (.inr (.inr (.inl (some 0)))), some (.inr (.inr (.inl (some 64)))), some (.inl x)] [] (wl K s2) := by
  obtain ⟨f, ks, tb, r, n0, im⟩ := h
  have hK := KS_SH ks
  obtain ⟨v, s1, e1, tb1, fr⟩ := cq_2 (cq_s (c_fault (sc := sc) (d := d + 10) (s := s) (w := a1) hK)) tb
  have r1 : RI s1 := RI_65 (fr 65 (by omega)) r
  obtain ⟨v2, s2, e2, r2, e66, fr2⟩ := rq_v (r_fault (sc := sc) (d := d + 10) (s := s1) (x1 := a1) hK) r1 fault_ok
  refine ⟨s2, INV_st ks n0 im tb1 fr r2 e66 fr2, ?_⟩
  simp only [uL_law_283, qL_law_283, jL_law_283_1621, jL_law_306_1621, g1, bd2, c0_v hK, c64_v hK, cond_true, e1, e2, xci_eq]
theorem LS_republic (h : INV K s) (g1 : ∀ w, xdi sc w (x + 1) (.inr (.inr (.inr 2))) = some a1) (g2 : ∀ w, xdi sc w (x + 2) (.inr (.inr (.inr 2))) = some a2) : ∃ s2, INV K s2 ∧ fW sc 8 4 false 4 (xN sc (d + 11)) b kL_law_306 306 [some (.inr (.inr (.inr 2))), some (.inr (.inr (.inl (some 0)))), some (.inr (.inr (.inl (some 64)))), some (.inl x)] [] (wl K s) = fW sc 8 4 false 4 (xN sc (d + 11)) b kL_law_1621 1621 [some (.inr (.inr (.inr 2))), some (.inr (.inr (.inl (some 0)))), some (.inr (.inr (.inl (some 64)))), some (.inl x)] [] (wl K s2) := by
  obtain ⟨f, ks, tb, r, n0, im⟩ := h
  have hK := KS_SH ks
  obtain ⟨v, s1, e1, tb1, fr⟩ := cq_2 (LC_republic (sc := sc) (d := d) (x := a1) (y := a2) hK (TB_TV tb)) tb
  have r1 : RI s1 := RI_65 (fr 65 (by omega)) r
  obtain ⟨v2, s2, e2, r2, e66, fr2⟩ := rq_i (r_republic (sc := sc) (d := d + 6) (s := s1) (x1 := a1) (x2 := a2) hK) r1 (republic_ok r1)
  refine ⟨s2, INV_st ks n0 im tb1 fr r2 e66 fr2, ?_⟩
  simp only [uL_law_306, qL_law_306, jL_law_306_1621, jL_law_339_1621, g1, g2, bd2, c0_v hK, c64_v hK, cond_true, e1, e2, xci_eq]
theorem LS_minister (h : INV K s) (g1 : ∀ w, xdi sc w (x + 1) (.inr (.inr (.inr 2))) = some a1) (g2 : ∀ w, xdi sc w (x + 2) (.inr (.inr (.inr 2))) = some a2) (g3 : ∀ w, xdi sc w (x + 3) (.inr (.inr (.inr 2))) = some a3) : ∃ s2, INV K s2 ∧ fW sc 8 4 false 4 (xN sc (d + 11)) b kL_law_339 339 [some (.inr (.inr (.inr 2))), some (.inr (.inr (.inl (some 0)))), some (.inr (.inr (.inl (some 64)))), some (.inl x)] [] (wl K s) = fW sc 8 4 false 4 (xN sc (d + 11)) b kL_law_1621 1621 [some (.inr (.inr (.inr 2))), some (.inr (.inr (.inl (some 0)))), some (.inr (.inr (.inl (some 64)))), some (.inl x)] [] (wl K s2) := by
  obtain ⟨f, ks, tb, r, n0, im⟩ := h
  have hK := KS_SH ks
  obtain ⟨v, s1, e1, tb1, fr⟩ := cq_2 (LC_minister (sc := sc) (d := d) (x := a1) (y := a2) (z := a3) hK (TB_TV tb)) tb
  have r1 : RI s1 := RI_65 (fr 65 (by omega)) r
  obtain ⟨v2, s2, e2, r2, e66, fr2⟩ := rq_i (r_minister (sc := sc) (d := d + 6) (s := s1) (x1 := a1) (x2 := a2) (x3 := a3) hK) r1 (minister_ok r1)
  refine ⟨s2, INV_st ks n0 im tb1 fr r2 e66 fr2, ?_⟩
  simp only [uL_law_339, qL_law_339, jL_law_339_1621, jL_law_382_1621, g1, g2, g3, bd2, c0_v hK, c64_v hK, cond_true, e1, e2, xci_eq]
theorem LS_off (h : INV K s) (g1 : ∀ w, xdi sc w (x + 1) (.inr (.inr (.inr 2))) = some a1) (g2 : ∀ w, xdi sc w (x + 2) (.inr (.inr (.inr 2))) = some a2) (g3 : ∀ w, xdi sc w (x + 3) (.inr (.inr (.inr 2))) = some a3) (g4 : ∀ w, xdi sc w (x + 4) (.inr (.inr (.inr 2))) = some a4) (g5 : ∀ w, xdi sc w (x + 5) (.inr (.inr (.inr 2))) = some a5) (g6 : ∀ w, xdi sc w (x + 6) (.inr (.inr (.inr 2))) = some a6) : ∃ s2, INV K s2 ∧ fW sc 8 4 false 4 (xN sc (d + 11)) b kL_law_382 382 [some (.inr (.inr (.inr 2))), some (.inr (.inr (.inl (some 0)))), some (.inr (.inr (.inl (some 64)))), some (.inl x)] [] (wl K s) = fW sc 8 4 false 4 (xN sc (d + 11)) b kL_law_1621 1621 [some (.inr (.inr (.inr 2))), some (.inr (.inr (.inl (some 0)))), some (.inr (.inr (.inl (some 64)))), some (.inl x)] [] (wl K s2) := by
  obtain ⟨f, ks, tb, r, n0, im⟩ := h
  have hK := KS_SH ks
  obtain ⟨v, s1, e1, tb1, fr⟩ := cq_2 (LC_off (sc := sc) (d := d) (x := a1) (y := a2) (se := a3) (u := a4) (v := a5) (z := a6) hK (TB_TV tb)) tb
  have r1 : RI s1 := RI_65 (fr 65 (by omega)) r
  obtain ⟨v2, s2, e2, r2, e66, fr2⟩ := rq_i (r_off (sc := sc) (d := d + 5) (s := s1) (x1 := a1) (x2 := a2) (x3 := a3) (x4 := a4) (x5 := a5) (x6 := a6) hK) r1 (off_ok r1)
  refine ⟨s2, INV_st ks n0 im tb1 fr r2 e66 fr2, ?_⟩
  simp only [uL_law_382, qL_law_382, jL_law_382_1621, jL_law_457_1621, g1, g2, g3, g4, g5, g6, bd2, c0_v hK, c64_v hK, cond_true, e1, e2, xci_eq]
theorem LS_vote (h : INV K s) (g1 : ∀ w, xdi sc w (x + 1) (.inr (.inr (.inr 2))) = some a1) (g2 : ∀ w, xdi sc w (x + 2) (.inr (.inr (.inr 2))) = some a2) (g3 : ∀ w, xdi sc w (x + 3) (.inr (.inr (.inr 2))) = some a3) (g4 : ∀ w, xdi sc w (x + 4) (.inr (.inr (.inr 2))) = some a4) (g5 : ∀ w, xdi sc w (x + 5) (.inr (.inr (.inr 2))) = some a5) (g6 : ∀ w, xdi sc w (x + 6) (.inr (.inr (.inr 2))) = some a6) (g7 : ∀ w, xdi sc w (x + 7) (.inr (.inr (.inr 2))) = some a7) : ∃ s2, INV K s2 ∧ fW sc 8 4 false 4 (xN sc (d + 11)) b kL_law_457 457 [some (.inr (.inr (.inr 2))), some (.inr (.inr (.inl (some 0)))), some (.inr (.inr (.inl (some 64)))), some (.inl x)] [] (wl K s) = fW sc 8 4 false 4 (xN sc (d + 11)) b kL_law_1621 1621 [some (.inr (.inr (.inr 2))), some (.inr (.inr (.inl (some 0)))), some (.inr (.inr (.inl (some 64)))), some (.inl x)] [] (wl K s2) := by
  obtain ⟨f, ks, tb, r, n0, im⟩ := h
  have hK := KS_SH ks
  by_cases z : a7 = 0
  · skip
    obtain ⟨v, s1, e1, tb1, fr⟩ := cq_2 (LC_vote (sc := sc) (d := d) (x := a1) (y := a2) (se := a3) (u := a4) (v := a5) (z := a6) (g := 0) hK (TB_TV tb)) tb
    have r1 : RI s1 := RI_65 (fr 65 (by omega)) r
    obtain ⟨v2, s2, e2, r2, e66, fr2⟩ := rq_i (r_vote (sc := sc) (d := d + 4) (s := s1) (x1 := a1) (x2 := a2) (x3 := a3) (x4 := a4) (x5 := a5) (x6 := a6) (x7 := 0) hK) r1 (vote_ok r1)
    refine ⟨s2, INV_st ks n0 im tb1 fr r2 e66 fr2, ?_⟩
    simp only [uL_law_457, uL_law_498, uL_law_502, uL_law_503, uL_law_548, uL_law_552, uL_law_553, qL_law_457, qL_law_498, qL_law_502, qL_law_503, qL_law_548, qL_law_552, qL_law_553, jL_law_457_1621, jL_law_498_502, jL_law_502_503, jL_law_548_552, jL_law_552_553, jL_law_560_1621, g1, g2, g3, g4, g5, g6, g7, bd2, c0_v hK, c64_v hK, cond_true, e1, e2, xci_eq, if_pos z]
  · skip
    obtain ⟨v, s1, e1, tb1, fr⟩ := cq_2 (LC_vote (sc := sc) (d := d) (x := a1) (y := a2) (se := a3) (u := a4) (v := a5) (z := a6) (g := 1) hK (TB_TV tb)) tb
    have r1 : RI s1 := RI_65 (fr 65 (by omega)) r
    obtain ⟨v2, s2, e2, r2, e66, fr2⟩ := rq_i (r_vote (sc := sc) (d := d + 4) (s := s1) (x1 := a1) (x2 := a2) (x3 := a3) (x4 := a4) (x5 := a5) (x6 := a6) (x7 := 1) hK) r1 (vote_ok r1)
    refine ⟨s2, INV_st ks n0 im tb1 fr r2 e66 fr2, ?_⟩
    simp only [uL_law_457, uL_law_498, uL_law_502, uL_law_503, uL_law_548, uL_law_552, uL_law_553, qL_law_457, qL_law_498, qL_law_502, qL_law_503, qL_law_548, qL_law_552, qL_law_553, jL_law_457_1621, jL_law_498_502, jL_law_502_503, jL_law_548_552, jL_law_552_553, jL_law_560_1621, g1, g2, g3, g4, g5, g6, g7, bd2, c0_v hK, c64_v hK, cond_true, e1, e2, xci_eq, if_neg z]
theorem LS_order (h : INV K s) (g1 : ∀ w, xdi sc w (x + 1) (.inr (.inr (.inr 2))) = some a1) (g2 : ∀ w, xdi sc w (x + 2) (.inr (.inr (.inr 2))) = some a2) (g3 : ∀ w, xdi sc w (x + 3) (.inr (.inr (.inr 2))) = some a3) : ∃ s2, INV K s2 ∧ fW sc 8 4 false 4 (xN sc (d + 11)) b kL_law_560 560 [some (.inr (.inr (.inr 2))), some (.inr (.inr (.inl (some 0)))), some (.inr (.inr (.inl (some 64)))), some (.inl x)] [] (wl K s) = fW sc 8 4 false 4 (xN sc (d + 11)) b kL_law_1621 1621 [some (.inr (.inr (.inr 2))), some (.inr (.inr (.inl (some 0)))), some (.inr (.inr (.inl (some 64)))), some (.inl x)] [] (wl K s2) := by
  obtain ⟨f, ks, tb, r, n0, im⟩ := h
  have hK := KS_SH ks
  obtain ⟨v, s1, e1, tb1, fr⟩ := cq_2 (LC_order (sc := sc) (d := d) (x := a1) (k := a2) (v := a3) hK (TB_TV tb)) tb
  have r1 : RI s1 := RI_65 (fr 65 (by omega)) r
  obtain ⟨v2, s2, e2, r2, e66, fr2⟩ := rq_i (r_order (sc := sc) (d := d + 7) (s := s1) (x1 := a1) (x2 := a2) (x3 := a3) hK) r1 (order_ok r1)
  refine ⟨s2, INV_st ks n0 im tb1 fr r2 e66 fr2, ?_⟩
  simp only [uL_law_560, qL_law_560, jL_law_560_1621, jL_law_603_1621, g1, g2, g3, bd2, c0_v hK, c64_v hK, cond_true, e1, e2, xci_eq]
theorem LS_broken (h : INV K s) (g1 : ∀ w, xdi sc w (x + 1) (.inr (.inr (.inr 2))) = some a1) (g2 : ∀ w, xdi sc w (x + 2) (.inr (.inr (.inr 2))) = some a2) (g3 : ∀ w, xdi sc w (x + 3) (.inr (.inr (.inr 2))) = some a3) (g4 : ∀ w, xdi sc w (x + 4) (.inr (.inr (.inr 2))) = some a4) (g5 : ∀ w, xdi sc w (x + 5) (.inr (.inr (.inr 2))) = some a5) (g6 : ∀ w, xdi sc w (x + 6) (.inr (.inr (.inr 2))) = some a6) : ∃ s2, INV K s2 ∧ fW sc 8 4 false 4 (xN sc (d + 11)) b kL_law_603 603 [some (.inr (.inr (.inr 2))), some (.inr (.inr (.inl (some 0)))), some (.inr (.inr (.inl (some 64)))), some (.inl x)] [] (wl K s) = fW sc 8 4 false 4 (xN sc (d + 11)) b kL_law_1621 1621 [some (.inr (.inr (.inr 2))), some (.inr (.inr (.inl (some 0)))), some (.inr (.inr (.inl (some 64)))), some (.inl x)] [] (wl K s2) := by
  obtain ⟨f, ks, tb, r, n0, im⟩ := h
  have hK := KS_SH ks
  obtain ⟨v, s1, e1, tb1, fr⟩ := cq_2 (LC_broken (sc := sc) (d := d) (x := a1) (se := a2) (u := a3) (v := a4) (z := a5) (g := a6) hK (TB_TV tb)) tb
  have r1 : RI s1 := RI_65 (fr 65 (by omega)) r
  obtain ⟨v2, s2, e2, r2, e66, fr2⟩ := rq_i (r_broken (sc := sc) (d := d + 7) (s := s1) (x1 := a1) (x2 := a2) (x3 := a3) (x4 := a4) (x5 := a5) (x6 := a6) hK) r1 (broken_ok r1)
  refine ⟨s2, INV_st ks n0 im tb1 fr r2 e66 fr2, ?_⟩
  simp only [uL_law_603, qL_law_603, jL_law_603_1621, jL_law_678_1621, g1, g2, g3, g4, g5, g6, bd2, c0_v hK, c64_v hK, cond_true, e1, e2, xci_eq]
theorem LS_deed (h : INV K s) (g1 : ∀ w, xdi sc w (x + 1) (.inr (.inr (.inr 2))) = some a1) (g2 : ∀ w, xdi sc w (x + 2) (.inr (.inr (.inr 2))) = some a2) (g3 : ∀ w, xdi sc w (x + 3) (.inr (.inr (.inr 2))) = some a3) : ∃ s2, INV K s2 ∧ fW sc 8 4 false 4 (xN sc (d + 11)) b kL_law_678 678 [some (.inr (.inr (.inr 2))), some (.inr (.inr (.inl (some 0)))), some (.inr (.inr (.inl (some 64)))), some (.inl x)] [] (wl K s) = fW sc 8 4 false 4 (xN sc (d + 11)) b kL_law_1621 1621 [some (.inr (.inr (.inr 2))), some (.inr (.inr (.inl (some 0)))), some (.inr (.inr (.inl (some 64)))), some (.inl x)] [] (wl K s2) := by
  obtain ⟨f, ks, tb, r, n0, im⟩ := h
  have hK := KS_SH ks
  obtain ⟨v, s1, e1, tb1, fr⟩ := cq_2 (LC_deed (sc := sc) (d := d) (x := a1) (k := a2) (v := a3) hK (TB_TV tb)) tb
  have r1 : RI s1 := RI_65 (fr 65 (by omega)) r
  obtain ⟨v2, s2, e2, r2, e66, fr2⟩ := rq_i (r_deed (sc := sc) (d := d + 8) (s := s1) (x1 := a1) (x2 := a2) (x3 := a3) hK) r1 (deed_ok r1)
  refine ⟨s2, INV_st ks n0 im tb1 fr r2 e66 fr2, ?_⟩
  simp only [uL_law_678, qL_law_678, jL_law_678_1621, jL_law_721_1621, g1, g2, g3, bd2, c0_v hK, c64_v hK, cond_true, e1, e2, xci_eq]
theorem LS_stop (h : INV K s) (g1 : ∀ w, xdi sc w (x + 1) (.inr (.inr (.inr 2))) = some a1) (g2 : ∀ w, xdi sc w (x + 2) (.inr (.inr (.inr 2))) = some a2) (g3 : ∀ w, xdi sc w (x + 3) (.inr (.inr (.inr 2))) = some a3) : ∃ s2, INV K s2 ∧ fW sc 8 4 false 4 (xN sc (d + 11)) b kL_law_721 721 [some (.inr (.inr (.inr 2))), some (.inr (.inr (.inl (some 0)))), some (.inr (.inr (.inl (some 64)))), some (.inl x)] [] (wl K s) = fW sc 8 4 false 4 (xN sc (d + 11)) b kL_law_1621 1621 [some (.inr (.inr (.inr 2))), some (.inr (.inr (.inl (some 0)))), some (.inr (.inr (.inl (some 64)))), some (.inl x)] [] (wl K s2) := by
  obtain ⟨f, ks, tb, r, n0, im⟩ := h
  have hK := KS_SH ks
  obtain ⟨v, s1, e1, tb1, fr⟩ := cq_2 (LC_stop (sc := sc) (d := d) (x := a1) (y := a2) (z := a3) hK (TB_TV tb)) tb
  have r1 : RI s1 := RI_65 (fr 65 (by omega)) r
  obtain ⟨v2, s2, e2, r2, e66, fr2⟩ := rq_i (r_stop (sc := sc) (d := d + 1) (s := s1) (x1 := a1) (x2 := a2) (x3 := a3) hK) r1 (stop_ok r1)
  refine ⟨s2, INV_st ks n0 im tb1 fr r2 e66 fr2, ?_⟩
  simp only [uL_law_721, qL_law_721, jL_law_721_1621, jL_law_764_1621, g1, g2, g3, bd2, c0_v hK, c64_v hK, cond_true, e1, e2, xci_eq]
theorem LS_state (h : INV K s) (g1 : ∀ w, xdi sc w (x + 1) (.inr (.inr (.inr 2))) = some a1) (g2 : ∀ w, xdi sc w (x + 2) (.inr (.inr (.inr 2))) = some a2) (g3 : ∀ w, xdi sc w (x + 3) (.inr (.inr (.inr 2))) = some a3) (g4 : ∀ w, xdi sc w (x + 4) (.inr (.inr (.inr 2))) = some a4) (g5 : ∀ w, xdi sc w (x + 5) (.inr (.inr (.inr 2))) = some a5) : ∃ s2, INV K s2 ∧ fW sc 8 4 false 4 (xN sc (d + 11)) b kL_law_764 764 [some (.inr (.inr (.inr 2))), some (.inr (.inr (.inl (some 0)))), some (.inr (.inr (.inl (some 64)))), some (.inl x)] [] (wl K s) = fW sc 8 4 false 4 (xN sc (d + 11)) b kL_law_1621 1621 [some (.inr (.inr (.inr 2))), some (.inr (.inr (.inl (some 0)))), some (.inr (.inr (.inl (some 64)))), some (.inl x)] [] (wl K s2) := by
  obtain ⟨f, ks, tb, r, n0, im⟩ := h
  have hK := KS_SH ks
  obtain ⟨v, s1, e1, tb1, fr⟩ := cq_2 (LC_state (sc := sc) (d := d) (x := a1) (y := a2) (z := a3) (n := a4) (v := a5) hK (TB_TV tb)) tb
  have r1 : RI s1 := RI_65 (fr 65 (by omega)) r
  obtain ⟨v2, s2, e2, r2, e66, fr2⟩ := rq_i (r_state (sc := sc) (d := d + 1) (s := s1) (x1 := a1) (x2 := a2) (x3 := a3) (x4 := a4) (x5 := a5) hK) r1 (state_ok r1)
  refine ⟨s2, INV_st ks n0 im tb1 fr r2 e66 fr2, ?_⟩
  simp only [uL_law_764, qL_law_764, jL_law_764_1621, jL_law_827_1621, g1, g2, g3, g4, g5, bd2, c0_v hK, c64_v hK, cond_true, e1, e2, xci_eq]
theorem LS_agreed (h : INV K s) (g1 : ∀ w, xdi sc w (x + 1) (.inr (.inr (.inr 2))) = some a1) (g2 : ∀ w, xdi sc w (x + 2) (.inr (.inr (.inr 2))) = some a2) (g3 : ∀ w, xdi sc w (x + 3) (.inr (.inr (.inr 2))) = some a3) (g4 : ∀ w, xdi sc w (x + 4) (.inr (.inr (.inr 2))) = some a4) (g5 : ∀ w, xdi sc w (x + 5) (.inr (.inr (.inr 2))) = some a5) : ∃ s2, INV K s2 ∧ fW sc 8 4 false 4 (xN sc (d + 11)) b kL_law_827 827 [some (.inr (.inr (.inr 2))), some (.inr (.inr (.inl (some 0)))), some (.inr (.inr (.inl (some 64)))), some (.inl x)] [] (wl K s) = fW sc 8 4 false 4 (xN sc (d + 11)) b kL_law_1621 1621 [some (.inr (.inr (.inr 2))), some (.inr (.inr (.inl (some 0)))), some (.inr (.inr (.inl (some 64)))), some (.inl x)] [] (wl K s2) := by
  obtain ⟨f, ks, tb, r, n0, im⟩ := h
  have hK := KS_SH ks
  obtain ⟨v, s1, e1, tb1, fr⟩ := cq_2 (LC_agreed (sc := sc) (d := d) (x := a1) (y := a2) (who := a3) (se := a4) (v := a5) hK (TB_TV tb)) tb
  have r1 : RI s1 := RI_65 (fr 65 (by omega)) r
  obtain ⟨v2, s2, e2, r2, e66, fr2⟩ := rq_i (r_agreed (sc := sc) (d := d + 3) (s := s1) (x1 := a1) (x2 := a2) (x3 := a3) (x4 := a4) (x5 := a5) hK) r1 (agreed_ok r1)
  refine ⟨s2, INV_st ks n0 im tb1 fr r2 e66 fr2, ?_⟩
  simp only [uL_law_827, qL_law_827, jL_law_827_1621, jL_law_890_1621, g1, g2, g3, g4, g5, bd2, c0_v hK, c64_v hK, cond_true, e1, e2, xci_eq]
theorem LS_power (h : INV K s) (g1 : ∀ w, xdi sc w (x + 1) (.inr (.inr (.inr 2))) = some a1) (g2 : ∀ w, xdi sc w (x + 2) (.inr (.inr (.inr 2))) = some a2) (g3 : ∀ w, xdi sc w (x + 3) (.inr (.inr (.inr 2))) = some a3) : ∃ s2, INV K s2 ∧ fW sc 8 4 false 4 (xN sc (d + 11)) b kL_law_890 890 [some (.inr (.inr (.inr 2))), some (.inr (.inr (.inl (some 0)))), some (.inr (.inr (.inl (some 64)))), some (.inl x)] [] (wl K s) = fW sc 8 4 false 4 (xN sc (d + 11)) b kL_law_1621 1621 [some (.inr (.inr (.inr 2))), some (.inr (.inr (.inl (some 0)))), some (.inr (.inr (.inl (some 64)))), some (.inl x)] [] (wl K s2) := by
  obtain ⟨f, ks, tb, r, n0, im⟩ := h
  have hK := KS_SH ks
  by_cases z : a3 = 0
  · skip
    obtain ⟨v, s1, e1, tb1, fr⟩ := cq_2 (LC_power (sc := sc) (d := d) (x := a1) (y := a2) (g := 0) hK (TB_TV tb)) tb
    have r1 : RI s1 := RI_65 (fr 65 (by omega)) r
    obtain ⟨v2, s2, e2, r2, e66, fr2⟩ := rq_i (r_power (sc := sc) (d := d + 6) (s := s1) (x1 := a1) (x2 := a2) (x3 := 0) hK) r1 (power_ok r1)
    refine ⟨s2, INV_st ks n0 im tb1 fr r2 e66 fr2, ?_⟩
    simp only [uL_law_890, uL_law_909, uL_law_913, uL_law_914, uL_law_937, uL_law_941, uL_law_942, qL_law_890, qL_law_909, qL_law_913, qL_law_914, qL_law_937, qL_law_941, qL_law_942, jL_law_890_1621, jL_law_909_913, jL_law_913_914, jL_law_937_941, jL_law_941_942, jL_law_949_1621, g1, g2, g3, bd2, c0_v hK, c64_v hK, cond_true, e1, e2, xci_eq, if_pos z]
  · skip
    obtain ⟨v, s1, e1, tb1, fr⟩ := cq_2 (LC_power (sc := sc) (d := d) (x := a1) (y := a2) (g := 1) hK (TB_TV tb)) tb
    have r1 : RI s1 := RI_65 (fr 65 (by omega)) r
    obtain ⟨v2, s2, e2, r2, e66, fr2⟩ := rq_i (r_power (sc := sc) (d := d + 6) (s := s1) (x1 := a1) (x2 := a2) (x3 := 1) hK) r1 (power_ok r1)
    refine ⟨s2, INV_st ks n0 im tb1 fr r2 e66 fr2, ?_⟩
    simp only [uL_law_890, uL_law_909, uL_law_913, uL_law_914, uL_law_937, uL_law_941, uL_law_942, qL_law_890, qL_law_909, qL_law_913, qL_law_914, qL_law_937, qL_law_941, qL_law_942, jL_law_890_1621, jL_law_909_913, jL_law_913_914, jL_law_937_941, jL_law_941_942, jL_law_949_1621, g1, g2, g3, bd2, c0_v hK, c64_v hK, cond_true, e1, e2, xci_eq, if_neg z]
theorem LS_coalition (h : INV K s) (g1 : ∀ w, xdi sc w (x + 1) (.inr (.inr (.inr 2))) = some a1) (g2 : ∀ w, xdi sc w (x + 2) (.inr (.inr (.inr 2))) = some a2) : ∃ s2, INV K s2 ∧ fW sc 8 4 false 4 (xN sc (d + 11)) b kL_law_949 949 [some (.inr (.inr (.inr 2))), some (.inr (.inr (.inl (some 0)))), some (.inr (.inr (.inl (some 64)))), some (.inl x)] [] (wl K s) = fW sc 8 4 false 4 (xN sc (d + 11)) b kL_law_1621 1621 [some (.inr (.inr (.inr 2))), some (.inr (.inr (.inl (some 0)))), some (.inr (.inr (.inl (some 64)))), some (.inl x)] [] (wl K s2) := by
  obtain ⟨f, ks, tb, r, n0, im⟩ := h
  have hK := KS_SH ks
  obtain ⟨v, s1, e1, tb1, fr⟩ := cq_2 (LC_coalition (sc := sc) (d := d) (x := a1) (v := a2) hK (TB_TV tb)) tb
  have r1 : RI s1 := RI_65 (fr 65 (by omega)) r
  obtain ⟨v2, s2, e2, r2, e66, fr2⟩ := rq_i (r_coalition (sc := sc) (d := d + 5) (s := s1) (x1 := a1) (x2 := a2) hK) r1 (coalition_ok r1)
  refine ⟨s2, INV_st ks n0 im tb1 fr r2 e66 fr2, ?_⟩
  simp only [uL_law_949, qL_law_949, jL_law_949_1621, jL_law_982_1621, g1, g2, bd2, c0_v hK, c64_v hK, cond_true, e1, e2, xci_eq]
theorem LS_bribe (h : INV K s) (g1 : ∀ w, xdi sc w (x + 1) (.inr (.inr (.inr 2))) = some a1) (g2 : ∀ w, xdi sc w (x + 2) (.inr (.inr (.inr 2))) = some a2) (g3 : ∀ w, xdi sc w (x + 3) (.inr (.inr (.inr 2))) = some a3) (g4 : ∀ w, xdi sc w (x + 4) (.inr (.inr (.inr 2))) = some a4) (g5 : ∀ w, xdi sc w (x + 5) (.inr (.inr (.inr 2))) = some a5) (g6 : ∀ w, xdi sc w (x + 6) (.inr (.inr (.inr 2))) = some a6) (g7 : ∀ w, xdi sc w (x + 7) (.inr (.inr (.inr 2))) = some a7) : ∃ s2, INV K s2 ∧ fW sc 8 4 false 4 (xN sc (d + 11)) b kL_law_982 982 [some (.inr (.inr (.inr 2))), some (.inr (.inr (.inl (some 0)))), some (.inr (.inr (.inl (some 64)))), some (.inl x)] [] (wl K s) = fW sc 8 4 false 4 (xN sc (d + 11)) b kL_law_1621 1621 [some (.inr (.inr (.inr 2))), some (.inr (.inr (.inl (some 0)))), some (.inr (.inr (.inl (some 64)))), some (.inl x)] [] (wl K s2) := by
  obtain ⟨f, ks, tb, r, n0, im⟩ := h
  have hK := KS_SH ks
  by_cases z : a7 = 0
  · skip
    obtain ⟨v, s1, e1, tb1, fr⟩ := cq_2 (LC_bribe (sc := sc) (d := d) (x := a1) (who := a2) (se := a3) (u := a4) (v := a5) (z := a6) (g := 0) hK (TB_TV tb)) tb
    have r1 : RI s1 := RI_65 (fr 65 (by omega)) r
    obtain ⟨v2, s2, e2, r2, e66, fr2⟩ := rq_i (r_bribe (sc := sc) (d := d + 4) (s := s1) (x1 := a1) (x2 := a2) (x3 := a3) (x4 := a4) (x5 := a5) (x6 := a6) (x7 := 0) hK) r1 (bribe_ok r1)
    refine ⟨s2, INV_st ks n0 im tb1 fr r2 e66 fr2, ?_⟩
    simp only [uL_law_982, uL_law_1023, uL_law_1027, uL_law_1028, uL_law_1073, uL_law_1077, uL_law_1078, qL_law_982, qL_law_1023, qL_law_1027, qL_law_1028, qL_law_1073, qL_law_1077, qL_law_1078, jL_law_982_1621, jL_law_1023_1027, jL_law_1027_1028, jL_law_1073_1077, jL_law_1077_1078, jL_law_1085_1621, g1, g2, g3, g4, g5, g6, g7, bd2, c0_v hK, c64_v hK, cond_true, e1, e2, xci_eq, if_pos z]
  · skip
    obtain ⟨v, s1, e1, tb1, fr⟩ := cq_2 (LC_bribe (sc := sc) (d := d) (x := a1) (who := a2) (se := a3) (u := a4) (v := a5) (z := a6) (g := 1) hK (TB_TV tb)) tb
    have r1 : RI s1 := RI_65 (fr 65 (by omega)) r
    obtain ⟨v2, s2, e2, r2, e66, fr2⟩ := rq_i (r_bribe (sc := sc) (d := d + 4) (s := s1) (x1 := a1) (x2 := a2) (x3 := a3) (x4 := a4) (x5 := a5) (x6 := a6) (x7 := 1) hK) r1 (bribe_ok r1)
    refine ⟨s2, INV_st ks n0 im tb1 fr r2 e66 fr2, ?_⟩
    simp only [uL_law_982, uL_law_1023, uL_law_1027, uL_law_1028, uL_law_1073, uL_law_1077, uL_law_1078, qL_law_982, qL_law_1023, qL_law_1027, qL_law_1028, qL_law_1073, qL_law_1077, qL_law_1078, jL_law_982_1621, jL_law_1023_1027, jL_law_1027_1028, jL_law_1073_1077, jL_law_1077_1078, jL_law_1085_1621, g1, g2, g3, g4, g5, g6, g7, bd2, c0_v hK, c64_v hK, cond_true, e1, e2, xci_eq, if_neg z]
theorem LS_lobby (h : INV K s) (g1 : ∀ w, xdi sc w (x + 1) (.inr (.inr (.inr 2))) = some a1) (g2 : ∀ w, xdi sc w (x + 2) (.inr (.inr (.inr 2))) = some a2) (g3 : ∀ w, xdi sc w (x + 3) (.inr (.inr (.inr 2))) = some a3) (g4 : ∀ w, xdi sc w (x + 4) (.inr (.inr (.inr 2))) = some a4) (g5 : ∀ w, xdi sc w (x + 5) (.inr (.inr (.inr 2))) = some a5) (g6 : ∀ w, xdi sc w (x + 6) (.inr (.inr (.inr 2))) = some a6) (g7 : ∀ w, xdi sc w (x + 7) (.inr (.inr (.inr 2))) = some a7) : ∃ s2, INV K s2 ∧ fW sc 8 4 false 4 (xN sc (d + 11)) b kL_law_1085 1085 [some (.inr (.inr (.inr 2))), some (.inr (.inr (.inl (some 0)))), some (.inr (.inr (.inl (some 64)))), some (.inl x)] [] (wl K s) = fW sc 8 4 false 4 (xN sc (d + 11)) b kL_law_1621 1621 [some (.inr (.inr (.inr 2))), some (.inr (.inr (.inl (some 0)))), some (.inr (.inr (.inl (some 64)))), some (.inl x)] [] (wl K s2) := by
  obtain ⟨f, ks, tb, r, n0, im⟩ := h
  have hK := KS_SH ks
  obtain ⟨v, s1, e1, tb1, fr⟩ := cq_2 (LC_lobby (sc := sc) (d := d) (x := a1) (who := a2) (se := a3) (u := a4) (v := a5) (z := a6) (k := a7) hK (TB_TV tb)) tb
  have r1 : RI s1 := RI_65 (fr 65 (by omega)) r
  obtain ⟨v2, s2, e2, r2, e66, fr2⟩ := rq_i (r_lobby (sc := sc) (d := d + 2) (s := s1) (x1 := a1) (x2 := a2) (x3 := a3) (x4 := a4) (x5 := a5) (x6 := a6) (x7 := a7) hK) r1 (lobby_ok r1)
  refine ⟨s2, INV_st ks n0 im tb1 fr r2 e66 fr2, ?_⟩
  simp only [uL_law_1085, qL_law_1085, jL_law_1085_1621, jL_law_1172_1621, g1, g2, g3, g4, g5, g6, g7, bd2, c0_v hK, c64_v hK, cond_true, e1, e2, xci_eq]
theorem LS_bargain (h : INV K s) (g1 : ∀ w, xdi sc w (x + 1) (.inr (.inr (.inr 2))) = some a1) (g2 : ∀ w, xdi sc w (x + 2) (.inr (.inr (.inr 2))) = some a2) (g3 : ∀ w, xdi sc w (x + 3) (.inr (.inr (.inr 2))) = some a3) : ∃ s2, INV K s2 ∧ fW sc 8 4 false 4 (xN sc (d + 11)) b kL_law_1172 1172 [some (.inr (.inr (.inr 2))), some (.inr (.inr (.inl (some 0)))), some (.inr (.inr (.inl (some 64)))), some (.inl x)] [] (wl K s) = fW sc 8 4 false 4 (xN sc (d + 11)) b kL_law_1621 1621 [some (.inr (.inr (.inr 2))), some (.inr (.inr (.inl (some 0)))), some (.inr (.inr (.inl (some 64)))), some (.inl x)] [] (wl K s2) := by
  obtain ⟨f, ks, tb, r, n0, im⟩ := h
  have hK := KS_SH ks
  obtain ⟨v, s1, e1, tb1, fr⟩ := cq_2 (LC_bargain (sc := sc) (d := d) (x := a1) (y := a2) (v := a3) hK (TB_TV tb)) tb
  have r1 : RI s1 := RI_65 (fr 65 (by omega)) r
  obtain ⟨v2, s2, e2, r2, e66, fr2⟩ := rq_i (r_bargain (sc := sc) (d := d + 6) (s := s1) (x1 := a1) (x2 := a2) (x3 := a3) hK) r1 (bargain_ok r1)
  refine ⟨s2, INV_st ks n0 im tb1 fr r2 e66 fr2, ?_⟩
  simp only [uL_law_1172, qL_law_1172, jL_law_1172_1621, jL_law_1215_1621, g1, g2, g3, bd2, c0_v hK, c64_v hK, cond_true, e1, e2, xci_eq]
theorem LS_was (h : INV K s) (g1 : ∀ w, xdi sc w (x + 1) (.inr (.inr (.inr 2))) = some a1) (g2 : ∀ w, xdi sc w (x + 2) (.inr (.inr (.inr 2))) = some a2) (g3 : ∀ w, xdi sc w (x + 3) (.inr (.inr (.inr 2))) = some a3) : ∃ s2, INV K s2 ∧ fW sc 8 4 false 4 (xN sc (d + 11)) b kL_law_1215 1215 [some (.inr (.inr (.inr 2))), some (.inr (.inr (.inl (some 0)))), some (.inr (.inr (.inl (some 64)))), some (.inl x)] [] (wl K s) = fW sc 8 4 false 4 (xN sc (d + 11)) b kL_law_1621 1621 [some (.inr (.inr (.inr 2))), some (.inr (.inr (.inl (some 0)))), some (.inr (.inr (.inl (some 64)))), some (.inl x)] [] (wl K s2) := by
  obtain ⟨f, ks, tb, r, n0, im⟩ := h
  have hK := KS_SH ks
  obtain ⟨v, s1, e1, tb1, fr⟩ := cq_2 (LC_was (sc := sc) (d := d) (x := a1) (k := a2) (v := a3) hK (TB_TV tb)) tb
  have r1 : RI s1 := RI_65 (fr 65 (by omega)) r
  obtain ⟨v2, s2, e2, r2, e66, fr2⟩ := rq_i (r_was (sc := sc) (d := d + 7) (s := s1) (x1 := a1) (x2 := a2) (x3 := a3) hK) r1 (was_ok r1)
  refine ⟨s2, INV_st ks n0 im tb1 fr r2 e66 fr2, ?_⟩
  simp only [uL_law_1215, qL_law_1215, jL_law_1215_1621, jL_law_1258_1621, g1, g2, g3, bd2, c0_v hK, c64_v hK, cond_true, e1, e2, xci_eq]
theorem LS_nature (h : INV K s) (g1 : ∀ w, xdi sc w (x + 1) (.inr (.inr (.inr 2))) = some a1) (g2 : ∀ w, xdi sc w (x + 2) (.inr (.inr (.inr 2))) = some a2) (g3 : ∀ w, xdi sc w (x + 3) (.inr (.inr (.inr 2))) = some a3) : ∃ s2, INV K s2 ∧ fW sc 8 4 false 4 (xN sc (d + 11)) b kL_law_1258 1258 [some (.inr (.inr (.inr 2))), some (.inr (.inr (.inl (some 0)))), some (.inr (.inr (.inl (some 64)))), some (.inl x)] [] (wl K s) = fW sc 8 4 false 4 (xN sc (d + 11)) b kL_law_1621 1621 [some (.inr (.inr (.inr 2))), some (.inr (.inr (.inl (some 0)))), some (.inr (.inr (.inl (some 64)))), some (.inl x)] [] (wl K s2) := by
  obtain ⟨f, ks, tb, r, n0, im⟩ := h
  have hK := KS_SH ks
  obtain ⟨v, s1, e1, tb1, fr⟩ := cq_2 (LC_nature (sc := sc) (d := d) (x := a1) (y := a2) (v := a3) hK (TB_TV tb)) tb
  have r1 : RI s1 := RI_65 (fr 65 (by omega)) r
  obtain ⟨v2, s2, e2, r2, e66, fr2⟩ := rq_i (r_nature (sc := sc) (d := d + 6) (s := s1) (x1 := a1) (x2 := a2) (x3 := a3) hK) r1 (nature_ok r1)
  refine ⟨s2, INV_st ks n0 im tb1 fr r2 e66 fr2, ?_⟩
  simp only [uL_law_1258, qL_law_1258, jL_law_1258_1621, jL_law_1301_1621, g1, g2, g3, bd2, c0_v hK, c64_v hK, cond_true, e1, e2, xci_eq]
theorem LS_seats (h : INV K s) (g1 : ∀ w, xdi sc w (x + 1) (.inr (.inr (.inr 2))) = some a1) (g2 : ∀ w, xdi sc w (x + 2) (.inr (.inr (.inr 2))) = some a2) (g3 : ∀ w, xdi sc w (x + 3) (.inr (.inr (.inr 2))) = some a3) : ∃ s2, INV K s2 ∧ fW sc 8 4 false 4 (xN sc (d + 11)) b kL_law_1301 1301 [some (.inr (.inr (.inr 2))), some (.inr (.inr (.inl (some 0)))), some (.inr (.inr (.inl (some 64)))), some (.inl x)] [] (wl K s) = fW sc 8 4 false 4 (xN sc (d + 11)) b kL_law_1621 1621 [some (.inr (.inr (.inr 2))), some (.inr (.inr (.inl (some 0)))), some (.inr (.inr (.inl (some 64)))), some (.inl x)] [] (wl K s2) := by
  obtain ⟨f, ks, tb, r, n0, im⟩ := h
  have hK := KS_SH ks
  obtain ⟨v, s1, e1, tb1, fr⟩ := cq_2 (LC_seats (sc := sc) (d := d) (x := a1) (y := a2) (v := a3) hK (TB_TV tb)) tb
  have r1 : RI s1 := RI_65 (fr 65 (by omega)) r
  obtain ⟨v2, s2, e2, r2, e66, fr2⟩ := rq_i (r_seats (sc := sc) (d := d + 4) (s := s1) (x1 := a1) (x2 := a2) (x3 := a3) hK) r1 (seats_ok r1)
  refine ⟨s2, INV_st ks n0 im tb1 fr r2 e66 fr2, ?_⟩
  simp only [uL_law_1301, qL_law_1301, jL_law_1301_1621, jL_law_1344_1621, g1, g2, g3, bd2, c0_v hK, c64_v hK, cond_true, e1, e2, xci_eq]
theorem LS_reshuffle (h : INV K s) (g1 : ∀ w, xdi sc w (x + 1) (.inr (.inr (.inr 2))) = some a1) (g2 : ∀ w, xdi sc w (x + 2) (.inr (.inr (.inr 2))) = some a2) : ∃ s2, INV K s2 ∧ fW sc 8 4 false 4 (xN sc (d + 11)) b kL_law_1344 1344 [some (.inr (.inr (.inr 2))), some (.inr (.inr (.inl (some 0)))), some (.inr (.inr (.inl (some 64)))), some (.inl x)] [] (wl K s) = fW sc 8 4 false 4 (xN sc (d + 11)) b kL_law_1621 1621 [some (.inr (.inr (.inr 2))), some (.inr (.inr (.inl (some 0)))), some (.inr (.inr (.inl (some 64)))), some (.inl x)] [] (wl K s2) := by
  obtain ⟨f, ks, tb, r, n0, im⟩ := h
  have hK := KS_SH ks
  by_cases z : a2 = 0
  · skip
    obtain ⟨v, s1, e1, tb1, fr⟩ := cq_2 (LC_reshuffle (sc := sc) (d := d) (x := a1) (g := 0) hK (TB_TV tb)) tb
    have r1 : RI s1 := RI_65 (fr 65 (by omega)) r
    obtain ⟨v2, s2, e2, r2, e66, fr2⟩ := rq_i (r_reshuffle (sc := sc) (d := d + 3) (s := s1) (x1 := a1) (x2 := 0) hK) r1 (reshuffle_ok r1)
    refine ⟨s2, INV_st ks n0 im tb1 fr r2 e66 fr2, ?_⟩
    simp only [uL_law_1344, uL_law_1358, uL_law_1362, uL_law_1363, uL_law_1381, uL_law_1385, uL_law_1386, qL_law_1344, qL_law_1358, qL_law_1362, qL_law_1363, qL_law_1381, qL_law_1385, qL_law_1386, jL_law_1344_1621, jL_law_1358_1362, jL_law_1362_1363, jL_law_1381_1385, jL_law_1385_1386, jL_law_1393_1621, g1, g2, bd2, c0_v hK, c64_v hK, cond_true, e1, e2, xci_eq, if_pos z]
  · skip
    obtain ⟨v, s1, e1, tb1, fr⟩ := cq_2 (LC_reshuffle (sc := sc) (d := d) (x := a1) (g := 1) hK (TB_TV tb)) tb
    have r1 : RI s1 := RI_65 (fr 65 (by omega)) r
    obtain ⟨v2, s2, e2, r2, e66, fr2⟩ := rq_i (r_reshuffle (sc := sc) (d := d + 3) (s := s1) (x1 := a1) (x2 := 1) hK) r1 (reshuffle_ok r1)
    refine ⟨s2, INV_st ks n0 im tb1 fr r2 e66 fr2, ?_⟩
    simp only [uL_law_1344, uL_law_1358, uL_law_1362, uL_law_1363, uL_law_1381, uL_law_1385, uL_law_1386, qL_law_1344, qL_law_1358, qL_law_1362, qL_law_1363, qL_law_1381, qL_law_1385, qL_law_1386, jL_law_1344_1621, jL_law_1358_1362, jL_law_1362_1363, jL_law_1381_1385, jL_law_1385_1386, jL_law_1393_1621, g1, g2, bd2, c0_v hK, c64_v hK, cond_true, e1, e2, xci_eq, if_neg z]
theorem LS_leak (h : INV K s) (g1 : ∀ w, xdi sc w (x + 1) (.inr (.inr (.inr 2))) = some a1) (g2 : ∀ w, xdi sc w (x + 2) (.inr (.inr (.inr 2))) = some a2) (g3 : ∀ w, xdi sc w (x + 3) (.inr (.inr (.inr 2))) = some a3) : ∃ s2, INV K s2 ∧ fW sc 8 4 false 4 (xN sc (d + 11)) b kL_law_1393 1393 [some (.inr (.inr (.inr 2))), some (.inr (.inr (.inl (some 0)))), some (.inr (.inr (.inl (some 64)))), some (.inl x)] [] (wl K s) = fW sc 8 4 false 4 (xN sc (d + 11)) b kL_law_1621 1621 [some (.inr (.inr (.inr 2))), some (.inr (.inr (.inl (some 0)))), some (.inr (.inr (.inl (some 64)))), some (.inl x)] [] (wl K s2) := by
  obtain ⟨f, ks, tb, r, n0, im⟩ := h
  have hK := KS_SH ks
  obtain ⟨v, s1, e1, tb1, fr⟩ := cq_2 (LC_leak (sc := sc) (d := d) (x := a1) (k := a2) (v := a3) hK (TB_TV tb)) tb
  have r1 : RI s1 := RI_65 (fr 65 (by omega)) r
  obtain ⟨v2, s2, e2, r2, e66, fr2⟩ := rq_i (r_leak (sc := sc) (d := d + 8) (s := s1) (x1 := a1) (x2 := a2) (x3 := a3) hK) r1 (leak_ok r1)
  refine ⟨s2, INV_st ks n0 im tb1 fr r2 e66 fr2, ?_⟩
  simp only [uL_law_1393, qL_law_1393, jL_law_1393_1621, jL_law_1436_1621, g1, g2, g3, bd2, c0_v hK, c64_v hK, cond_true, e1, e2, xci_eq]
theorem LS_fits (h : INV K s) (g1 : ∀ w, xdi sc w (x + 1) (.inr (.inr (.inr 2))) = some a1) (g2 : ∀ w, xdi sc w (x + 2) (.inr (.inr (.inr 2))) = some a2) (g3 : ∀ w, xdi sc w (x + 3) (.inr (.inr (.inr 2))) = some a3) (g4 : ∀ w, xdi sc w (x + 4) (.inr (.inr (.inr 2))) = some a4) (g5 : ∀ w, xdi sc w (x + 5) (.inr (.inr (.inr 2))) = some a5) : ∃ s2, INV K s2 ∧ fW sc 8 4 false 4 (xN sc (d + 11)) b kL_law_1436 1436 [some (.inr (.inr (.inr 2))), some (.inr (.inr (.inl (some 0)))), some (.inr (.inr (.inl (some 64)))), some (.inl x)] [] (wl K s) = fW sc 8 4 false 4 (xN sc (d + 11)) b kL_law_1621 1621 [some (.inr (.inr (.inr 2))), some (.inr (.inr (.inl (some 0)))), some (.inr (.inr (.inl (some 64)))), some (.inl x)] [] (wl K s2) := by
  obtain ⟨f, ks, tb, r, n0, im⟩ := h
  have hK := KS_SH ks
  obtain ⟨v, s1, e1, tb1, fr⟩ := cq_2 (LC_fits (sc := sc) (d := d) (x := a1) (y := a2) (who := a3) (se := a4) (v := a5) hK (TB_TV tb)) tb
  have r1 : RI s1 := RI_65 (fr 65 (by omega)) r
  obtain ⟨v2, s2, e2, r2, e66, fr2⟩ := rq_i (r_fits (sc := sc) (d := d + 3) (s := s1) (x1 := a1) (x2 := a2) (x3 := a3) (x4 := a4) (x5 := a5) hK) r1 (fits_ok r1)
  refine ⟨s2, INV_st ks n0 im tb1 fr r2 e66 fr2, ?_⟩
  simp only [uL_law_1436, qL_law_1436, jL_law_1436_1621, jL_law_1499_1621, g1, g2, g3, g4, g5, bd2, c0_v hK, c64_v hK, cond_true, e1, e2, xci_eq]
theorem LS_drawn (h : INV K s) (g1 : ∀ w, xdi sc w (x + 1) (.inr (.inr (.inr 2))) = some a1) (g2 : ∀ w, xdi sc w (x + 2) (.inr (.inr (.inr 2))) = some a2) (g3 : ∀ w, xdi sc w (x + 3) (.inr (.inr (.inr 2))) = some a3) (g4 : ∀ w, xdi sc w (x + 4) (.inr (.inr (.inr 2))) = some a4) : ∃ s2, INV K s2 ∧ fW sc 8 4 false 4 (xN sc (d + 11)) b kL_law_1499 1499 [some (.inr (.inr (.inr 2))), some (.inr (.inr (.inl (some 0)))), some (.inr (.inr (.inl (some 64)))), some (.inl x)] [] (wl K s) = fW sc 8 4 false 4 (xN sc (d + 11)) b kL_law_1621 1621 [some (.inr (.inr (.inr 2))), some (.inr (.inr (.inl (some 0)))), some (.inr (.inr (.inl (some 64)))), some (.inl x)] [] (wl K s2) := by
  obtain ⟨f, ks, tb, r, n0, im⟩ := h
  have hK := KS_SH ks
  obtain ⟨v, s1, e1, tb1, fr⟩ := cq_2 (LC_drawn (sc := sc) (d := d) (x := a1) (y := a2) (n := a3) (v := a4) hK (TB_TV tb)) tb
  have r1 : RI s1 := RI_65 (fr 65 (by omega)) r
  obtain ⟨v2, s2, e2, r2, e66, fr2⟩ := rq_i (r_drawn (sc := sc) (d := d + 3) (s := s1) (x1 := a1) (x2 := a2) (x3 := a3) (x4 := a4) hK) r1 (drawn_ok r1)
  refine ⟨s2, INV_st ks n0 im tb1 fr r2 e66 fr2, ?_⟩
  simp only [uL_law_1499, qL_law_1499, jL_law_1499_1621, jL_law_1552_1621, g1, g2, g3, g4, bd2, c0_v hK, c64_v hK, cond_true, e1, e2, xci_eq]
theorem LS_count (h : INV K s) (g1 : ∀ w, xdi sc w (x + 1) (.inr (.inr (.inr 2))) = some a1) : ∃ s2, INV K s2 ∧ fW sc 8 4 false 4 (xN sc (d + 11)) b kL_law_1552 1552 [some (.inr (.inr (.inr 2))), some (.inr (.inr (.inl (some 0)))), some (.inr (.inr (.inl (some 64)))), some (.inl x)] [] (wl K s) = fW sc 8 4 false 4 (xN sc (d + 11)) b kL_law_1621 1621 [some (.inr (.inr (.inr 2))), some (.inr (.inr (.inl (some 0)))), some (.inr (.inr (.inl (some 64)))), some (.inl x)] [] (wl K s2) := by
  obtain ⟨f, ks, tb, r, n0, im⟩ := h
  have hK := KS_SH ks
  obtain ⟨v, s1, e1, tb1, fr⟩ := cq_2 (cq_s (c_count (sc := sc) (d := d + 9) (s := s) (w := a1) hK)) tb
  have r1 : RI s1 := RI_65 (fr 65 (by omega)) r
  obtain ⟨v2, s2, e2, r2, e66, fr2⟩ := rq_v (r_count (sc := sc) (d := d + 9) (s := s1) (x1 := a1) hK) r1 count_ok
  refine ⟨s2, INV_st ks n0 im tb1 fr r2 e66 fr2, ?_⟩
  simp only [uL_law_1552, qL_law_1552, jL_law_1552_1621, jL_law_1575_1621, g1, bd2, c0_v hK, c64_v hK, cond_true, e1, e2, xci_eq]
theorem LS_again (h : INV K s) (g1 : ∀ w, xdi sc w (x + 1) (.inr (.inr (.inr 2))) = some a1) : ∃ s2, INV K s2 ∧ fW sc 8 4 false 4 (xN sc (d + 11)) b kL_law_1598 1598 [some (.inr (.inr (.inr 2))), some (.inr (.inr (.inl (some 0)))), some (.inr (.inr (.inl (some 64)))), some (.inl x)] [] (wl K s) = fW sc 8 4 false 4 (xN sc (d + 11)) b kL_law_1621 1621 [some (.inr (.inr (.inr 2))), some (.inr (.inr (.inl (some 0)))), some (.inr (.inr (.inl (some 64)))), some (.inl x)] [] (wl K s2) := by
  obtain ⟨f, ks, tb, r, n0, im⟩ := h
  have hK := KS_SH ks
  obtain ⟨v, s1, e1, tb1, fr⟩ : ∃ v s1, xN sc (d + 11) 81 [.inr (.inr (.inl (some 0))), .inl a1] (wl K s) = some (some (.inl v), wl K s1) ∧ TB s1 1 ∧ ∀ c, 64 ≤ c → s1 c = s c := ⟨_, _, c_again (sc := sc) (d := d + 7) (s := s) (x := a1) ks, agaS_TB ks tb, fun c hc => agaS_n (by omega)⟩
  have r1 : RI s1 := RI_65 (fr 65 (by omega)) r
  obtain ⟨v2, s2, e2, r2, e66, fr2⟩ := rq_a (r_again (sc := sc) (d := d + 9) (s := s1) (x1 := a1) hK) (ok_w (again_ok r1) fun _ q => ⟨q.1, q.2.1⟩)
  refine ⟨s2, INV_st ks n0 im tb1 fr r2 e66 fr2, ?_⟩
  simp only [uL_law_1598, qL_law_1598, g1, bd2, c0_v hK, c64_v hK, cond_true, e1, e2, xci_eq]
end LAW
end XRQ
