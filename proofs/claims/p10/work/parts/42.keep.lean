section XCR
variable {sc : Nat × (Nat → Int32)} {d : Nat} {K : List KD} {r q t a B m : Nat} {w : EW}
/-! the class keeps images -/
/-- the images that stand: f says where -/
def KS (K : List KD) (s : SG) (f : Nat → Option Nat) : Prop := (∃ t, K = KB f ++ t) ∧ ∀ j, j < 3 → f j = none ∨ ∃ B, f j = some B ∧ 72 ≤ B ∧ B + 41 ≤ K.length ∧ TD K B ∧ TB s B
theorem KS_SH {s : SG} {f : Nat → Option Nat} (h : KS K s f) : SH K := by
  obtain ⟨⟨t, e⟩, _⟩ := h
  exact ⟨f, t, e⟩
theorem KS_42 {s : SG} {f : Nat → Option Nat} (h : KS K s f) : K[42]? = some (kQ 4 3 f) := by
  obtain ⟨⟨t, rfl⟩, _⟩ := h
  rfl
theorem KS_len {s : SG} {f : Nat → Option Nat} (h : KS K s f) : 72 ≤ K.length := by
  obtain ⟨⟨t, rfl⟩, _⟩ := h
  rw [List.length_append]
  show 72 ≤ 72 + _
  omega
theorem KS_of {s t : SG} {f : Nat → Option Nat} (e : ∀ c, 72 ≤ c → t c = s c) (h : KS K s f) : KS K t f := by
  refine ⟨h.1, fun j hj => ?_⟩
  rcases h.2 j hj with q | ⟨B, h1, h2, h3, h4, h5⟩
  · exact Or.inl q
  · exact Or.inr ⟨B, h1, h2, h3, h4, TB_of (fun c hc _ => e c (by omega)) h5⟩
theorem TD_app {L : List KD} {B : Nat} (h : TD K B) (hl : B + 41 ≤ K.length) : TD (K ++ L) B := by
  intro j hj
  rw [List.getElem?_append_left (by omega)]
  exact h j hj
theorem TD_new : TD (K ++ KT K.length) K.length := by
  intro j hj
  rw [List.getElem?_append_right (by omega), Nat.add_sub_cancel_left]
theorem KB_set {f g : Nat → Option Nat} {t : List KD} : (KB f ++ t).set 42 (kQ 4 3 g) = KB g ++ t := by
  rw [List.set_append_left _ _ (by decide : 42 < 72)]
  rfl
theorem TD_set {B : Nat} {g : Nat → Option Nat} (h : TD K B) (hB : 72 ≤ B) : TD (K.set 42 (kQ 4 3 g)) B := by
  intro j hj
  rw [List.getElem?_set_ne (by omega)]
  exact h j hj
theorem KT_0 {B : Nat} (h : TD K B) : K[B]? = some (kO 5 [some (eR (B + 1)), none, none, none, some (eR (B + 2)), some (eR (B + 3)), some (eR (B + 4))]) := h 0 (by decide)
theorem TD_apart {B C : Nat} (hB : TD K B) (hC : TD K C) (h : B < C) : B + 41 ≤ C := by
  rcases Nat.lt_or_ge C (B + 41) with q | q
  · exfalso
    have e := KT_0 hC
    obtain ⟨b, rfl⟩ : ∃ b, C = B + b := ⟨C - B, by omega⟩
    rw [hB b (by omega)] at e
    have no : ∀ b, 0 < b → b < 41 → ∀ fs, (KT B)[b]? ≠ some (kO 5 fs) := by
      intro b h1 h2 fs
      rcases (by omega : b = 1 ∨ b = 2 ∨ b = 3 ∨ b = 4 ∨ b = 5 ∨ b = 6 ∨ b = 7 ∨ b = 8 ∨ b = 9 ∨ b = 10 ∨ b = 11 ∨ b = 12 ∨ b = 13 ∨ b = 14 ∨ b = 15 ∨ b = 16 ∨ b = 17 ∨ b = 18 ∨ b = 19 ∨ b = 20 ∨ b = 21 ∨ b = 22 ∨ b = 23 ∨ b = 24 ∨ b = 25 ∨ b = 26 ∨ b = 27 ∨ b = 28 ∨ b = 29 ∨ b = 30 ∨ b = 31 ∨ b = 32 ∨ b = 33 ∨ b = 34 ∨ b = 35 ∨ b = 36 ∨ b = 37 ∨ b = 38 ∨ b = 39 ∨ b = 40) with q | q | q | q | q | q | q | q | q | q | q | q | q | q | q | q | q | q | q | q | q | q | q | q | q | q | q | q | q | q | q | q | q | q | q | q | q | q | q | q <;> subst q <;> (intro z; have z2 := Option.some.inj z; cases z2)
    exact no b (by omega) (by omega) _ e
  · exact q
theorem TB_cp {s : SG} {B C : Nat} (ne : C ≠ B) (hC : TD K C) (hB : TD K B) (h : TB s C) : TB (cpTS s B 1) C := by
  refine TB_of (fun c h1 h2 => cpTS_n ?_) h
  rcases Nat.lt_or_ge B C with q | q
  · have := TD_apart hB hC q; omega
  · have := TD_apart hC hB (by omega); omega
def imgI (x : Int32) : Int32 := if x < 0 then 0 else if x < 3 then 1 else 0
theorem nat_of {x : Int32} {n : Nat} (h1 : ¬ x < 0) (h2 : x < nI n) (hn : n < 2 ^ 31) : ∃ k, k < n ∧ x = nI k := by
  have e := Int32.cast_toNatClampNeg x (Int32.not_lt.mp h1)
  refine ⟨x.toNatClampNeg, ?_, (Int32.ofNat_toNatClampNeg x (Int32.not_lt.mp h1)).symm⟩
  rw [Int32.lt_iff_toInt_lt, nI_toInt hn] at h2
  omega
theorem c_image {s : SG} {f : Nat → Option Nat} {x : Int32} (ks : KS K s f) (tb : TB s 1) : ∃ K' s' f', xN sc (d + 4) 80 [.inr (.inr (.inl (some 0))), .inl x] (wl K s) = some (some (.inl (imgI x)), wl K' s') ∧ KS K' s' f' ∧ (∀ c, c < 72 → s' c = s c) ∧ ((imgI x = 0 ∧ K' = K ∧ s' = s ∧ f' = f) ∨ ∃ k, k < 3 ∧ x = nI k ∧ imgI x = 1 ∧ (∀ j, j ≠ k → f' j = f j) ∧ (f k = none → K'.length = K.length + 41) ∧ (f k ≠ none → K'.length = K.length) ∧ ∃ B, f' k = some B ∧ TB s' B ∧ s' B 1 = s 1 1) := by
  have h := KS_SH ks
  have h42 := KS_42 ks
  have hn : xnn sc (wl K s) (.inr (.inr (.inl (some 42)))) = some 3 := xnq_wl h42 rfl
  have h3 : (3 : Int32) = nI 3 := rfl
  by_cases c1 : x < 0
  · have e : imgI x = 0 := by unfold imgI; rw [if_pos c1]
    refine ⟨K, s, f, ?_, ks, fun _ _ => rfl, Or.inl ⟨e, rfl, rfl, rfl⟩⟩
    rw [mX6_image, e]
    simp only [uX6_image_0, uX6_image_4, uX6_image_13, qX6_image_0, qX6_image_4, qX6_image_13, jX6_image_4_13, jX6_image_13_15, jX6_image_24_34, jX6_image_34_40, if_pos c1]
  · by_cases c2 : x < nI 3
    · obtain ⟨k, hk, rfl⟩ := nat_of c1 c2 (by decide)
      have e : imgI (nI k) = 1 := by unfold imgI; rw [if_neg c1, if_pos (by rw [h3]; exact c2)]
      have xk : xvb (nI k) 3 = true := xvb_nI hk (by decide)
      have hq : xdq (wl K s) (nI k) (.inr (.inr (.inl (some 42)))) = some (f k) := by
        rw [xdq_wl h42 rfl xk, nI_clamp (by omega)]
      rcases ks.2 k hk with g | ⟨B, g, hB1, hB2, hB3, hB4⟩
      · -- a new one
        have hl := KS_len ks
        have n1 : TD (K ++ KT K.length) K.length := TD_new
        have n2 : TD (K ++ KT K.length) 1 := TD_app (cS_t h) (by omega)
        have hS : SH (K ++ KT K.length) := by
          obtain ⟨f, t, rfl⟩ := h
          exact ⟨f, t ++ KT _, List.append_assoc _ _ _⟩
        have i5 := c_init5 (sc := sc) (d := d + 1) (w := wl K s)
        rw [wl_len, wl_new] at i5
        have ct := c_copyTold (sc := sc) (d := d) (s := nwS s K.length) (B := K.length) (C := 1) n1 n2 (by omega)
        have q42 : (K ++ KT K.length)[42]? = some (kQ 4 3 f) := by rw [List.getElem?_append_left (by omega)]; exact h42
        have xt := xtq_wl (s := cpTS (nwS s K.length) K.length 1) (j := k) (ci := 5) (q := K.length) q42 (n1 0 (by decide)) rfl hk (by decide) rfl
        have rv : xrv (wl (K ++ KT K.length) (nwS s K.length)) 5 (.inr (.inr (.inl (some K.length)))) = true := cT_v n1
        have lo : ∀ c, c < K.length → nwS s K.length c = s c := by intro c hc; funext j; unfold nwS; rw [if_pos hc]
        have tb1 : TB (nwS s K.length) 1 := TB_of (fun c _ hc => lo c (by omega)) tb
        refine ⟨(K ++ KT K.length).set 42 (kQ 4 3 (va_up f k (some K.length))), cpTS (nwS s K.length) K.length 1, va_up f k (some K.length), ?_, ?_, ?_, Or.inr ⟨k, hk, rfl, e, fun j hj => va_up_ne f _ hj, fun _ => ?_, fun q => absurd g q, K.length, va_up_self f k _, cpTS_TB (by omega) tb1, ?_⟩⟩
        · rw [mX6_image, e]
          simp only [uX6_image_0, uX6_image_4, uX6_image_13, uX6_image_15, uX6_image_24, qX6_image_0, qX6_image_4, qX6_image_13, qX6_image_15, qX6_image_24, jX6_image_4_13, jX6_image_13_15, jX6_image_24_34, jX6_image_34_40, c0_g1 h, hn, bd_eq, if_neg c1, if_pos c2, hq, g, Option.isNone_none, cond_true, wl_len, i5, xcv_eq]
          simp only [uX6_image_40, qX6_image_40, jX6_image_4_13, jX6_image_13_15, jX6_image_24_34, jX6_image_34_40, c0_g0 hS, c0_g1 hS, bd_eq, rv, cond_true, ct, xcv_eq, xt]
        · refine ⟨?_, fun j hj => ?_⟩
          · obtain ⟨⟨t, et⟩, _⟩ := ks
            refine ⟨t ++ KT K.length, ?_⟩
            have : K ++ KT K.length = KB f ++ (t ++ KT K.length) := by rw [← List.append_assoc, ← et]
            rw [this]; exact KB_set
          · by_cases ej : j = k
            · subst ej
              refine Or.inr ⟨K.length, va_up_self f j _, hl, ?_, TD_set n1 hl, cpTS_TB (by omega) tb1⟩
              rw [List.length_set, List.length_append]; exact Nat.le_refl _
            · rw [va_up_ne f _ ej]
              rcases ks.2 j hj with q | ⟨B, q, hB1, hB2, hB3, hB4⟩
              · exact Or.inl q
              · refine Or.inr ⟨B, q, hB1, ?_, TD_set (TD_app hB3 hB2) hB1, ?_⟩
                · rw [List.length_set, List.length_append]; omega
                · refine TB_of (s := s) (fun c _ hc => ?_) hB4
                  rw [cpTS_n (by omega)]; exact lo c (by omega)
        · intro c hc
          rw [cpTS_n (by omega)]; exact lo c (by omega)
        · rw [List.length_set, List.length_append]; rfl
        · unfold cpTS
          rw [cpTw_n 10 (by omega), cpTr_n 2 (by omega)]
          unfold cpT0
          rw [cp_n (by omega), up_bn (by decide), up_bn (by decide), up_a, lo 1 (by omega)]
      · -- one that stands
        have ct := c_copyTold (sc := sc) (d := d) (s := s) (B := B) (C := 1) hB3 (cS_t h) (by omega)
        have xt := xtq_wl (s := cpTS s B 1) (j := k) (ci := 5) (q := B) h42 (hB3 0 (by decide)) rfl hk (by decide) rfl
        have vf : va_up f k (some B) = f := by
          funext j
          by_cases ej : j = k
          · subst ej; rw [va_up_self, g]
          · exact va_up_ne f _ ej
        have kk : K.set 42 (kQ 4 3 f) = K := by
          obtain ⟨⟨t, et⟩, _⟩ := ks
          rw [et, KB_set]
        rw [vf, kk] at xt
        refine ⟨K, cpTS s B 1, f, ?_, ?_, ?_, Or.inr ⟨k, hk, rfl, e, fun _ _ => rfl, fun q => absurd (q ▸ g : none = some B) (by intro z; cases z), fun _ => rfl, B, g, cpTS_TB (by omega) tb, ?_⟩⟩
        · rw [mX6_image, e]
          simp only [uX6_image_0, uX6_image_4, uX6_image_13, uX6_image_15, qX6_image_0, qX6_image_4, qX6_image_13, qX6_image_15, jX6_image_4_13, jX6_image_13_15, jX6_image_24_34, jX6_image_34_40, c0_g1 h, hn, bd_eq, if_neg c1, if_pos c2, hq, g, Option.isNone_some, cond_false]
          simp only [uX6_image_34, uX6_image_40, qX6_image_34, qX6_image_40, jX6_image_4_13, jX6_image_13_15, jX6_image_24_34, jX6_image_34_40, c0_g1 h, c0_g0 h, hq, g, bd_eq, cT_v hB3, cond_true, ct, xcv_eq, xt]
        · refine ⟨ks.1, fun j hj => ?_⟩
          by_cases ej : j = k
          · subst ej
            exact Or.inr ⟨B, g, hB1, hB2, hB3, cpTS_TB (by omega) tb⟩
          · rcases ks.2 j hj with q | ⟨C, q, hC1, hC2, hC3, hC4⟩
            · exact Or.inl q
            · refine Or.inr ⟨C, q, hC1, hC2, hC3, ?_⟩
              by_cases eB : C = B
              · subst eB; exact cpTS_TB (by omega) tb
              · exact TB_cp eB hC3 hB3 hC4
        · intro c hc
          exact cpTS_n (by omega)
        · unfold cpTS
          rw [cpTw_n 10 (by omega), cpTr_n 2 (by omega)]
          unfold cpT0
          rw [cp_n (by omega), up_bn (by decide), up_bn (by decide), up_a]
    · have e : imgI x = 0 := by unfold imgI; rw [if_neg c1, if_neg (by rw [h3]; exact c2)]
      refine ⟨K, s, f, ?_, ks, fun _ _ => rfl, Or.inl ⟨e, rfl, rfl, rfl⟩⟩
      rw [mX6_image, e]
      simp only [uX6_image_0, uX6_image_4, uX6_image_13, qX6_image_0, qX6_image_4, qX6_image_13, jX6_image_4_13, jX6_image_13_15, jX6_image_24_34, jX6_image_34_40, c0_g1 h, hn, bd_eq, if_neg c1, if_neg c2]
def agaI (f : Nat → Option Nat) (x : Int32) : Int32 := if x < 0 then 0 else if 3 ≤ x then 0 else if (f x.toNatClampNeg).isNone then 0 else 1
def agaS (s : SG) (f : Nat → Option Nat) (x : Int32) : SG := if agaI f x = 0 then s else match f x.toNatClampNeg with
  | none => s
  | some B => cpTS s 1 B
theorem c_again {s : SG} {f : Nat → Option Nat} {x : Int32} (ks : KS K s f) : xN sc (d + 4) 81 [.inr (.inr (.inl (some 0))), .inl x] (wl K s) = some (some (.inl (agaI f x)), wl K (agaS s f x)) := by
  have h := KS_SH ks
  have h42 := KS_42 ks
  have hn : xnn sc (wl K s) (.inr (.inr (.inl (some 42)))) = some 3 := xnq_wl h42 rfl
  rw [mX6_again]
  by_cases c1 : x < 0
  · have e : agaI f x = 0 := by unfold agaI; rw [if_pos c1]
    unfold agaS
    rw [e, if_pos rfl]
    simp only [uX6_again_0, uX6_again_4, uX6_again_13, uX6_again_22, qX6_again_0, qX6_again_4, qX6_again_13, qX6_again_22, jX6_again_4_22, jX6_again_13_22, jX6_again_22_24, if_pos c1]
  · by_cases c2 : nI 3 ≤ x
    · have e : agaI f x = 0 := by unfold agaI; rw [if_neg c1, if_pos (show (3 : Int32) ≤ x from c2)]
      unfold agaS
      rw [e, if_pos rfl]
      simp only [uX6_again_0, uX6_again_4, uX6_again_13, uX6_again_22, qX6_again_0, qX6_again_4, qX6_again_13, qX6_again_22, jX6_again_4_22, jX6_again_13_22, jX6_again_22_24, c0_g1 h, hn, bd_eq, if_neg c1, if_pos c2]
    · obtain ⟨k, hk, rfl⟩ := nat_of c1 (Int32.not_le.mp c2) (by decide)
      have xk : xvb (nI k) 3 = true := xvb_nI hk (by decide)
      have hq : xdq (wl K s) (nI k) (.inr (.inr (.inl (some 42)))) = some (f k) := by
        rw [xdq_wl h42 rfl xk, nI_clamp (by omega)]
      have e0 : agaI f (nI k) = if (f k).isNone then 0 else 1 := by unfold agaI; rw [if_neg c1, if_neg (show ¬ (3 : Int32) ≤ nI k from c2), nI_clamp (by omega)]
      rcases ks.2 k hk with g | ⟨B, g, hB1, hB2, hB3, hB4⟩
      · have e : agaI f (nI k) = 0 := by rw [e0, g]; rfl
        unfold agaS
        rw [e, if_pos rfl]
        simp only [uX6_again_0, uX6_again_4, uX6_again_13, uX6_again_22, qX6_again_0, qX6_again_4, qX6_again_13, qX6_again_22, jX6_again_4_22, jX6_again_13_22, jX6_again_22_24, c0_g1 h, hn, bd_eq, if_neg c1, if_neg c2, hq, g, Option.isNone_none, cond_true]
      · have e : agaI f (nI k) = 1 := by rw [e0, g]; rfl
        have ct := c_copyTold (sc := sc) (d := d) (s := s) (B := 1) (C := B) (cS_t h) hB3 (by omega)
        unfold agaS
        rw [e, if_neg (by decide), nI_clamp (by omega)]
        simp only [uX6_again_0, uX6_again_4, uX6_again_13, uX6_again_22, uX6_again_24, qX6_again_0, qX6_again_4, qX6_again_13, qX6_again_22, qX6_again_24, jX6_again_4_22, jX6_again_13_22, jX6_again_22_24, c0_g0 h, c0_g1 h, hn, bd_eq, if_neg c1, if_neg c2, hq, g, Option.isNone_some, cond_false, c1_v h, cond_true, ct, xcv_eq]
theorem agaS_TB {s : SG} {f : Nat → Option Nat} {x : Int32} (ks : KS K s f) (tb : TB s 1) : TB (agaS s f x) 1 := by
  unfold agaS
  split
  · exact tb
  · rename_i c1
    have c3 : x.toNatClampNeg < 3 := by
      unfold agaI at c1
      rcases Nat.lt_or_ge x.toNatClampNeg 3 with q | q
      · exact q
      · exfalso; apply c1
        by_cases c2 : x < 0
        · rw [if_pos c2]
        · rw [if_neg c2, if_pos]
          have e := Int32.cast_toNatClampNeg x (Int32.not_lt.mp c2)
          rw [Int32.le_iff_toInt_le]
          have : (3 : Int32).toInt = 3 := by decide
          omega
    rcases ks.2 _ c3 with g | ⟨B, g, hB1, hB2, hB3, hB4⟩
    · rw [g]; exact tb
    · rw [g]; exact cpTS_TB (by omega) hB4
theorem agaS_n {s : SG} {f : Nat → Option Nat} {x : Int32} {c : Nat} (hc : 42 ≤ c) : agaS s f x c = s c := by
  unfold agaS
  split
  · rfl
  · cases f x.toNatClampNeg with
    | none => rfl
    | some B => exact cpTS_n (s := s) (B := 1) (C := B) (c := c) (by omega)
end XCR
