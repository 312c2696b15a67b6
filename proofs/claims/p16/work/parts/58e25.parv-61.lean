section
section XUC
variable {sc : Nat × (Nat → Int32)} {d : Nat} {K : List KD} {r q t a B m : Nat} {w : EW}
/-! coalitions on both sides -/
section CO
variable {s v : SG} {o n V : Nat} {x y1 y2 : Int32}
theorem least_8 (h : RQ s r v o n V) : ∀ (i m z : Nat) (y : Int32), m + i = n → (y = 0 ∨ y = 1) → pc (RisLeast_8 (RisLeast_R z) v x y (nI m)) (fun c => c = if y = 0 then 0 else islIL s r i m x) := by
  have hn := h.2.1.1
  intro i
  induction i with
  | zero =>
    intro m z y hm hy
    unfold RisLeast_8
    rw [q_ministers (rq_RH h), (rq_n h).1]
    show pc (if nI n ≤ nI m then (bif xrt 4 y then some y else none) else _) _
    rw [if_pos (nI_le2 (by omega) (by omega))]
    intro c hc
    rw [islIL]
    rcases hy with rfl | rfl
    · rw [if_pos rfl]
      cases hx : xrt 4 0 with
      | false => rw [hx] at hc; cases hc
      | true => rw [hx] at hc; cases hc; rfl
    · rw [if_neg (by decide)]
      cases hx : xrt 4 1 with
      | false => rw [hx] at hc; cases hc
      | true => rw [hx] at hc; cases hc; rfl
  | succ i ih =>
    intro m z y hm hy
    have go : ∀ (y' : Int32) (Q : Int32 → Prop), (y' = 0 ∨ y' = 1) → (∀ c, (c = if y' = 0 then 0 else islIL s r i (m + 1) x) → Q c) → pc ((RisLeast_R z) v x y' (nI m + 1)) Q := by
      intro y' Q hy' hq
      cases z with
      | zero => exact fun _ e => nomatch e
      | succ z =>
        show pc (RisLeast_8 (RisLeast_R z) v x y' (nI m + 1)) Q
        rw [← nI_succ]
        exact pc_w (ih (m + 1) z y' (by omega) hy') hq
    unfold RisLeast_8
    rw [q_ministers (rq_RH h), (rq_n h).1]
    show pc (if nI n ≤ nI m then _ else _) _
    rw [if_neg (nI_ge (by omega) (by omega))]
    have e : islIL s r (i + 1) m x = if hasI x (nI m) = 0 then islIL s r i (m + 1) x else if votT s r (x &&& ((1 <<< (nI m &&& 31)) ^^^ (-1))) < s r 9 then islIL s r i (m + 1) x else 0 := by rw [islIL]
    rw [e]
    have bit : ∀ b : Int32, (b &&& 1 = 0) ∨ (b &&& 1 = 1) := by
      intro b
      have q : (b &&& 1).toBitVec = b.toBitVec &&& 1#32 := rfl
      by_cases c : b.toBitVec.getLsbD 0 = true
      · refine Or.inr (Int32.toBitVec_inj.mp (BitVec.eq_of_getLsbD_eq (fun k hk => ?_)))
        rw [q, BitVec.getLsbD_and]
        by_cases k0 : k = 0
        · subst k0; rw [c]; rfl
        · have z : ∀ k, k < 32 → ¬ k = 0 → (1#32).getLsbD k = false := by decide
          rw [z k hk k0, Bool.and_false]; exact (z k hk k0).symm
      · refine Or.inl (Int32.toBitVec_inj.mp (BitVec.eq_of_getLsbD_eq (fun k hk => ?_)))
        rw [q, BitVec.getLsbD_and]
        have z0 : ∀ k, k < 32 → (0 : Int32).toBitVec.getLsbD k = false := by decide
        rw [z0 k hk]
        by_cases k0 : k = 0
        · subst k0; rw [Bool.eq_false_iff.mpr c]; rfl
        · have z : ∀ k, k < 32 → ¬ k = 0 → (1#32).getLsbD k = false := by decide
          rw [z k hk k0, Bool.and_false]
    rcases hy with rfl | rfl
    · rw [if_pos rfl]
      refine go 0 _ (Or.inl rfl) (fun c hc => ?_)
      rw [if_pos rfl] at hc ⊢; exact hc
    · rw [if_neg (show ¬ (1 : Int32) = 0 by decide)]
      by_cases c : (x >>> (nI m &&& 31)) &&& 1 = 1
      · rw [if_neg (show ¬ (x >>> (nI m &&& 31)) &&& 1 = 0 by rw [c]; decide), bg_eno h]
        show pc (if (if votT s r (x &&& ((1 <<< (nI m &&& 31)) ^^^ (-1))) < s r 9 then (0 : Int32) else 1) = 0 then _ else _) _
        by_cases g : votT s r (x &&& ((1 <<< (nI m &&& 31)) ^^^ (-1))) < s r 9
        · rw [if_pos g, if_pos rfl]
          refine go 1 _ (Or.inr rfl) (fun c' hc => ?_)
          rw [if_neg (show ¬ (1 : Int32) = 0 by decide)] at hc ⊢
          rw [if_neg (fun k => ((has_b (by omega)).1 k) c), if_pos g]; exact hc
        · rw [if_neg g, if_neg (show ¬ (1 : Int32) = 0 by decide)]
          refine go 0 _ (Or.inl rfl) (fun c' hc => ?_)
          rw [if_pos rfl] at hc
          rw [if_neg (show ¬ (1 : Int32) = 0 by decide), if_neg (fun k => ((has_b (by omega)).1 k) c), if_neg g]; exact hc
      · rw [if_pos ((bit _).resolve_right c)]
        refine go 1 _ (Or.inr rfl) (fun c' hc => ?_)
        rw [if_neg (show ¬ (1 : Int32) = 0 by decide)] at hc ⊢
        rw [if_pos ((has_b (by omega)).2 c)]; exact hc
theorem least_v (h : RQ s r v o n V) : pc (RisLeast v x) (fun c => c = islI s r x) := by
  obtain ⟨_, _, e3⟩ := rq_n h
  unfold RisLeast islI
  rw [bg_eno h, e3]
  show pc (RisLeast_8 (RisLeast_R xF) v x (if votT s r x < s r 9 then 0 else 1) (nI 0)) _
  by_cases g : votT s r x < s r 9
  · rw [if_pos g, if_neg (Int32.not_le.mpr g)]
    refine pc_w (least_8 h n 0 xF 0 (by omega) (Or.inl rfl)) (fun c hc => ?_)
    rw [if_pos rfl] at hc; exact hc
  · rw [if_neg g, if_pos (Int32.not_lt.mp g)]
    refine pc_w (least_8 h n 0 xF 1 (by omega) (Or.inr rfl)) (fun c hc => ?_)
    rw [if_neg (by decide)] at hc; exact hc
theorem key_4 (h : RQ s r v o n V) : ∀ (i m z : Nat) (y : Int32), m + i = n → pc (Rkey_4 (Rkey_R z) v y (nI m)) (fun c => c = keyIL s r i m y) := by
  have hn := h.2.1.1
  intro i
  induction i with
  | zero =>
    intro m z y hm
    unfold Rkey_4
    rw [q_ministers (rq_RH h), (rq_n h).1]
    show pc (if nI n ≤ nI m then some y else _) _
    rw [if_pos (nI_le2 (by omega) (by omega))]
    exact pc_s (by rw [keyIL])
  | succ i ih =>
    intro m z y hm
    have go : ∀ (y' : Int32) (Q : Int32 → Prop), (∀ c, c = keyIL s r i (m + 1) y' → Q c) → pc ((Rkey_R z) v y' (nI m + 1)) Q := by
      intro y' Q hq
      cases z with
      | zero => exact fun _ e => nomatch e
      | succ z =>
        show pc (Rkey_4 (Rkey_R z) v y' (nI m + 1)) Q
        rw [← nI_succ]
        exact pc_w (ih (m + 1) z y' (by omega)) hq
    unfold Rkey_4
    rw [q_ministers (rq_RH h), (rq_n h).1]
    show pc (if nI n ≤ nI m then _ else _) _
    rw [if_neg (nI_ge (by omega) (by omega)), bg_all h]
    show pc ((RisEnough v (allI s r &&& ((1 <<< (nI m &&& 31)) ^^^ (-1)))).bind _) _
    rw [bg_eno h]
    have e : keyIL s r (i + 1) m y = if s r 9 ≤ votT s r (allI s r &&& ((1 <<< (nI m &&& 31)) ^^^ (-1))) then keyIL s r i (m + 1) y else keyIL s r i (m + 1) (y ||| (1 <<< (nI m &&& 31))) := by rw [keyIL]
    rw [e]
    show pc (if (if votT s r (allI s r &&& ((1 <<< (nI m &&& 31)) ^^^ (-1))) < s r 9 then (0 : Int32) else 1) = 0 then _ else _) _
    by_cases g : votT s r (allI s r &&& ((1 <<< (nI m &&& 31)) ^^^ (-1))) < s r 9
    · rw [if_pos g, if_pos rfl, if_neg (Int32.not_le.mpr g)]
      exact go _ _ (fun c hc => hc)
    · rw [if_neg g, if_neg (show ¬ (1 : Int32) = 0 by decide), if_pos (Int32.not_lt.mp g), or_0]
      exact go _ _ (fun c hc => hc)
theorem key_v (h : RQ s r v o n V) : pc (Rkey v) (fun c => c = keyI s r) := by
  obtain ⟨_, _, e3⟩ := rq_n h
  unfold Rkey keyI
  rw [e3]
  exact key_4 h n 0 xF 0 (by omega)
theorem coa_33 (h : RQ s r v o n V) (zr : SZ s r) : ∀ (i j z : Nat) (y3 : Int32), j + i = al s r + 1 → pc (Rcoalition_33 (Rcoalition_R z) v y1 y2 y3 (nI j)) (fun p => p.1 = lecIL s r i j y2 y3) := by
  intro i
  induction i with
  | zero =>
    intro j z y3 hj
    unfold Rcoalition_33
    rw [bg_all h]
    show pc (if allI s r < nI j then _ else _) _
    rw [if_pos (al_gt zr hj), lecIL]
    by_cases c : y2 = -1
    · rw [if_pos c, if_pos c]; exact pc_s rfl
    · rw [if_neg c, if_neg c]; exact pc_s rfl
  | succ i ih =>
    intro j z y3 hj
    have go : ∀ (y' : Int32), pc ((Rcoalition_R z) v y1 y2 y' (nI j + 1)) (fun p => p.1 = lecIL s r i (j + 1) y2 y') := by
      intro y'
      cases z with
      | zero => exact fun _ e => nomatch e
      | succ z =>
        show pc (Rcoalition_33 (Rcoalition_R z) v y1 y2 y' (nI j + 1)) _
        rw [← nI_succ]
        exact ih (j + 1) z y' (by omega)
    unfold Rcoalition_33
    rw [bg_all h]
    show pc (if allI s r < nI j then _ else _) _
    rw [if_neg (al_le zr hj), lecIL]
    refine pc_b (least_v h) (fun c hc => ?_)
    subst hc
    by_cases k1 : islI s r (nI j) = 0
    · rw [if_pos k1, if_pos k1]; exact go y3
    · rw [if_neg k1, if_neg k1]
      by_cases k2 : y3 = y2
      · rw [if_pos k2, if_pos k2]; exact pc_s rfl
      · rw [if_neg k2, if_neg k2]; exact go (y3 + 1)
end CO
/-- a told republic that a query means, on both sides -/
theorem rep_v {s : SG} {x1 : Int32} (hn : SIMn s) (rr : RI s) : (repO s x1 = none ∧ RisRepublic s x1 = some (0, s)) ∨ ∃ j u n V, j < 2 ∧ repO s x1 = some (6 + 8 * j) ∧ RisRepublic s x1 = some u ∧ u.1 = 1 ∧ RQ s (6 + 8 * j) u.2 (610 + 118 * j) n V ∧ SZ s (6 + 8 * j) ∧ u.2 65 = s 65 ∧ u.2 64 18 = allI s (6 + 8 * j) := by
  obtain ⟨n0, en, hn2⟩ := rr.1.1 0 (by omega)
  rcases rep_sel (x := x1) hn en hn2 with ⟨z, e⟩ | ⟨j, hj, hjn, ex, z, e⟩
  · exact Or.inl ⟨e, isRep_n z⟩
  · obtain ⟨u, eu, u1, u65, u11, u18, u20, u21, u22⟩ := isRep_v hj ex z
    have rq0 := rep_q hn hj en hn2 hjn
    rw [← u65] at rq0
    obtain ⟨n, V, rq⟩ := RQ_of rq0 u11 (by omega)
    obtain ⟨_, _, e3⟩ := rq_n rq
    refine Or.inr ⟨j, u, n, V, hj, e, eu, u1, rq, ⟨by rw [e3]; exact rq.2.2.1.1, by rw [e3]; exact rq.2.1.1⟩, u65, ?_⟩
    rw [u18, rq_all rq, ← u65, rq.2.2.1.2]
theorem CE_coalition {s : SG} {x1 x2 : Int32} (hP : wLoc SIM1) (h : INVP SIM1 K s) : ∃ v s1 s2, xN sc (d + 11) 108 [.inr (.inr (.inl (some 0))), .inl x1, .inl x2] (wl K s) = some (some (.inl v), wl K s1) ∧ xN sc (d + 11) 244 [.inr (.inr (.inl (some 64))), .inl x1, .inl x2] (wl K s1) = some (some (.inl v), wl K s2) ∧ INVP SIM1 K s2 := by
  have hK := INVP_SH h
  have hn := SIM_n.1 (INVP_P h)
  have rr := INVP_RI h
  have q2 := r_coalition (sc := sc) (d := d + 5) (s := s) (x1 := x1) (x2 := x2) hK
  obtain ⟨p, e2, qi⟩ : ok (Rcoalition s x1 x2) (fun p => QI s p.2) := coalition_ok rr
  rw [e2] at q2
  have I := INVP_q hP h (s1 := s) (fun _ _ => rfl) qi
  unfold Rcoalition at e2
  rcases rep_v (x1 := x1) hn rr with ⟨e0, er⟩ | ⟨j, u, n, V, hj, e0, er, u1, rq, zr, u65, u18⟩
  · rw [er] at e2
    rw [Option.bind_some, if_pos rfl] at e2
    have ep : p.1 = -3 := by cases e2; rfl
    exact ⟨p.1, s, p.2, by rw [ep]; exact c_coaI_a (sc := sc) (d := d + 8) (s := s) (x := x1) (v := x2) hK e0, q2, I⟩
  · rw [er] at e2
    replace e2 : (if u.1 = 0 then some (-3, u.2) else if (-2) ≤ x2 then (if x2 = (-2) then ((Rkey u.2).bind fun q2 => some (q2, u.2)) else Rcoalition_33 (Rcoalition_R xF) u.2 x1 x2 (0) (0)) else some (-3, u.2)) = some p := e2
    rw [if_neg (show ¬ u.1 = 0 by rw [u1]; decide)] at e2
    have cc := c_coaI_b (sc := sc) (d := d + 6) (s := s) (x := x1) (v := x2) (rp_j hK hj) hK e0 zr
    refine ⟨p.1, s, p.2, ?_, q2, I⟩
    rw [cc]
    have fin : coaIb s (6 + 8 * j) x2 = p.1 := by
      unfold coaIb
      by_cases c1 : -2 ≤ x2
      · rw [if_pos c1] at e2 ⊢
        by_cases c2 : x2 = -2
        · rw [if_pos c2] at e2 ⊢
          have k : pc ((Rkey u.2).bind fun q2 => some (q2, u.2)) (fun p => p.1 = keyI s (6 + 8 * j)) := pc_b (key_v rq) (fun c hc => pc_s hc)
          exact (k p e2).symm
        · rw [if_neg c2] at e2 ⊢
          exact (coa_33 (y1 := x1) (y2 := x2) rq zr (al s (6 + 8 * j) + 1) 0 xF 0 (by omega) p e2).symm
      · rw [if_neg c1] at e2 ⊢
        cases e2; rfl
    rw [fin]
end XUC
end
section
section XUD
variable {sc : Nat × (Nat → Int32)} {d : Nat} {K : List KD} {r q t a B m : Nat} {w : EW}
/-! power on both sides -/
theorem bit_e : ∀ a, a < 64 → bitI (nI a) = bsL (nI a) 31 0 0 := by decide +kernel
theorem bit_n : ∀ n, n < 7 → ∀ m, m < n → ∀ a, a < 2 ^ n → ¬ (nI a >>> (nI m &&& 31)) &&& 1 = 1 → ∃ b, b < n ∧ bitI (nI a) = nI b := by decide +kernel
theorem fac_e : ∀ k, k < 7 → facI (nI k) = nI (fcN k) := by decide +kernel
theorem com_r {y0 y1 : Int32} : ∀ (b a k : Nat), a < 2 ^ 31 → b < 2 ^ 31 → pc (Rcommon_4 (Rcommon_R k) y0 y1 (nI a) (nI b)) (fun v => v = nI (Nat.gcd b a)) := by
  intro b
  induction b using Nat.strongRecOn with
  | _ b ih =>
    intro a k ha hb
    unfold Rcommon_4
    by_cases h0 : b = 0
    · subst h0
      rw [if_pos (show nI 0 = (0 : Int32) from rfl), Nat.gcd_zero_left]
      exact pc_s rfl
    · have hne : ¬ nI b = (0 : Int32) := fun h => h0 (nI_inj hb (by decide) h)
      rw [if_neg hne, if_neg hne, nI_mod ha (by omega) hb]
      have hm : a % b < b := Nat.mod_lt _ (by omega)
      cases k with
      | zero => exact fun _ e => nomatch e
      | succ k =>
        rw [Nat.gcd_rec]
        exact ih (a % b) hm b k hb (by omega)
theorem com_c {y0 y1 : Int32} : ∀ (h b a N j : Nat), b < 2 ^ h → 2 * h + 1 ≤ N → a < 2 ^ 31 → b < 2 ^ 31 → comIL N j y0 y1 (nI a) (nI b) = nI (Nat.gcd b a) := by
  intro h
  induction h with
  | zero =>
    intro b a N j hb hN ha hb2
    obtain ⟨N, rfl⟩ : ∃ N', N = N' + 1 := ⟨N - 1, by omega⟩
    have b0 : b = 0 := by rw [Nat.pow_zero] at hb; omega
    subst b0
    rw [comIL, if_pos (show nI 0 = (0 : Int32) from rfl), Nat.gcd_zero_left]
  | succ h ih =>
    intro b a N j hb hN ha hb2
    obtain ⟨N, rfl⟩ : ∃ N', N = N' + 1 + 1 := ⟨N - 2, by omega⟩
    rw [comIL]
    by_cases h0 : b = 0
    · subst h0
      rw [if_pos (show nI 0 = (0 : Int32) from rfl), Nat.gcd_zero_left]
    · have hne : ¬ nI b = (0 : Int32) := fun g => h0 (nI_inj hb2 (by decide) g)
      have hc : a % b < b := Nat.mod_lt _ (by omega)
      rw [if_neg hne, nI_mod ha (by omega) hb2, Nat.gcd_rec b a]
      generalize a % b = c at hc
      rw [comIL]
      by_cases c0 : c = 0
      · subst c0
        rw [if_pos (show nI 0 = (0 : Int32) from rfl), Nat.gcd_zero_left]
      · have hne2 : ¬ nI c = (0 : Int32) := fun g => c0 (nI_inj (by omega) (by decide) g)
        have he : b % c < c := Nat.mod_lt _ (by omega)
        have e2 : b % c + c * (b / c) = b := Nat.mod_add_div b c
        have q1 : 1 ≤ b / c := Nat.div_pos (Nat.le_of_lt hc) (by omega)
        have q2 : c * 1 ≤ c * (b / c) := Nat.mul_le_mul_left c q1
        rw [if_neg hne2, nI_mod hb2 (by omega) (by omega), Nat.gcd_rec c b]
        refine ih (b % c) c N _ ?_ (by omega) (by omega) (by omega)
        rw [Nat.pow_succ] at hb
        omega
theorem part_v {a b : Nat} {u : Int32} (ha : a < 2 ^ 31) (hb2 : b ≤ 720) : pc (Rpart (nI a) (nI b) u) (fun v => v = fraI (nI a) (nI b) u) := by
  have ec : comI (nI a) (nI b) = nI (Nat.gcd b a) := com_c 10 b a 64 0 (by omega) (by decide) ha (by omega)
  have e9 : ∀ v, pc (Rpart_9 (nI a) (nI b) u v) (fun x => ¬ nI (Nat.gcd b a) = 0 ∧ x = v / nI (Nat.gcd b a)) := by
    intro v
    unfold Rpart_9 Rcommon
    refine pc_b (com_r b a xF ha (by omega)) (fun g hg => ?_)
    subst hg
    by_cases c : nI (Nat.gcd b a) = 0
    · rw [if_pos c]; exact fun _ e => nomatch e
    · rw [if_neg c]; exact pc_s ⟨c, rfl⟩
  unfold Rpart fraI
  rw [ec]
  by_cases u0 : u = 0
  · rw [if_pos u0]
    refine pc_w (e9 _) (fun x hx => ?_)
    rw [if_neg hx.1, if_pos u0]; exact hx.2
  · rw [if_neg u0]
    refine pc_w (e9 _) (fun x hx => ?_)
    rw [if_neg hx.1, if_neg u0]; exact hx.2
section PW
variable {s v : SG} {o n V : Nat} {y1 y3 : Int32}
theorem pow_30 (h : RQ s r v o n V) (zr : SZ s r) (hm : m < n) : ∀ (i j z c : Nat), j + i = al s r + 1 → c ≤ j * 518400 → pc (Rpower_30 (Rpower_R z) v y1 (nI m) y3 (nI n) (nI c) (nI j)) (fun p => p.1 = fraI (rodIL s r i j (nI m) (nI c)) (facI (nI n)) y3) := by
  have hn := h.2.1.1
  obtain ⟨_, _, e3⟩ := rq_n h
  have hal : al s r + 1 = 2 ^ n := by
    unfold al
    rw [e3]
    have : 0 < 2 ^ n := Nat.two_pow_pos n
    omega
  have h64 : 2 ^ n ≤ 2 ^ 6 := Nat.pow_le_pow_right (by decide) hn
  intro i
  induction i with
  | zero =>
    intro j z c hj hc
    have f := fact_ok (m := n) hn
    unfold Rpower_30
    rw [bg_all h]
    show pc (if allI s r < nI j then _ else _) _
    rw [if_pos (al_gt zr hj), f.1]
    show pc ((Rpart (nI c) (nI (fcN n)) y3).bind fun q3 => some (q3, v)) _
    have hc2 : c ≤ 33177600 := Nat.le_trans hc (Nat.mul_le_mul_right 518400 (by omega : j ≤ 64))
    refine pc_b (part_v (by omega) f.2.1) (fun x hx => pc_s ?_)
    rw [fac_e n (by omega), rodIL]; exact hx
  | succ i ih =>
    intro j z c hj hc
    have hj64 : j < 2 ^ n := by omega
    have go : ∀ c2, c2 ≤ (j + 1) * 518400 → pc ((Rpower_R z) v y1 (nI m) y3 (nI n) (nI c2) (nI j + 1)) (fun p => p.1 = fraI (rodIL s r i (j + 1) (nI m) (nI c2)) (facI (nI n)) y3) := by
      intro c2 h2
      cases z with
      | zero => exact fun _ e => nomatch e
      | succ z =>
        show pc (Rpower_30 (Rpower_R z) v y1 (nI m) y3 (nI n) (nI c2) (nI j + 1)) _
        rw [← nI_succ]
        exact ih (j + 1) z c2 (by omega) h2
    have same := go c (Nat.le_trans hc (Nat.mul_le_mul_right _ (by omega)))
    unfold Rpower_30
    rw [bg_all h]
    show pc (if allI s r < nI j then _ else _) _
    rw [if_neg (al_le zr hj), rodIL]
    by_cases k1 : (nI j >>> (nI m &&& 31)) &&& 1 = 1
    · rw [if_pos k1, if_neg (fun g => ((has_b (by omega)).1 g) k1)]
      exact same
    · rw [if_neg k1, if_pos ((has_b (by omega)).2 k1), bg_eno h]
      show pc (if (if votT s r (nI j) < s r 9 then (0 : Int32) else 1) = 0 then _ else _) _
      by_cases k2 : votT s r (nI j) < s r 9
      · rw [if_pos k2, if_pos rfl, if_neg (Int32.not_le.mpr k2), bg_eno h]
        show pc (if (if votT s r (nI j ||| (1 <<< (nI m &&& 31))) < s r 9 then (0 : Int32) else 1) = 0 then _ else _) _
        by_cases k3 : votT s r (nI j ||| (1 <<< (nI m &&& 31))) < s r 9
        · rw [if_pos k3, if_pos rfl, if_pos k3]
          exact same
        · rw [if_neg k3, if_neg (show ¬ (1 : Int32) = 0 by decide), if_neg k3]
          obtain ⟨b, hb, eb⟩ := bit_n n (by omega) m hm j hj64 k1
          obtain ⟨b2, hb2, er, _, eb2⟩ := bits_ok2 (a := j) (by omega)
          have ebb : b2 = b := nI_inj (by omega) (by omega) (by rw [← eb2, ← bit_e j (by omega), eb])
          subst ebb
          have f1 := fact_ok (m := b2) (by omega)
          have f2 := fact_ok (m := n - 1 - b2) (by omega)
          have i1 : nI n - 1 - nI b2 = nI (n - 1 - b2) := by
            show nI n - nI 1 - nI b2 = _
            rw [nI_subn (by omega), nI_subn (by omega)]
          have i2 : s r 0 - nI b2 - 1 = nI (n - 1 - b2) := by
            rw [h.2.2.1.1]
            show nI n - nI b2 - nI 1 = _
            rw [nI_subn (by omega), nI_subn (by omega)]; congr 1; omega
          rw [er]
          show pc ((Rfactorial (nI b2)).bind _) _
          rw [f1.1]
          show pc ((Rfactorial (nI n - 1 - nI b2)).bind _) _
          rw [i1, f2.1]
          show pc ((Rpower_R z) v y1 (nI m) y3 (nI n) (nI c + (nI (fcN b2) * nI (fcN (n - 1 - b2)))) (nI j + 1)) _
          rw [eb, i2, fac_e b2 (by omega), fac_e (n - 1 - b2) (by omega), nI_mulx, nI_add]
          refine go _ ?_
          rw [Nat.succ_mul]
          exact Nat.add_le_add hc (Nat.mul_le_mul f1.2.1 f2.2.1)
      · rw [if_neg k2, if_neg (show ¬ (1 : Int32) = 0 by decide), if_pos (Int32.not_lt.mp k2)]
        exact same
end PW
theorem CE_power {s : SG} {x1 x2 x3 : Int32} (hP : wLoc SIM1) (h : INVP SIM1 K s) : ∃ v s1 s2, xN sc (d + 11) 106 [.inr (.inr (.inl (some 0))), .inl x1, .inl x2, .inl x3] (wl K s) = some (some (.inl v), wl K s1) ∧ xN sc (d + 11) 241 [.inr (.inr (.inl (some 64))), .inl x1, .inl x2, .inl x3] (wl K s1) = some (some (.inl v), wl K s2) ∧ INVP SIM1 K s2 := by
  have hK := INVP_SH h
  have hn := SIM_n.1 (INVP_P h)
  have rr := INVP_RI h
  have q2 := r_power (sc := sc) (d := d + 6) (s := s) (x1 := x1) (x2 := x2) (x3 := x3) hK
  obtain ⟨p, e2, qi⟩ : ok (Rpower s x1 x2 x3) (fun p => QI s p.2) := power_ok rr
  rw [e2] at q2
  have I := INVP_q hP h (s1 := s) (fun _ _ => rfl) qi
  unfold Rpower at e2
  rcases rep_v (x1 := x1) hn rr with ⟨e0, er⟩ | ⟨j, u, n, V, hj, e0, er, u1, rq, zr, u65, u18⟩
  · rw [er] at e2
    rw [Option.bind_some, if_pos rfl] at e2
    have ep : p.1 = -1 := by cases e2; rfl
    exact ⟨p.1, s, p.2, by rw [ep]; exact c_powI_a (sc := sc) (d := d + 8) (s := s) (x := x1) (y := x2) (g := x3) hK e0, q2, I⟩
  · have nn6 := rq.2.1.1
    have mn : RisMinister u.2 x2 = some (inI x2 0 (nI n - 1)) := by
      unfold RisMinister
      rw [q_ministers (rq_RH rq), (rq_n rq).1]; rfl
    rw [er] at e2
    replace e2 : (if u.1 = 0 then some (-1, u.2) else (RisMinister u.2 x2).bind fun q2 => if q2 = 0 then some (-1, u.2) else (Rministers u.2).bind fun q3 => Rpower_30 (Rpower_R xF) u.2 x1 x2 x3 q3 (0) (0)) = some p := e2
    rw [if_neg (show ¬ u.1 = 0 by rw [u1]; decide), mn] at e2
    replace e2 : (if inI x2 0 (nI n - 1) = 0 then some (-1, u.2) else (Rministers u.2).bind fun q3 => Rpower_30 (Rpower_R xF) u.2 x1 x2 x3 q3 (0) (0)) = some p := e2
    have cc := c_powI_b (sc := sc) (d := d + 7) (s := s) (x := x1) (y := x2) (g := x3) (rp_j hK hj) hK e0 zr
    refine ⟨p.1, s, p.2, ?_, q2, I⟩
    rw [cc]
    have fin : powIb s (6 + 8 * j) x2 x3 = p.1 := by
      unfold powIb
      by_cases c1 : inI x2 0 (nI n - 1) = 0
      · rw [if_pos c1] at e2
        have m0 : minI s (6 + 8 * j) x2 = 0 := by
          unfold minI
          rw [rq.2.2.1.1]
          rcases (iz_m (by omega)).1 c1 with g | g
          · rw [if_pos g]
          · rw [if_pos g]; split <;> rfl
        rw [if_pos m0]
        cases e2; rfl
      · rw [if_neg c1, q_ministers (rq_RH rq), (rq_n rq).1] at e2
        replace e2 : Rpower_30 (Rpower_R xF) u.2 x1 x2 x3 (nI n) (nI 0) (nI 0) = some p := e2
        have m0 : ¬ minI s (6 + 8 * j) x2 = 0 := by
          unfold minI
          rw [rq.2.2.1.1, if_neg (fun g => c1 ((iz_m (by omega)).2 (Or.inl g))), if_neg (fun g => c1 ((iz_m (by omega)).2 (Or.inr g)))]; decide
        rw [if_neg m0]
        obtain ⟨m, em, hm⟩ := inI_sub (by omega) c1
        rw [em] at e2 ⊢
        have L := pow_30 (y1 := x1) (y3 := x3) rq zr hm (al s (6 + 8 * j) + 1) 0 xF 0 (by omega) (by omega) p e2
        rw [L, rq.2.2.1.1]; rfl
    rw [fin]
end XUD
end
section
section XSF
variable {sc : Nat × (Nat → Int32)} {d : Nat} {K : List KD} {s : SG}
/-! the law: answers that are the same, all that is told kept the same -/
theorem CE_feed {x1 x2 x3 x4 x5 : Int32} (hP : PGd SIM1) (h : INVP SIM1 K s) : ∃ v s1 s2, xN sc (d + 11) 72 [.inr (.inr (.inl (some 0))), .inl x1, .inl x2, .inl x3, .inl x4, .inl x5] (wl K s) = some (some (.inl v), wl K s1) ∧ xN sc (d + 11) 151 [.inr (.inr (.inl (some 64))), .inl x1, .inl x2, .inl x3, .inl x4, .inl x5] (wl K s1) = some (some (.inl v), wl K s2) ∧ INVP SIM1 K s2 := by
  obtain ⟨p, s2, e1, e2, e3, i⟩ := CQ_feed (sc := sc) (d := d) (x1 := x1) (x2 := x2) (x3 := x3) (x4 := x4) (x5 := x5) hP h
  have e := (FD_sim (INVP_TB h) (INVP_RI h) (INVP_P h) e3).1
  rw [e] at e1
  exact ⟨_, _, s2, e1, e2, i⟩
theorem CE_end {x1 : Int32} (hP : PGd SIM1) (h : INVP SIM1 K s) : ∃ v s1 s2, xN sc (d + 11) 74 [.inr (.inr (.inl (some 0))), .inl x1] (wl K s) = some (some (.inl v), wl K s1) ∧ xN sc (d + 11) 152 [.inr (.inr (.inl (some 64))), .inl x1] (wl K s1) = some (some (.inl v), wl K s2) ∧ INVP SIM1 K s2 := by
  obtain ⟨p, s2, e1, e2, e3, i⟩ := CQ_end (sc := sc) (d := d) (x1 := x1) hP h
  have e := (EN_sim (INVP_P h) e3).1
  rw [e] at e1
  exact ⟨_, _, s2, e1, e2, i⟩
theorem CE_text {x1 x2 : Int32} (hP : PGd SIM1) (h : INVP SIM1 K s) : ∃ v s1 s2, xN sc (d + 11) 75 [.inr (.inr (.inl (some 0))), .inl x1, .inl x2] (wl K s) = some (some (.inl v), wl K s1) ∧ xN sc (d + 11) 185 [.inr (.inr (.inl (some 64))), .inl x1, .inl x2] (wl K s1) = some (some (.inl v), wl K s2) ∧ INVP SIM1 K s2 := by
  obtain ⟨p, s2, e1, e2, e3, i⟩ := CQ_text (sc := sc) (d := d) (x1 := x1) (x2 := x2) hP h
  have e := (TX_sim (INVP_TB h) (INVP_RI h) (INVP_P h) e3).1
  rw [e] at e1
  exact ⟨_, _, s2, e1, e2, i⟩
theorem CE_fault {x1 : Int32} (_hP : wLoc SIM1) (h : INVP SIM1 K s) : ∃ v s1 s2, xN sc (d + 11) 78 [.inr (.inr (.inl (some 0))), .inl x1] (wl K s) = some (some (.inl v), wl K s1) ∧ xN sc (d + 11) 186 [.inr (.inr (.inl (some 64))), .inl x1] (wl K s1) = some (some (.inl v), wl K s2) ∧ INVP SIM1 K s2 := by
  have hK := INVP_SH h
  have hn := SIM_n.1 (INVP_P h)
  have q2 := r_fault (sc := sc) (d := d + 10) (s := s) (x1 := x1) hK
  have e : Rfault s x1 = some (fauI s x1) := by
    unfold Rfault fauI
    by_cases c0 : x1 = 0
    · rw [if_pos c0, if_pos c0, rd_nI (x := 7) (e := 7) rfl (by decide) (by decide), hn.1.2.1]; rfl
    · rw [if_neg c0, if_neg c0]
      by_cases c1 : x1 = 1
      · rw [if_pos c1, if_pos c1, rd_nI (x := 8) (e := 8) rfl (by decide) (by decide), hn.1.2.2]; rfl
      · rw [if_neg c1, if_neg c1]
  rw [e] at q2
  exact ⟨fauI s x1, s, s, c_fault (sc := sc) (d := d + 10) (s := s) (w := x1) hK, q2, h⟩
theorem CE_count {x1 : Int32} (_hP : wLoc SIM1) (h : INVP SIM1 K s) : ∃ v s1 s2, xN sc (d + 11) 79 [.inr (.inr (.inl (some 0))), .inl x1] (wl K s) = some (some (.inl v), wl K s1) ∧ xN sc (d + 11) 280 [.inr (.inr (.inl (some 64))), .inl x1] (wl K s1) = some (some (.inl v), wl K s2) ∧ INVP SIM1 K s2 := by
  have hK := INVP_SH h
  have hn := SIM_n.1 (INVP_P h)
  have q2 := r_count (sc := sc) (d := d + 9) (s := s) (x1 := x1) hK
  have e : Rcount s x1 = some (couI s x1) := by
    unfold Rcount couI
    by_cases c0 : inI x1 0 5 = 0
    · rw [if_pos c0]
      rcases inI5_n.1 c0 with g | g
      · rw [if_pos g]
      · rw [if_pos (Int32.not_lt.mp g)]; split <;> rfl
    · obtain ⟨k, ek, hk⟩ := inI_nI (b := 5) (by decide) c0
      have g1 : ¬ x1 < 0 := fun g => c0 (inI5_n.2 (Or.inl g))
      have g2 : ¬ 6 ≤ x1 := fun g => c0 (inI5_n.2 (Or.inr (Int32.not_lt.mpr g)))
      rw [if_neg c0, if_neg g1, if_neg g2, rd_nI ek (by omega) (by decide), ek, cl_nI (by omega) (by decide), hn.2.2.1 k (by omega)]; rfl
  rw [e] at q2
  exact ⟨couI s x1, s, s, c_count (sc := sc) (d := d + 9) (s := s) (w := x1) hK, q2, h⟩
end XSF
end
section
section XRQ
variable {sc : Nat × (Nat → Int32)} {d : Nat} {K : List KD} {s : SG} {b : Nat → XL → List EV → EW → XR} {x a1 a2 a3 a4 a5 a6 a7 : Int32}
/-! the law: one call -/
theorem LS_feed (h : INVP SIM1 K s) (g1 : ∀ w, xdi sc w (x + 1) (.inr (.inr (.inr 2))) = some a1) (g2 : ∀ w, xdi sc w (x + 2) (.inr (.inr (.inr 2))) = some a2) (g3 : ∀ w, xdi sc w (x + 3) (.inr (.inr (.inr 2))) = some a3) (g4 : ∀ w, xdi sc w (x + 4) (.inr (.inr (.inr 2))) = some a4) (g5 : ∀ w, xdi sc w (x + 5) (.inr (.inr (.inr 2))) = some a5) : ∃ s2, INVP SIM1 K s2 ∧ fW sc 8 4 false 4 (xN sc (d + 11)) b kL_law_164 164 [some (.inr (.inr (.inr 2))), some (.inr (.inr (.inl (some 0)))), some (.inr (.inr (.inl (some 64)))), some (.inl x)] [] (wl K s) = fW sc 8 4 false 4 (xN sc (d + 11)) b kL_law_1621 1621 [some (.inr (.inr (.inr 2))), some (.inr (.inr (.inl (some 0)))), some (.inr (.inr (.inl (some 64)))), some (.inl x)] [] (wl K s2) := by
  have hK := INVP_SH h
  obtain ⟨p, s2, e1, e2, _, i2⟩ := CQ_feed (sc := sc) (d := d) (x1 := a1) (x2 := a2) (x3 := a3) (x4 := a4) (x5 := a5) SIM1_gd h
  refine ⟨s2, i2, ?_⟩
  simp only [uL_law_164, qL_law_164, jL_law_164_227, jL_law_164_250, jL_law_164_283, jL_law_164_306, jL_law_164_339, jL_law_164_382, jL_law_164_457, jL_law_164_560, jL_law_164_603, jL_law_164_678, jL_law_164_721, jL_law_164_764, jL_law_164_827, jL_law_164_890, jL_law_164_949, jL_law_164_982, jL_law_164_1085, jL_law_164_1172, jL_law_164_1215, jL_law_164_1258, jL_law_164_1301, jL_law_164_1344, jL_law_164_1393, jL_law_164_1436, jL_law_164_1499, jL_law_164_1552, jL_law_164_1575, jL_law_164_1598, jL_law_164_1621, jL_law_227_1621, g1, g2, g3, g4, g5, bd2, c0_v hK, c64_v hK, cond_true, e1, e2, xci_eq]
theorem LS_end (h : INVP SIM1 K s) (g1 : ∀ w, xdi sc w (x + 1) (.inr (.inr (.inr 2))) = some a1) : ∃ s2, INVP SIM1 K s2 ∧ fW sc 8 4 false 4 (xN sc (d + 11)) b kL_law_227 227 [some (.inr (.inr (.inr 2))), some (.inr (.inr (.inl (some 0)))), some (.inr (.inr (.inl (some 64)))), some (.inl x)] [] (wl K s) = fW sc 8 4 false 4 (xN sc (d + 11)) b kL_law_1621 1621 [some (.inr (.inr (.inr 2))), some (.inr (.inr (.inl (some 0)))), some (.inr (.inr (.inl (some 64)))), some (.inl x)] [] (wl K s2) := by
  have hK := INVP_SH h
  obtain ⟨p, s2, e1, e2, _, i2⟩ := CQ_end (sc := sc) (d := d) (x1 := a1) SIM1_gd h
  refine ⟨s2, i2, ?_⟩
  simp only [uL_law_227, qL_law_227, jL_law_227_1621, jL_law_250_1621, g1, bd2, c0_v hK, c64_v hK, cond_true, e1, e2, xci_eq]
theorem LS_text (h : INVP SIM1 K s) (g1 : ∀ w, xdi sc w (x + 1) (.inr (.inr (.inr 2))) = some a1) (g2 : ∀ w, xdi sc w (x + 2) (.inr (.inr (.inr 2))) = some a2) : ∃ s2, INVP SIM1 K s2 ∧ fW sc 8 4 false 4 (xN sc (d + 11)) b kL_law_250 250 [some (.inr (.inr (.inr 2))), some (.inr (.inr (.inl (some 0)))), some (.inr (.inr (.inl (some 64)))), some (.inl x)] [] (wl K s) = fW sc 8 4 false 4 (xN sc (d + 11)) b kL_law_1621 1621 [some (.inr (.inr (.inr 2))), some (.inr (.inr (.inl (some 0)))), some (.inr (.inr (.inl (some 64)))), some (.inl x)] [] (wl K s2) := by
  have hK := INVP_SH h
  obtain ⟨p, s2, e1, e2, _, i2⟩ := CQ_text (sc := sc) (d := d) (x1 := a1) (x2 := a2) SIM1_gd h
  refine ⟨s2, i2, ?_⟩
  simp only [uL_law_250, qL_law_250, jL_law_250_1621, jL_law_283_1621, g1, g2, bd2, c0_v hK, c64_v hK, cond_true, e1, e2, xci_eq]
theorem LS_fault (h : INVP SIM1 K s) (g1 : ∀ w, xdi sc w (x + 1) (.inr (.inr (.inr 2))) = some a1) : ∃ s2, INVP SIM1 K s2 ∧ fW sc 8 4 false 4 (xN sc (d + 11)) b kL_law_283 283 [some (.inr (.inr (.inr 2))), some (.inr (.inr (.inl (some 0)))), some (.inr (.inr (.inl (some 64)))), some (.inl x)] [] (wl K s) = fW sc 8 4 false 4 (xN sc (d + 11)) b kL_law_1621 1621 [some (.inr (.inr (.inr 2))), some (.inr (.inr (.inl (some 0)))), some (.inr (.inr (.inl (some 64)))), some (.inl x)] [] (wl K s2) := by
  have hK := INVP_SH h
  obtain ⟨v1, v2, e1, e2, i2⟩ := CQ_fault (sc := sc) (d := d) (x1 := a1) SIM1_gd.1 h
  refine ⟨s, i2, ?_⟩
  simp only [uL_law_283, qL_law_283, jL_law_283_1621, jL_law_306_1621, g1, bd2, c0_v hK, c64_v hK, cond_true, e1, e2, xci_eq]
theorem LS_republic (h : INVP SIM1 K s) (g1 : ∀ w, xdi sc w (x + 1) (.inr (.inr (.inr 2))) = some a1) (g2 : ∀ w, xdi sc w (x + 2) (.inr (.inr (.inr 2))) = some a2) : ∃ s2, INVP SIM1 K s2 ∧ fW sc 8 4 false 4 (xN sc (d + 11)) b kL_law_306 306 [some (.inr (.inr (.inr 2))), some (.inr (.inr (.inl (some 0)))), some (.inr (.inr (.inl (some 64)))), some (.inl x)] [] (wl K s) = fW sc 8 4 false 4 (xN sc (d + 11)) b kL_law_1621 1621 [some (.inr (.inr (.inr 2))), some (.inr (.inr (.inl (some 0)))), some (.inr (.inr (.inl (some 64)))), some (.inl x)] [] (wl K s2) := by
  have hK := INVP_SH h
  obtain ⟨v1, v2, s1, s2, e1, e2, i2⟩ := CQ_republic (sc := sc) (d := d) (x1 := a1) (x2 := a2) SIM1_gd.1 h
  refine ⟨s2, i2, ?_⟩
  simp only [uL_law_306, qL_law_306, jL_law_306_1621, jL_law_339_1621, g1, g2, bd2, c0_v hK, c64_v hK, cond_true, e1, e2, xci_eq]
theorem LS_minister (h : INVP SIM1 K s) (g1 : ∀ w, xdi sc w (x + 1) (.inr (.inr (.inr 2))) = some a1) (g2 : ∀ w, xdi sc w (x + 2) (.inr (.inr (.inr 2))) = some a2) (g3 : ∀ w, xdi sc w (x + 3) (.inr (.inr (.inr 2))) = some a3) : ∃ s2, INVP SIM1 K s2 ∧ fW sc 8 4 false 4 (xN sc (d + 11)) b kL_law_339 339 [some (.inr (.inr (.inr 2))), some (.inr (.inr (.inl (some 0)))), some (.inr (.inr (.inl (some 64)))), some (.inl x)] [] (wl K s) = fW sc 8 4 false 4 (xN sc (d + 11)) b kL_law_1621 1621 [some (.inr (.inr (.inr 2))), some (.inr (.inr (.inl (some 0)))), some (.inr (.inr (.inl (some 64)))), some (.inl x)] [] (wl K s2) := by
  have hK := INVP_SH h
  obtain ⟨v1, v2, s1, s2, e1, e2, i2⟩ := CQ_minister (sc := sc) (d := d) (x1 := a1) (x2 := a2) (x3 := a3) SIM1_gd.1 h
  refine ⟨s2, i2, ?_⟩
  simp only [uL_law_339, qL_law_339, jL_law_339_1621, jL_law_382_1621, g1, g2, g3, bd2, c0_v hK, c64_v hK, cond_true, e1, e2, xci_eq]
theorem LS_off (h : INVP SIM1 K s) (g1 : ∀ w, xdi sc w (x + 1) (.inr (.inr (.inr 2))) = some a1) (g2 : ∀ w, xdi sc w (x + 2) (.inr (.inr (.inr 2))) = some a2) (g3 : ∀ w, xdi sc w (x + 3) (.inr (.inr (.inr 2))) = some a3) (g4 : ∀ w, xdi sc w (x + 4) (.inr (.inr (.inr 2))) = some a4) (g5 : ∀ w, xdi sc w (x + 5) (.inr (.inr (.inr 2))) = some a5) (g6 : ∀ w, xdi sc w (x + 6) (.inr (.inr (.inr 2))) = some a6) : ∃ s2, INVP SIM1 K s2 ∧ fW sc 8 4 false 4 (xN sc (d + 11)) b kL_law_382 382 [some (.inr (.inr (.inr 2))), some (.inr (.inr (.inl (some 0)))), some (.inr (.inr (.inl (some 64)))), some (.inl x)] [] (wl K s) = fW sc 8 4 false 4 (xN sc (d + 11)) b kL_law_1621 1621 [some (.inr (.inr (.inr 2))), some (.inr (.inr (.inl (some 0)))), some (.inr (.inr (.inl (some 64)))), some (.inl x)] [] (wl K s2) := by
  have hK := INVP_SH h
  obtain ⟨v1, v2, s1, s2, e1, e2, i2⟩ := CQ_off (sc := sc) (d := d) (x1 := a1) (x2 := a2) (x3 := a3) (x4 := a4) (x5 := a5) (x6 := a6) SIM1_gd.1 h
  refine ⟨s2, i2, ?_⟩
  simp only [uL_law_382, qL_law_382, jL_law_382_1621, jL_law_457_1621, g1, g2, g3, g4, g5, g6, bd2, c0_v hK, c64_v hK, cond_true, e1, e2, xci_eq]
theorem LS_vote (h : INVP SIM1 K s) (g1 : ∀ w, xdi sc w (x + 1) (.inr (.inr (.inr 2))) = some a1) (g2 : ∀ w, xdi sc w (x + 2) (.inr (.inr (.inr 2))) = some a2) (g3 : ∀ w, xdi sc w (x + 3) (.inr (.inr (.inr 2))) = some a3) (g4 : ∀ w, xdi sc w (x + 4) (.inr (.inr (.inr 2))) = some a4) (g5 : ∀ w, xdi sc w (x + 5) (.inr (.inr (.inr 2))) = some a5) (g6 : ∀ w, xdi sc w (x + 6) (.inr (.inr (.inr 2))) = some a6) (g7 : ∀ w, xdi sc w (x + 7) (.inr (.inr (.inr 2))) = some a7) : ∃ s2, INVP SIM1 K s2 ∧ fW sc 8 4 false 4 (xN sc (d + 11)) b kL_law_457 457 [some (.inr (.inr (.inr 2))), some (.inr (.inr (.inl (some 0)))), some (.inr (.inr (.inl (some 64)))), some (.inl x)] [] (wl K s) = fW sc 8 4 false 4 (xN sc (d + 11)) b kL_law_1621 1621 [some (.inr (.inr (.inr 2))), some (.inr (.inr (.inl (some 0)))), some (.inr (.inr (.inl (some 64)))), some (.inl x)] [] (wl K s2) := by
  have hK := INVP_SH h
  by_cases z : a7 = 0
  · skip
    obtain ⟨v1, v2, s1, s2, e1, e2, i2⟩ := CQ_vote (sc := sc) (d := d) (x1 := a1) (x2 := a2) (x3 := a3) (x4 := a4) (x5 := a5) (x6 := a6) (x7 := 0) SIM1_gd.1 h
    refine ⟨s2, i2, ?_⟩
    simp only [uL_law_457, uL_law_498, uL_law_502, uL_law_503, uL_law_548, uL_law_552, uL_law_553, qL_law_457, qL_law_498, qL_law_502, qL_law_503, qL_law_548, qL_law_552, qL_law_553, jL_law_457_1621, jL_law_498_502, jL_law_502_503, jL_law_548_552, jL_law_552_553, jL_law_560_1621, g1, g2, g3, g4, g5, g6, g7, bd2, c0_v hK, c64_v hK, cond_true, e1, e2, xci_eq, if_pos z]
  · skip
    obtain ⟨v1, v2, s1, s2, e1, e2, i2⟩ := CQ_vote (sc := sc) (d := d) (x1 := a1) (x2 := a2) (x3 := a3) (x4 := a4) (x5 := a5) (x6 := a6) (x7 := 1) SIM1_gd.1 h
    refine ⟨s2, i2, ?_⟩
    simp only [uL_law_457, uL_law_498, uL_law_502, uL_law_503, uL_law_548, uL_law_552, uL_law_553, qL_law_457, qL_law_498, qL_law_502, qL_law_503, qL_law_548, qL_law_552, qL_law_553, jL_law_457_1621, jL_law_498_502, jL_law_502_503, jL_law_548_552, jL_law_552_553, jL_law_560_1621, g1, g2, g3, g4, g5, g6, g7, bd2, c0_v hK, c64_v hK, cond_true, e1, e2, xci_eq, if_neg z]
theorem LS_order (h : INVP SIM1 K s) (g1 : ∀ w, xdi sc w (x + 1) (.inr (.inr (.inr 2))) = some a1) (g2 : ∀ w, xdi sc w (x + 2) (.inr (.inr (.inr 2))) = some a2) (g3 : ∀ w, xdi sc w (x + 3) (.inr (.inr (.inr 2))) = some a3) : ∃ s2, INVP SIM1 K s2 ∧ fW sc 8 4 false 4 (xN sc (d + 11)) b kL_law_560 560 [some (.inr (.inr (.inr 2))), some (.inr (.inr (.inl (some 0)))), some (.inr (.inr (.inl (some 64)))), some (.inl x)] [] (wl K s) = fW sc 8 4 false 4 (xN sc (d + 11)) b kL_law_1621 1621 [some (.inr (.inr (.inr 2))), some (.inr (.inr (.inl (some 0)))), some (.inr (.inr (.inl (some 64)))), some (.inl x)] [] (wl K s2) := by
  have hK := INVP_SH h
  obtain ⟨v1, v2, s1, s2, e1, e2, i2⟩ := CQ_order (sc := sc) (d := d) (x1 := a1) (x2 := a2) (x3 := a3) SIM1_gd.1 h
  refine ⟨s2, i2, ?_⟩
  simp only [uL_law_560, qL_law_560, jL_law_560_1621, jL_law_603_1621, g1, g2, g3, bd2, c0_v hK, c64_v hK, cond_true, e1, e2, xci_eq]
theorem LS_broken (h : INVP SIM1 K s) (g1 : ∀ w, xdi sc w (x + 1) (.inr (.inr (.inr 2))) = some a1) (g2 : ∀ w, xdi sc w (x + 2) (.inr (.inr (.inr 2))) = some a2) (g3 : ∀ w, xdi sc w (x + 3) (.inr (.inr (.inr 2))) = some a3) (g4 : ∀ w, xdi sc w (x + 4) (.inr (.inr (.inr 2))) = some a4) (g5 : ∀ w, xdi sc w (x + 5) (.inr (.inr (.inr 2))) = some a5) (g6 : ∀ w, xdi sc w (x + 6) (.inr (.inr (.inr 2))) = some a6) : ∃ s2, INVP SIM1 K s2 ∧ fW sc 8 4 false 4 (xN sc (d + 11)) b kL_law_603 603 [some (.inr (.inr (.inr 2))), some (.inr (.inr (.inl (some 0)))), some (.inr (.inr (.inl (some 64)))), some (.inl x)] [] (wl K s) = fW sc 8 4 false 4 (xN sc (d + 11)) b kL_law_1621 1621 [some (.inr (.inr (.inr 2))), some (.inr (.inr (.inl (some 0)))), some (.inr (.inr (.inl (some 64)))), some (.inl x)] [] (wl K s2) := by
  have hK := INVP_SH h
  obtain ⟨v1, v2, s1, s2, e1, e2, i2⟩ := CQ_broken (sc := sc) (d := d) (x1 := a1) (x2 := a2) (x3 := a3) (x4 := a4) (x5 := a5) (x6 := a6) SIM1_gd.1 h
  refine ⟨s2, i2, ?_⟩
  simp only [uL_law_603, qL_law_603, jL_law_603_1621, jL_law_678_1621, g1, g2, g3, g4, g5, g6, bd2, c0_v hK, c64_v hK, cond_true, e1, e2, xci_eq]
theorem LS_deed (h : INVP SIM1 K s) (g1 : ∀ w, xdi sc w (x + 1) (.inr (.inr (.inr 2))) = some a1) (g2 : ∀ w, xdi sc w (x + 2) (.inr (.inr (.inr 2))) = some a2) (g3 : ∀ w, xdi sc w (x + 3) (.inr (.inr (.inr 2))) = some a3) : ∃ s2, INVP SIM1 K s2 ∧ fW sc 8 4 false 4 (xN sc (d + 11)) b kL_law_678 678 [some (.inr (.inr (.inr 2))), some (.inr (.inr (.inl (some 0)))), some (.inr (.inr (.inl (some 64)))), some (.inl x)] [] (wl K s) = fW sc 8 4 false 4 (xN sc (d + 11)) b kL_law_1621 1621 [some (.inr (.inr (.inr 2))), some (.inr (.inr (.inl (some 0)))), some (.inr (.inr (.inl (some 64)))), some (.inl x)] [] (wl K s2) := by
  have hK := INVP_SH h
  obtain ⟨v1, v2, s1, s2, e1, e2, i2⟩ := CQ_deed (sc := sc) (d := d) (x1 := a1) (x2 := a2) (x3 := a3) SIM1_gd.1 h
  refine ⟨s2, i2, ?_⟩
  simp only [uL_law_678, qL_law_678, jL_law_678_1621, jL_law_721_1621, g1, g2, g3, bd2, c0_v hK, c64_v hK, cond_true, e1, e2, xci_eq]
theorem LS_stop (h : INVP SIM1 K s) (g1 : ∀ w, xdi sc w (x + 1) (.inr (.inr (.inr 2))) = some a1) (g2 : ∀ w, xdi sc w (x + 2) (.inr (.inr (.inr 2))) = some a2) (g3 : ∀ w, xdi sc w (x + 3) (.inr (.inr (.inr 2))) = some a3) : ∃ s2, INVP SIM1 K s2 ∧ fW sc 8 4 false 4 (xN sc (d + 11)) b kL_law_721 721 [some (.inr (.inr (.inr 2))), some (.inr (.inr (.inl (some 0)))), some (.inr (.inr (.inl (some 64)))), some (.inl x)] [] (wl K s) = fW sc 8 4 false 4 (xN sc (d + 11)) b kL_law_1621 1621 [some (.inr (.inr (.inr 2))), some (.inr (.inr (.inl (some 0)))), some (.inr (.inr (.inl (some 64)))), some (.inl x)] [] (wl K s2) := by
  have hK := INVP_SH h
  obtain ⟨v1, v2, s1, s2, e1, e2, i2⟩ := CQ_stop (sc := sc) (d := d) (x1 := a1) (x2 := a2) (x3 := a3) SIM1_gd.1 h
  refine ⟨s2, i2, ?_⟩
  simp only [uL_law_721, qL_law_721, jL_law_721_1621, jL_law_764_1621, g1, g2, g3, bd2, c0_v hK, c64_v hK, cond_true, e1, e2, xci_eq]
theorem LS_state (h : INVP SIM1 K s) (g1 : ∀ w, xdi sc w (x + 1) (.inr (.inr (.inr 2))) = some a1) (g2 : ∀ w, xdi sc w (x + 2) (.inr (.inr (.inr 2))) = some a2) (g3 : ∀ w, xdi sc w (x + 3) (.inr (.inr (.inr 2))) = some a3) (g4 : ∀ w, xdi sc w (x + 4) (.inr (.inr (.inr 2))) = some a4) (g5 : ∀ w, xdi sc w (x + 5) (.inr (.inr (.inr 2))) = some a5) : ∃ s2, INVP SIM1 K s2 ∧ fW sc 8 4 false 4 (xN sc (d + 11)) b kL_law_764 764 [some (.inr (.inr (.inr 2))), some (.inr (.inr (.inl (some 0)))), some (.inr (.inr (.inl (some 64)))), some (.inl x)] [] (wl K s) = fW sc 8 4 false 4 (xN sc (d + 11)) b kL_law_1621 1621 [some (.inr (.inr (.inr 2))), some (.inr (.inr (.inl (some 0)))), some (.inr (.inr (.inl (some 64)))), some (.inl x)] [] (wl K s2) := by
  have hK := INVP_SH h
  obtain ⟨v1, v2, s1, s2, e1, e2, i2⟩ := CQ_state (sc := sc) (d := d) (x1 := a1) (x2 := a2) (x3 := a3) (x4 := a4) (x5 := a5) SIM1_gd.1 h
  refine ⟨s2, i2, ?_⟩
  simp only [uL_law_764, qL_law_764, jL_law_764_1621, jL_law_827_1621, g1, g2, g3, g4, g5, bd2, c0_v hK, c64_v hK, cond_true, e1, e2, xci_eq]
theorem LS_agreed (h : INVP SIM1 K s) (g1 : ∀ w, xdi sc w (x + 1) (.inr (.inr (.inr 2))) = some a1) (g2 : ∀ w, xdi sc w (x + 2) (.inr (.inr (.inr 2))) = some a2) (g3 : ∀ w, xdi sc w (x + 3) (.inr (.inr (.inr 2))) = some a3) (g4 : ∀ w, xdi sc w (x + 4) (.inr (.inr (.inr 2))) = some a4) (g5 : ∀ w, xdi sc w (x + 5) (.inr (.inr (.inr 2))) = some a5) : ∃ s2, INVP SIM1 K s2 ∧ fW sc 8 4 false 4 (xN sc (d + 11)) b kL_law_827 827 [some (.inr (.inr (.inr 2))), some (.inr (.inr (.inl (some 0)))), some (.inr (.inr (.inl (some 64)))), some (.inl x)] [] (wl K s) = fW sc 8 4 false 4 (xN sc (d + 11)) b kL_law_1621 1621 [some (.inr (.inr (.inr 2))), some (.inr (.inr (.inl (some 0)))), some (.inr (.inr (.inl (some 64)))), some (.inl x)] [] (wl K s2) := by
  have hK := INVP_SH h
  obtain ⟨v1, v2, s1, s2, e1, e2, i2⟩ := CQ_agreed (sc := sc) (d := d) (x1 := a1) (x2 := a2) (x3 := a3) (x4 := a4) (x5 := a5) SIM1_gd.1 h
  refine ⟨s2, i2, ?_⟩
  simp only [uL_law_827, qL_law_827, jL_law_827_1621, jL_law_890_1621, g1, g2, g3, g4, g5, bd2, c0_v hK, c64_v hK, cond_true, e1, e2, xci_eq]
theorem LS_power (h : INVP SIM1 K s) (g1 : ∀ w, xdi sc w (x + 1) (.inr (.inr (.inr 2))) = some a1) (g2 : ∀ w, xdi sc w (x + 2) (.inr (.inr (.inr 2))) = some a2) (g3 : ∀ w, xdi sc w (x + 3) (.inr (.inr (.inr 2))) = some a3) : ∃ s2, INVP SIM1 K s2 ∧ fW sc 8 4 false 4 (xN sc (d + 11)) b kL_law_890 890 [some (.inr (.inr (.inr 2))), some (.inr (.inr (.inl (some 0)))), some (.inr (.inr (.inl (some 64)))), some (.inl x)] [] (wl K s) = fW sc 8 4 false 4 (xN sc (d + 11)) b kL_law_1621 1621 [some (.inr (.inr (.inr 2))), some (.inr (.inr (.inl (some 0)))), some (.inr (.inr (.inl (some 64)))), some (.inl x)] [] (wl K s2) := by
  have hK := INVP_SH h
  by_cases z : a3 = 0
  · skip
    obtain ⟨v, s1, s2, e1, e2, i2⟩ := CE_power (sc := sc) (d := d) (x1 := a1) (x2 := a2) (x3 := 0) SIM1_gd.1 h
    refine ⟨s2, i2, ?_⟩
    simp only [uL_law_890, uL_law_909, uL_law_913, uL_law_914, uL_law_936, uL_law_940, uL_law_941, uL_law_947, qL_law_890, qL_law_909, qL_law_913, qL_law_914, qL_law_936, qL_law_940, qL_law_941, qL_law_947, jL_law_890_1621, jL_law_909_913, jL_law_913_914, jL_law_936_940, jL_law_940_941, jL_law_947_1621, g1, g2, g3, bd2, c0_v hK, c64_v hK, cond_true, e1, e2, xci_eq, if_pos z, if_true]
  · skip
    obtain ⟨v, s1, s2, e1, e2, i2⟩ := CE_power (sc := sc) (d := d) (x1 := a1) (x2 := a2) (x3 := 1) SIM1_gd.1 h
    refine ⟨s2, i2, ?_⟩
    simp only [uL_law_890, uL_law_909, uL_law_913, uL_law_914, uL_law_936, uL_law_940, uL_law_941, uL_law_947, qL_law_890, qL_law_909, qL_law_913, qL_law_914, qL_law_936, qL_law_940, qL_law_941, qL_law_947, jL_law_890_1621, jL_law_909_913, jL_law_913_914, jL_law_936_940, jL_law_940_941, jL_law_947_1621, g1, g2, g3, bd2, c0_v hK, c64_v hK, cond_true, e1, e2, xci_eq, if_neg z, if_true]
theorem LS_coalition (h : INVP SIM1 K s) (g1 : ∀ w, xdi sc w (x + 1) (.inr (.inr (.inr 2))) = some a1) (g2 : ∀ w, xdi sc w (x + 2) (.inr (.inr (.inr 2))) = some a2) : ∃ s2, INVP SIM1 K s2 ∧ fW sc 8 4 false 4 (xN sc (d + 11)) b kL_law_949 949 [some (.inr (.inr (.inr 2))), some (.inr (.inr (.inl (some 0)))), some (.inr (.inr (.inl (some 64)))), some (.inl x)] [] (wl K s) = fW sc 8 4 false 4 (xN sc (d + 11)) b kL_law_1621 1621 [some (.inr (.inr (.inr 2))), some (.inr (.inr (.inl (some 0)))), some (.inr (.inr (.inl (some 64)))), some (.inl x)] [] (wl K s2) := by
  have hK := INVP_SH h
  obtain ⟨v1, v2, s1, s2, e1, e2, i2⟩ := CQ_coalition (sc := sc) (d := d) (x1 := a1) (x2 := a2) SIM1_gd.1 h
  refine ⟨s2, i2, ?_⟩
  simp only [uL_law_949, qL_law_949, jL_law_982_1621, g1, g2, bd2, c0_v hK, c64_v hK, cond_true, e1, e2, xci_eq]
theorem LS_bribe (h : INVP SIM1 K s) (g1 : ∀ w, xdi sc w (x + 1) (.inr (.inr (.inr 2))) = some a1) (g2 : ∀ w, xdi sc w (x + 2) (.inr (.inr (.inr 2))) = some a2) (g3 : ∀ w, xdi sc w (x + 3) (.inr (.inr (.inr 2))) = some a3) (g4 : ∀ w, xdi sc w (x + 4) (.inr (.inr (.inr 2))) = some a4) (g5 : ∀ w, xdi sc w (x + 5) (.inr (.inr (.inr 2))) = some a5) (g6 : ∀ w, xdi sc w (x + 6) (.inr (.inr (.inr 2))) = some a6) (g7 : ∀ w, xdi sc w (x + 7) (.inr (.inr (.inr 2))) = some a7) : ∃ s2, INVP SIM1 K s2 ∧ fW sc 8 4 false 4 (xN sc (d + 11)) b kL_law_982 982 [some (.inr (.inr (.inr 2))), some (.inr (.inr (.inl (some 0)))), some (.inr (.inr (.inl (some 64)))), some (.inl x)] [] (wl K s) = fW sc 8 4 false 4 (xN sc (d + 11)) b kL_law_1621 1621 [some (.inr (.inr (.inr 2))), some (.inr (.inr (.inl (some 0)))), some (.inr (.inr (.inl (some 64)))), some (.inl x)] [] (wl K s2) := by
  have hK := INVP_SH h
  by_cases z : a7 = 0
  · skip
    obtain ⟨v1, v2, s1, s2, e1, e2, i2⟩ := CQ_bribe (sc := sc) (d := d) (x1 := a1) (x2 := a2) (x3 := a3) (x4 := a4) (x5 := a5) (x6 := a6) (x7 := 0) SIM1_gd.1 h
    refine ⟨s2, i2, ?_⟩
    simp only [uL_law_982, uL_law_1023, uL_law_1027, uL_law_1028, uL_law_1073, uL_law_1077, uL_law_1078, qL_law_982, qL_law_1023, qL_law_1027, qL_law_1028, qL_law_1073, qL_law_1077, qL_law_1078, jL_law_982_1621, jL_law_1023_1027, jL_law_1027_1028, jL_law_1073_1077, jL_law_1077_1078, jL_law_1085_1621, g1, g2, g3, g4, g5, g6, g7, bd2, c0_v hK, c64_v hK, cond_true, e1, e2, xci_eq, if_pos z]
  · skip
    obtain ⟨v1, v2, s1, s2, e1, e2, i2⟩ := CQ_bribe (sc := sc) (d := d) (x1 := a1) (x2 := a2) (x3 := a3) (x4 := a4) (x5 := a5) (x6 := a6) (x7 := 1) SIM1_gd.1 h
    refine ⟨s2, i2, ?_⟩
    simp only [uL_law_982, uL_law_1023, uL_law_1027, uL_law_1028, uL_law_1073, uL_law_1077, uL_law_1078, qL_law_982, qL_law_1023, qL_law_1027, qL_law_1028, qL_law_1073, qL_law_1077, qL_law_1078, jL_law_982_1621, jL_law_1023_1027, jL_law_1027_1028, jL_law_1073_1077, jL_law_1077_1078, jL_law_1085_1621, g1, g2, g3, g4, g5, g6, g7, bd2, c0_v hK, c64_v hK, cond_true, e1, e2, xci_eq, if_neg z]
theorem LS_lobby (h : INVP SIM1 K s) (g1 : ∀ w, xdi sc w (x + 1) (.inr (.inr (.inr 2))) = some a1) (g2 : ∀ w, xdi sc w (x + 2) (.inr (.inr (.inr 2))) = some a2) (g3 : ∀ w, xdi sc w (x + 3) (.inr (.inr (.inr 2))) = some a3) (g4 : ∀ w, xdi sc w (x + 4) (.inr (.inr (.inr 2))) = some a4) (g5 : ∀ w, xdi sc w (x + 5) (.inr (.inr (.inr 2))) = some a5) (g6 : ∀ w, xdi sc w (x + 6) (.inr (.inr (.inr 2))) = some a6) (g7 : ∀ w, xdi sc w (x + 7) (.inr (.inr (.inr 2))) = some a7) : ∃ s2, INVP SIM1 K s2 ∧ fW sc 8 4 false 4 (xN sc (d + 11)) b kL_law_1085 1085 [some (.inr (.inr (.inr 2))), some (.inr (.inr (.inl (some 0)))), some (.inr (.inr (.inl (some 64)))), some (.inl x)] [] (wl K s) = fW sc 8 4 false 4 (xN sc (d + 11)) b kL_law_1621 1621 [some (.inr (.inr (.inr 2))), some (.inr (.inr (.inl (some 0)))), some (.inr (.inr (.inl (some 64)))), some (.inl x)] [] (wl K s2) := by
  have hK := INVP_SH h
  obtain ⟨v1, v2, s1, s2, e1, e2, i2⟩ := CQ_lobby (sc := sc) (d := d) (x1 := a1) (x2 := a2) (x3 := a3) (x4 := a4) (x5 := a5) (x6 := a6) (x7 := a7) SIM1_gd.1 h
  refine ⟨s2, i2, ?_⟩
  simp only [uL_law_1085, qL_law_1085, jL_law_1085_1621, jL_law_1172_1621, g1, g2, g3, g4, g5, g6, g7, bd2, c0_v hK, c64_v hK, cond_true, e1, e2, xci_eq]
theorem LS_bargain (h : INVP SIM1 K s) (g1 : ∀ w, xdi sc w (x + 1) (.inr (.inr (.inr 2))) = some a1) (g2 : ∀ w, xdi sc w (x + 2) (.inr (.inr (.inr 2))) = some a2) (g3 : ∀ w, xdi sc w (x + 3) (.inr (.inr (.inr 2))) = some a3) : ∃ s2, INVP SIM1 K s2 ∧ fW sc 8 4 false 4 (xN sc (d + 11)) b kL_law_1172 1172 [some (.inr (.inr (.inr 2))), some (.inr (.inr (.inl (some 0)))), some (.inr (.inr (.inl (some 64)))), some (.inl x)] [] (wl K s) = fW sc 8 4 false 4 (xN sc (d + 11)) b kL_law_1621 1621 [some (.inr (.inr (.inr 2))), some (.inr (.inr (.inl (some 0)))), some (.inr (.inr (.inl (some 64)))), some (.inl x)] [] (wl K s2) := by
  have hK := INVP_SH h
  obtain ⟨v1, v2, s1, s2, e1, e2, i2⟩ := CQ_bargain (sc := sc) (d := d) (x1 := a1) (x2 := a2) (x3 := a3) SIM1_gd.1 h
  refine ⟨s2, i2, ?_⟩
  simp only [uL_law_1172, qL_law_1172, jL_law_1172_1621, jL_law_1215_1621, g1, g2, g3, bd2, c0_v hK, c64_v hK, cond_true, e1, e2, xci_eq]
theorem LS_was (h : INVP SIM1 K s) (g1 : ∀ w, xdi sc w (x + 1) (.inr (.inr (.inr 2))) = some a1) (g2 : ∀ w, xdi sc w (x + 2) (.inr (.inr (.inr 2))) = some a2) (g3 : ∀ w, xdi sc w (x + 3) (.inr (.inr (.inr 2))) = some a3) : ∃ s2, INVP SIM1 K s2 ∧ fW sc 8 4 false 4 (xN sc (d + 11)) b kL_law_1215 1215 [some (.inr (.inr (.inr 2))), some (.inr (.inr (.inl (some 0)))), some (.inr (.inr (.inl (some 64)))), some (.inl x)] [] (wl K s) = fW sc 8 4 false 4 (xN sc (d + 11)) b kL_law_1621 1621 [some (.inr (.inr (.inr 2))), some (.inr (.inr (.inl (some 0)))), some (.inr (.inr (.inl (some 64)))), some (.inl x)] [] (wl K s2) := by
  have hK := INVP_SH h
  obtain ⟨v1, v2, s1, s2, e1, e2, i2⟩ := CQ_was (sc := sc) (d := d) (x1 := a1) (x2 := a2) (x3 := a3) SIM1_gd.1 h
  refine ⟨s2, i2, ?_⟩
  simp only [uL_law_1215, qL_law_1215, jL_law_1215_1621, jL_law_1258_1621, g1, g2, g3, bd2, c0_v hK, c64_v hK, cond_true, e1, e2, xci_eq]
theorem LS_nature (h : INVP SIM1 K s) (g1 : ∀ w, xdi sc w (x + 1) (.inr (.inr (.inr 2))) = some a1) (g2 : ∀ w, xdi sc w (x + 2) (.inr (.inr (.inr 2))) = some a2) (g3 : ∀ w, xdi sc w (x + 3) (.inr (.inr (.inr 2))) = some a3) : ∃ s2, INVP SIM1 K s2 ∧ fW sc 8 4 false 4 (xN sc (d + 11)) b kL_law_1258 1258 [some (.inr (.inr (.inr 2))), some (.inr (.inr (.inl (some 0)))), some (.inr (.inr (.inl (some 64)))), some (.inl x)] [] (wl K s) = fW sc 8 4 false 4 (xN sc (d + 11)) b kL_law_1621 1621 [some (.inr (.inr (.inr 2))), some (.inr (.inr (.inl (some 0)))), some (.inr (.inr (.inl (some 64)))), some (.inl x)] [] (wl K s2) := by
  have hK := INVP_SH h
  obtain ⟨v1, v2, s1, s2, e1, e2, i2⟩ := CQ_nature (sc := sc) (d := d) (x1 := a1) (x2 := a2) (x3 := a3) SIM1_gd.1 h
  refine ⟨s2, i2, ?_⟩
  simp only [uL_law_1258, qL_law_1258, jL_law_1258_1621, jL_law_1301_1621, g1, g2, g3, bd2, c0_v hK, c64_v hK, cond_true, e1, e2, xci_eq]
theorem LS_seats (h : INVP SIM1 K s) (g1 : ∀ w, xdi sc w (x + 1) (.inr (.inr (.inr 2))) = some a1) (g2 : ∀ w, xdi sc w (x + 2) (.inr (.inr (.inr 2))) = some a2) (g3 : ∀ w, xdi sc w (x + 3) (.inr (.inr (.inr 2))) = some a3) : ∃ s2, INVP SIM1 K s2 ∧ fW sc 8 4 false 4 (xN sc (d + 11)) b kL_law_1301 1301 [some (.inr (.inr (.inr 2))), some (.inr (.inr (.inl (some 0)))), some (.inr (.inr (.inl (some 64)))), some (.inl x)] [] (wl K s) = fW sc 8 4 false 4 (xN sc (d + 11)) b kL_law_1621 1621 [some (.inr (.inr (.inr 2))), some (.inr (.inr (.inl (some 0)))), some (.inr (.inr (.inl (some 64)))), some (.inl x)] [] (wl K s2) := by
  have hK := INVP_SH h
  obtain ⟨v1, v2, s1, s2, e1, e2, i2⟩ := CQ_seats (sc := sc) (d := d) (x1 := a1) (x2 := a2) (x3 := a3) SIM1_gd.1 h
  refine ⟨s2, i2, ?_⟩
  simp only [uL_law_1301, qL_law_1301, jL_law_1301_1621, jL_law_1344_1621, g1, g2, g3, bd2, c0_v hK, c64_v hK, cond_true, e1, e2, xci_eq]
theorem LS_reshuffle (h : INVP SIM1 K s) (g1 : ∀ w, xdi sc w (x + 1) (.inr (.inr (.inr 2))) = some a1) (g2 : ∀ w, xdi sc w (x + 2) (.inr (.inr (.inr 2))) = some a2) : ∃ s2, INVP SIM1 K s2 ∧ fW sc 8 4 false 4 (xN sc (d + 11)) b kL_law_1344 1344 [some (.inr (.inr (.inr 2))), some (.inr (.inr (.inl (some 0)))), some (.inr (.inr (.inl (some 64)))), some (.inl x)] [] (wl K s) = fW sc 8 4 false 4 (xN sc (d + 11)) b kL_law_1621 1621 [some (.inr (.inr (.inr 2))), some (.inr (.inr (.inl (some 0)))), some (.inr (.inr (.inl (some 64)))), some (.inl x)] [] (wl K s2) := by
  have hK := INVP_SH h
  by_cases z : a2 = 0
  · skip
    obtain ⟨v1, v2, s1, s2, e1, e2, i2⟩ := CQ_reshuffle (sc := sc) (d := d) (x1 := a1) (x2 := 0) SIM1_gd.1 h
    refine ⟨s2, i2, ?_⟩
    simp only [uL_law_1344, uL_law_1358, uL_law_1362, uL_law_1363, uL_law_1381, uL_law_1385, uL_law_1386, qL_law_1344, qL_law_1358, qL_law_1362, qL_law_1363, qL_law_1381, qL_law_1385, qL_law_1386, jL_law_1344_1621, jL_law_1358_1362, jL_law_1362_1363, jL_law_1381_1385, jL_law_1385_1386, jL_law_1393_1621, g1, g2, bd2, c0_v hK, c64_v hK, cond_true, e1, e2, xci_eq, if_pos z]
  · skip
    obtain ⟨v1, v2, s1, s2, e1, e2, i2⟩ := CQ_reshuffle (sc := sc) (d := d) (x1 := a1) (x2 := 1) SIM1_gd.1 h
    refine ⟨s2, i2, ?_⟩
    simp only [uL_law_1344, uL_law_1358, uL_law_1362, uL_law_1363, uL_law_1381, uL_law_1385, uL_law_1386, qL_law_1344, qL_law_1358, qL_law_1362, qL_law_1363, qL_law_1381, qL_law_1385, qL_law_1386, jL_law_1344_1621, jL_law_1358_1362, jL_law_1362_1363, jL_law_1381_1385, jL_law_1385_1386, jL_law_1393_1621, g1, g2, bd2, c0_v hK, c64_v hK, cond_true, e1, e2, xci_eq, if_neg z]
theorem LS_leak (h : INVP SIM1 K s) (g1 : ∀ w, xdi sc w (x + 1) (.inr (.inr (.inr 2))) = some a1) (g2 : ∀ w, xdi sc w (x + 2) (.inr (.inr (.inr 2))) = some a2) (g3 : ∀ w, xdi sc w (x + 3) (.inr (.inr (.inr 2))) = some a3) : ∃ s2, INVP SIM1 K s2 ∧ fW sc 8 4 false 4 (xN sc (d + 11)) b kL_law_1393 1393 [some (.inr (.inr (.inr 2))), some (.inr (.inr (.inl (some 0)))), some (.inr (.inr (.inl (some 64)))), some (.inl x)] [] (wl K s) = fW sc 8 4 false 4 (xN sc (d + 11)) b kL_law_1621 1621 [some (.inr (.inr (.inr 2))), some (.inr (.inr (.inl (some 0)))), some (.inr (.inr (.inl (some 64)))), some (.inl x)] [] (wl K s2) := by
  have hK := INVP_SH h
  obtain ⟨v1, v2, s1, s2, e1, e2, i2⟩ := CQ_leak (sc := sc) (d := d) (x1 := a1) (x2 := a2) (x3 := a3) SIM1_gd.1 h
  refine ⟨s2, i2, ?_⟩
  simp only [uL_law_1393, qL_law_1393, jL_law_1393_1621, jL_law_1436_1621, g1, g2, g3, bd2, c0_v hK, c64_v hK, cond_true, e1, e2, xci_eq]
theorem LS_fits (h : INVP SIM1 K s) (g1 : ∀ w, xdi sc w (x + 1) (.inr (.inr (.inr 2))) = some a1) (g2 : ∀ w, xdi sc w (x + 2) (.inr (.inr (.inr 2))) = some a2) (g3 : ∀ w, xdi sc w (x + 3) (.inr (.inr (.inr 2))) = some a3) (g4 : ∀ w, xdi sc w (x + 4) (.inr (.inr (.inr 2))) = some a4) (g5 : ∀ w, xdi sc w (x + 5) (.inr (.inr (.inr 2))) = some a5) : ∃ s2, INVP SIM1 K s2 ∧ fW sc 8 4 false 4 (xN sc (d + 11)) b kL_law_1436 1436 [some (.inr (.inr (.inr 2))), some (.inr (.inr (.inl (some 0)))), some (.inr (.inr (.inl (some 64)))), some (.inl x)] [] (wl K s) = fW sc 8 4 false 4 (xN sc (d + 11)) b kL_law_1621 1621 [some (.inr (.inr (.inr 2))), some (.inr (.inr (.inl (some 0)))), some (.inr (.inr (.inl (some 64)))), some (.inl x)] [] (wl K s2) := by
  have hK := INVP_SH h
  obtain ⟨v1, v2, s1, s2, e1, e2, i2⟩ := CQ_fits (sc := sc) (d := d) (x1 := a1) (x2 := a2) (x3 := a3) (x4 := a4) (x5 := a5) SIM1_gd.1 h
  refine ⟨s2, i2, ?_⟩
  simp only [uL_law_1436, qL_law_1436, jL_law_1436_1621, jL_law_1499_1621, g1, g2, g3, g4, g5, bd2, c0_v hK, c64_v hK, cond_true, e1, e2, xci_eq]
theorem LS_drawn (h : INVP SIM1 K s) (g1 : ∀ w, xdi sc w (x + 1) (.inr (.inr (.inr 2))) = some a1) (g2 : ∀ w, xdi sc w (x + 2) (.inr (.inr (.inr 2))) = some a2) (g3 : ∀ w, xdi sc w (x + 3) (.inr (.inr (.inr 2))) = some a3) (g4 : ∀ w, xdi sc w (x + 4) (.inr (.inr (.inr 2))) = some a4) : ∃ s2, INVP SIM1 K s2 ∧ fW sc 8 4 false 4 (xN sc (d + 11)) b kL_law_1499 1499 [some (.inr (.inr (.inr 2))), some (.inr (.inr (.inl (some 0)))), some (.inr (.inr (.inl (some 64)))), some (.inl x)] [] (wl K s) = fW sc 8 4 false 4 (xN sc (d + 11)) b kL_law_1621 1621 [some (.inr (.inr (.inr 2))), some (.inr (.inr (.inl (some 0)))), some (.inr (.inr (.inl (some 64)))), some (.inl x)] [] (wl K s2) := by
  have hK := INVP_SH h
  obtain ⟨v1, v2, s1, s2, e1, e2, i2⟩ := CQ_drawn (sc := sc) (d := d) (x1 := a1) (x2 := a2) (x3 := a3) (x4 := a4) SIM1_gd.1 h
  refine ⟨s2, i2, ?_⟩
  simp only [uL_law_1499, qL_law_1499, jL_law_1499_1621, jL_law_1552_1621, g1, g2, g3, g4, bd2, c0_v hK, c64_v hK, cond_true, e1, e2, xci_eq]
theorem LS_count (h : INVP SIM1 K s) (g1 : ∀ w, xdi sc w (x + 1) (.inr (.inr (.inr 2))) = some a1) : ∃ s2, INVP SIM1 K s2 ∧ fW sc 8 4 false 4 (xN sc (d + 11)) b kL_law_1552 1552 [some (.inr (.inr (.inr 2))), some (.inr (.inr (.inl (some 0)))), some (.inr (.inr (.inl (some 64)))), some (.inl x)] [] (wl K s) = fW sc 8 4 false 4 (xN sc (d + 11)) b kL_law_1621 1621 [some (.inr (.inr (.inr 2))), some (.inr (.inr (.inl (some 0)))), some (.inr (.inr (.inl (some 64)))), some (.inl x)] [] (wl K s2) := by
  have hK := INVP_SH h
  obtain ⟨v1, v2, e1, e2, i2⟩ := CQ_count (sc := sc) (d := d) (x1 := a1) SIM1_gd.1 h
  refine ⟨s, i2, ?_⟩
  simp only [uL_law_1552, qL_law_1552, jL_law_1552_1621, jL_law_1575_1621, g1, bd2, c0_v hK, c64_v hK, cond_true, e1, e2, xci_eq]
theorem LS_image (h : INVP SIM1 K s) (g1 : ∀ w, xdi sc w (x + 1) (.inr (.inr (.inr 2))) = some a1) : ∃ K2 s2, INVP SIM1 K2 s2 ∧ fW sc 8 4 false 4 (xN sc (d + 11)) b kL_law_1575 1575 [some (.inr (.inr (.inr 2))), some (.inr (.inr (.inl (some 0)))), some (.inr (.inr (.inl (some 64)))), some (.inl x)] [] (wl K s) = fW sc 8 4 false 4 (xN sc (d + 11)) b kL_law_1621 1621 [some (.inr (.inr (.inr 2))), some (.inr (.inr (.inl (some 0)))), some (.inr (.inr (.inl (some 64)))), some (.inl x)] [] (wl K2 s2) := by
  have hK := INVP_SH h
  obtain ⟨v, K2, s1, s2, e1, hK2, e2, i2⟩ := CE_image (sc := sc) (d := d) (x1 := a1) SIM1_gd.1 h
  refine ⟨K2, s2, i2, ?_⟩
  simp only [uL_law_1575, qL_law_1575, jL_law_1575_1621, jL_law_1598_1621, g1, bd2, c0_v hK, c64_v hK2, cond_true, e1, e2, xci_eq]
theorem LS_again (h : INVP SIM1 K s) (g1 : ∀ w, xdi sc w (x + 1) (.inr (.inr (.inr 2))) = some a1) : ∃ s2, INVP SIM1 K s2 ∧ fW sc 8 4 false 4 (xN sc (d + 11)) b kL_law_1598 1598 [some (.inr (.inr (.inr 2))), some (.inr (.inr (.inl (some 0)))), some (.inr (.inr (.inl (some 64)))), some (.inl x)] [] (wl K s) = fW sc 8 4 false 4 (xN sc (d + 11)) b kL_law_1621 1621 [some (.inr (.inr (.inr 2))), some (.inr (.inr (.inl (some 0)))), some (.inr (.inr (.inl (some 64)))), some (.inl x)] [] (wl K s2) := by
  have hK := INVP_SH h
  obtain ⟨v, s1, s2, e1, e2, i2⟩ := CE_again (sc := sc) (d := d) (x1 := a1) SIM1_gd.1 h
  refine ⟨s2, i2, ?_⟩
  simp only [uL_law_1598, qL_law_1598, jL_law_1598_1621, g1, bd2, c0_v hK, c64_v hK, cond_true, e1, e2, xci_eq]
end XRQ
end
section
section XRR
variable {sc : Nat × (Nat → Int32)} {d : Nat} {K : List KD} {s : SG} {b : Nat → XL → List EV → EW → XR} {x a1 : Int32}
/-! the law: its loop -/
theorem LSW {j a : Nat} (ha : a ≤ 63) (hj : j + 8 ≤ sc.1) (hN : sc.1 ≤ 4096) (h : INVP SIM1 K s) : ∃ K2 s2, INVP SIM1 K2 s2 ∧ fW sc 8 4 false 4 (xN sc (d + 11)) b kL_law_33 33 [some (.inr (.inr (.inr 2))), some (.inr (.inr (.inl (some 0)))), some (.inr (.inr (.inl (some 64)))), some (.inl (nI j))] [.inl (nI a)] (wl K s) = fW sc 8 4 false 4 (xN sc (d + 11)) b kL_law_1621 1621 [some (.inr (.inr (.inr 2))), some (.inr (.inr (.inl (some 0)))), some (.inr (.inr (.inl (some 64)))), some (.inl (nI j))] [] (wl K2 s2) := by
  have g : ∀ i, i < 8 → ∀ w, xdi sc w (nI j + nI i) (.inr (.inr (.inr 2))) = some (sc.2 (j + i)) := by
    intro i hi w
    rw [nI_add]
    show (bif xvb (nI (j + i)) sc.1 then some (sc.2 (nI (j + i)).toNatClampNeg) else none) = _
    rw [xvb_nI (by omega) (by omega), nI_clamp (by omega)]; rfl
  have g1 : ∀ w, xdi sc w (nI j + 1) (.inr (.inr (.inr 2))) = some (sc.2 (j + 1)) := g 1 (by omega)
  have g2 : ∀ w, xdi sc w (nI j + 2) (.inr (.inr (.inr 2))) = some (sc.2 (j + 2)) := g 2 (by omega)
  have g3 : ∀ w, xdi sc w (nI j + 3) (.inr (.inr (.inr 2))) = some (sc.2 (j + 3)) := g 3 (by omega)
  have g4 : ∀ w, xdi sc w (nI j + 4) (.inr (.inr (.inr 2))) = some (sc.2 (j + 4)) := g 4 (by omega)
  have g5 : ∀ w, xdi sc w (nI j + 5) (.inr (.inr (.inr 2))) = some (sc.2 (j + 5)) := g 5 (by omega)
  have g6 : ∀ w, xdi sc w (nI j + 6) (.inr (.inr (.inr 2))) = some (sc.2 (j + 6)) := g 6 (by omega)
  have g7 : ∀ w, xdi sc w (nI j + 7) (.inr (.inr (.inr 2))) = some (sc.2 (j + 7)) := g 7 (by omega)
  rw [uL_law_33]
  by_cases c : 28 < a
  · refine ⟨K, s, h, ?_⟩
    rw [qL_law_33_d (Or.inr (by rw [nI_toInt (by omega)]; omega)), jL_law_164_1621]
  have cs : a = 0 ∨ a = 1 ∨ a = 2 ∨ a = 3 ∨ a = 4 ∨ a = 5 ∨ a = 6 ∨ a = 7 ∨ a = 8 ∨ a = 9 ∨ a = 10 ∨ a = 11 ∨ a = 12 ∨ a = 13 ∨ a = 14 ∨ a = 15 ∨ a = 16 ∨ a = 17 ∨ a = 18 ∨ a = 19 ∨ a = 20 ∨ a = 21 ∨ a = 22 ∨ a = 23 ∨ a = 24 ∨ a = 25 ∨ a = 26 ∨ a = 27 ∨ a = 28 := by omega
  rcases cs with rfl | rfl | rfl | rfl | rfl | rfl | rfl | rfl | rfl | rfl | rfl | rfl | rfl | rfl | rfl | rfl | rfl | rfl | rfl | rfl | rfl | rfl | rfl | rfl | rfl | rfl | rfl | rfl | rfl
  · rw [show (nI 0 : Int32) = 0 from rfl, qL_law_33_c0]
    obtain ⟨s2, i2, e⟩ := LS_feed (sc := sc) (d := d) (b := b) h g1 g2 g3 g4 g5
    exact ⟨K, s2, i2, e⟩
  · rw [show (nI 1 : Int32) = 1 from rfl, qL_law_33_c1, jL_law_164_227]
    obtain ⟨s2, i2, e⟩ := LS_end (sc := sc) (d := d) (b := b) h g1
    exact ⟨K, s2, i2, e⟩
  · rw [show (nI 2 : Int32) = 2 from rfl, qL_law_33_c2, jL_law_164_250]
    obtain ⟨s2, i2, e⟩ := LS_text (sc := sc) (d := d) (b := b) h g1 g2
    exact ⟨K, s2, i2, e⟩
  · rw [show (nI 3 : Int32) = 3 from rfl, qL_law_33_c3, jL_law_164_283]
    obtain ⟨s2, i2, e⟩ := LS_fault (sc := sc) (d := d) (b := b) h g1
    exact ⟨K, s2, i2, e⟩
  · rw [show (nI 4 : Int32) = 4 from rfl, qL_law_33_c4, jL_law_164_306]
    obtain ⟨s2, i2, e⟩ := LS_republic (sc := sc) (d := d) (b := b) h g1 g2
    exact ⟨K, s2, i2, e⟩
  · rw [show (nI 5 : Int32) = 5 from rfl, qL_law_33_c5, jL_law_164_339]
    obtain ⟨s2, i2, e⟩ := LS_minister (sc := sc) (d := d) (b := b) h g1 g2 g3
    exact ⟨K, s2, i2, e⟩
  · rw [show (nI 6 : Int32) = 6 from rfl, qL_law_33_c6, jL_law_164_382]
    obtain ⟨s2, i2, e⟩ := LS_off (sc := sc) (d := d) (b := b) h g1 g2 g3 g4 g5 g6
    exact ⟨K, s2, i2, e⟩
  · rw [show (nI 7 : Int32) = 7 from rfl, qL_law_33_c7, jL_law_164_457]
    obtain ⟨s2, i2, e⟩ := LS_vote (sc := sc) (d := d) (b := b) h g1 g2 g3 g4 g5 g6 g7
    exact ⟨K, s2, i2, e⟩
  · rw [show (nI 8 : Int32) = 8 from rfl, qL_law_33_c8, jL_law_164_560]
    obtain ⟨s2, i2, e⟩ := LS_order (sc := sc) (d := d) (b := b) h g1 g2 g3
    exact ⟨K, s2, i2, e⟩
  · rw [show (nI 9 : Int32) = 9 from rfl, qL_law_33_c9, jL_law_164_603]
    obtain ⟨s2, i2, e⟩ := LS_broken (sc := sc) (d := d) (b := b) h g1 g2 g3 g4 g5 g6
    exact ⟨K, s2, i2, e⟩
  · rw [show (nI 10 : Int32) = 10 from rfl, qL_law_33_c10, jL_law_164_678]
    obtain ⟨s2, i2, e⟩ := LS_deed (sc := sc) (d := d) (b := b) h g1 g2 g3
    exact ⟨K, s2, i2, e⟩
  · rw [show (nI 11 : Int32) = 11 from rfl, qL_law_33_c11, jL_law_164_721]
    obtain ⟨s2, i2, e⟩ := LS_stop (sc := sc) (d := d) (b := b) h g1 g2 g3
    exact ⟨K, s2, i2, e⟩
  · rw [show (nI 12 : Int32) = 12 from rfl, qL_law_33_c12, jL_law_164_764]
    obtain ⟨s2, i2, e⟩ := LS_state (sc := sc) (d := d) (b := b) h g1 g2 g3 g4 g5
    exact ⟨K, s2, i2, e⟩
  · rw [show (nI 13 : Int32) = 13 from rfl, qL_law_33_c13, jL_law_164_827]
    obtain ⟨s2, i2, e⟩ := LS_agreed (sc := sc) (d := d) (b := b) h g1 g2 g3 g4 g5
    exact ⟨K, s2, i2, e⟩
  · rw [show (nI 14 : Int32) = 14 from rfl, qL_law_33_c14, jL_law_164_890]
    obtain ⟨s2, i2, e⟩ := LS_power (sc := sc) (d := d) (b := b) h g1 g2 g3
    exact ⟨K, s2, i2, e⟩
  · rw [show (nI 15 : Int32) = 15 from rfl, qL_law_33_c15, jL_law_164_949]
    obtain ⟨s2, i2, e⟩ := LS_coalition (sc := sc) (d := d) (b := b) h g1 g2
    exact ⟨K, s2, i2, e⟩
  · rw [show (nI 16 : Int32) = 16 from rfl, qL_law_33_c16, jL_law_164_982]
    obtain ⟨s2, i2, e⟩ := LS_bribe (sc := sc) (d := d) (b := b) h g1 g2 g3 g4 g5 g6 g7
    exact ⟨K, s2, i2, e⟩
  · rw [show (nI 17 : Int32) = 17 from rfl, qL_law_33_c17, jL_law_164_1085]
    obtain ⟨s2, i2, e⟩ := LS_lobby (sc := sc) (d := d) (b := b) h g1 g2 g3 g4 g5 g6 g7
    exact ⟨K, s2, i2, e⟩
  · rw [show (nI 18 : Int32) = 18 from rfl, qL_law_33_c18, jL_law_164_1172]
    obtain ⟨s2, i2, e⟩ := LS_bargain (sc := sc) (d := d) (b := b) h g1 g2 g3
    exact ⟨K, s2, i2, e⟩
  · rw [show (nI 19 : Int32) = 19 from rfl, qL_law_33_c19, jL_law_164_1215]
    obtain ⟨s2, i2, e⟩ := LS_was (sc := sc) (d := d) (b := b) h g1 g2 g3
    exact ⟨K, s2, i2, e⟩
  · rw [show (nI 20 : Int32) = 20 from rfl, qL_law_33_c20, jL_law_164_1258]
    obtain ⟨s2, i2, e⟩ := LS_nature (sc := sc) (d := d) (b := b) h g1 g2 g3
    exact ⟨K, s2, i2, e⟩
  · rw [show (nI 21 : Int32) = 21 from rfl, qL_law_33_c21, jL_law_164_1301]
    obtain ⟨s2, i2, e⟩ := LS_seats (sc := sc) (d := d) (b := b) h g1 g2 g3
    exact ⟨K, s2, i2, e⟩
  · rw [show (nI 22 : Int32) = 22 from rfl, qL_law_33_c22, jL_law_164_1344]
    obtain ⟨s2, i2, e⟩ := LS_reshuffle (sc := sc) (d := d) (b := b) h g1 g2
    exact ⟨K, s2, i2, e⟩
  · rw [show (nI 23 : Int32) = 23 from rfl, qL_law_33_c23, jL_law_164_1393]
    obtain ⟨s2, i2, e⟩ := LS_leak (sc := sc) (d := d) (b := b) h g1 g2 g3
    exact ⟨K, s2, i2, e⟩
  · rw [show (nI 24 : Int32) = 24 from rfl, qL_law_33_c24, jL_law_164_1436]
    obtain ⟨s2, i2, e⟩ := LS_fits (sc := sc) (d := d) (b := b) h g1 g2 g3 g4 g5
    exact ⟨K, s2, i2, e⟩
  · rw [show (nI 25 : Int32) = 25 from rfl, qL_law_33_c25, jL_law_164_1499]
    obtain ⟨s2, i2, e⟩ := LS_drawn (sc := sc) (d := d) (b := b) h g1 g2 g3 g4
    exact ⟨K, s2, i2, e⟩
  · rw [show (nI 26 : Int32) = 26 from rfl, qL_law_33_c26, jL_law_164_1552]
    obtain ⟨s2, i2, e⟩ := LS_count (sc := sc) (d := d) (b := b) h g1
    exact ⟨K, s2, i2, e⟩
  · rw [show (nI 27 : Int32) = 27 from rfl, qL_law_33_c27, jL_law_164_1575]
    exact LS_image h g1
  · rw [show (nI 28 : Int32) = 28 from rfl, qL_law_33_c28, jL_law_164_1598]
    obtain ⟨s2, i2, e⟩ := LS_again (sc := sc) (d := d) (b := b) h g1
    exact ⟨K, s2, i2, e⟩
theorem n8 {N j : Nat} (hN : N ≤ 4096) (hj : j ≤ 8192) : (N < j + 8 → nI N - 8 < nI j) ∧ (j + 8 ≤ N → ¬ nI N - 8 < nI j) := by
  by_cases c : 8 ≤ N
  · have e : nI N - 8 = nI (N - 8) := nI_subn c
    rw [e]
    exact ⟨fun h => nI_lt2 (by omega) (by omega), fun h => Int32.not_lt.mpr (nI_le2 (by omega) (by omega))⟩
  · have k : ∀ n, n < 8 → nI n - 8 < 0 := by decide
    exact ⟨fun _ => Int32.lt_of_lt_of_le (k N (by omega)) (nI_le2 (a := 0) (by omega) (by omega)), fun h => by omega⟩
theorem LOOP (hN : sc.1 ≤ 4096) : ∀ (n z j : Nat) (K : List KD) (s : SG), INVP SIM1 K s → j ≤ 8192 → sc.1 < j + 8 + 8 * n → n ≤ z → ∃ K2 s2, INVP SIM1 K2 s2 ∧ fW sc 8 4 false 4 (xN sc (d + 11)) (ex sc 8 4 false 4 (xN sc (d + 11)) kL_law_0 z) kL_law_18 18 [some (.inr (.inr (.inr 2))), some (.inr (.inr (.inl (some 0)))), some (.inr (.inr (.inl (some 64)))), some (.inl (nI j))] [] (wl K s) = some (some (.inl 1), wl K2 s2) := by
  intro n
  have fin : ∀ (z j : Nat) (K : List KD) (s : SG), INVP SIM1 K s → j ≤ 8192 → sc.1 < j + 8 → ∃ K2 s2, INVP SIM1 K2 s2 ∧ fW sc 8 4 false 4 (xN sc (d + 11)) (ex sc 8 4 false 4 (xN sc (d + 11)) kL_law_0 z) kL_law_18 18 [some (.inr (.inr (.inr 2))), some (.inr (.inr (.inl (some 0)))), some (.inr (.inr (.inl (some 64)))), some (.inl (nI j))] [] (wl K s) = some (some (.inl 1), wl K2 s2) := by
    intro z j K s h hj hn
    refine ⟨K, s, h, ?_⟩
    rw [uL_law_18, qL_law_18, show xnn sc (wl K s) (.inr (.inr (.inr 2))) = some sc.1 from rfl, bd2, if_pos ((n8 hN hj).1 hn), jL_law_27_1627, uL_law_1627, qL_law_1627]
  induction n with
  | zero =>
    intro z j K s h hj hn hz
    exact fin z j K s h hj (by omega)
  | succ n ih =>
    intro z j K s h hj hn hz
    by_cases c : sc.1 < j + 8
    · exact fin z j K s h hj c
    · obtain ⟨z, rfl⟩ : ∃ z', z = z' + 1 := ⟨z - 1, by omega⟩
      have e31 : ∀ v : Int32, ∃ a, v &&& 31 = nI a ∧ a ≤ 63 := fun v => b63 (by rw [Int32.and_assoc]; rfl)
      obtain ⟨a, ea, ha⟩ := e31 (sc.2 j)
      obtain ⟨K2, s2, i2, e⟩ := LSW (sc := sc) (d := d) (b := ex sc 8 4 false 4 (xN sc (d + 11)) kL_law_0 (z + 1)) ha (j := j) (by omega) hN h
      obtain ⟨K3, s3, i3, e3⟩ := ih z (j + 8) K2 s2 i2 (by omega) (by omega) (by omega)
      refine ⟨K3, s3, i3, ?_⟩
      have g0 : xdi sc (wl K s) (nI j) (.inr (.inr (.inr 2))) = some (sc.2 j) := by
        show (bif xvb (nI j) sc.1 then some (sc.2 (nI j).toNatClampNeg) else none) = _
        rw [xvb_nI (by omega) (by omega), nI_clamp (by omega)]; rfl
      rw [uL_law_18, qL_law_18, show xnn sc (wl K s) (.inr (.inr (.inr 2))) = some sc.1 from rfl, bd2, if_neg ((n8 hN hj).2 (by omega)), uL_law_27, qL_law_27, g0, bd2, ea, e, uL_law_1621, qL_law_1621, eX_eq, jL_law_0_18, show (nI j + 8 : Int32) = nI (j + 8) from nI_add j 8]
      exact e3
end XRR
end
section
section XRS
variable {sc : Nat × (Nat → Int32)} {d : Nat} {K : List KD} {r q t a B m : Nat} {w : EW}
section XIN
variable {sc : Nat × (Nat → Int32)} {d : Nat}
/-! the law's start: the constructors of the whole -/
theorem tld0_len {n : Nat} : (tld0 n).length = 41 := by
  unfold tld0
  rw [List.length_append, List.length_append, rps_len, rws_len]; rfl
theorem rep0_len {n : Nat} : (rep0 n).length = 8 := rfl
theorem row0_len {n : Nat} : (row0 n).length = 2 := rfl
def ix1 (n : Nat) : EW := cO 1 [eR (n + 1), eR (n + 9), eI 0, eI 0, eR (n + 11), eR (n + 12), eI 0, eI 0, eI 0, eI 0, eI 0, eI 0] :: (rep0 (n + 1) ++ (row0 (n + 9) ++ [cI 0 600 z0, cI 0 5 z0]))
def ix0 (n : Nat) : EW := [cO 0 [eR (n + 1), eI 0, eI 0, eI 0, eR (n + 2), eR (n + 3), eI 0, eI 0, eI 0, eI 0, eI 0, eI 0, eI 0], cO 4 [eI 0, eI 0, eI 0], cI 0 6 z0, cI 0 3 z0]
theorem ix1_len {n : Nat} : (ix1 n).length = 13 := rfl
theorem ix0_len {n : Nat} : (ix0 n).length = 4 := rfl
theorem c_init4 {w : EW} {r0 : Nat} : xN sc (d + 1) 63 [.inr (.inr (.inl (some r0)))] w = some (none, w) := by
  rw [mX4_init, uX4_init_0, qX4_init_0]
theorem c_init0 {w : EW} : xN sc (d + 2) 0 [.inr (.inr (.inl (some w.length)))] (w ++ [cO 0 [eN, eI 0, eI 0, eI 0, eN, eN, eI 0, eI 0, eI 0, eI 0, eI 0, eI 0, eI 0]]) = some (none, w ++ ix0 w.length) := by
  rw [mX0_init]
  have e1 : xp (w ++ [cO 0 [eN, eI 0, eI 0, eI 0, eN, eN, eI 0, eI 0, eI 0, eI 0, eI 0, eI 0, eI 0], cO 4 [eI 0, eI 0, eI 0]]) 0 0 (.inr (.inr (.inl (some (w.length + 1))))) (.inr (.inr (.inl (some w.length)))) = some (w ++ [cO 0 [eR (w.length + 1), eI 0, eI 0, eI 0, eN, eN, eI 0, eI 0, eI 0, eI 0, eI 0, eI 0, eI 0], cO 4 [eI 0, eI 0, eI 0]]) := xpA (k := 0) (fs := [eN, eI 0, eI 0, eI 0, eN, eN, eI 0, eI 0, eI 0, eI 0, eI 0, eI 0, eI 0]) rfl rfl
  have e2 : xp (w ++ [cO 0 [eR (w.length + 1), eI 0, eI 0, eI 0, eN, eN, eI 0, eI 0, eI 0, eI 0, eI 0, eI 0, eI 0], cO 4 [eI 0, eI 0, eI 0], cI 0 6 z0]) 0 4 (.inr (.inr (.inl (some (w.length + 2))))) (.inr (.inr (.inl (some w.length)))) = some (w ++ [cO 0 [eR (w.length + 1), eI 0, eI 0, eI 0, eR (w.length + 2), eN, eI 0, eI 0, eI 0, eI 0, eI 0, eI 0, eI 0], cO 4 [eI 0, eI 0, eI 0], cI 0 6 z0]) := xpA (k := 0) (fs := [eR (w.length + 1), eI 0, eI 0, eI 0, eN, eN, eI 0, eI 0, eI 0, eI 0, eI 0, eI 0, eI 0]) rfl rfl
  have e3 : xp (w ++ [cO 0 [eR (w.length + 1), eI 0, eI 0, eI 0, eR (w.length + 2), eN, eI 0, eI 0, eI 0, eI 0, eI 0, eI 0, eI 0], cO 4 [eI 0, eI 0, eI 0], cI 0 6 z0, cI 0 3 z0]) 0 5 (.inr (.inr (.inl (some (w.length + 3))))) (.inr (.inr (.inl (some w.length)))) = some (w ++ ix0 w.length) := xpA (k := 0) (fs := [eR (w.length + 1), eI 0, eI 0, eI 0, eR (w.length + 2), eN, eI 0, eI 0, eI 0, eI 0, eI 0, eI 0, eI 0]) rfl rfl
  simp only [uX0_init_0, qX0_init_0, List.append_assoc, List.cons_append, List.nil_append, List.length_append, List.length_cons, List.length_nil, Nat.zero_add, Nat.reduceAdd, Nat.add_assoc, tld0_len, ix1_len, ix0_len, rep0_len, row0_len, c_init4, xcv_eq, e1, e2, e3, bd_eq]
theorem c_init1 {w : EW} : xN sc (d + 2) 15 [.inr (.inr (.inl (some w.length)))] (w ++ [cO 1 [eN, eN, eI 0, eI 0, eN, eN, eI 0, eI 0, eI 0, eI 0, eI 0, eI 0]]) = some (none, w ++ ix1 w.length) := by
  rw [mX1_init]
  have a1 := c_init2 (sc := sc) (d := d) (w := w ++ [cO 1 [eN, eN, eI 0, eI 0, eN, eN, eI 0, eI 0, eI 0, eI 0, eI 0, eI 0]])
  simp only [List.append_assoc, List.cons_append, List.nil_append, List.length_append, List.length_cons, List.length_nil, Nat.zero_add, Nat.reduceAdd, Nat.add_assoc, tld0_len, ix1_len, ix0_len, rep0_len, row0_len] at a1
  have e1 : xp (w ++ (cO 1 [eN, eN, eI 0, eI 0, eN, eN, eI 0, eI 0, eI 0, eI 0, eI 0, eI 0] :: rep0 (w.length + 1))) 1 0 (.inr (.inr (.inl (some (w.length + 1))))) (.inr (.inr (.inl (some w.length)))) = some (w ++ (cO 1 [eR (w.length + 1), eN, eI 0, eI 0, eN, eN, eI 0, eI 0, eI 0, eI 0, eI 0, eI 0] :: rep0 (w.length + 1))) := xpA (k := 0) (fs := [eN, eN, eI 0, eI 0, eN, eN, eI 0, eI 0, eI 0, eI 0, eI 0, eI 0]) rfl rfl
  have a2 := c_init3 (sc := sc) (d := d) (w := w ++ (cO 1 [eR (w.length + 1), eN, eI 0, eI 0, eN, eN, eI 0, eI 0, eI 0, eI 0, eI 0, eI 0] :: rep0 (w.length + 1)))
  simp only [List.append_assoc, List.cons_append, List.nil_append, List.length_append, List.length_cons, List.length_nil, Nat.zero_add, Nat.reduceAdd, Nat.add_assoc, tld0_len, ix1_len, ix0_len, rep0_len, row0_len] at a2
  have e2 : xp (w ++ (cO 1 [eR (w.length + 1), eN, eI 0, eI 0, eN, eN, eI 0, eI 0, eI 0, eI 0, eI 0, eI 0] :: (rep0 (w.length + 1) ++ row0 (w.length + 9)))) 1 1 (.inr (.inr (.inl (some (w.length + 9))))) (.inr (.inr (.inl (some w.length)))) = some (w ++ (cO 1 [eR (w.length + 1), eR (w.length + 9), eI 0, eI 0, eN, eN, eI 0, eI 0, eI 0, eI 0, eI 0, eI 0] :: (rep0 (w.length + 1) ++ row0 (w.length + 9)))) := xpA (k := 0) (fs := [eR (w.length + 1), eN, eI 0, eI 0, eN, eN, eI 0, eI 0, eI 0, eI 0, eI 0, eI 0]) rfl rfl
  have e3 : xp (w ++ (cO 1 [eR (w.length + 1), eR (w.length + 9), eI 0, eI 0, eN, eN, eI 0, eI 0, eI 0, eI 0, eI 0, eI 0] :: (rep0 (w.length + 1) ++ (row0 (w.length + 9) ++ [cI 0 600 z0])))) 1 4 (.inr (.inr (.inl (some (w.length + 11))))) (.inr (.inr (.inl (some w.length)))) = some (w ++ (cO 1 [eR (w.length + 1), eR (w.length + 9), eI 0, eI 0, eR (w.length + 11), eN, eI 0, eI 0, eI 0, eI 0, eI 0, eI 0] :: (rep0 (w.length + 1) ++ (row0 (w.length + 9) ++ [cI 0 600 z0])))) := xpA (k := 0) (fs := [eR (w.length + 1), eR (w.length + 9), eI 0, eI 0, eN, eN, eI 0, eI 0, eI 0, eI 0, eI 0, eI 0]) rfl rfl
  have e4 : xp (w ++ (cO 1 [eR (w.length + 1), eR (w.length + 9), eI 0, eI 0, eR (w.length + 11), eN, eI 0, eI 0, eI 0, eI 0, eI 0, eI 0] :: (rep0 (w.length + 1) ++ (row0 (w.length + 9) ++ [cI 0 600 z0, cI 0 5 z0])))) 1 5 (.inr (.inr (.inl (some (w.length + 12))))) (.inr (.inr (.inl (some w.length)))) = some (w ++ ix1 w.length) := xpA (k := 0) (fs := [eR (w.length + 1), eR (w.length + 9), eI 0, eI 0, eR (w.length + 11), eN, eI 0, eI 0, eI 0, eI 0, eI 0, eI 0]) rfl rfl
  simp only [uX1_init_0, qX1_init_0, List.append_assoc, List.cons_append, List.nil_append, List.length_append, List.length_cons, List.length_nil, Nat.zero_add, Nat.reduceAdd, Nat.add_assoc, tld0_len, ix1_len, ix0_len, rep0_len, row0_len, a1, a2, xcv_eq, e1, e2, e3, e4, bd_eq]
def wl6 (n : Nat) : EW := cO 6 [eR (n + 1), eR (n + 42), eR (n + 43), eR (n + 56), eR (n + 60), eR (n + 61), eR (n + 62), eR (n + 63)] :: (tld0 (n + 1) ++ (cQ 4 3 (fun _ => none) :: (ix1 (n + 43) ++ (ix0 (n + 56) ++ [cO 4 [eI 0, eI 0, eI 0], cI 0 40 z0, cI 0 216 z0, cI 0 1000 z0]))))
theorem c_init6 {w : EW} : xN sc (d + 3) 71 [.inr (.inr (.inl (some w.length)))] (w ++ [cO 6 [eN, eN, eN, eN, eN, eN, eN, eN]]) = some (none, w ++ wl6 w.length) := by
  rw [mX6_init]
  have a1 := c_init5 (sc := sc) (d := d) (w := w ++ [cO 6 [eN, eN, eN, eN, eN, eN, eN, eN]])
  simp only [List.append_assoc, List.cons_append, List.nil_append, List.length_append, List.length_cons, List.length_nil, Nat.zero_add, Nat.reduceAdd, Nat.add_assoc, tld0_len, ix1_len, ix0_len, rep0_len, row0_len] at a1
  have e1 : xp (w ++ (cO 6 [eN, eN, eN, eN, eN, eN, eN, eN] :: tld0 (w.length + 1))) 6 0 (.inr (.inr (.inl (some (w.length + 1))))) (.inr (.inr (.inl (some w.length)))) = some (w ++ (cO 6 [eR (w.length + 1), eN, eN, eN, eN, eN, eN, eN] :: tld0 (w.length + 1))) := xpA (k := 0) (fs := [eN, eN, eN, eN, eN, eN, eN, eN]) rfl rfl
  have e2 : xp (w ++ (cO 6 [eR (w.length + 1), eN, eN, eN, eN, eN, eN, eN] :: (tld0 (w.length + 1) ++ [cQ 4 3 (fun _ => none)]))) 6 1 (.inr (.inr (.inl (some (w.length + 42))))) (.inr (.inr (.inl (some w.length)))) = some (w ++ (cO 6 [eR (w.length + 1), eR (w.length + 42), eN, eN, eN, eN, eN, eN] :: (tld0 (w.length + 1) ++ [cQ 4 3 (fun _ => none)]))) := xpA (k := 0) (fs := [eR (w.length + 1), eN, eN, eN, eN, eN, eN, eN]) rfl rfl
  have a2 := c_init1 (sc := sc) (d := d) (w := w ++ (cO 6 [eR (w.length + 1), eR (w.length + 42), eN, eN, eN, eN, eN, eN] :: (tld0 (w.length + 1) ++ [cQ 4 3 (fun _ => none)])))
  simp only [List.append_assoc, List.cons_append, List.nil_append, List.length_append, List.length_cons, List.length_nil, Nat.zero_add, Nat.reduceAdd, Nat.add_assoc, tld0_len, ix1_len, ix0_len, rep0_len, row0_len] at a2
  have e3 : xp (w ++ (cO 6 [eR (w.length + 1), eR (w.length + 42), eN, eN, eN, eN, eN, eN] :: (tld0 (w.length + 1) ++ (cQ 4 3 (fun _ => none) :: ix1 (w.length + 43))))) 6 2 (.inr (.inr (.inl (some (w.length + 43))))) (.inr (.inr (.inl (some w.length)))) = some (w ++ (cO 6 [eR (w.length + 1), eR (w.length + 42), eR (w.length + 43), eN, eN, eN, eN, eN] :: (tld0 (w.length + 1) ++ (cQ 4 3 (fun _ => none) :: ix1 (w.length + 43))))) := xpA (k := 0) (fs := [eR (w.length + 1), eR (w.length + 42), eN, eN, eN, eN, eN, eN]) rfl rfl
  have a3 := c_init0 (sc := sc) (d := d) (w := w ++ (cO 6 [eR (w.length + 1), eR (w.length + 42), eR (w.length + 43), eN, eN, eN, eN, eN] :: (tld0 (w.length + 1) ++ (cQ 4 3 (fun _ => none) :: ix1 (w.length + 43)))))
  simp only [List.append_assoc, List.cons_append, List.nil_append, List.length_append, List.length_cons, List.length_nil, Nat.zero_add, Nat.reduceAdd, Nat.add_assoc, tld0_len, ix1_len, ix0_len, rep0_len, row0_len] at a3
  have e4 : xp (w ++ (cO 6 [eR (w.length + 1), eR (w.length + 42), eR (w.length + 43), eN, eN, eN, eN, eN] :: (tld0 (w.length + 1) ++ (cQ 4 3 (fun _ => none) :: (ix1 (w.length + 43) ++ ix0 (w.length + 56)))))) 6 3 (.inr (.inr (.inl (some (w.length + 56))))) (.inr (.inr (.inl (some w.length)))) = some (w ++ (cO 6 [eR (w.length + 1), eR (w.length + 42), eR (w.length + 43), eR (w.length + 56), eN, eN, eN, eN] :: (tld0 (w.length + 1) ++ (cQ 4 3 (fun _ => none) :: (ix1 (w.length + 43) ++ ix0 (w.length + 56)))))) := xpA (k := 0) (fs := [eR (w.length + 1), eR (w.length + 42), eR (w.length + 43), eN, eN, eN, eN, eN]) rfl rfl
  have e5 : xp (w ++ (cO 6 [eR (w.length + 1), eR (w.length + 42), eR (w.length + 43), eR (w.length + 56), eN, eN, eN, eN] :: (tld0 (w.length + 1) ++ (cQ 4 3 (fun _ => none) :: (ix1 (w.length + 43) ++ (ix0 (w.length + 56) ++ [cO 4 [eI 0, eI 0, eI 0]])))))) 6 4 (.inr (.inr (.inl (some (w.length + 60))))) (.inr (.inr (.inl (some w.length)))) = some (w ++ (cO 6 [eR (w.length + 1), eR (w.length + 42), eR (w.length + 43), eR (w.length + 56), eR (w.length + 60), eN, eN, eN] :: (tld0 (w.length + 1) ++ (cQ 4 3 (fun _ => none) :: (ix1 (w.length + 43) ++ (ix0 (w.length + 56) ++ [cO 4 [eI 0, eI 0, eI 0]])))))) := xpA (k := 0) (fs := [eR (w.length + 1), eR (w.length + 42), eR (w.length + 43), eR (w.length + 56), eN, eN, eN, eN]) rfl rfl
  have e6 : xp (w ++ (cO 6 [eR (w.length + 1), eR (w.length + 42), eR (w.length + 43), eR (w.length + 56), eR (w.length + 60), eN, eN, eN] :: (tld0 (w.length + 1) ++ (cQ 4 3 (fun _ => none) :: (ix1 (w.length + 43) ++ (ix0 (w.length + 56) ++ [cO 4 [eI 0, eI 0, eI 0], cI 0 40 z0])))))) 6 5 (.inr (.inr (.inl (some (w.length + 61))))) (.inr (.inr (.inl (some w.length)))) = some (w ++ (cO 6 [eR (w.length + 1), eR (w.length + 42), eR (w.length + 43), eR (w.length + 56), eR (w.length + 60), eR (w.length + 61), eN, eN] :: (tld0 (w.length + 1) ++ (cQ 4 3 (fun _ => none) :: (ix1 (w.length + 43) ++ (ix0 (w.length + 56) ++ [cO 4 [eI 0, eI 0, eI 0], cI 0 40 z0])))))) := xpA (k := 0) (fs := [eR (w.length + 1), eR (w.length + 42), eR (w.length + 43), eR (w.length + 56), eR (w.length + 60), eN, eN, eN]) rfl rfl
  have e7 : xp (w ++ (cO 6 [eR (w.length + 1), eR (w.length + 42), eR (w.length + 43), eR (w.length + 56), eR (w.length + 60), eR (w.length + 61), eN, eN] :: (tld0 (w.length + 1) ++ (cQ 4 3 (fun _ => none) :: (ix1 (w.length + 43) ++ (ix0 (w.length + 56) ++ [cO 4 [eI 0, eI 0, eI 0], cI 0 40 z0, cI 0 216 z0])))))) 6 6 (.inr (.inr (.inl (some (w.length + 62))))) (.inr (.inr (.inl (some w.length)))) = some (w ++ (cO 6 [eR (w.length + 1), eR (w.length + 42), eR (w.length + 43), eR (w.length + 56), eR (w.length + 60), eR (w.length + 61), eR (w.length + 62), eN] :: (tld0 (w.length + 1) ++ (cQ 4 3 (fun _ => none) :: (ix1 (w.length + 43) ++ (ix0 (w.length + 56) ++ [cO 4 [eI 0, eI 0, eI 0], cI 0 40 z0, cI 0 216 z0])))))) := xpA (k := 0) (fs := [eR (w.length + 1), eR (w.length + 42), eR (w.length + 43), eR (w.length + 56), eR (w.length + 60), eR (w.length + 61), eN, eN]) rfl rfl
  have e8 : xp (w ++ (cO 6 [eR (w.length + 1), eR (w.length + 42), eR (w.length + 43), eR (w.length + 56), eR (w.length + 60), eR (w.length + 61), eR (w.length + 62), eN] :: (tld0 (w.length + 1) ++ (cQ 4 3 (fun _ => none) :: (ix1 (w.length + 43) ++ (ix0 (w.length + 56) ++ [cO 4 [eI 0, eI 0, eI 0], cI 0 40 z0, cI 0 216 z0, cI 0 1000 z0])))))) 6 7 (.inr (.inr (.inl (some (w.length + 63))))) (.inr (.inr (.inl (some w.length)))) = some (w ++ (cO 6 [eR (w.length + 1), eR (w.length + 42), eR (w.length + 43), eR (w.length + 56), eR (w.length + 60), eR (w.length + 61), eR (w.length + 62), eR (w.length + 63)] :: (tld0 (w.length + 1) ++ (cQ 4 3 (fun _ => none) :: (ix1 (w.length + 43) ++ (ix0 (w.length + 56) ++ [cO 4 [eI 0, eI 0, eI 0], cI 0 40 z0, cI 0 216 z0, cI 0 1000 z0])))))) := xpA (k := 0) (fs := [eR (w.length + 1), eR (w.length + 42), eR (w.length + 43), eR (w.length + 56), eR (w.length + 60), eR (w.length + 61), eR (w.length + 62), eN]) rfl rfl
  simp only [uX6_init_0, qX6_init_0, List.append_assoc, List.cons_append, List.nil_append, List.length_append, List.length_cons, List.length_nil, Nat.zero_add, Nat.reduceAdd, Nat.add_assoc, tld0_len, ix1_len, ix0_len, rep0_len, row0_len, a1, a2, a3, c_init4, xcv_eq, e1, e2, e3, e4, e5, e6, e7, e8, bd_eq]
  rfl
end XIN
end XRS
end
