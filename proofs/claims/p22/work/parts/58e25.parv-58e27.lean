section
section XUC
variable {sc : Nat × (Nat → Int32)} {d : Nat} {K : List KD} {r q t a B m : Nat} {w : EW}
/-! coalitions on both sides -/
section CO
variable {s v : SG} {o n V : Nat} {x y1 y2 : Int32}
theorem least_8 (h : RQ s r v o n V) : ∀ (i m z : Nat) (y : Int32), m + i = n → (y = 0 ∨ y = 1) → pc (RisLeast_8 (RisLeast_R z) v x y (nI m)) (fun c => c = if y = 0 then 0 else islIL s r i m x) := by
  have hn := h.2.1.1
  intro i
  induction i with
  | zero =>
    intro m z y hm hy
    unfold RisLeast_8
    rw [q_ministers (rq_RH h), (rq_n h).1]
    show pc (if nI n ≤ nI m then (bif xrt 4 y then some y else none) else _) _
    rw [if_pos (nI_le2 (by omega) (by omega))]
    intro c hc
    rw [islIL]
    rcases hy with rfl | rfl
    · rw [if_pos rfl]
      cases hx : xrt 4 0 with
      | false => rw [hx] at hc; cases hc
      | true => rw [hx] at hc; cases hc; rfl
    · rw [if_neg (by decide)]
      cases hx : xrt 4 1 with
      | false => rw [hx] at hc; cases hc
      | true => rw [hx] at hc; cases hc; rfl
  | succ i ih =>
    intro m z y hm hy
    have go : ∀ (y' : Int32) (Q : Int32 → Prop), (y' = 0 ∨ y' = 1) → (∀ c, (c = if y' = 0 then 0 else islIL s r i (m + 1) x) → Q c) → pc ((RisLeast_R z) v x y' (nI m + 1)) Q := by
      intro y' Q hy' hq
      cases z with
      | zero => exact fun _ e => nomatch e
      | succ z =>
        show pc (RisLeast_8 (RisLeast_R z) v x y' (nI m + 1)) Q
        rw [← nI_succ]
        exact pc_w (ih (m + 1) z y' (by omega) hy') hq
    unfold RisLeast_8
    rw [q_ministers (rq_RH h), (rq_n h).1]
    show pc (if nI n ≤ nI m then _ else _) _
    rw [if_neg (nI_ge (by omega) (by omega))]
    have e : islIL s r (i + 1) m x = if hasI x (nI m) = 0 then islIL s r i (m + 1) x else if votT s r (x &&& ((1 <<< (nI m &&& 31)) ^^^ (-1))) < s r 9 then islIL s r i (m + 1) x else 0 := by rw [islIL]
    rw [e]
    have bit : ∀ b : Int32, (b &&& 1 = 0) ∨ (b &&& 1 = 1) := by
      intro b
      have q : (b &&& 1).toBitVec = b.toBitVec &&& 1#32 := rfl
      by_cases c : b.toBitVec.getLsbD 0 = true
      · refine Or.inr (Int32.toBitVec_inj.mp (BitVec.eq_of_getLsbD_eq (fun k hk => ?_)))
        rw [q, BitVec.getLsbD_and]
        by_cases k0 : k = 0
        · subst k0; rw [c]; rfl
        · have z : ∀ k, k < 32 → ¬ k = 0 → (1#32).getLsbD k = false := by decide
          rw [z k hk k0, Bool.and_false]; exact (z k hk k0).symm
      · refine Or.inl (Int32.toBitVec_inj.mp (BitVec.eq_of_getLsbD_eq (fun k hk => ?_)))
        rw [q, BitVec.getLsbD_and]
        have z0 : ∀ k, k < 32 → (0 : Int32).toBitVec.getLsbD k = false := by decide
        rw [z0 k hk]
        by_cases k0 : k = 0
        · subst k0; rw [Bool.eq_false_iff.mpr c]; rfl
        · have z : ∀ k, k < 32 → ¬ k = 0 → (1#32).getLsbD k = false := by decide
          rw [z k hk k0, Bool.and_false]
    rcases hy with rfl | rfl
    · rw [if_pos rfl]
      refine go 0 _ (Or.inl rfl) (fun c hc => ?_)
      rw [if_pos rfl] at hc ⊢; exact hc
    · rw [if_neg (show ¬ (1 : Int32) = 0 by decide)]
      by_cases c : (x >>> (nI m &&& 31)) &&& 1 = 1
      · rw [if_neg (show ¬ (x >>> (nI m &&& 31)) &&& 1 = 0 by rw [c]; decide), bg_eno h]
        show pc (if (if votT s r (x &&& ((1 <<< (nI m &&& 31)) ^^^ (-1))) < s r 9 then (0 : Int32) else 1) = 0 then _ else _) _
        by_cases g : votT s r (x &&& ((1 <<< (nI m &&& 31)) ^^^ (-1))) < s r 9
        · rw [if_pos g, if_pos rfl]
          refine go 1 _ (Or.inr rfl) (fun c' hc => ?_)
          rw [if_neg (show ¬ (1 : Int32) = 0 by decide)] at hc ⊢
          rw [if_neg (fun k => ((has_b (by omega)).1 k) c), if_pos g]; exact hc
        · rw [if_neg g, if_neg (show ¬ (1 : Int32) = 0 by decide)]
          refine go 0 _ (Or.inl rfl) (fun c' hc => ?_)
          rw [if_pos rfl] at hc
          rw [if_neg (show ¬ (1 : Int32) = 0 by decide), if_neg (fun k => ((has_b (by omega)).1 k) c), if_neg g]; exact hc
      · rw [if_pos ((bit _).resolve_right c)]
        refine go 1 _ (Or.inr rfl) (fun c' hc => ?_)
        rw [if_neg (show ¬ (1 : Int32) = 0 by decide)] at hc ⊢
        rw [if_pos ((has_b (by omega)).2 c)]; exact hc
theorem least_v (h : RQ s r v o n V) : pc (RisLeast v x) (fun c => c = islI s r x) := by
  obtain ⟨_, _, e3⟩ := rq_n h
  unfold RisLeast islI
  rw [bg_eno h, e3]
  show pc (RisLeast_8 (RisLeast_R xF) v x (if votT s r x < s r 9 then 0 else 1) (nI 0)) _
  by_cases g : votT s r x < s r 9
  · rw [if_pos g, if_neg (Int32.not_le.mpr g)]
    refine pc_w (least_8 h n 0 xF 0 (by omega) (Or.inl rfl)) (fun c hc => ?_)
    rw [if_pos rfl] at hc; exact hc
  · rw [if_neg g, if_pos (Int32.not_lt.mp g)]
    refine pc_w (least_8 h n 0 xF 1 (by omega) (Or.inr rfl)) (fun c hc => ?_)
    rw [if_neg (by decide)] at hc; exact hc
theorem key_4 (h : RQ s r v o n V) : ∀ (i m z : Nat) (y : Int32), m + i = n → pc (Rkey_4 (Rkey_R z) v y (nI m)) (fun c => c = keyIL s r i m y) := by
  have hn := h.2.1.1
  intro i
  induction i with
  | zero =>
    intro m z y hm
    unfold Rkey_4
    rw [q_ministers (rq_RH h), (rq_n h).1]
    show pc (if nI n ≤ nI m then some y else _) _
    rw [if_pos (nI_le2 (by omega) (by omega))]
    exact pc_s (by rw [keyIL])
  | succ i ih =>
    intro m z y hm
    have go : ∀ (y' : Int32) (Q : Int32 → Prop), (∀ c, c = keyIL s r i (m + 1) y' → Q c) → pc ((Rkey_R z) v y' (nI m + 1)) Q := by
      intro y' Q hq
      cases z with
      | zero => exact fun _ e => nomatch e
      | succ z =>
        show pc (Rkey_4 (Rkey_R z) v y' (nI m + 1)) Q
        rw [← nI_succ]
        exact pc_w (ih (m + 1) z y' (by omega)) hq
    unfold Rkey_4
    rw [q_ministers (rq_RH h), (rq_n h).1]
    show pc (if nI n ≤ nI m then _ else _) _
    rw [if_neg (nI_ge (by omega) (by omega)), bg_all h]
    show pc ((RisEnough v (allI s r &&& ((1 <<< (nI m &&& 31)) ^^^ (-1)))).bind _) _
    rw [bg_eno h]
    have e : keyIL s r (i + 1) m y = if s r 9 ≤ votT s r (allI s r &&& ((1 <<< (nI m &&& 31)) ^^^ (-1))) then keyIL s r i (m + 1) y else keyIL s r i (m + 1) (y ||| (1 <<< (nI m &&& 31))) := by rw [keyIL]
    rw [e]
    show pc (if (if votT s r (allI s r &&& ((1 <<< (nI m &&& 31)) ^^^ (-1))) < s r 9 then (0 : Int32) else 1) = 0 then _ else _) _
    by_cases g : votT s r (allI s r &&& ((1 <<< (nI m &&& 31)) ^^^ (-1))) < s r 9
    · rw [if_pos g, if_pos rfl, if_neg (Int32.not_le.mpr g)]
      exact go _ _ (fun c hc => hc)
    · rw [if_neg g, if_neg (show ¬ (1 : Int32) = 0 by decide), if_pos (Int32.not_lt.mp g), or_0]
      exact go _ _ (fun c hc => hc)
theorem key_v (h : RQ s r v o n V) : pc (Rkey v) (fun c => c = keyI s r) := by
  obtain ⟨_, _, e3⟩ := rq_n h
  unfold Rkey keyI
  rw [e3]
  exact key_4 h n 0 xF 0 (by omega)
theorem coa_33 (h : RQ s r v o n V) (zr : SZ s r) : ∀ (i j z : Nat) (y3 : Int32), j + i = al s r + 1 → pc (Rcoalition_33 (Rcoalition_R z) v y1 y2 y3 (nI j)) (fun p => p.1 = lecIL s r i j y2 y3) := by
  intro i
  induction i with
  | zero =>
    intro j z y3 hj
    unfold Rcoalition_33
    rw [bg_all h]
    show pc (if allI s r < nI j then _ else _) _
    rw [if_pos (al_gt zr hj), lecIL]
    by_cases c : y2 = -1
    · rw [if_pos c, if_pos c]; exact pc_s rfl
    · rw [if_neg c, if_neg c]; exact pc_s rfl
  | succ i ih =>
    intro j z y3 hj
    have go : ∀ (y' : Int32), pc ((Rcoalition_R z) v y1 y2 y' (nI j + 1)) (fun p => p.1 = lecIL s r i (j + 1) y2 y') := by
      intro y'
      cases z with
      | zero => exact fun _ e => nomatch e
      | succ z =>
        show pc (Rcoalition_33 (Rcoalition_R z) v y1 y2 y' (nI j + 1)) _
        rw [← nI_succ]
        exact ih (j + 1) z y' (by omega)
    unfold Rcoalition_33
    rw [bg_all h]
    show pc (if allI s r < nI j then _ else _) _
    rw [if_neg (al_le zr hj), lecIL]
    refine pc_b (least_v h) (fun c hc => ?_)
    subst hc
    by_cases k1 : islI s r (nI j) = 0
    · rw [if_pos k1, if_pos k1]; exact go y3
    · rw [if_neg k1, if_neg k1]
      by_cases k2 : y3 = y2
      · rw [if_pos k2, if_pos k2]; exact pc_s rfl
      · rw [if_neg k2, if_neg k2]; exact go (y3 + 1)
end CO
/-- a told republic that a query means, on both sides -/
theorem rep_v {s : SG} {x1 : Int32} (hn : SIMn s) (rr : RI s) : (repO s x1 = none ∧ RisRepublic s x1 = some (0, s)) ∨ ∃ j u n V, j < 2 ∧ repO s x1 = some (6 + 8 * j) ∧ RisRepublic s x1 = some u ∧ u.1 = 1 ∧ RQ s (6 + 8 * j) u.2 (610 + 118 * j) n V ∧ SZ s (6 + 8 * j) ∧ u.2 65 = s 65 ∧ u.2 64 18 = allI s (6 + 8 * j) := by
  obtain ⟨n0, en, hn2⟩ := rr.1.1 0 (by omega)
  rcases rep_sel (x := x1) hn en hn2 with ⟨z, e⟩ | ⟨j, hj, hjn, ex, z, e⟩
  · exact Or.inl ⟨e, isRep_n z⟩
  · obtain ⟨u, eu, u1, u65, u11, u18, u20, u21, u22⟩ := isRep_v hj ex z
    have rq0 := rep_q hn hj en hn2 hjn
    rw [← u65] at rq0
    obtain ⟨n, V, rq⟩ := RQ_of rq0 u11 (by omega)
    obtain ⟨_, _, e3⟩ := rq_n rq
    refine Or.inr ⟨j, u, n, V, hj, e, eu, u1, rq, ⟨by rw [e3]; exact rq.2.2.1.1, by rw [e3]; exact rq.2.1.1⟩, u65, ?_⟩
    rw [u18, rq_all rq, ← u65, rq.2.2.1.2]
theorem CE_coalition {s : SG} {x1 x2 : Int32} (hP : wLoc SIM1) (h : INVP SIM1 K s) : ∃ v s1 s2, xN sc (d + 11) 108 [.inr (.inr (.inl (some 0))), .inl x1, .inl x2] (wl K s) = some (some (.inl v), wl K s1) ∧ xN sc (d + 11) 244 [.inr (.inr (.inl (some 64))), .inl x1, .inl x2] (wl K s1) = some (some (.inl v), wl K s2) ∧ INVP SIM1 K s2 := by
  have hK := INVP_SH h
  have hn := SIM_n.1 (INVP_P h)
  have rr := INVP_RI h
  have q2 := r_coalition (sc := sc) (d := d + 5) (s := s) (x1 := x1) (x2 := x2) hK
  obtain ⟨p, e2, qi⟩ : ok (Rcoalition s x1 x2) (fun p => QI s p.2) := coalition_ok rr
  rw [e2] at q2
  have I := INVP_q hP h (s1 := s) (fun _ _ => rfl) qi
  unfold Rcoalition at e2
  rcases rep_v (x1 := x1) hn rr with ⟨e0, er⟩ | ⟨j, u, n, V, hj, e0, er, u1, rq, zr, u65, u18⟩
  · rw [er] at e2
    rw [Option.bind_some, if_pos rfl] at e2
    have ep : p.1 = -3 := by cases e2; rfl
    exact ⟨p.1, s, p.2, by rw [ep]; exact c_coaI_a (sc := sc) (d := d + 8) (s := s) (x := x1) (v := x2) hK e0, q2, I⟩
  · rw [er] at e2
    replace e2 : (if u.1 = 0 then some (-3, u.2) else if (-2) ≤ x2 then (if x2 = (-2) then ((Rkey u.2).bind fun q2 => some (q2, u.2)) else Rcoalition_33 (Rcoalition_R xF) u.2 x1 x2 (0) (0)) else some (-3, u.2)) = some p := e2
    rw [if_neg (show ¬ u.1 = 0 by rw [u1]; decide)] at e2
    have cc := c_coaI_b (sc := sc) (d := d + 6) (s := s) (x := x1) (v := x2) (rp_j hK hj) hK e0 zr
    refine ⟨p.1, s, p.2, ?_, q2, I⟩
    rw [cc]
    have fin : coaIb s (6 + 8 * j) x2 = p.1 := by
      unfold coaIb
      by_cases c1 : -2 ≤ x2
      · rw [if_pos c1] at e2 ⊢
        by_cases c2 : x2 = -2
        · rw [if_pos c2] at e2 ⊢
          have k : pc ((Rkey u.2).bind fun q2 => some (q2, u.2)) (fun p => p.1 = keyI s (6 + 8 * j)) := pc_b (key_v rq) (fun c hc => pc_s hc)
          exact (k p e2).symm
        · rw [if_neg c2] at e2 ⊢
          exact (coa_33 (y1 := x1) (y2 := x2) rq zr (al s (6 + 8 * j) + 1) 0 xF 0 (by omega) p e2).symm
      · rw [if_neg c1] at e2 ⊢
        cases e2; rfl
    rw [fin]
end XUC
end
section
section XUD
variable {sc : Nat × (Nat → Int32)} {d : Nat} {K : List KD} {r q t a B m : Nat} {w : EW}
/-! power on both sides -/
theorem bit_e : ∀ a, a < 64 → bitI (nI a) = bsL (nI a) 31 0 0 := by decide +kernel
theorem bit_n : ∀ n, n < 7 → ∀ m, m < n → ∀ a, a < 2 ^ n → ¬ (nI a >>> (nI m &&& 31)) &&& 1 = 1 → ∃ b, b < n ∧ bitI (nI a) = nI b := by decide +kernel
theorem fac_e : ∀ k, k < 7 → facI (nI k) = nI (fcN k) := by decide +kernel
theorem com_r {y0 y1 : Int32} : ∀ (b a k : Nat), a < 2 ^ 31 → b < 2 ^ 31 → pc (Rcommon_4 (Rcommon_R k) y0 y1 (nI a) (nI b)) (fun v => v = nI (Nat.gcd b a)) := by
  intro b
  induction b using Nat.strongRecOn with
  | _ b ih =>
    intro a k ha hb
    unfold Rcommon_4
    by_cases h0 : b = 0
    · subst h0
      rw [if_pos (show nI 0 = (0 : Int32) from rfl), Nat.gcd_zero_left]
      exact pc_s rfl
    · have hne : ¬ nI b = (0 : Int32) := fun h => h0 (nI_inj hb (by decide) h)
      rw [if_neg hne, if_neg hne, nI_mod ha (by omega) hb]
      have hm : a % b < b := Nat.mod_lt _ (by omega)
      cases k with
      | zero => exact fun _ e => nomatch e
      | succ k =>
        rw [Nat.gcd_rec]
        exact ih (a % b) hm b k hb (by omega)
theorem com_c {y0 y1 : Int32} : ∀ (h b a N j : Nat), b < 2 ^ h → 2 * h + 1 ≤ N → a < 2 ^ 31 → b < 2 ^ 31 → comIL N j y0 y1 (nI a) (nI b) = nI (Nat.gcd b a) := by
  intro h
  induction h with
  | zero =>
    intro b a N j hb hN ha hb2
    obtain ⟨N, rfl⟩ : ∃ N', N = N' + 1 := ⟨N - 1, by omega⟩
    have b0 : b = 0 := by rw [Nat.pow_zero] at hb; omega
    subst b0
    rw [comIL, if_pos (show nI 0 = (0 : Int32) from rfl), Nat.gcd_zero_left]
  | succ h ih =>
    intro b a N j hb hN ha hb2
    obtain ⟨N, rfl⟩ : ∃ N', N = N' + 1 + 1 := ⟨N - 2, by omega⟩
    rw [comIL]
    by_cases h0 : b = 0
    · subst h0
      rw [if_pos (show nI 0 = (0 : Int32) from rfl), Nat.gcd_zero_left]
    · have hne : ¬ nI b = (0 : Int32) := fun g => h0 (nI_inj hb2 (by decide) g)
      have hc : a % b < b := Nat.mod_lt _ (by omega)
      rw [if_neg hne, nI_mod ha (by omega) hb2, Nat.gcd_rec b a]
      generalize a % b = c at hc
      rw [comIL]
      by_cases c0 : c = 0
      · subst c0
        rw [if_pos (show nI 0 = (0 : Int32) from rfl), Nat.gcd_zero_left]
      · have hne2 : ¬ nI c = (0 : Int32) := fun g => c0 (nI_inj (by omega) (by decide) g)
        have he : b % c < c := Nat.mod_lt _ (by omega)
        have e2 : b % c + c * (b / c) = b := Nat.mod_add_div b c
        have q1 : 1 ≤ b / c := Nat.div_pos (Nat.le_of_lt hc) (by omega)
        have q2 : c * 1 ≤ c * (b / c) := Nat.mul_le_mul_left c q1
        rw [if_neg hne2, nI_mod hb2 (by omega) (by omega), Nat.gcd_rec c b]
        refine ih (b % c) c N _ ?_ (by omega) (by omega) (by omega)
        rw [Nat.pow_succ] at hb
        omega
theorem part_v {a b : Nat} {u : Int32} (ha : a < 2 ^ 31) (hb2 : b ≤ 720) : pc (Rpart (nI a) (nI b) u) (fun v => v = fraI (nI a) (nI b) u) := by
  have ec : comI (nI a) (nI b) = nI (Nat.gcd b a) := com_c 10 b a 64 0 (by omega) (by decide) ha (by omega)
  have e9 : ∀ v, pc (Rpart_9 (nI a) (nI b) u v) (fun x => ¬ nI (Nat.gcd b a) = 0 ∧ x = v / nI (Nat.gcd b a)) := by
    intro v
    unfold Rpart_9 Rcommon
    refine pc_b (com_r b a xF ha (by omega)) (fun g hg => ?_)
    subst hg
    by_cases c : nI (Nat.gcd b a) = 0
    · rw [if_pos c]; exact fun _ e => nomatch e
    · rw [if_neg c]; exact pc_s ⟨c, rfl⟩
  unfold Rpart fraI
  rw [ec]
  by_cases u0 : u = 0
  · rw [if_pos u0]
    refine pc_w (e9 _) (fun x hx => ?_)
    rw [if_neg hx.1, if_pos u0]; exact hx.2
  · rw [if_neg u0]
    refine pc_w (e9 _) (fun x hx => ?_)
    rw [if_neg hx.1, if_neg u0]; exact hx.2
section PW
variable {s v : SG} {o n V : Nat} {y1 y3 : Int32}
theorem pow_30 (h : RQ s r v o n V) (zr : SZ s r) (hm : m < n) : ∀ (i j z c : Nat), j + i = al s r + 1 → c ≤ j * 518400 → pc (Rpower_30 (Rpower_R z) v y1 (nI m) y3 (nI n) (nI c) (nI j)) (fun p => p.1 = fraI (rodIL s r i j (nI m) (nI c)) (facI (nI n)) y3) := by
  have hn := h.2.1.1
  obtain ⟨_, _, e3⟩ := rq_n h
  have hal : al s r + 1 = 2 ^ n := by
    unfold al
    rw [e3]
    have : 0 < 2 ^ n := Nat.two_pow_pos n
    omega
  have h64 : 2 ^ n ≤ 2 ^ 6 := Nat.pow_le_pow_right (by decide) hn
  intro i
  induction i with
  | zero =>
    intro j z c hj hc
    have f := fact_ok (m := n) hn
    unfold Rpower_30
    rw [bg_all h]
    show pc (if allI s r < nI j then _ else _) _
    rw [if_pos (al_gt zr hj), f.1]
    show pc ((Rpart (nI c) (nI (fcN n)) y3).bind fun q3 => some (q3, v)) _
    have hc2 : c ≤ 33177600 := Nat.le_trans hc (Nat.mul_le_mul_right 518400 (by omega : j ≤ 64))
    refine pc_b (part_v (by omega) f.2.1) (fun x hx => pc_s ?_)
    rw [fac_e n (by omega), rodIL]; exact hx
  | succ i ih =>
    intro j z c hj hc
    have hj64 : j < 2 ^ n := by omega
    have go : ∀ c2, c2 ≤ (j + 1) * 518400 → pc ((Rpower_R z) v y1 (nI m) y3 (nI n) (nI c2) (nI j + 1)) (fun p => p.1 = fraI (rodIL s r i (j + 1) (nI m) (nI c2)) (facI (nI n)) y3) := by
      intro c2 h2
      cases z with
      | zero => exact fun _ e => nomatch e
      | succ z =>
        show pc (Rpower_30 (Rpower_R z) v y1 (nI m) y3 (nI n) (nI c2) (nI j + 1)) _
        rw [← nI_succ]
        exact ih (j + 1) z c2 (by omega) h2
    have same := go c (Nat.le_trans hc (Nat.mul_le_mul_right _ (by omega)))
    unfold Rpower_30
    rw [bg_all h]
    show pc (if allI s r < nI j then _ else _) _
    rw [if_neg (al_le zr hj), rodIL]
    by_cases k1 : (nI j >>> (nI m &&& 31)) &&& 1 = 1
    · rw [if_pos k1, if_neg (fun g => ((has_b (by omega)).1 g) k1)]
      exact same
    · rw [if_neg k1, if_pos ((has_b (by omega)).2 k1), bg_eno h]
      show pc (if (if votT s r (nI j) < s r 9 then (0 : Int32) else 1) = 0 then _ else _) _
      by_cases k2 : votT s r (nI j) < s r 9
      · rw [if_pos k2, if_pos rfl, if_neg (Int32.not_le.mpr k2), bg_eno h]
        show pc (if (if votT s r (nI j ||| (1 <<< (nI m &&& 31))) < s r 9 then (0 : Int32) else 1) = 0 then _ else _) _
        by_cases k3 : votT s r (nI j ||| (1 <<< (nI m &&& 31))) < s r 9
        · rw [if_pos k3, if_pos rfl, if_pos k3]
          exact same
        · rw [if_neg k3, if_neg (show ¬ (1 : Int32) = 0 by decide), if_neg k3]
          obtain ⟨b, hb, eb⟩ := bit_n n (by omega) m hm j hj64 k1
          obtain ⟨b2, hb2, er, _, eb2⟩ := bits_ok2 (a := j) (by omega)
          have ebb : b2 = b := nI_inj (by omega) (by omega) (by rw [← eb2, ← bit_e j (by omega), eb])
          subst ebb
          have f1 := fact_ok (m := b2) (by omega)
          have f2 := fact_ok (m := n - 1 - b2) (by omega)
          have i1 : nI n - 1 - nI b2 = nI (n - 1 - b2) := by
            show nI n - nI 1 - nI b2 = _
            rw [nI_subn (by omega), nI_subn (by omega)]
          have i2 : s r 0 - nI b2 - 1 = nI (n - 1 - b2) := by
            rw [h.2.2.1.1]
            show nI n - nI b2 - nI 1 = _
            rw [nI_subn (by omega), nI_subn (by omega)]; congr 1; omega
          rw [er]
          show pc ((Rfactorial (nI b2)).bind _) _
          rw [f1.1]
          show pc ((Rfactorial (nI n - 1 - nI b2)).bind _) _
          rw [i1, f2.1]
          show pc ((Rpower_R z) v y1 (nI m) y3 (nI n) (nI c + (nI (fcN b2) * nI (fcN (n - 1 - b2)))) (nI j + 1)) _
          rw [eb, i2, fac_e b2 (by omega), fac_e (n - 1 - b2) (by omega), nI_mulx, nI_add]
          refine go _ ?_
          rw [Nat.succ_mul]
          exact Nat.add_le_add hc (Nat.mul_le_mul f1.2.1 f2.2.1)
      · rw [if_neg k2, if_neg (show ¬ (1 : Int32) = 0 by decide), if_pos (Int32.not_lt.mp k2)]
        exact same
end PW
theorem CE_power {s : SG} {x1 x2 x3 : Int32} (hP : wLoc SIM1) (h : INVP SIM1 K s) : ∃ v s1 s2, xN sc (d + 11) 106 [.inr (.inr (.inl (some 0))), .inl x1, .inl x2, .inl x3] (wl K s) = some (some (.inl v), wl K s1) ∧ xN sc (d + 11) 241 [.inr (.inr (.inl (some 64))), .inl x1, .inl x2, .inl x3] (wl K s1) = some (some (.inl v), wl K s2) ∧ INVP SIM1 K s2 := by
  have hK := INVP_SH h
  have hn := SIM_n.1 (INVP_P h)
  have rr := INVP_RI h
  have q2 := r_power (sc := sc) (d := d + 6) (s := s) (x1 := x1) (x2 := x2) (x3 := x3) hK
  obtain ⟨p, e2, qi⟩ : ok (Rpower s x1 x2 x3) (fun p => QI s p.2) := power_ok rr
  rw [e2] at q2
  have I := INVP_q hP h (s1 := s) (fun _ _ => rfl) qi
  unfold Rpower at e2
  rcases rep_v (x1 := x1) hn rr with ⟨e0, er⟩ | ⟨j, u, n, V, hj, e0, er, u1, rq, zr, u65, u18⟩
  · rw [er] at e2
    rw [Option.bind_some, if_pos rfl] at e2
    have ep : p.1 = -1 := by cases e2; rfl
    exact ⟨p.1, s, p.2, by rw [ep]; exact c_powI_a (sc := sc) (d := d + 8) (s := s) (x := x1) (y := x2) (g := x3) hK e0, q2, I⟩
  · have nn6 := rq.2.1.1
    have mn : RisMinister u.2 x2 = some (inI x2 0 (nI n - 1)) := by
      unfold RisMinister
      rw [q_ministers (rq_RH rq), (rq_n rq).1]; rfl
    rw [er] at e2
    replace e2 : (if u.1 = 0 then some (-1, u.2) else (RisMinister u.2 x2).bind fun q2 => if q2 = 0 then some (-1, u.2) else (Rministers u.2).bind fun q3 => Rpower_30 (Rpower_R xF) u.2 x1 x2 x3 q3 (0) (0)) = some p := e2
    rw [if_neg (show ¬ u.1 = 0 by rw [u1]; decide), mn] at e2
    replace e2 : (if inI x2 0 (nI n - 1) = 0 then some (-1, u.2) else (Rministers u.2).bind fun q3 => Rpower_30 (Rpower_R xF) u.2 x1 x2 x3 q3 (0) (0)) = some p := e2
    have cc := c_powI_b (sc := sc) (d := d + 7) (s := s) (x := x1) (y := x2) (g := x3) (rp_j hK hj) hK e0 zr
    refine ⟨p.1, s, p.2, ?_, q2, I⟩
    rw [cc]
    have fin : powIb s (6 + 8 * j) x2 x3 = p.1 := by
      unfold powIb
      by_cases c1 : inI x2 0 (nI n - 1) = 0
      · rw [if_pos c1] at e2
        have m0 : minI s (6 + 8 * j) x2 = 0 := by
          unfold minI
          rw [rq.2.2.1.1]
          rcases (iz_m (by omega)).1 c1 with g | g
          · rw [if_pos g]
          · rw [if_pos g]; split <;> rfl
        rw [if_pos m0]
        cases e2; rfl
      · rw [if_neg c1, q_ministers (rq_RH rq), (rq_n rq).1] at e2
        replace e2 : Rpower_30 (Rpower_R xF) u.2 x1 x2 x3 (nI n) (nI 0) (nI 0) = some p := e2
        have m0 : ¬ minI s (6 + 8 * j) x2 = 0 := by
          unfold minI
          rw [rq.2.2.1.1, if_neg (fun g => c1 ((iz_m (by omega)).2 (Or.inl g))), if_neg (fun g => c1 ((iz_m (by omega)).2 (Or.inr g)))]; decide
        rw [if_neg m0]
        obtain ⟨m, em, hm⟩ := inI_sub (by omega) c1
        rw [em] at e2 ⊢
        have L := pow_30 (y1 := x1) (y3 := x3) rq zr hm (al s (6 + 8 * j) + 1) 0 xF 0 (by omega) (by omega) p e2
        rw [L, rq.2.2.1.1]; rfl
    rw [fin]
end XUD
end
section
section XVA
variable {sc : Nat × (Nat → Int32)} {d : Nat} {K : List KD} {r q t a B m : Nat} {w : EW}
/-! orders on both sides: which is broken first -/
/-- orders at q on the class's side, at o on the reference's (state v) -/
def OQ (s : SG) (q : Nat) (v : SG) (o n : Nat) : Prop := (v 64 17 = nI o ∧ o ≤ 887) ∧ n ≤ 8 ∧ s q 0 = nI n ∧ v 65 o = nI n ∧ (∀ j i, j < n → i < 5 → s (q + 1) (5 * j + i) = v 65 (o + (1 + 5 * j + i))) ∧ ∀ j, j < n → NB (v 65 (o + (1 + 5 * j))) 3
section OQS
variable {s v : SG} {o n : Nat} {se day ah : Int32}
theorem oq_of {j i : Nat} {x : Int32} (h : OQ s q v o n) (hj : j < n) (hi : i < 5) (ex : x = nI i) : RorderOf v (nI j) x = some (s (q + 1) (5 * j + i)) := by
  obtain ⟨⟨h17, ho⟩, hn, _, _, h5, _⟩ := h
  have ix : ((v 64 17 + 1) + (5 * nI j)) + x = nI (o + (1 + 5 * j + i)) := by
    rw [h17, ex]
    show ((nI o + nI 1) + (nI 5 * nI j)) + nI i = _
    rw [nI_mulx, nI_add, nI_add, nI_add]; congr 1; omega
  unfold RorderOf
  rw [ix, rd_nI (e := o + (1 + 5 * j + i)) rfl (by omega) (by decide), h5 j i hj hi]; rfl
theorem pr_q {j i : Nat} {x : Int32} (hj : j < 40) (hi : i < 5) (ex : x = nI i) : parI s q (nI j) x = s (q + 1) (5 * j + i) := by
  unfold parI
  rw [ex, show (5 : Int32) = nI 5 from rfl, nI_mulx, nI_add, cl_nI (by omega) (by decide), Nat.mul_comm j 5]
theorem amo_e {x : Int32} (e12 : v 64 12 = amtI day 0) (e13 : v 64 13 = amtI day 1) (e14 : v 64 14 = amtI day 2) : Ramount v x = amtI day x := by
  unfold Ramount
  by_cases c0 : x = 0
  · subst c0; rw [if_pos rfl, e12]
  · by_cases c1 : x = 1
    · subst c1; rw [if_neg c0, if_pos rfl, e13]
    · rw [if_neg c0, if_neg c1, e14, show amtI day 2 = day - day / 10 * 10 from rfl]
      unfold amtI
      rw [if_neg c0, if_neg c1]
theorem oq_isb {j : Nat} (h : OQ s q v o n) (hj : j < n) (e12 : v 64 12 = amtI day 0) (e13 : v 64 13 = amtI day 1) (e14 : v 64 14 = amtI day 2) (e16 : v 64 16 = se) : RisBroken v (nI j) ah = some (isbI s q (nI j) se day ah) := by
  have hn := h.2.1
  obtain ⟨t0, et, ht⟩ := h.2.2.2.2.2 j hj
  have k0 : s (q + 1) (5 * j + 0) = nI t0 := by
    rw [h.2.2.2.2.1 j 0 hj (by decide)]; exact et
  have o0 := oq_of (i := 0) (x := 0) h hj (by decide) rfl
  have o1 := oq_of (i := 1) (x := 1) h hj (by decide) rfl
  have o2 := oq_of (i := 2) (x := 2) h hj (by decide) rfl
  have o3 := oq_of (i := 3) (x := 3) h hj (by decide) rfl
  have o4 := oq_of (i := 4) (x := 4) h hj (by decide) rfl
  have p0 : parI s q (nI j) 0 = s (q + 1) (5 * j + 0) := pr_q (by omega) (by decide) rfl
  have p1 : parI s q (nI j) 1 = s (q + 1) (5 * j + 1) := pr_q (by omega) (by decide) rfl
  have p2 : parI s q (nI j) 2 = s (q + 1) (5 * j + 2) := pr_q (by omega) (by decide) rfl
  have p3 : parI s q (nI j) 3 = s (q + 1) (5 * j + 3) := pr_q (by omega) (by decide) rfl
  have p4 : parI s q (nI j) 4 = s (q + 1) (5 * j + 4) := pr_q (by omega) (by decide) rfl
  have am : ∀ x, Ramount v x = amtI day x := fun x => amo_e e12 e13 e14
  have ra : ∀ x y, RamountOf x y = amtI x y := fun _ _ => rfl
  unfold RisBroken isbI
  rw [o1, Option.bind_some, o2, Option.bind_some, o0, Option.bind_some, p3, p1, p2, p0, k0]
  unfold RisBroken_21 isbIW
  rw [o3, o4, p4]
  simp only [Option.bind_some, am, ra, e12, e13, e14, e16]
  generalize s (q + 1) (5 * j + 1) = F1
  generalize s (q + 1) (5 * j + 2) = F2
  generalize s (q + 1) (5 * j + 3) = F3
  generalize s (q + 1) (5 * j + 4) = F4
  rcases (by omega : t0 = 0 ∨ t0 = 1 ∨ t0 = 2 ∨ t0 = 3) with rfl | rfl | rfl | rfl
  all_goals simp (decide := true) only [if_true, if_false]
  all_goals (repeat' split)
  all_goals first | rfl | contradiction
theorem oq_fib (h : OQ s q v o n) (e12 : v 64 12 = amtI day 0) (e13 : v 64 13 = amtI day 1) (e14 : v 64 14 = amtI day 2) (e16 : v 64 16 = se) : ∀ k j z, j + k = n → k ≤ z → RfirstBroken_2 (RfirstBroken_R z) v ah (nI j) = some (fibIL s q k j se day ah) := by
  have hn := h.2.1
  have ho := h.1.2
  have rd : rdI v 65 5768 (v 64 17) = some (nI n) := by rw [rd_nI (e := o) h.1.1 (by omega) (by decide), h.2.2.2.1]
  intro k
  induction k with
  | zero =>
    intro j z hj hz
    unfold RfirstBroken_2
    rw [rd, Option.bind_some, if_pos (k_ge hj), fibIL]
  | succ k ih =>
    intro j z hj hz
    obtain ⟨z, rfl⟩ : ∃ z', z = z' + 1 := ⟨z - 1, by omega⟩
    unfold RfirstBroken_2
    rw [rd, Option.bind_some, if_neg (k_lt hj (by omega)), oq_isb h (by omega) e12 e13 e14 e16, Option.bind_some, fibIL]
    have e := ih (j + 1) z (by omega) (by omega)
    rw [nI_succ] at e
    by_cases c : isbI s q (nI j) se day ah = 0
    · rw [if_pos c, if_pos c]; exact e
    · rw [if_neg c, if_neg c]
theorem oq_rz (h : OQ s q v o n) : rz s q = n := by
  have hn := h.2.1
  unfold rz
  rw [h.2.2.1, nI_clamp (by omega)]
theorem oq_RZ (h : OQ s q v o n) : RZ s q := by
  have hn := h.2.1
  exact ⟨by rw [oq_rz h]; exact h.2.2.1, by rw [oq_rz h]; omega⟩
theorem oq_fi (h : OQ s q v o n) (e12 : v 64 12 = amtI day 0) (e13 : v 64 13 = amtI day 1) (e14 : v 64 14 = amtI day 2) (e16 : v 64 16 = se) : RfirstBroken v ah = some (fibI s q se day ah) := by
  have hn := h.2.1
  have hF := xF_ge
  unfold RfirstBroken fibI
  rw [oq_rz h]
  exact oq_fib h e12 e13 e14 e16 n 0 xF (by omega) (by omega)
theorem OQ_v {v2 : SG} (h : OQ s q v o n) (e17 : v2 64 17 = v 64 17) (e65 : v2 65 = v 65) : OQ s q v2 o n := by
  unfold OQ
  rw [e17, e65]; exact h
theorem OQ_s {s2 : SG} (h : OQ s q v o n) (e0 : s2 q = s q) (e1 : s2 (q + 1) = s (q + 1)) : OQ s2 q v o n := by
  unfold OQ
  rw [e0, e1]; exact h
end OQS
theorem ord_w {s : SG} {j n : Nat} (hn : SIMn s) (hj : j < 2) (en : s 65 1 = nI n) (hn2 : n ≤ 2) (hjn : j < n) : WEQ 5 8 (fun e j2 => s (22 + 2 * (0 * 2 + j) + e) j2) (fun j2 => s 65 (846 + 41 * j + j2)) := by
  have w := hn.2.2.2 1 j n (by omega) hj en hn2 hjn
  have g : ∀ e, 1 + (CPK 1 j + e) = 22 + 2 * (0 * 2 + j) + e := fun e => by
    show 1 + (21 + 2 * (0 * 2 + j) + e) = _
    omega
  have w : WEQ 5 8 (fun e j2 => s (1 + (CPK 1 j + e)) j2) (fun j2 => s 65 (846 + 41 * j + j2)) := w
  simp only [g] at w
  exact w
theorem OQ_of {s v : SG} {j : Nat} (h : WEQ 5 8 (fun e j2 => s (22 + 2 * (0 * 2 + j) + e) j2) (fun j2 => s 65 (846 + 41 * j + j2))) (hj : j < 2) (e17 : v 64 17 = nI (846 + 41 * j)) (e65 : v 65 = s 65) : ∃ n, OQ s (22 + 2 * (0 * 2 + j)) v (846 + 41 * j) n := by
  obtain ⟨n, h1, h2, h3, h4, h5⟩ := h
  refine ⟨n, ⟨e17, by omega⟩, h1, h2, ?_, fun a b ha hb => ?_, fun a ha => ?_⟩
  · rw [e65]; exact h3
  · rw [e65]; exact h4 a b ha hb
  · rw [e65]; exact (h5 rfl a ha).1
/-- both look for orders -/
theorem ord_v {s : SG} {x1 : Int32} (hn : SIMn s) (rr : RI s) : (rowO s 1 x1 = none ∧ iofN s 1 x1 = 0) ∨ ∃ j, j < 2 ∧ x1 = nI j ∧ ¬ iofN s 1 x1 = 0 ∧ rowO s 1 x1 = some (22 + 2 * (0 * 2 + j)) ∧ WEQ 5 8 (fun e j2 => s (22 + 2 * (0 * 2 + j) + e) j2) (fun j2 => s 65 (846 + 41 * j + j2)) := by
  obtain ⟨n, en, hn2⟩ := rr.1.1 1 (by omega)
  rcases row_sel (k := 0) (x := x1) hn (by omega) en hn2 with ⟨z, e⟩ | ⟨j, hj, hjn, ex, z, e⟩
  · exact Or.inl ⟨e, z⟩
  · exact Or.inr ⟨j, hj, ex, z, e, ord_w hn hj en hn2 hjn⟩
theorem areO_n {s : SG} {x1 : Int32} (z : iofN s 1 x1 = 0) : RareOrders s x1 = some (0, s) := by
  unfold RareOrders
  rw [q_isOf (x := 1) (a := 1) rfl (by decide), Option.bind_some, if_pos z]
theorem areO_y {s : SG} {x1 : Int32} {j : Nat} (z : ¬ iofN s 1 x1 = 0) (ex : x1 = nI j) : RareOrders s x1 = some (1, up s 64 17 (nI (846 + 41 * j))) := by
  unfold RareOrders
  rw [q_isOf (x := 1) (a := 1) rfl (by decide), Option.bind_some, if_neg z, ex, place1]
theorem ahe_e {g : Int32} : inI g (-1) 999 = 0 ↔ (g < -1 ∨ ¬ g < 1000) := by
  have q : 999 < g ↔ ¬ g < 1000 := by
    rw [Int32.lt_iff_toInt_lt, Int32.lt_iff_toInt_lt]
    have e1 : (999 : Int32).toInt = 999 := by decide
    have e2 : (1000 : Int32).toInt = 1000 := by decide
    omega
  unfold inI
  by_cases c : g < -1
  · rw [if_pos c]; exact ⟨fun _ => Or.inl c, fun _ => rfl⟩
  · rw [if_neg c]
    by_cases c2 : 999 < g
    · rw [if_pos c2]; exact ⟨fun _ => Or.inr (q.1 c2), fun _ => rfl⟩
    · rw [if_neg c2]
      exact ⟨fun h => absurd h (by decide), fun h => h.elim (fun z => absurd z c) (fun z => absurd (q.2 z) c2)⟩
theorem CE_broken {s : SG} {x1 x2 x3 x4 x5 x6 : Int32} (hP : wLoc SIM1) (h : INVP SIM1 K s) : ∃ v s1 s2, xN sc (d + 11) 94 [.inr (.inr (.inl (some 0))), .inl x1, .inl x2, .inl x3, .inl x4, .inl x5, .inl x6] (wl K s) = some (some (.inl v), wl K s1) ∧ xN sc (d + 11) 215 [.inr (.inr (.inl (some 64))), .inl x1, .inl x2, .inl x3, .inl x4, .inl x5, .inl x6] (wl K s1) = some (some (.inl v), wl K s2) ∧ INVP SIM1 K s2 := by
  have hK := INVP_SH h
  have hn := SIM_n.1 (INVP_P h)
  have rr := INVP_RI h
  have q2 := r_broken (sc := sc) (d := d + 7) (s := s) (x1 := x1) (x2 := x2) (x3 := x3) (x4 := x4) (x5 := x5) (x6 := x6) hK
  obtain ⟨p, e2, qi⟩ : ok (Rbroken s x1 x2 x3 x4 x5 x6) (fun p => QI s p.2) := broken_ok rr
  rw [e2] at q2
  have I := INVP_q hP h (s1 := s) (fun _ _ => rfl) qi
  unfold Rbroken at e2
  rcases ord_v (x1 := x1) hn rr with ⟨e, z⟩ | ⟨j, hj, ex, z, e, w⟩
  · rw [areO_n z] at e2
    rw [Option.bind_some, if_pos rfl] at e2
    have ep : p.1 = -1 := by cases e2; rfl
    exact ⟨p.1, s, p.2, by rw [ep]; exact c_bkeI_a (sc := sc) (d := d + 8) (s := s) (x := x1) (se := x2) (u := x3) (v := x4) (z := x5) (g := x6) hK e, q2, I⟩
  · obtain ⟨u, eu⟩ : ∃ u, u = up s 64 17 (nI (846 + 41 * j)) := ⟨_, rfl⟩
    rw [areO_y z ex, ← eu] at e2
    replace e2 : (if (1 : Int32) = 0 then some ((-1 : Int32), u) else if (inI x2 (0) (3)) = 0 then some ((-1), u) else if (RareAmounts x3 x4 x5) = 0 then some ((-1), u) else if (inI x6 (-1) (999)) = 0 then some ((-1), u) else (RfirstBroken (RtalksOf (up u 64 16 x2) (((100 * x3) + (10 * x4)) + x5)) x6).bind fun q2 => some (q2, RtalksOf (up u 64 16 x2) (((100 * x3) + (10 * x4)) + x5))) = some p := e2
    rw [if_neg (show ¬ (1 : Int32) = 0 by decide)] at e2
    have zq : RZ s (22 + 2 * (0 * 2 + j)) := by
      obtain ⟨n, oq⟩ := OQ_of (v := u) w hj (by rw [eu, up_a]) (by rw [eu, up_n (by decide)])
      exact oq_RZ oq
    have cc := c_bkeI_b (sc := sc) (d := d + 6) (s := s) (x := x1) (se := x2) (u := x3) (v := x4) (z := x5) (g := x6) (RW2 hK (0 * 2 + j) (by omega)) hK e zq
    refine ⟨p.1, s, p.2, ?_, q2, I⟩
    rw [cc]
    have fin : bkeIb s (22 + 2 * (0 * 2 + j)) x2 x3 x4 x5 x6 = p.1 := by
      unfold bkeIb
      by_cases c2 : inI x2 0 3 = 0
      · rw [if_pos c2] at e2
        rw [if_pos (iss_e.2 c2)]; cases e2; rfl
      rw [if_neg c2] at e2
      rw [if_neg (fun g => c2 (iss_e.1 g))]
      by_cases c3 : RareAmounts x3 x4 x5 = 0
      · rw [if_pos c3] at e2
        rw [if_pos (day_e.1.2 c3)]; cases e2; rfl
      rw [if_neg c3] at e2
      rw [if_neg (fun g => c3 (day_e.1.1 g))]
      by_cases c4 : inI x6 (-1) 999 = 0
      · rw [if_pos c4] at e2
        rcases ahe_e.1 c4 with g | g
        · rw [if_pos g]; cases e2; rfl
        · rw [if_neg g]
          cases e2
          split <;> rfl
      rw [if_neg c4] at e2
      have g1 : ¬ x6 < -1 := fun g => c4 (ahe_e.2 (Or.inl g))
      have g2 : x6 < 1000 := Decidable.byContradiction (fun g => c4 (ahe_e.2 (Or.inr g)))
      rw [if_neg g1, if_pos g2]
      obtain ⟨n, oq⟩ := OQ_of (v := RtalksOf (up u 64 16 x2) (((100 * x3) + (10 * x4)) + x5)) w hj (by rw [talks_e, up_bn (by decide), up_bn (by decide), up_bn (by decide), up_bn (by decide), eu, up_a]) (by rw [talks_e, up_n (by decide), up_n (by decide), up_n (by decide), up_n (by decide), eu, up_n (by decide)])
      have de := day_e.2 c3
      rw [← de] at oq e2
      rw [oq_fi (se := x2) (day := dayI x3 x4 x5) (ah := x6) oq (by rw [talks_e, up_bn (by decide), up_bn (by decide), up_a]) (by rw [talks_e, up_bn (by decide), up_a]) (by rw [talks_e, up_a]) (by rw [talks_e, up_bn (by decide), up_bn (by decide), up_bn (by decide), up_a])] at e2
      cases e2; rfl
    rw [fin]
/-! what can be agreed, on both sides -/
theorem can_l {A H x b c : Int32} : (if A < x then (0 : Int32) else if inI ((H + c) - b) 0 99 = 0 then 0 else 1) = (if A < x then 0 else if ((H + c) - b) < 0 then 0 else if 99 < ((H + c) - b) then 0 else 1) := by
  by_cases k : A < x
  · rw [if_pos k, if_pos k]
  · rw [if_neg k, if_neg k]
    generalize (H + c) - b = y
    unfold inI
    by_cases k1 : y < 0
    · rw [if_pos k1, if_pos rfl]
    · rw [if_neg k1]
      by_cases k2 : 99 < y
      · rw [if_pos k2, if_pos rfl]
      · rw [if_neg k2, if_neg (show ¬ (1 : Int32) = 0 by decide)]
theorem RQ_s {s s2 v : SG} {o n V : Nat} (h : RQ s r v o n V) (e : ∀ i, i < 8 → s2 (r + i) = s (r + i)) : RQ s2 r v o n V := by
  obtain ⟨g1, g2, g3, g4, g5, g6, g7, g8, g9⟩ := h
  have e0 : s2 r = s r := e 0 (by omega)
  refine ⟨g1, g2, ⟨by rw [e0]; exact g3.1, g3.2⟩, fun i hi => by rw [e0]; exact g4 i hi, fun k hk => by rw [e 7 (by omega)]; exact g5 k hk, fun m c hm hc => by rw [e (1 + c) (by omega)]; exact g6 m c hm hc, ⟨by rw [e0]; exact g7.1, g7.2⟩, fun m hm => by rw [e 6 (by omega)]; exact g8 m hm, fun m i hm hi => by rw [e 5 (by omega)]; exact g9 m i hm hi⟩
theorem RQ_v {s v v2 : SG} {o n V : Nat} (h : RQ s r v o n V) (e11 : v2 64 11 = v 64 11) (e65 : v2 65 = v 65) : RQ s r v2 o n V := by
  unfold RQ
  rw [e11, e65]; exact h
theorem allI_s {s s2 : SG} (e : s2 r = s r) : allI s2 r = allI s r := by
  unfold allI
  rw [e]
/-- a motion's state: the class's republic at r, the reference's v, minister b, season se -/
def AGJ (r o n V b se : Nat) (s v : SG) : Prop := r + 8 ≤ 42 ∧ (b < 6 ∧ se < 4) ∧ RQ s r v o n V ∧ v 64 15 = nI b ∧ v 64 16 = nI se ∧ v 64 18 = allI s r ∧ v 64 20 = s r 11 ∧ v 64 21 = s r 12 ∧ v 64 22 = s r 13
section AGS
variable {s v : SG} {o n V b se o2 n2 : Nat} {day : Int32}
theorem talks_64 {u : SG} {x : Int32} {j : Nat} (h : j < 12 ∨ 14 < j) : RtalksOf u x 64 j = u 64 j := by
  rw [talks_e, up_bn (by omega), up_bn (by omega), up_bn (by omega)]
theorem talks_c {u : SG} {x : Int32} {c : Nat} (h : c ≠ 64) : RtalksOf u x c = u c := by
  rw [talks_e, up_n h, up_n h, up_n h]
theorem talks_12 {u : SG} {x : Int32} : RtalksOf u x 64 12 = amtI x 0 ∧ RtalksOf u x 64 13 = amtI x 1 ∧ RtalksOf u x 64 14 = amtI x 2 :=
  ⟨by rw [talks_e, up_bn (by decide), up_bn (by decide), up_a], by rw [talks_e, up_bn (by decide), up_a], by rw [talks_e, up_a]⟩
theorem agj_t {x : Int32} (h : AGJ r o n V b se s v) : AGJ r o n V b se s (RtalksOf v x) := by
  obtain ⟨h1, h2, h3, h4, h5, h6, h7, h8, h9⟩ := h
  exact ⟨h1, h2, RQ_v h3 (talks_64 (by omega)) (talks_c (by omega)), by rw [talks_64 (by omega)]; exact h4, by rw [talks_64 (by omega)]; exact h5, by rw [talks_64 (by omega)]; exact h6, by rw [talks_64 (by omega)]; exact h7, by rw [talks_64 (by omega)]; exact h8, by rw [talks_64 (by omega)]; exact h9⟩
theorem agj_s {s2 : SG} (h : AGJ r o n V b se s v) (e : ∀ c, c < 42 → s2 c = s c) : AGJ r o n V b se s2 v := by
  obtain ⟨h1, h2, h3, h4, h5, h6, h7, h8, h9⟩ := h
  have e0 := e r (by omega)
  exact ⟨h1, h2, RQ_s h3 (fun i hi => e _ (by omega)), h4, h5, by rw [allI_s e0]; exact h6, by rw [e0]; exact h7, by rw [e0]; exact h8, by rw [e0]; exact h9⟩
theorem oq_t {x : Int32} (h : OQ s q v o2 n2) : OQ s q (RtalksOf v x) o2 n2 := OQ_v h (talks_64 (by omega)) (talks_c (by omega))
theorem set_lo {c : Nat} (hc : c < 42) : setS0 s r c = s c := setS0_lo (Or.inl hc)
theorem agj_can (h : AGJ r o n V b se s v) : RcanNature (RtalksOf v day) = canI0 (setS0 s r) day := by
  obtain ⟨h1, h2, h3, h4, h5, h6, h7, h8, h9⟩ := h
  obtain ⟨t12, t13, t14⟩ := talks_12 (u := v) (x := day)
  have c0 : setS0 s r 60 0 = s r 11 := by unfold setS0; rw [up_bn (by decide), up_bn (by decide), up_a]
  have c2 : setS0 s r 60 2 = s r 13 := by unfold setS0; rw [up_a]
  unfold RcanNature canI0
  rw [t12, t13, t14, talks_64 (j := 20) (by omega), talks_64 (j := 22) (by omega), h7, h9, c0, c2]
  exact can_l
theorem agj_25 {y1 y2 : Int32} (h : AGJ r o n V b se s v) : RisAgreed_25 (RtalksOf v day) y1 y2 = some (if pasI (setS0 s r) r (allI (setS0 s r) r) (agrT (setS0 s r) r (nI b) (nI se) day) = 0 then 0 else 1, RtalksOf v day) := by
  have h' := agj_s (s2 := setS0 s r) (agj_t (x := day) h) (fun c hc => set_lo hc)
  obtain ⟨h1, ⟨hb, hse⟩, h3, h4, h5, h6, h7, h8, h9⟩ := h'
  obtain ⟨t12, t13, t14⟩ := talks_12 (u := v) (x := day)
  have hRH := rq_RH h3
  have hSE : SE (RtalksOf v day) := ⟨by unfold seN; rw [h5, nI_clamp (by omega)], by unfold seN; rw [h5, nI_clamp (by omega)]; exact hse⟩
  have hMZ := rq_MZ h3
  unfold RisAgreed_25
  rw [q_agreeing hRH hSE hMZ, Option.bind_some, q_isPassed hRH hMZ, Option.bind_some, rq_agr h3 hb hse h4 h5 t12 t13 t14, rq_pas h3 h6]
  by_cases c : pasN (RtalksOf v day) (agmT (RtalksOf v day)) = 0
  · rw [if_pos c, if_pos c]
  · rw [if_neg c, if_neg c]
/-- the class's answer of a day, with orders and without -/
theorem iag_e (h : AGJ r o n V b se s v) (hq : q + 2 ≤ 42) (oq : OQ s q v o2 n2) : RisAgreed v day 1 = some ((iagP s r q (nI b) (nI se) day).1, RtalksOf v day) := by
  have e16 : RtalksOf v day 64 16 = nI se := by rw [talks_64 (by omega)]; exact h.2.2.2.2.1
  obtain ⟨t12, t13, t14⟩ := talks_12 (u := v) (x := day)
  have fi := oq_fi (ah := -1) (OQ_s (s2 := setS0 s r) (oq_t (x := day) oq) (set_lo (by omega)) (set_lo (by omega))) t12 t13 t14 e16
  unfold RisAgreed iagP
  rw [agj_can h]
  by_cases c : canI0 (setS0 s r) day = 0
  · rw [if_pos c, if_pos c]
  rw [if_neg c, if_neg c, if_neg (show ¬ (1 : Int32) = 0 by decide), fi, Option.bind_some]
  by_cases c2 : fibI (setS0 s r) q (nI se) day (-1) = -1
  · rw [if_pos c2, if_pos c2, agj_25 h]
    by_cases c3 : pasI (setS0 s r) r (allI (setS0 s r) r) (agrT (setS0 s r) r (nI b) (nI se) day) = 0
    · rw [if_pos c3, if_pos c3]
    · rw [if_neg c3, if_neg c3]
  · rw [if_neg c2, if_neg c2]
theorem iag_0 (h : AGJ r o n V b se s v) : RisAgreed v day 0 = some ((iag0 s r (nI b) (nI se) day).1, RtalksOf v day) := by
  unfold RisAgreed iag0
  rw [agj_can h]
  by_cases c : canI0 (setS0 s r) day = 0
  · rw [if_pos c, if_pos c]
  rw [if_neg c, if_neg c, if_pos rfl, if_pos (show fib0 = -1 from rfl), agj_25 h]
  by_cases c3 : pasI (setS0 s r) r (allI (setS0 s r) r) (agrT (setS0 s r) r (nI b) (nI se) day) = 0
  · rw [if_pos c3, if_pos c3]
  · rw [if_neg c3, if_neg c3]
end AGS
section AGL
variable {G : SG → Int32 → Int32 × SG} {J : SG → SG → Prop} {y1 y2 y3 y4 : Int32}
/-- what both do with a day -/
def AGT (G : SG → Int32 → Int32 × SG) (J : SG → SG → Prop) (y2 : Int32) : Prop := ∀ s v x, J s v → RisAgreed v x (if y2 = -1 then 0 else 1) = some ((G s x).1, RtalksOf v x) ∧ J (G s x).2 (RtalksOf v x) ∧ J s (RtalksOf v x)
theorem ag49 {R : SG → Int32 → Int32 → Int32 → Int32 → Int32 → Int32 → Int32 → Int32 → Option (Int32 × SG)} {s v : SG} {y5 y6 y7 : Int32} {j : Nat} (g : AGT G J y2) (hJ : J s v) (hj : j < 1000) : Ragreed_49 R v y1 y2 y3 y4 y5 y6 y7 (nI j) = if (G s (nI j)).1 = 0 then R (RtalksOf v (nI j)) y1 y2 y3 y4 y5 y6 y7 (nI (j + 1)) else if y7 = -1 then R (RtalksOf v (nI j)) y1 y2 y3 y4 y5 (y6 + 1) (nI j) (nI (j + 1)) else if Rrank (nI j) (if y5 = 2 then 1 else 0) ≤ Rrank y7 (if y5 = 2 then 1 else 0) then R (RtalksOf v (nI j)) y1 y2 y3 y4 y5 (y6 + 1) y7 (nI (j + 1)) else R (RtalksOf v (nI j)) y1 y2 y3 y4 y5 (y6 + 1) (nI j) (nI (j + 1)) := by
  have st := (g s v (nI j) hJ).1
  have e70 : Ragreed_49 R v y1 y2 y3 y4 y5 y6 y7 (nI j) = Ragreed_70 R v y1 y2 y3 y4 y5 y6 y7 (nI j) (if y2 = -1 then 0 else 1) (nI j) := by
    unfold Ragreed_49
    rw [if_neg (show ¬ (1000 : Int32) ≤ nI j from nI_ge (b := 1000) hj (by decide))]
    by_cases c : y2 = -1
    · rw [if_pos c, if_pos c]
    · rw [if_neg c, if_neg c]
  rw [e70]
  unfold Ragreed_70
  rw [st, Option.bind_some]
  show (if (G s (nI j)).1 = 0 then R (RtalksOf v (nI j)) y1 y2 y3 y4 y5 y6 y7 (nI j + 1) else if y7 = -1 then R (RtalksOf v (nI j)) y1 y2 y3 y4 y5 (y6 + 1) (nI j) (nI j + 1) else if y5 = 2 then Ragreed_101 R (RtalksOf v (nI j)) y1 y2 y3 y4 y5 (y6 + 1) y7 (nI j) 1 (nI j) else Ragreed_101 R (RtalksOf v (nI j)) y1 y2 y3 y4 y5 (y6 + 1) y7 (nI j) 0 (nI j)) = _
  unfold Ragreed_101 Ragreed_117
  rw [← nI_succ]
  by_cases c : y5 = 2
  · simp only [if_pos c]
  · simp only [if_neg c]
theorem ag_end {R : SG → Int32 → Int32 → Int32 → Int32 → Int32 → Int32 → Int32 → Int32 → Option (Int32 × SG)} {v : SG} {y5 y6 y7 : Int32} {j : Nat} (hj : j + 0 = 1000) : Ragreed_49 R v y1 y2 y3 y4 y5 y6 y7 (nI j) = some (if y5 = 0 then y6 else y7, v) := by
  unfold Ragreed_49
  rw [if_pos (show (1000 : Int32) ≤ nI j from k_ge (m := 1000) hj)]
  by_cases c : y5 = 0
  · rw [if_pos c, if_pos c]
  · rw [if_neg c, if_neg c]
theorem ag_go {Q : Int32 × SG → Prop} {z : Nat} {v : SG} {y5 y6 y7 y8 : Int32} (h : ∀ z, pc (Ragreed_49 (Ragreed_R z) v y1 y2 y3 y4 y5 y6 y7 y8) Q) : pc (Ragreed_R z v y1 y2 y3 y4 y5 y6 y7 y8) Q := by
  cases z with
  | zero => exact fun _ e => nomatch e
  | succ z => exact h z
theorem ag_many {M : Nat → Nat → SG → Int32 → Int32 × SG} (g : AGT G J y2) (m0 : ∀ j s y, M 0 j s y = (y, s)) (m1 : ∀ n j s y, M (n + 1) j s y = if (G s (nI j)).1 = 0 then M n (j + 1) (G s (nI j)).2 y else M n (j + 1) (G s (nI j)).2 (y + 1)) : ∀ (k j z : Nat) (s v : SG) (y6 y7 : Int32), J s v → j + k = 1000 → pc (Ragreed_49 (Ragreed_R z) v y1 y2 y3 y4 0 y6 y7 (nI j)) (fun p => p.1 = (M k j s y6).1) := by
  intro k
  induction k with
  | zero =>
    intro j z s v y6 y7 hJ hj
    rw [ag_end hj, m0]
    exact pc_s rfl
  | succ k ih =>
    intro j z s v y6 y7 hJ hj
    obtain ⟨_, j1, _⟩ := g s v (nI j) hJ
    rw [ag49 g hJ (by omega), m1]
    by_cases c : (G s (nI j)).1 = 0
    · rw [if_pos c, if_pos c]; exact ag_go (fun z => ih (j + 1) z _ _ _ _ j1 (by omega))
    · rw [if_neg c, if_neg c]
      refine pc_i (fun _ => ag_go (fun z => ih (j + 1) z _ _ _ _ j1 (by omega))) (fun _ => pc_i (fun _ => ag_go (fun z => ih (j + 1) z _ _ _ _ j1 (by omega))) (fun _ => ag_go (fun z => ih (j + 1) z _ _ _ _ j1 (by omega))))
theorem rk_1 : ∀ a, a < 1000 → Rrank (nI a) 0 = ranI (nI a) 1 := by decide +kernel
theorem rk_2 : ∀ a, a < 1000 → Rrank (nI a) 1 = ranI (nI a) 0 := by decide +kernel
theorem ag_best {M : Nat → Nat → SG → Int32 → Int32 × SG} {y5 gg : Int32} (g : AGT G J y2) (m0 : ∀ j s y, M 0 j s y = (y, s)) (m1 : ∀ n j s y, M (n + 1) j s y = if y = -1 then (if (G s (nI j)).1 = 0 then M n (j + 1) (G s (nI j)).2 y else M n (j + 1) (G s (nI j)).2 (nI j)) else if ranI (nI j) gg ≤ ranI y gg then M n (j + 1) s y else if (G s (nI j)).1 = 0 then M n (j + 1) (G s (nI j)).2 y else M n (j + 1) (G s (nI j)).2 (nI j)) (n0 : ¬ y5 = 0) (rk : ∀ a, a < 1000 → Rrank (nI a) (if y5 = 2 then 1 else 0) = ranI (nI a) gg) : ∀ (k j z : Nat) (s v : SG) (y6 y7 : Int32), J s v → j + k = 1000 → (y7 = -1 ∨ ∃ i, i < 1000 ∧ y7 = nI i) → pc (Ragreed_49 (Ragreed_R z) v y1 y2 y3 y4 y5 y6 y7 (nI j)) (fun p => p.1 = (M k j s y7).1) := by
  intro k
  induction k with
  | zero =>
    intro j z s v y6 y7 hJ hj hb
    rw [ag_end hj, m0, if_neg n0]
    exact pc_s rfl
  | succ k ih =>
    intro j z s v y6 y7 hJ hj hb
    obtain ⟨_, j1, j2⟩ := g s v (nI j) hJ
    have tk : (nI j = -1 ∨ ∃ i, i < 1000 ∧ nI j = nI i) := Or.inr ⟨j, by omega, rfl⟩
    rw [ag49 g hJ (by omega), m1]
    by_cases c7 : y7 = -1
    · simp only [if_pos c7]
      by_cases c : (G s (nI j)).1 = 0
      · rw [if_pos c, if_pos c]; exact ag_go (fun z => ih (j + 1) z _ _ _ _ j1 (by omega) hb)
      · rw [if_neg c, if_neg c]; exact ag_go (fun z => ih (j + 1) z _ _ _ _ j1 (by omega) tk)
    · obtain ⟨i, hi, ei⟩ := hb.resolve_left c7
      simp only [if_neg c7]
      have r1 := rk j (by omega)
      have r2 : Rrank y7 (if y5 = 2 then 1 else 0) = ranI y7 gg := by rw [ei]; exact rk i hi
      rw [r1, r2]
      by_cases cr : ranI (nI j) gg ≤ ranI y7 gg
      · rw [if_pos cr, if_pos cr]
        exact pc_i (fun _ => ag_go (fun z => ih (j + 1) z _ _ _ _ j2 (by omega) hb)) (fun _ => ag_go (fun z => ih (j + 1) z _ _ _ _ j2 (by omega) hb))
      · rw [if_neg cr, if_neg cr]
        by_cases c : (G s (nI j)).1 = 0
        · rw [if_pos c, if_pos c]; exact ag_go (fun z => ih (j + 1) z _ _ _ _ j1 (by omega) hb)
        · rw [if_neg c, if_neg c]; exact ag_go (fun z => ih (j + 1) z _ _ _ _ j1 (by omega) tk)
end AGL
theorem movF_g {s s1 : SG} {x y z u : Int32} (e : ∀ c, c < 42 → s1 c = s c) : movF s1 x y z u = movF s x y z u := by
  have er : repO s1 x = repO s x := by unfold repO; rw [e 3 (by omega)]
  unfold movF
  rw [er]
  cases h : repO s x with
  | none => rfl
  | some r =>
    have hr : r < 42 := by
      unfold repO kepO at h
      by_cases c1 : x < 0
      · rw [if_pos c1] at h; cases h
      rw [if_neg c1] at h
      by_cases c2 : cl 6 (s 3) 0 ≤ x
      · rw [if_pos c2] at h; cases h
      rw [if_neg c2, if_neg c1] at h
      by_cases c3 : 2 ≤ x
      · rw [if_pos c3] at h; cases h
      rw [if_neg c3] at h
      by_cases c4 : x.toNatClampNeg < 2
      · rw [if_pos c4] at h; cases h; omega
      · rw [if_neg c4] at h; cases h
    show movI s1 r y z u = movI s r y z u
    unfold movI minI
    rw [e r hr]
theorem rowO_g {s s1 : SG} {x y : Int32} (e : ∀ c, c < 42 → s1 c = s c) : rowO s1 x y = rowO s x y := by unfold rowO; rw [e 3 (by omega)]
theorem SIMn_g {s s1 : SG} (h : SIMn s) (e : ∀ c, c < 42 → s1 c = s c) (e65 : s1 65 = s 65) : SIMn s1 := SIM_n.1 (SIM_loc s s1 1 1 0 0 (fun c j hc => by
  have := tD_c hc
  rw [e (1 + c) (by omega)]) (fun j _ => by rw [e65]) (SIM_n.2 h))
theorem RW_k {j : Nat} (hK : SH K) (hj : j < 2) : RW K (22 + 2 * (0 * 2 + j)) := RW2 hK (0 * 2 + j) (by omega)
theorem w12_n {x : Int32} (h : ¬ inI x 0 2 = 0) : x = 0 ∨ x = 1 ∨ x = 2 := by
  obtain ⟨a, ea, ha⟩ := inI_nI (b := 2) (by decide) h
  rcases (by omega : a = 0 ∨ a = 1 ∨ a = 2) with rfl | rfl | rfl
  · exact Or.inl ea
  · exact Or.inr (Or.inl ea)
  · exact Or.inr (Or.inr ea)
theorem w12_y {x : Int32} (h : inI x 0 2 = 0) : ¬ x = 0 ∧ ¬ x = 1 ∧ ¬ x = 2 := by
  refine ⟨?_, ?_, ?_⟩ <;> (rintro rfl; exact absurd h (by decide))
section AGE
variable {s s1 v : SG} {o n V b se o2 n2 : Nat} {x1 x2 x3 x4 x5 : Int32}
theorem agd_c (h : AGJ r o n V b se s v) (hq : q + 2 ≤ 42) (oq : OQ s q v o2 n2) (n1 : ¬ x2 = -1) (c2 : ¬ inI x5 0 2 = 0) {z : Nat} : pc (Ragreed_49 (Ragreed_R z) v x1 x2 x3 x4 x5 0 (-1) (nI 0)) (fun p => p.1 = (agdc s r q (nI b) (nI se) x5).1) := by
  have g : AGT (fun s x => iagP s r q (nI b) (nI se) x) (fun s v => AGJ r o n V b se s v ∧ OQ s q v o2 n2) x2 := by
    intro s v x hJ
    have lo : ∀ c, c < 42 → (iagP s r q (nI b) (nI se) x).2 c = s c := fun c hc => iagP_lo (Or.inl hc)
    refine ⟨by rw [if_neg n1]; exact iag_e hJ.1 hq hJ.2, ⟨agj_s (agj_t hJ.1) lo, OQ_s (oq_t hJ.2) (lo q (by omega)) (lo (q + 1) (by omega))⟩, agj_t hJ.1, oq_t hJ.2⟩
  unfold agdc agdcW
  rcases w12_n c2 with rfl | rfl | rfl
  · rw [if_pos rfl]
    exact ag_many (M := fun k j s y => magPL r q k j s (nI b) (nI se) y) g (fun _ _ _ => rfl) (fun _ _ _ _ => rfl) 1000 0 z s v 0 (-1) ⟨h, oq⟩ rfl
  · rw [if_neg (by decide), if_pos rfl]
    exact ag_best (y5 := 1) (M := fun k j s y => bagPL r q k j s (nI b) (nI se) 1 y) (gg := 1) g (fun _ _ _ => rfl) (fun _ _ _ _ => rfl) (by decide) rk_1 1000 0 z s v 0 (-1) ⟨h, oq⟩ rfl (Or.inl rfl)
  · rw [if_neg (by decide), if_neg (by decide), if_pos rfl]
    exact ag_best (y5 := 2) (M := fun k j s y => bagPL r q k j s (nI b) (nI se) 0 y) (gg := 0) g (fun _ _ _ => rfl) (fun _ _ _ _ => rfl) (by decide) rk_2 1000 0 z s v 0 (-1) ⟨h, oq⟩ rfl (Or.inl rfl)
theorem agd_b (h : AGJ r o n V b se s v) (n1 : x2 = -1) (c2 : ¬ inI x5 0 2 = 0) {z : Nat} : pc (Ragreed_49 (Ragreed_R z) v x1 x2 x3 x4 x5 0 (-1) (nI 0)) (fun p => p.1 = (agdb s r x2 (nI b) (nI se) x5).1) := by
  have g : AGT (fun s x => iag0 s r (nI b) (nI se) x) (fun s v => AGJ r o n V b se s v) x2 := by
    intro s v x hJ
    have lo : ∀ c, c < 42 → (iag0 s r (nI b) (nI se) x).2 c = s c := fun c hc => iag0_lo (Or.inl hc)
    exact ⟨by rw [if_pos n1]; exact iag_0 hJ, agj_s (agj_t hJ) lo, agj_t hJ⟩
  unfold agdb agdbW
  rw [if_pos n1]
  rcases w12_n c2 with rfl | rfl | rfl
  · rw [if_pos rfl]
    exact ag_many (M := fun k j s y => magP0L r k j s (nI b) (nI se) y) g (fun _ _ _ => rfl) (fun _ _ _ _ => rfl) 1000 0 z s v 0 (-1) h rfl
  · rw [if_neg (by decide), if_pos rfl]
    exact ag_best (y5 := 1) (M := fun k j s y => bagP0L r k j s (nI b) (nI se) 1 y) (gg := 1) g (fun _ _ _ => rfl) (fun _ _ _ _ => rfl) (by decide) rk_1 1000 0 z s v 0 (-1) h rfl (Or.inl rfl)
  · rw [if_neg (by decide), if_neg (by decide), if_pos rfl]
    exact ag_best (y5 := 2) (M := fun k j s y => bagP0L r k j s (nI b) (nI se) 0 y) (gg := 0) g (fun _ _ _ => rfl) (fun _ _ _ _ => rfl) (by decide) rk_2 1000 0 z s v 0 (-1) h rfl (Or.inl rfl)
/-- the reference's agreed on s1, the class's answer X on s, with the same told -/
theorem AG_fin {p : Int32 × SG} (hn : SIMn s1) (rr : RI s1) (lo : ∀ c, c < 42 → s1 c = s c) (e2 : Ragreed s1 x1 x2 x3 x4 x5 = some p) : (movF s x1 x3 x4 0 = none → p.1 = -2) ∧ ∀ r, movF s x1 x3 x4 0 = some r → (rowO s 1 x2 = none → p.1 = (agdb s r x2 x3 x4 x5).1) ∧ ∀ q, rowO s 1 x2 = some q → p.1 = (agdc s r q x3 x4 x5).1 := by
  have d0 : dayI 0 0 0 = 0 := by decide
  have mf : movF s1 x1 x3 x4 0 = movF s x1 x3 x4 0 := movF_g lo
  obtain ⟨w, ew, _⟩ := isMotion_ok (x := x1) (b := x3) (se := x4) (u := 0) (v := 0) (w := 0) rr
  unfold Ragreed at e2
  rw [ew] at e2
  replace e2 : (if w.1 = 0 then some ((-2 : Int32), w.2) else if (inI x5 (0) (2)) = 0 then some ((-2), w.2) else if x2 = (-1) then Ragreed_49 (Ragreed_R xF) w.2 x1 x2 x3 x4 x5 (0) (-1) (nI 0) else (RareOrders w.2 x2).bind fun p2 => if p2.1 = 0 then some ((-2), p2.2) else Ragreed_49 (Ragreed_R xF) p2.2 x1 x2 x3 x4 x5 (0) (-1) (nI 0)) = some p := e2
  rcases mot_v (x1 := x1) (x2 := x3) (x3 := x4) (x4 := 0) (x5 := 0) (x6 := 0) hn rr with ⟨c1, c2⟩ | ⟨j, m, se, hj, hm, hse, em, es, c1, c2⟩
  · rw [d0, mf] at c1
    rw [if_pos (c2 w ew)] at e2
    refine ⟨fun _ => by cases e2; rfl, fun r er => ?_⟩
    rw [c1] at er; cases er
  · rw [d0, mf] at c1
    refine ⟨fun e => by (rw [c1] at e; cases e), fun r er => ?_⟩
    rw [c1] at er
    obtain rfl : 6 + 8 * j = r := Option.some.inj er
    obtain ⟨w1, n, V, hmn, rq, e15, e16, e12, e13, e14, e18, e20, e21, e22, rb⟩ := c2 w ew
    rw [if_neg (show ¬ w.1 = 0 by rw [w1]; decide)] at e2
    have J1 : AGJ (6 + 8 * j) (610 + 118 * j) n V m se s1 w.2 := ⟨by omega, ⟨hm, hse⟩, rq, by rw [e15, em], by rw [e16, es], e18, e20, e21, e22⟩
    have J : AGJ (6 + 8 * j) (610 + 118 * j) n V m se s w.2 := agj_s J1 (fun c hc => (lo c hc).symm)
    have w65 : w.2 65 = s1 65 := by
      obtain ⟨w', ew', hw'⟩ := isMotion_ok (x := x1) (b := x3) (se := x4) (u := 0) (v := 0) (w := 0) rr
      rw [ew] at ew'; cases ew'
      exact hw'.1.1
    have bad : inI x5 0 2 = 0 → ∀ q, (agdbW s (6 + 8 * j) x3 x4 x5).1 = -2 ∧ (agdcW s (6 + 8 * j) q x3 x4 x5).1 = -2 := by
      intro g q
      obtain ⟨g0, g1, g2⟩ := w12_y g
      unfold agdbW agdcW
      rw [if_neg g0, if_neg g1, if_neg g2, if_neg g0, if_neg g1, if_neg g2]
      exact ⟨rfl, rfl⟩
    rcases ord_v (x1 := x2) hn rr with ⟨e, z⟩ | ⟨j2, hj2, ex, z, e, ww⟩
    · rw [rowO_g lo] at e
      refine ⟨fun _ => ?_, fun q eq => by (rw [e] at eq; cases eq)⟩
      by_cases c5 : inI x5 0 2 = 0
      · rw [if_pos c5] at e2
        unfold agdb
        by_cases n1 : x2 = -1
        · rw [if_pos n1, (bad c5 0).1]; cases e2; rfl
        · rw [if_neg n1]; cases e2; rfl
      · rw [if_neg c5] at e2
        by_cases n1 : x2 = -1
        · rw [if_pos n1] at e2
          have k := agd_b (x1 := x1) (x3 := x3) (x4 := x4) (z := xF) J n1 c5 p e2
          rw [k, em, es]
        · rw [if_neg n1] at e2
          have z' : iofN w.2 1 x2 = 0 := by unfold iofN; rw [w65]; exact z
          rw [areO_n z'] at e2
          unfold agdb
          rw [if_neg n1]
          rw [Option.bind_some, if_pos rfl] at e2
          cases e2; rfl
    · rw [rowO_g lo] at e
      refine ⟨fun g => by (rw [e] at g; cases g), fun q eq => ?_⟩
      rw [e] at eq
      obtain rfl : 22 + 2 * (0 * 2 + j2) = q := Option.some.inj eq
      have n1 : ¬ x2 = -1 := by rw [ex]; exact nI_n1 (by omega)
      by_cases c5 : inI x5 0 2 = 0
      · rw [if_pos c5] at e2
        unfold agdc
        rw [(bad c5 _).2]; cases e2; rfl
      · rw [if_neg c5, if_neg n1] at e2
        have z' : ¬ iofN w.2 1 x2 = 0 := by unfold iofN; rw [w65]; exact z
        rw [areO_y z' ex] at e2
        replace e2 : (if (1 : Int32) = 0 then some ((-2 : Int32), up w.2 64 17 (nI (846 + 41 * j2))) else Ragreed_49 (Ragreed_R xF) (up w.2 64 17 (nI (846 + 41 * j2))) x1 x2 x3 x4 x5 (0) (-1) (nI 0)) = some p := e2
        rw [if_neg (show ¬ (1 : Int32) = 0 by decide)] at e2
        obtain ⟨n2, oq⟩ := OQ_of (v := up w.2 64 17 (nI (846 + 41 * j2))) ww hj2 up_a (by rw [up_n (by decide)]; exact w65)
        have oq' := OQ_s (s2 := s) oq (lo _ (by omega)).symm (lo _ (by omega)).symm
        obtain ⟨a1, a2, a3, a4, a5, a6, a7, a8, a9⟩ := J
        have J' : AGJ (6 + 8 * j) (610 + 118 * j) n V m se s (up w.2 64 17 (nI (846 + 41 * j2))) := ⟨a1, a2, RQ_v a3 (up_bn (by decide)) (up_n (by decide)), by rw [up_bn (by decide)]; exact a4, by rw [up_bn (by decide)]; exact a5, by rw [up_bn (by decide)]; exact a6, by rw [up_bn (by decide)]; exact a7, by rw [up_bn (by decide)]; exact a8, by rw [up_bn (by decide)]; exact a9⟩
        have k := agd_c (x1 := x1) (x3 := x3) (x4 := x4) (z := xF) J' (by omega) oq' n1 c5 p e2
        rw [k, em, es]
end AGE
theorem CE_agreed {s : SG} {x1 x2 x3 x4 x5 : Int32} (hP : wLoc SIM1) (h : INVP SIM1 K s) : ∃ v s1 s2, xN sc (d + 11) 101 [.inr (.inr (.inl (some 0))), .inl x1, .inl x2, .inl x3, .inl x4, .inl x5] (wl K s) = some (some (.inl v), wl K s1) ∧ xN sc (d + 11) 234 [.inr (.inr (.inl (some 64))), .inl x1, .inl x2, .inl x3, .inl x4, .inl x5] (wl K s1) = some (some (.inl v), wl K s2) ∧ INVP SIM1 K s2 := by
  have hK := INVP_SH h
  have hn := SIM_n.1 (INVP_P h)
  have rr := INVP_RI h
  have tv := TB_TV (INVP_TB h)
  have fin : ∀ (s1 : SG) (v : Int32), xN sc (d + 11) 101 [.inr (.inr (.inl (some 0))), .inl x1, .inl x2, .inl x3, .inl x4, .inl x5] (wl K s) = some (some (.inl v), wl K s1) → (∀ c, (c < 42 ∨ 64 ≤ c) → s1 c = s c) → (∀ p, Ragreed s1 x1 x2 x3 x4 x5 = some p → p.1 = v) → ∃ v s1 s2, xN sc (d + 11) 101 [.inr (.inr (.inl (some 0))), .inl x1, .inl x2, .inl x3, .inl x4, .inl x5] (wl K s) = some (some (.inl v), wl K s1) ∧ xN sc (d + 11) 234 [.inr (.inr (.inl (some 64))), .inl x1, .inl x2, .inl x3, .inl x4, .inl x5] (wl K s1) = some (some (.inl v), wl K s2) ∧ INVP SIM1 K s2 := by
    intro s1 v e1 fr hv
    have r1 : RI s1 := RI_65 (fr 65 (by omega)) rr
    have q2 := r_agreed (sc := sc) (d := d + 3) (s := s1) (x1 := x1) (x2 := x2) (x3 := x3) (x4 := x4) (x5 := x5) hK
    obtain ⟨p, e2, q⟩ : ok (Ragreed s1 x1 x2 x3 x4 x5) (fun p => QI s1 p.2) := agreed_ok r1
    have e3 := hv p e2
    rw [e2] at q2
    exact ⟨v, s1, p.2, e1, by rw [← e3]; exact q2, INVP_q hP h fr q⟩
  have AF : ∀ s1 : SG, (∀ c, (c < 42 ∨ 64 ≤ c) → s1 c = s c) → ∀ p, Ragreed s1 x1 x2 x3 x4 x5 = some p → (movF s x1 x3 x4 0 = none → p.1 = -2) ∧ ∀ r, movF s x1 x3 x4 0 = some r → (rowO s 1 x2 = none → p.1 = (agdb s r x2 x3 x4 x5).1) ∧ ∀ q, rowO s 1 x2 = some q → p.1 = (agdc s r q x3 x4 x5).1 := fun s1 fr p e => AG_fin (SIMn_g hn (fun c hc => fr c (Or.inl hc)) (fr 65 (by omega))) (RI_65 (fr 65 (by omega)) rr) (fun c hc => fr c (Or.inl hc)) e
  rcases movF_c (a := x1) (who := x3) (se := x4) (day := 0) hK tv with e1 | ⟨r, e1, hr, br, zr⟩
  · exact fin s (-2) (c_agreed_a (d := d + 7) (h := hK) (tv := tv) (e1 := e1)) (fun _ _ => rfl) (fun p e => (AF s (fun _ _ => rfl) p e).1 e1)
  · rcases rowO_c (so := 1) (x := x2) hK tv with e2 | ⟨q, e2, hq, bq, zq⟩
    · exact fin _ _ (c_agreed_b (d := d + 5) (hr := hr) (h := hK) (br := br) (tv := tv) (e1 := e1) (e2 := e2) (zr := zr)) (fun c hc => agdb_lo hc) (fun p e => ((AF _ (fun c hc => agdb_lo hc) p e).2 r e1).1 e2)
    · exact fin _ _ (c_agreed_c (d := d + 4) (hr := hr) (hq := hq) (h := hK) (br := br) (bq := bq) (tv := tv) (e1 := e1) (e2 := e2) (zr := zr) (zq := zq)) (fun c hc => agdc_lo hc) (fun p e => ((AF _ (fun c hc => agdc_lo hc) p e).2 r e1).2 q e2)
end XVA
end
