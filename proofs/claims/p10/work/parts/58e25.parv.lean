section XUC
variable {sc : Nat × (Nat → Int32)} {d : Nat} {K : List KD} {r q t a B m : Nat} {w : EW}
/-! coalitions on both sides -/
section CO
variable {s v : SG} {o n V : Nat} {x y1 y2 : Int32}
theorem least_8 (h : RQ s r v o n V) : ∀ (i m z : Nat) (y : Int32), m + i = n → (y = 0 ∨ y = 1) → pc (RisLeast_8 (RisLeast_R z) v x y (nI m)) (fun c => c = if y = 0 then 0 else islIL s r i m x) := by
  have hn := h.2.1.1
  intro i
  induction i with
  | zero =>
    intro m z y hm hy
    unfold RisLeast_8
    rw [q_ministers (rq_RH h), (rq_n h).1]
    show pc (if nI n ≤ nI m then (bif xrt 4 y then some y else none) else _) _
    rw [if_pos (nI_le2 (by omega) (by omega))]
    intro c hc
    rw [islIL]
    rcases hy with rfl | rfl
    · rw [if_pos rfl]
      cases hx : xrt 4 0 with
      | false => rw [hx] at hc; cases hc
      | true => rw [hx] at hc; cases hc; rfl
    · rw [if_neg (by decide)]
      cases hx : xrt 4 1 with
      | false => rw [hx] at hc; cases hc
      | true => rw [hx] at hc; cases hc; rfl
  | succ i ih =>
    intro m z y hm hy
    have go : ∀ (y' : Int32) (Q : Int32 → Prop), (y' = 0 ∨ y' = 1) → (∀ c, (c = if y' = 0 then 0 else islIL s r i (m + 1) x) → Q c) → pc ((RisLeast_R z) v x y' (nI m + 1)) Q := by
      intro y' Q hy' hq
      cases z with
      | zero => exact fun _ e => nomatch e
      | succ z =>
        show pc (RisLeast_8 (RisLeast_R z) v x y' (nI m + 1)) Q
        rw [← nI_succ]
        exact pc_w (ih (m + 1) z y' (by omega) hy') hq
    unfold RisLeast_8
    rw [q_ministers (rq_RH h), (rq_n h).1]
    show pc (if nI n ≤ nI m then _ else _) _
    rw [if_neg (nI_ge (by omega) (by omega))]
    have e : islIL s r (i + 1) m x = if hasI x (nI m) = 0 then islIL s r i (m + 1) x else if votT s r (x &&& ((1 <<< (nI m &&& 31)) ^^^ (-1))) < s r 9 then islIL s r i (m + 1) x else 0 := by rw [islIL]
    rw [e]
    have bit : ∀ b : Int32, (b &&& 1 = 0) ∨ (b &&& 1 = 1) := by
      intro b
      have q : (b &&& 1).toBitVec = b.toBitVec &&& 1#32 := rfl
      by_cases c : b.toBitVec.getLsbD 0 = true
      · refine Or.inr (Int32.toBitVec_inj.mp (BitVec.eq_of_getLsbD_eq (fun k hk => ?_)))
        rw [q, BitVec.getLsbD_and]
        by_cases k0 : k = 0
        · subst k0; rw [c]; rfl
        · have z : ∀ k, k < 32 → ¬ k = 0 → (1#32).getLsbD k = false := by decide
          rw [z k hk k0, Bool.and_false]; exact (z k hk k0).symm
      · refine Or.inl (Int32.toBitVec_inj.mp (BitVec.eq_of_getLsbD_eq (fun k hk => ?_)))
        rw [q, BitVec.getLsbD_and]
        have z0 : ∀ k, k < 32 → (0 : Int32).toBitVec.getLsbD k = false := by decide
        rw [z0 k hk]
        by_cases k0 : k = 0
        · subst k0; rw [Bool.eq_false_iff.mpr c]; rfl
        · have z : ∀ k, k < 32 → ¬ k = 0 → (1#32).getLsbD k = false := by decide
          rw [z k hk k0, Bool.and_false]
    rcases hy with rfl | rfl
    · rw [if_pos rfl]
      refine go 0 _ (Or.inl rfl) (fun c hc => ?_)
      rw [if_pos rfl] at hc ⊢; exact hc
    · rw [if_neg (show ¬ (1 : Int32) = 0 by decide)]
      by_cases c : (x >>> (nI m &&& 31)) &&& 1 = 1
      · rw [if_neg (show ¬ (x >>> (nI m &&& 31)) &&& 1 = 0 by rw [c]; decide), bg_eno h]
        show pc (if (if votT s r (x &&& ((1 <<< (nI m &&& 31)) ^^^ (-1))) < s r 9 then (0 : Int32) else 1) = 0 then _ else _) _
        by_cases g : votT s r (x &&& ((1 <<< (nI m &&& 31)) ^^^ (-1))) < s r 9
        · rw [if_pos g, if_pos rfl]
          refine go 1 _ (Or.inr rfl) (fun c' hc => ?_)
          rw [if_neg (show ¬ (1 : Int32) = 0 by decide)] at hc ⊢
          rw [if_neg (fun k => ((has_b (by omega)).1 k) c), if_pos g]; exact hc
        · rw [if_neg g, if_neg (show ¬ (1 : Int32) = 0 by decide)]
          refine go 0 _ (Or.inl rfl) (fun c' hc => ?_)
          rw [if_pos rfl] at hc
          rw [if_neg (show ¬ (1 : Int32) = 0 by decide), if_neg (fun k => ((has_b (by omega)).1 k) c), if_neg g]; exact hc
      · rw [if_pos ((bit _).resolve_right c)]
        refine go 1 _ (Or.inr rfl) (fun c' hc => ?_)
        rw [if_neg (show ¬ (1 : Int32) = 0 by decide)] at hc ⊢
        rw [if_pos ((has_b (by omega)).2 c)]; exact hc
theorem least_v (h : RQ s r v o n V) : pc (RisLeast v x) (fun c => c = islI s r x) := by
  obtain ⟨_, _, e3⟩ := rq_n h
  unfold RisLeast islI
  rw [bg_eno h, e3]
  show pc (RisLeast_8 (RisLeast_R xF) v x (if votT s r x < s r 9 then 0 else 1) (nI 0)) _
  by_cases g : votT s r x < s r 9
  · rw [if_pos g, if_neg (Int32.not_le.mpr g)]
    refine pc_w (least_8 h n 0 xF 0 (by omega) (Or.inl rfl)) (fun c hc => ?_)
    rw [if_pos rfl] at hc; exact hc
  · rw [if_neg g, if_pos (Int32.not_lt.mp g)]
    refine pc_w (least_8 h n 0 xF 1 (by omega) (Or.inr rfl)) (fun c hc => ?_)
    rw [if_neg (by decide)] at hc; exact hc
theorem key_4 (h : RQ s r v o n V) : ∀ (i m z : Nat) (y : Int32), m + i = n → pc (Rkey_4 (Rkey_R z) v y (nI m)) (fun c => c = keyIL s r i m y) := by
  have hn := h.2.1.1
  intro i
  induction i with
  | zero =>
    intro m z y hm
    unfold Rkey_4
    rw [q_ministers (rq_RH h), (rq_n h).1]
    show pc (if nI n ≤ nI m then some y else _) _
    rw [if_pos (nI_le2 (by omega) (by omega))]
    exact pc_s (by rw [keyIL])
  | succ i ih =>
    intro m z y hm
    have go : ∀ (y' : Int32) (Q : Int32 → Prop), (∀ c, c = keyIL s r i (m + 1) y' → Q c) → pc ((Rkey_R z) v y' (nI m + 1)) Q := by
      intro y' Q hq
      cases z with
      | zero => exact fun _ e => nomatch e
      | succ z =>
        show pc (Rkey_4 (Rkey_R z) v y' (nI m + 1)) Q
        rw [← nI_succ]
        exact pc_w (ih (m + 1) z y' (by omega)) hq
    unfold Rkey_4
    rw [q_ministers (rq_RH h), (rq_n h).1]
    show pc (if nI n ≤ nI m then _ else _) _
    rw [if_neg (nI_ge (by omega) (by omega)), bg_all h]
    show pc ((RisEnough v (allI s r &&& ((1 <<< (nI m &&& 31)) ^^^ (-1)))).bind _) _
    rw [bg_eno h]
    have e : keyIL s r (i + 1) m y = if s r 9 ≤ votT s r (allI s r &&& ((1 <<< (nI m &&& 31)) ^^^ (-1))) then keyIL s r i (m + 1) y else keyIL s r i (m + 1) (y ||| (1 <<< (nI m &&& 31))) := by rw [keyIL]
    rw [e]
    show pc (if (if votT s r (allI s r &&& ((1 <<< (nI m &&& 31)) ^^^ (-1))) < s r 9 then (0 : Int32) else 1) = 0 then _ else _) _
    by_cases g : votT s r (allI s r &&& ((1 <<< (nI m &&& 31)) ^^^ (-1))) < s r 9
    · rw [if_pos g, if_pos rfl, if_neg (Int32.not_le.mpr g)]
      exact go _ _ (fun c hc => hc)
    · rw [if_neg g, if_neg (show ¬ (1 : Int32) = 0 by decide), if_pos (Int32.not_lt.mp g), or_0]
      exact go _ _ (fun c hc => hc)
theorem key_v (h : RQ s r v o n V) : pc (Rkey v) (fun c => c = keyI s r) := by
  obtain ⟨_, _, e3⟩ := rq_n h
  unfold Rkey keyI
  rw [e3]
  exact key_4 h n 0 xF 0 (by omega)
theorem coa_33 (h : RQ s r v o n V) (zr : SZ s r) : ∀ (i j z : Nat) (y3 : Int32), j + i = al s r + 1 → pc (Rcoalition_33 (Rcoalition_R z) v y1 y2 y3 (nI j)) (fun p => p.1 = lecIL s r i j y2 y3) := by
  intro i
  induction i with
  | zero =>
    intro j z y3 hj
    unfold Rcoalition_33
    rw [bg_all h]
    show pc (if allI s r < nI j then _ else _) _
    rw [if_pos (al_gt zr hj), lecIL]
    by_cases c : y2 = -1
    · rw [if_pos c, if_pos c]; exact pc_s rfl
    · rw [if_neg c, if_neg c]; exact pc_s rfl
  | succ i ih =>
    intro j z y3 hj
    have go : ∀ (y' : Int32), pc ((Rcoalition_R z) v y1 y2 y' (nI j + 1)) (fun p => p.1 = lecIL s r i (j + 1) y2 y') := by
      intro y'
      cases z with
      | zero => exact fun _ e => nomatch e
      | succ z =>
        show pc (Rcoalition_33 (Rcoalition_R z) v y1 y2 y' (nI j + 1)) _
        rw [← nI_succ]
        exact ih (j + 1) z y' (by omega)
    unfold Rcoalition_33
    rw [bg_all h]
    show pc (if allI s r < nI j then _ else _) _
    rw [if_neg (al_le zr hj), lecIL]
    refine pc_b (least_v h) (fun c hc => ?_)
    subst hc
    by_cases k1 : islI s r (nI j) = 0
    · rw [if_pos k1, if_pos k1]; exact go y3
    · rw [if_neg k1, if_neg k1]
      by_cases k2 : y3 = y2
      · rw [if_pos k2, if_pos k2]; exact pc_s rfl
      · rw [if_neg k2, if_neg k2]; exact go (y3 + 1)
end CO
/-- a told republic that a query means, on both sides -/
theorem rep_v {s : SG} {x1 : Int32} (hn : SIMn s) (rr : RI s) : (repO s x1 = none ∧ RisRepublic s x1 = some (0, s)) ∨ ∃ j u n V, j < 2 ∧ repO s x1 = some (6 + 8 * j) ∧ RisRepublic s x1 = some u ∧ u.1 = 1 ∧ RQ s (6 + 8 * j) u.2 (610 + 118 * j) n V ∧ SZ s (6 + 8 * j) ∧ u.2 65 = s 65 ∧ u.2 64 18 = allI s (6 + 8 * j) := by
  obtain ⟨n0, en, hn2⟩ := rr.1.1 0 (by omega)
  rcases rep_sel (x := x1) hn en hn2 with ⟨z, e⟩ | ⟨j, hj, hjn, ex, z, e⟩
  · exact Or.inl ⟨e, isRep_n z⟩
  · obtain ⟨u, eu, u1, u65, u11, u18, u20, u21, u22⟩ := isRep_v hj ex z
    have rq0 := rep_q hn hj en hn2 hjn
    rw [← u65] at rq0
    obtain ⟨n, V, rq⟩ := RQ_of rq0 u11 (by omega)
    obtain ⟨_, _, e3⟩ := rq_n rq
    refine Or.inr ⟨j, u, n, V, hj, e, eu, u1, rq, ⟨by rw [e3]; exact rq.2.2.1.1, by rw [e3]; exact rq.2.1.1⟩, u65, ?_⟩
    rw [u18, rq_all rq, ← u65, rq.2.2.1.2]
theorem CE_coalition {s : SG} {x1 x2 : Int32} (hP : wLoc SIM1) (h : INVP SIM1 K s) : ∃ v s1 s2, xN sc (d + 11) 108 [.inr (.inr (.inl (some 0))), .inl x1, .inl x2] (wl K s) = some (some (.inl v), wl K s1) ∧ xN sc (d + 11) 244 [.inr (.inr (.inl (some 64))), .inl x1, .inl x2] (wl K s1) = some (some (.inl v), wl K s2) ∧ INVP SIM1 K s2 := by
  have hK := INVP_SH h
  have hn := SIM_n.1 (INVP_P h)
  have rr := INVP_RI h
  have q2 := r_coalition (sc := sc) (d := d + 5) (s := s) (x1 := x1) (x2 := x2) hK
  obtain ⟨p, e2, qi⟩ : ok (Rcoalition s x1 x2) (fun p => QI s p.2) := coalition_ok rr
  rw [e2] at q2
  have I := INVP_q hP h (s1 := s) (fun _ _ => rfl) qi
  unfold Rcoalition at e2
  rcases rep_v (x1 := x1) hn rr with ⟨e0, er⟩ | ⟨j, u, n, V, hj, e0, er, u1, rq, zr, u65, u18⟩
  · rw [er] at e2
    rw [Option.bind_some, if_pos rfl] at e2
    have ep : p.1 = -3 := by cases e2; rfl
    exact ⟨p.1, s, p.2, by rw [ep]; exact c_coaI_a (sc := sc) (d := d + 8) (s := s) (x := x1) (v := x2) hK e0, q2, I⟩
  · rw [er] at e2
    replace e2 : (if u.1 = 0 then some (-3, u.2) else if (-2) ≤ x2 then (if x2 = (-2) then ((Rkey u.2).bind fun q2 => some (q2, u.2)) else Rcoalition_33 (Rcoalition_R xF) u.2 x1 x2 (0) (0)) else some (-3, u.2)) = some p := e2
    rw [if_neg (show ¬ u.1 = 0 by rw [u1]; decide)] at e2
    have cc := c_coaI_b (sc := sc) (d := d + 6) (s := s) (x := x1) (v := x2) (rp_j hK hj) hK e0 zr
    refine ⟨p.1, s, p.2, ?_, q2, I⟩
    rw [cc]
    have fin : coaIb s (6 + 8 * j) x2 = p.1 := by
      unfold coaIb
      by_cases c1 : -2 ≤ x2
      · rw [if_pos c1] at e2 ⊢
        by_cases c2 : x2 = -2
        · rw [if_pos c2] at e2 ⊢
          have k : pc ((Rkey u.2).bind fun q2 => some (q2, u.2)) (fun p => p.1 = keyI s (6 + 8 * j)) := pc_b (key_v rq) (fun c hc => pc_s hc)
          exact (k p e2).symm
        · rw [if_neg c2] at e2 ⊢
          exact (coa_33 (y1 := x1) (y2 := x2) rq zr (al s (6 + 8 * j) + 1) 0 xF 0 (by omega) p e2).symm
      · rw [if_neg c1] at e2 ⊢
        cases e2; rfl
    rw [fin]
end XUC
