section XUD
variable {sc : Nat × (Nat → Int32)} {d : Nat} {K : List KD} {r q t a B m : Nat} {w : EW}
/-! power on both sides -/
theorem bit_e : ∀ a, a < 64 → bitI (nI a) = bsL (nI a) 31 0 0 := by decide +kernel
theorem bit_n : ∀ n, n < 7 → ∀ m, m < n → ∀ a, a < 2 ^ n → ¬ (nI a >>> (nI m &&& 31)) &&& 1 = 1 → ∃ b, b < n ∧ bitI (nI a) = nI b := by decide +kernel
theorem fac_e : ∀ k, k < 7 → facI (nI k) = nI (fcN k) := by decide +kernel
theorem com_r {y0 y1 : Int32} : ∀ (b a k : Nat), a < 2 ^ 31 → b < 2 ^ 31 → pc (Rcommon_4 (Rcommon_R k) y0 y1 (nI a) (nI b)) (fun v => v = nI (Nat.gcd b a)) := by
  intro b
  induction b using Nat.strongRecOn with
  | _ b ih =>
    intro a k ha hb
    unfold Rcommon_4
    by_cases h0 : b = 0
    · subst h0
      rw [if_pos (show nI 0 = (0 : Int32) from rfl), Nat.gcd_zero_left]
      exact pc_s rfl
    · have hne : ¬ nI b = (0 : Int32) := fun h => h0 (nI_inj hb (by decide) h)
      rw [if_neg hne, if_neg hne, nI_mod ha (by omega) hb]
      have hm : a % b < b := Nat.mod_lt _ (by omega)
      cases k with
      | zero => exact fun _ e => nomatch e
      | succ k =>
        rw [Nat.gcd_rec]
        exact ih (a % b) hm b k hb (by omega)
theorem com_c {y0 y1 : Int32} : ∀ (h b a N j : Nat), b < 2 ^ h → 2 * h + 1 ≤ N → a < 2 ^ 31 → b < 2 ^ 31 → comIL N j y0 y1 (nI a) (nI b) = nI (Nat.gcd b a) := by
  intro h
  induction h with
  | zero =>
    intro b a N j hb hN ha hb2
    obtain ⟨N, rfl⟩ : ∃ N', N = N' + 1 := ⟨N - 1, by omega⟩
    have b0 : b = 0 := by rw [Nat.pow_zero] at hb; omega
    subst b0
    rw [comIL, if_pos (show nI 0 = (0 : Int32) from rfl), Nat.gcd_zero_left]
  | succ h ih =>
    intro b a N j hb hN ha hb2
    obtain ⟨N, rfl⟩ : ∃ N', N = N' + 1 + 1 := ⟨N - 2, by omega⟩
    rw [comIL]
    by_cases h0 : b = 0
    · subst h0
      rw [if_pos (show nI 0 = (0 : Int32) from rfl), Nat.gcd_zero_left]
    · have hne : ¬ nI b = (0 : Int32) := fun g => h0 (nI_inj hb2 (by decide) g)
      have hc : a % b < b := Nat.mod_lt _ (by omega)
      rw [if_neg hne, nI_mod ha (by omega) hb2, Nat.gcd_rec b a]
      generalize a % b = c at hc
      rw [comIL]
      by_cases c0 : c = 0
      · subst c0
        rw [if_pos (show nI 0 = (0 : Int32) from rfl), Nat.gcd_zero_left]
      · have hne2 : ¬ nI c = (0 : Int32) := fun g => c0 (nI_inj (by omega) (by decide) g)
        have he : b % c < c := Nat.mod_lt _ (by omega)
        have e2 : b % c + c * (b / c) = b := Nat.mod_add_div b c
        have q1 : 1 ≤ b / c := Nat.div_pos (Nat.le_of_lt hc) (by omega)
        have q2 : c * 1 ≤ c * (b / c) := Nat.mul_le_mul_left c q1
        rw [if_neg hne2, nI_mod hb2 (by omega) (by omega), Nat.gcd_rec c b]
        refine ih (b % c) c N _ ?_ (by omega) (by omega) (by omega)
        rw [Nat.pow_succ] at hb
        omega
theorem part_v {a b : Nat} {u : Int32} (ha : a < 2 ^ 31) (hb2 : b ≤ 720) : pc (Rpart (nI a) (nI b) u) (fun v => v = fraI (nI a) (nI b) u) := by
  have ec : comI (nI a) (nI b) = nI (Nat.gcd b a) := com_c 10 b a 64 0 (by omega) (by decide) ha (by omega)
  have e9 : ∀ v, pc (Rpart_9 (nI a) (nI b) u v) (fun x => ¬ nI (Nat.gcd b a) = 0 ∧ x = v / nI (Nat.gcd b a)) := by
    intro v
    unfold Rpart_9 Rcommon
    refine pc_b (com_r b a xF ha (by omega)) (fun g hg => ?_)
    subst hg
    by_cases c : nI (Nat.gcd b a) = 0
    · rw [if_pos c]; exact fun _ e => nomatch e
    · rw [if_neg c]; exact pc_s ⟨c, rfl⟩
  unfold Rpart fraI
  rw [ec]
  by_cases u0 : u = 0
  · rw [if_pos u0]
    refine pc_w (e9 _) (fun x hx => ?_)
    rw [if_neg hx.1, if_pos u0]; exact hx.2
  · rw [if_neg u0]
    refine pc_w (e9 _) (fun x hx => ?_)
    rw [if_neg hx.1, if_neg u0]; exact hx.2
section PW
variable {s v : SG} {o n V : Nat} {y1 y3 : Int32}
theorem pow_30 (h : RQ s r v o n V) (zr : SZ s r) (hm : m < n) : ∀ (i j z c : Nat), j + i = al s r + 1 → c ≤ j * 518400 → pc (Rpower_30 (Rpower_R z) v y1 (nI m) y3 (nI n) (nI c) (nI j)) (fun p => p.1 = fraI (rodIL s r i j (nI m) (nI c)) (facI (nI n)) y3) := by
  have hn := h.2.1.1
  obtain ⟨_, _, e3⟩ := rq_n h
  have hal : al s r + 1 = 2 ^ n := by
    unfold al
    rw [e3]
    have : 0 < 2 ^ n := Nat.two_pow_pos n
    omega
  have h64 : 2 ^ n ≤ 2 ^ 6 := Nat.pow_le_pow_right (by decide) hn
  intro i
  induction i with
  | zero =>
    intro j z c hj hc
    have f := fact_ok (m := n) hn
    unfold Rpower_30
    rw [bg_all h]
    show pc (if allI s r < nI j then _ else _) _
    rw [if_pos (al_gt zr hj), f.1]
    show pc ((Rpart (nI c) (nI (fcN n)) y3).bind fun q3 => some (q3, v)) _
    have hc2 : c ≤ 33177600 := Nat.le_trans hc (Nat.mul_le_mul_right 518400 (by omega : j ≤ 64))
    refine pc_b (part_v (by omega) f.2.1) (fun x hx => pc_s ?_)
    rw [fac_e n (by omega), rodIL]; exact hx
  | succ i ih =>
    intro j z c hj hc
    have hj64 : j < 2 ^ n := by omega
    have go : ∀ c2, c2 ≤ (j + 1) * 518400 → pc ((Rpower_R z) v y1 (nI m) y3 (nI n) (nI c2) (nI j + 1)) (fun p => p.1 = fraI (rodIL s r i (j + 1) (nI m) (nI c2)) (facI (nI n)) y3) := by
      intro c2 h2
      cases z with
      | zero => exact fun _ e => nomatch e
      | succ z =>
        show pc (Rpower_30 (Rpower_R z) v y1 (nI m) y3 (nI n) (nI c2) (nI j + 1)) _
        rw [← nI_succ]
        exact ih (j + 1) z c2 (by omega) h2
    have same := go c (Nat.le_trans hc (Nat.mul_le_mul_right _ (by omega)))
    unfold Rpower_30
    rw [bg_all h]
    show pc (if allI s r < nI j then _ else _) _
    rw [if_neg (al_le zr hj), rodIL]
    by_cases k1 : (nI j >>> (nI m &&& 31)) &&& 1 = 1
    · rw [if_pos k1, if_neg (fun g => ((has_b (by omega)).1 g) k1)]
      exact same
    · rw [if_neg k1, if_pos ((has_b (by omega)).2 k1), bg_eno h]
      show pc (if (if votT s r (nI j) < s r 9 then (0 : Int32) else 1) = 0 then _ else _) _
      by_cases k2 : votT s r (nI j) < s r 9
      · rw [if_pos k2, if_pos rfl, if_neg (Int32.not_le.mpr k2), bg_eno h]
        show pc (if (if votT s r (nI j ||| (1 <<< (nI m &&& 31))) < s r 9 then (0 : Int32) else 1) = 0 then _ else _) _
        by_cases k3 : votT s r (nI j ||| (1 <<< (nI m &&& 31))) < s r 9
        · rw [if_pos k3, if_pos rfl, if_pos k3]
          exact same
        · rw [if_neg k3, if_neg (show ¬ (1 : Int32) = 0 by decide), if_neg k3]
          obtain ⟨b, hb, eb⟩ := bit_n n (by omega) m hm j hj64 k1
          obtain ⟨b2, hb2, er, _, eb2⟩ := bits_ok2 (a := j) (by omega)
          have ebb : b2 = b := nI_inj (by omega) (by omega) (by rw [← eb2, ← bit_e j (by omega), eb])
          subst ebb
          have f1 := fact_ok (m := b2) (by omega)
          have f2 := fact_ok (m := n - 1 - b2) (by omega)
          have i1 : nI n - 1 - nI b2 = nI (n - 1 - b2) := by
            show nI n - nI 1 - nI b2 = _
            rw [nI_subn (by omega), nI_subn (by omega)]
          have i2 : s r 0 - nI b2 - 1 = nI (n - 1 - b2) := by
            rw [h.2.2.1.1]
            show nI n - nI b2 - nI 1 = _
            rw [nI_subn (by omega), nI_subn (by omega)]; congr 1; omega
          rw [er]
          show pc ((Rfactorial (nI b2)).bind _) _
          rw [f1.1]
          show pc ((Rfactorial (nI n - 1 - nI b2)).bind _) _
          rw [i1, f2.1]
          show pc ((Rpower_R z) v y1 (nI m) y3 (nI n) (nI c + (nI (fcN b2) * nI (fcN (n - 1 - b2)))) (nI j + 1)) _
          rw [eb, i2, fac_e b2 (by omega), fac_e (n - 1 - b2) (by omega), nI_mulx, nI_add]
          refine go _ ?_
          rw [Nat.succ_mul]
          exact Nat.add_le_add hc (Nat.mul_le_mul f1.2.1 f2.2.1)
      · rw [if_neg k2, if_neg (show ¬ (1 : Int32) = 0 by decide), if_pos (Int32.not_lt.mp k2)]
        exact same
end PW
theorem CE_power {s : SG} {x1 x2 x3 : Int32} (hP : wLoc SIM1) (h : INVP SIM1 K s) : ∃ v s1 s2, xN sc (d + 11) 106 [.inr (.inr (.inl (some 0))), .inl x1, .inl x2, .inl x3] (wl K s) = some (some (.inl v), wl K s1) ∧ xN sc (d + 11) 241 [.inr (.inr (.inl (some 64))), .inl x1, .inl x2, .inl x3] (wl K s1) = some (some (.inl v), wl K s2) ∧ INVP SIM1 K s2 := by
  have hK := INVP_SH h
  have hn := SIM_n.1 (INVP_P h)
  have rr := INVP_RI h
  have q2 := r_power (sc := sc) (d := d + 6) (s := s) (x1 := x1) (x2 := x2) (x3 := x3) hK
  obtain ⟨p, e2, qi⟩ : ok (Rpower s x1 x2 x3) (fun p => QI s p.2) := power_ok rr
  rw [e2] at q2
  have I := INVP_q hP h (s1 := s) (fun _ _ => rfl) qi
  unfold Rpower at e2
  rcases rep_v (x1 := x1) hn rr with ⟨e0, er⟩ | ⟨j, u, n, V, hj, e0, er, u1, rq, zr, u65, u18⟩
  · rw [er] at e2
    rw [Option.bind_some, if_pos rfl] at e2
    have ep : p.1 = -1 := by cases e2; rfl
    exact ⟨p.1, s, p.2, by rw [ep]; exact c_powI_a (sc := sc) (d := d + 8) (s := s) (x := x1) (y := x2) (g := x3) hK e0, q2, I⟩
  · have nn6 := rq.2.1.1
    have mn : RisMinister u.2 x2 = some (inI x2 0 (nI n - 1)) := by
      unfold RisMinister
      rw [q_ministers (rq_RH rq), (rq_n rq).1]; rfl
    rw [er] at e2
    replace e2 : (if u.1 = 0 then some (-1, u.2) else (RisMinister u.2 x2).bind fun q2 => if q2 = 0 then some (-1, u.2) else (Rministers u.2).bind fun q3 => Rpower_30 (Rpower_R xF) u.2 x1 x2 x3 q3 (0) (0)) = some p := e2
    rw [if_neg (show ¬ u.1 = 0 by rw [u1]; decide), mn] at e2
    replace e2 : (if inI x2 0 (nI n - 1) = 0 then some (-1, u.2) else (Rministers u.2).bind fun q3 => Rpower_30 (Rpower_R xF) u.2 x1 x2 x3 q3 (0) (0)) = some p := e2
    have cc := c_powI_b (sc := sc) (d := d + 7) (s := s) (x := x1) (y := x2) (g := x3) (rp_j hK hj) hK e0 zr
    refine ⟨p.1, s, p.2, ?_, q2, I⟩
    rw [cc]
    have fin : powIb s (6 + 8 * j) x2 x3 = p.1 := by
      unfold powIb
      by_cases c1 : inI x2 0 (nI n - 1) = 0
      · rw [if_pos c1] at e2
        have m0 : minI s (6 + 8 * j) x2 = 0 := by
          unfold minI
          rw [rq.2.2.1.1]
          rcases (iz_m (by omega)).1 c1 with g | g
          · rw [if_pos g]
          · rw [if_pos g]; split <;> rfl
        rw [if_pos m0]
        cases e2; rfl
      · rw [if_neg c1, q_ministers (rq_RH rq), (rq_n rq).1] at e2
        replace e2 : Rpower_30 (Rpower_R xF) u.2 x1 x2 x3 (nI n) (nI 0) (nI 0) = some p := e2
        have m0 : ¬ minI s (6 + 8 * j) x2 = 0 := by
          unfold minI
          rw [rq.2.2.1.1, if_neg (fun g => c1 ((iz_m (by omega)).2 (Or.inl g))), if_neg (fun g => c1 ((iz_m (by omega)).2 (Or.inr g)))]; decide
        rw [if_neg m0]
        obtain ⟨m, em, hm⟩ := inI_sub (by omega) c1
        rw [em] at e2 ⊢
        have L := pow_30 (y1 := x1) (y3 := x3) rq zr hm (al s (6 + 8 * j) + 1) 0 xF 0 (by omega) (by omega) p e2
        rw [L, rq.2.2.1.1]; rfl
    rw [fin]
end XUD
