section XTW
variable {sc : Nat × (Nat → Int32)} {d : Nat} {K : List KD} {r q t a B m : Nat} {w : EW}
/-! the tape: its bytes on both sides -/
theorem and_nn (y : Int32) : 0 ≤ y &&& 255 := by
  have hm : (y &&& 255).toBitVec.msb = false := by
    rw [Int32.toBitVec_and, BitVec.msb_and, show (255 : Int32).toBitVec.msb = false by decide, Bool.and_false]
  rw [Int32.le_iff_toInt_le]
  show (0 : Int) ≤ (y &&& 255).toBitVec.toInt
  rw [BitVec.toInt_eq_toNat_of_msb hm]
  exact Int.natCast_nonneg _
theorem byt_n {x k : Int32} {n : Nat} (hn : n ≤ 24) (e1 : (x >>> k).toBitVec = x.toBitVec.sshiftRight n) (e2 : ((Int32.toUInt32 x >>> (Int32.toUInt32 k &&& Int32.toUInt32 31)).toInt32).toBitVec = x.toBitVec >>> n) : (x >>> k) &&& 255 = bytI x k := by
  unfold bytI
  refine Int32.toBitVec_inj.mp (BitVec.eq_of_getLsbD_eq (fun i hi => ?_))
  rw [Int32.toBitVec_and, Int32.toBitVec_and, e1, e2, BitVec.getLsbD_and, BitVec.getLsbD_and]
  by_cases c : i < 8
  · rw [BitVec.getLsbD_sshiftRight, BitVec.getLsbD_ushiftRight, if_pos (by omega), show decide (32 ≤ i) = false from decide_eq_false (by omega)]
    rfl
  · have z : ∀ i, i < 32 → ¬ i < 8 → (255 : Int32).toBitVec.getLsbD i = false := by decide
    rw [z i hi c, Bool.and_false, Bool.and_false]
theorem byt_k (x : Int32) : ∀ j, j < 4 → (x >>> nI (24 - 8 * j)) &&& 255 = bytI x (nI (24 - 8 * j)) := by
  intro j hj
  rcases (by omega : j = 0 ∨ j = 1 ∨ j = 2 ∨ j = 3) with rfl | rfl | rfl | rfl
  · exact byt_n (n := 24) (by omega) (by rw [Int32.toBitVec_shiftRight]; rfl) rfl
  · exact byt_n (n := 16) (by omega) (by rw [Int32.toBitVec_shiftRight]; rfl) rfl
  · exact byt_n (n := 8) (by omega) (by rw [Int32.toBitVec_shiftRight]; rfl) rfl
  · exact byt_n (n := 0) (by omega) (by rw [Int32.toBitVec_shiftRight]; rfl) rfl
def bF (v : Int32) (j : Nat) : Int32 := (v >>> ((24 - (8 * (nI j - nI j / 4 * 4))) &&& 31)) &&& 255
theorem bF_s : ∀ j, j < 20 → ((24 - (8 * (nI j - nI j / 4 * 4))) &&& 31 : Int32) = nI (24 - 8 * (j % 4)) := by decide
theorem bF_e {v : Int32} {j : Nat} (hj : j < 20) : bF v j = bytI v (nI (24 - 8 * (j % 4))) := by
  unfold bF
  rw [bF_s j hj]
  exact byt_k v (j % 4) (Nat.mod_lt _ (by omega))
section FD
variable {y1 y2 y3 y4 y5 : Int32}
def wdv (y1 y2 y3 y4 y5 : Int32) (j : Nat) : Int32 := if 4 ≤ j then (if 8 ≤ j then (if 12 ≤ j then (if 16 ≤ j then y5 else y4) else y3) else y2) else y1
def bL (y1 y2 y3 y4 y5 : Int32) : Nat → Nat → List Int32
  | 0, _ => []
  | n + 1, j => bF (wdv y1 y2 y3 y4 y5 j) j :: bL y1 y2 y3 y4 y5 n (j + 1)
theorem bL_20 : bL y1 y2 y3 y4 y5 20 0 = [bytI y1 24, bytI y1 16, bytI y1 8, bytI y1 0, bytI y2 24, bytI y2 16, bytI y2 8, bytI y2 0, bytI y3 24, bytI y3 16, bytI y3 8, bytI y3 0, bytI y4 24, bytI y4 16, bytI y4 8, bytI y4 0, bytI y5 24, bytI y5 16, bytI y5 8, bytI y5 0] := by
  show [bF y1 0, bF y1 1, bF y1 2, bF y1 3, bF y2 4, bF y2 5, bF y2 6, bF y2 7, bF y3 8, bF y3 9, bF y3 10, bF y3 11, bF y4 12, bF y4 13, bF y4 14, bF y4 15, bF y5 16, bF y5 17, bF y5 18, bF y5 19] = _
  rw [bF_e (j := 0) (by omega), bF_e (j := 1) (by omega), bF_e (j := 2) (by omega), bF_e (j := 3) (by omega), bF_e (j := 4) (by omega), bF_e (j := 5) (by omega), bF_e (j := 6) (by omega), bF_e (j := 7) (by omega), bF_e (j := 8) (by omega), bF_e (j := 9) (by omega), bF_e (j := 10) (by omega), bF_e (j := 11) (by omega), bF_e (j := 12) (by omega), bF_e (j := 13) (by omega), bF_e (j := 14) (by omega), bF_e (j := 15) (by omega), bF_e (j := 16) (by omega), bF_e (j := 17) (by omega), bF_e (j := 18) (by omega), bF_e (j := 19) (by omega)]
  rfl
theorem fds_f : ∀ (bs : List Int32) (c : SG), (∀ k, k ≠ 1 → k ≠ 2 → bs.foldl fd1 c k = c k) ∧ ∀ j, j ≠ 1 → bs.foldl fd1 c 1 j = c 1 j := by
  intro bs
  induction bs with
  | nil => intro c; exact ⟨fun _ _ _ => rfl, fun _ _ => rfl⟩
  | cons b bs ih =>
    intro c
    obtain ⟨h1, h2⟩ := ih (fd1 c b)
    refine ⟨fun k a1 a2 => (h1 k a1 a2).trans ?_, fun j a1 => (h2 j a1).trans ?_⟩
    · unfold fd1; rw [up_n a1, pt_n a2]
    · unfold fd1; rw [up_bn a1, pt_n (by decide)]
theorem feed_b {l : Nat} (hl : l + 20 ≤ 600) : ∀ (n j z : Nat) (c t : SG), c 1 1 = nI (l + j) → t 65 6 = nI (l + j) → (∀ i, i < 600 → c 2 i = t 65 (10 + i) ∧ 0 ≤ t 65 (10 + i)) → j + n = 20 → n ≤ z → ok (Rfeed_21 (Rfeed_R z) t y1 y2 y3 y4 y5 (nI j)) (fun p => (p.1 = nI (l + 20) ∧ p.2 65 6 = nI (l + 20) ∧ (bL y1 y2 y3 y4 y5 n j).foldl fd1 c 1 1 = nI (l + 20)) ∧ (∀ i, i < 600 → (bL y1 y2 y3 y4 y5 n j).foldl fd1 c 2 i = p.2 65 (10 + i) ∧ 0 ≤ p.2 65 (10 + i)) ∧ ∀ x, x ≠ 6 → (x < 10 ∨ 610 ≤ x) → p.2 65 x = t 65 x) := by
  intro n
  induction n with
  | zero =>
    intro j z c t ec e h hj hz
    unfold Rfeed_21
    rw [if_pos (show (20 : Int32) ≤ nI j from k_ge (m := 20) hj)]
    have e20 : t 65 6 = nI (l + 20) := by rw [e, show l + j = l + 20 by omega]
    have c20 : c 1 1 = nI (l + 20) := by rw [ec, show l + j = l + 20 by omega]
    exact ok_be (rd_nI (e := 6) rfl (by decide) (by decide)) (ok_s ⟨⟨e20, e20, c20⟩, h, fun _ _ _ => rfl⟩)
  | succ n ih =>
    intro j z c t ec e h hj hz
    obtain ⟨z, rfl⟩ : ∃ z', z = z' + 1 := ⟨z - 1, by omega⟩
    have e74 : ∀ v, v = wdv y1 y2 y3 y4 y5 j → ok (Rfeed_74 (Rfeed_R (z + 1)) t y1 y2 y3 y4 y5 (nI j) v) (fun p => (p.1 = nI (l + 20) ∧ p.2 65 6 = nI (l + 20) ∧ (bL y1 y2 y3 y4 y5 (n + 1) j).foldl fd1 c 1 1 = nI (l + 20)) ∧ (∀ i, i < 600 → (bL y1 y2 y3 y4 y5 (n + 1) j).foldl fd1 c 2 i = p.2 65 (10 + i) ∧ 0 ≤ p.2 65 (10 + i)) ∧ ∀ x, x ≠ 6 → (x < 10 ∨ 610 ≤ x) → p.2 65 x = t 65 x) := by
      intro v ev
      have b0 : 0 ≤ bF v j := and_nn _
      have eb : bF (wdv y1 y2 y3 y4 y5 j) j = bF v j := by rw [ev]
      unfold Rfeed_74
      show ok ((rdI t 65 5768 6).bind fun g1 => (wrI t 65 5768 (10 + g1) (bF v j)).bind fun s2 => (rdI s2 65 5768 6).bind fun g3 => (wrI s2 65 5768 6 (g3 + 1)).bind fun s4 => Rfeed_R (z + 1) s4 y1 y2 y3 y4 y5 (nI j + 1)) _
      generalize bF v j = b at b0 eb
      refine ok_be (rd_nI (e := 6) rfl (by decide) (by decide)) (ok_be (wr_nI (e := 10 + (l + j)) (by rw [e]; show nI 10 + nI (l + j) = _; rw [nI_add]) (by omega) (by decide)) ?_)
      refine ok_be (rd_nI (e := 6) rfl (by decide) (by decide)) (ok_be (wr_nI (e := 6) rfl (by decide) (by decide)) ?_)
      have e6 : up t 65 (10 + (l + j)) b 65 6 = nI (l + j) := by rw [up_bn (by omega)]; exact e
      rw [e6]
      show ok (Rfeed_21 (Rfeed_R z) (up (up t 65 (10 + (l + j)) b) 65 6 (nI (l + j) + 1)) y1 y2 y3 y4 y5 (nI j + 1)) _
      rw [← nI_succ, ← nI_succ]
      have ecb : fd1 c b = up (up c 2 (l + j) b) 1 1 (nI (l + j + 1)) := by
        unfold fd1
        rw [ec, pt_e (by omega) (by decide), ← nI_succ]
      have IH := ih (j + 1) z (fd1 c b) (up (up t 65 (10 + (l + j)) b) 65 6 (nI (l + j + 1))) (by rw [ecb, up_a]; rfl) (by rw [up_a]; rfl) (fun i hi => ?_) (by omega) (by omega)
      · refine ok_w IH (fun p hp => ?_)
        obtain ⟨q1, q2, q3⟩ := hp
        have eL : bL y1 y2 y3 y4 y5 (n + 1) j = b :: bL y1 y2 y3 y4 y5 n (j + 1) := by
          show bF (wdv y1 y2 y3 y4 y5 j) j :: _ = _
          rw [eb]
        rw [eL]
        exact ⟨q1, q2, fun x h6 hx => by rw [q3 x h6 hx, up_bn h6, up_bn (by omega)]⟩
      · rw [ecb, up_n (by decide), up_bn (show 10 + i ≠ 6 by omega)]
        by_cases g : i = l + j
        · subst g; rw [up_a, up_a]; exact ⟨rfl, b0⟩
        · rw [up_bn g, up_bn (by omega)]; exact h i hi
    have le : ∀ a, a ≤ 20 → (nI a ≤ nI j ↔ a ≤ j) := fun a ha => by
      rw [Int32.le_iff_toInt_le, nI_toInt (by omega), nI_toInt (by omega)]; omega
    unfold Rfeed_21
    rw [if_neg (show ¬ (20 : Int32) ≤ nI j from k_lt (m := 20) hj (by decide))]
    refine ok_i (fun c1 => ok_i (fun c2 => ok_i (fun c3 => ok_i (fun c4 => e74 _ ?_) (fun c4 => e74 _ ?_)) (fun c3 => e74 _ ?_)) (fun c2 => e74 _ ?_)) (fun c1 => e74 _ ?_)
    · unfold wdv; rw [if_pos ((le 4 (by omega)).1 c1), if_pos ((le 8 (by omega)).1 c2), if_pos ((le 12 (by omega)).1 c3), if_pos ((le 16 (by omega)).1 c4)]
    · unfold wdv; rw [if_pos ((le 4 (by omega)).1 c1), if_pos ((le 8 (by omega)).1 c2), if_pos ((le 12 (by omega)).1 c3), if_neg (fun g => c4 ((le 16 (by omega)).2 g))]
    · unfold wdv; rw [if_pos ((le 4 (by omega)).1 c1), if_pos ((le 8 (by omega)).1 c2), if_neg (fun g => c3 ((le 12 (by omega)).2 g))]
    · unfold wdv; rw [if_pos ((le 4 (by omega)).1 c1), if_neg (fun g => c2 ((le 8 (by omega)).2 g))]
    · unfold wdv; rw [if_neg (fun g => c1 ((le 4 (by omega)).2 g))]
theorem FD_sim {s : SG} {p : Int32 × SG} (tb : TB s 1) (r : RI s) (h0 : SIM1 s 1 0) (e : Rfeed (feeP s y1 y2 y3 y4 y5).2 y1 y2 y3 y4 y5 = some p) : (feeP s y1 y2 y3 y4 y5).1 = p.1 ∧ SIM1 p.2 1 0 := by
  have h := SIM_n.1 h0
  obtain ⟨l, el, hl⟩ := TB_l tb
  have l65 : s 65 6 = nI l := by rw [← h.1.1]; exact el
  have r1 : RI (feeP s y1 y2 y3 y4 y5).2 := RI_65 (feeP_n (by omega)) r
  have c65 : (feeP s y1 y2 y3 y4 y5).2 65 = s 65 := feeP_n (by omega)
  obtain ⟨b, eb, _, qa⟩ := feed_ok (x := y1) (y := y2) (z := y3) (u := y4) (v := y5) r1
  rw [e] at eb; cases eb
  by_cases c : l + 20 ≤ 600
  · have ef : (feeP s y1 y2 y3 y4 y5).2 = (bL y1 y2 y3 y4 y5 20 0).foldl fd1 s := by
      unfold feeP
      rw [el, if_pos ((le600 hl).2 c), bL_20]; rfl
    have e1 : (feeP s y1 y2 y3 y4 y5).1 = (feeP s y1 y2 y3 y4 y5).2 1 1 := by
      unfold feeP
      rw [el, if_pos ((le600 hl).2 c)]
    have er : Rfeed (feeP s y1 y2 y3 y4 y5).2 y1 y2 y3 y4 y5 = Rfeed_21 (Rfeed_R xF) (feeP s y1 y2 y3 y4 y5).2 y1 y2 y3 y4 y5 (nI 0) := by
      unfold Rfeed
      rw [rd_nI (x := 6) (e := 6) rfl (by decide) (by decide), c65, l65]
      show (if nI l + 20 ≤ 600 then _ else _) = _
      rw [if_pos ((le600 hl).2 c)]; rfl
    obtain ⟨p', ep', ⟨a1, a2, a3⟩, a4, a5⟩ := feed_b (y1 := y1) (y2 := y2) (y3 := y3) (y4 := y4) (y5 := y5) c 20 0 xF s (feeP s y1 y2 y3 y4 y5).2 el (by rw [c65]; exact l65) (fun i hi => by rw [c65]; exact h.2.1 i hi) rfl (by have := xF_ge; omega)
    rw [← er, e] at ep'; cases ep'
    rw [← ef] at a3 a4
    obtain ⟨g1, g2⟩ := fds_f (bL y1 y2 y3 y4 y5 20 0) s
    rw [← ef] at g1 g2
    refine ⟨by rw [e1, a3, a1], SIM_n.2 ⟨⟨?_, ?_, ?_⟩, fun j hj => ?_, fun k hk => ?_, fun k i n hk hi en hn hin => ?_⟩⟩
    · rw [qa.2.2 1 (by omega), a3, a2]
    · rw [qa.2.2 1 (by omega), g2 2 (by omega), a5 7 (by omega) (by omega), c65]; exact h.1.2.1
    · rw [qa.2.2 1 (by omega), g2 3 (by omega), a5 8 (by omega) (by omega), c65]; exact h.1.2.2
    · rw [qa.2.2 2 (by omega)]; exact a4 j hj
    · rw [qa.2.2 3 (by omega), g1 3 (by omega) (by omega), a5 k (by omega) (by omega), c65]; exact h.2.2.1 k hk
    · rw [a5 k (by omega) (by omega), c65] at en
      have pl := PLK_in hk hi
      refine KEQ_g hk (fun e j hd => ?_) (fun j _ => by rw [a5 _ (by omega) (by omega), c65]) (h.2.2.2 k i n hk hi en hn hin)
      have c41 := tD_c (CPK_tD hk hi hd)
      have c5 : 5 ≤ CPK k i := by
        cases k with
        | zero => unfold CPK; (try dsimp only); omega
        | succ k => unfold CPK; (try dsimp only); omega
      show p.2 (1 + (CPK k i + e)) j = s (1 + (CPK k i + e)) j
      rw [qa.2.2 _ (by omega), g1 _ (by omega) (by omega)]
  · have n20 : ¬ nI l + 20 ≤ 600 := fun g => c ((le600 hl).1 g)
    have ef : feeP s y1 y2 y3 y4 y5 = (-1, s) := by
      unfold feeP
      rw [el, if_neg n20]
    rw [ef] at e ⊢
    have er : Rfeed s y1 y2 y3 y4 y5 = some (-1, s) := by
      unfold Rfeed
      rw [rd_nI (x := 6) (e := 6) rfl (by decide) (by decide), l65]
      show (if nI l + 20 ≤ 600 then _ else _) = _
      rw [if_neg n20]
    rw [er] at e; cases e
    exact ⟨rfl, h0⟩
theorem EN_sim {s : SG} {x1 : Int32} {p : Int32 × SG} (h0 : SIM1 s 1 0) (e : Rend (endP s x1).2 x1 = some p) : (endP s x1).1 = p.1 ∧ SIM1 p.2 1 0 := by
  have h := SIM_n.1 h0
  have h1 : s 1 1 = s 65 6 := h.1.1
  have e65 : (endP s x1).2 65 = s 65 := endP_n (by omega)
  have rd : rdI (endP s x1).2 65 5768 6 = some (s 65 6) := by rw [rd_nI (x := 6) (e := 6) rfl (by decide) (by decide), e65]
  have wr : wrI (endP s x1).2 65 5768 6 x1 = some (up (endP s x1).2 65 6 x1) := wr_nI (e := 6) rfl (by decide) (by decide)
  unfold Rend at e
  rw [rd, wr] at e
  unfold endP at e ⊢
  by_cases c1 : x1 < 0
  · simp only [if_pos c1] at e ⊢
    cases e
    exact ⟨rfl, h0⟩
  · by_cases c2 : x1 ≤ s 65 6
    · simp only [if_neg c1, h1, if_pos c2, Option.bind_some] at e ⊢
      cases e
      refine ⟨rfl, SIM_n.2 (SIM_fr h (fun c g1 g2 => ?_) ⟨?_, ?_, ?_⟩ (fun j a b c => ?_))⟩
      · show up (up s 1 1 x1) 65 6 x1 c = s c
        rw [up_n (by omega), up_n (by omega)]
      · show up (up s 1 1 x1) 65 6 x1 1 1 = up (up s 1 1 x1) 65 6 x1 65 6
        rw [up_a, up_n (by decide), up_a]
      · show up (up s 1 1 x1) 65 6 x1 1 2 = up (up s 1 1 x1) 65 6 x1 65 7
        rw [up_n (by decide), up_bn (by decide), up_bn (by decide), up_n (by decide)]; exact h.1.2.1
      · show up (up s 1 1 x1) 65 6 x1 1 3 = up (up s 1 1 x1) 65 6 x1 65 8
        rw [up_n (by decide), up_bn (by decide), up_bn (by decide), up_n (by decide)]; exact h.1.2.2
      · show up (up s 1 1 x1) 65 6 x1 65 j = s 65 j
        rw [up_bn a, up_n (by decide)]
    · simp only [if_neg c1, h1, if_neg c2, Option.bind_some] at e ⊢
      cases e
      exact ⟨rfl, h0⟩
end FD
theorem SIM1_gd : PGd SIM1 := ⟨SIM_loc, fun s x1 x2 x3 x4 x5 p tb r h e => (FD_sim tb r h e).2, fun s x1 p _ _ h e => (EN_sim h e).2, fun s x1 x2 p tb r h e => (TX_sim tb r h e).2⟩
end XTW
