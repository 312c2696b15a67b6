section XRO
variable {sc : Nat × (Nat → Int32)} {d : Nat} {K : List KD} {r q t a B m : Nat} {w : EW}
/-! the reference: told things -/
theorem TF0 : TF R0 0 118 (fun j => 610 + 118 * j) := by
  intro f g u j hj h i w q c
  refine GF_RB0 (P := 610 + 118 * j) (S := 118) (by omega) h q (fun b hb n => ?_) (fun b hb n => ?_) (fun b hb n => ?_) (fun b hb n => ?_) (fun b hb n => ?_)
  · obtain rfl : b = j := by omega
    exact RR_of (f := u 67) (r := 0) (fun i hi => by rw [Nat.zero_add]; exact c i hi) i
  all_goals exact absurd n (by omega)
theorem TF1 : TF C8 1 41 (fun j => 846 + 41 * j) := by
  intro f g u j hj h i w q c
  refine GF_RB0 (P := 846 + 41 * j) (S := 41) (by omega) h q (fun b hb n => ?_) (fun b hb n => ?_) (fun b hb n => ?_) (fun b hb n => ?_) (fun b hb n => ?_)
  · exact absurd n (by omega)
  · obtain rfl : b = j := by omega
    have := c 0 (by omega)
    rw [show g (846 + 41 * b) = u 67 0 from this]; exact i
  all_goals exact absurd n (by omega)
theorem TF2 : TF Y0 2 201 (fun j => 928 + 201 * j) := by
  intro f g u j hj h i w q c
  refine GF_RB0 (P := 928 + 201 * j) (S := 201) (by omega) h q (fun b hb n => ?_) (fun b hb n => ?_) (fun b hb n => ?_) (fun b hb n => ?_) (fun b hb n => ?_)
  · exact absurd n (by omega)
  · exact absurd n (by omega)
  · obtain rfl : b = j := by omega
    refine RYd_of (f := u 67) (r := 0) (fun i hi => by rw [Nat.zero_add]; exact c i hi) ?_
    have y := i.2 w
    unfold RYd
    simp only [Nat.zero_add]
    exact ⟨i.1, y⟩
  all_goals exact absurd n (by omega)
theorem TF3 : TF C8 3 17 (fun j => 1330 + 17 * j) := by
  intro f g u j hj h i w q c
  refine GF_RB0 (P := 1330 + 17 * j) (S := 17) (by omega) h q (fun b hb n => ?_) (fun b hb n => ?_) (fun b hb n => ?_) (fun b hb n => ?_) (fun b hb n => ?_)
  · exact absurd n (by omega)
  · exact absurd n (by omega)
  · exact absurd n (by omega)
  · obtain rfl : b = j := by omega
    have := c 0 (by omega)
    rw [show g (1330 + 17 * b) = u 67 0 from this]; exact i
  · exact absurd n (by omega)
theorem TF4 : TF S0 4 33 (fun j => 1364 + 33 * j) := by
  intro f g u j hj h i w q c
  refine GF_RB0 (P := 1364 + 33 * j) (S := 33) (by omega) h q (fun b hb n => ?_) (fun b hb n => ?_) (fun b hb n => ?_) (fun b hb n => ?_) (fun b hb n => ?_)
  · exact absurd n (by omega)
  · exact absurd n (by omega)
  · exact absurd n (by omega)
  · exact absurd n (by omega)
  · obtain rfl : b = j := by omega
    refine RSu_of (f := u 67) (r := 0) (fun i hi => by rw [Nat.zero_add]; exact c i hi) ?_
    have y := i.2 w
    unfold RSu
    simp only [Nat.zero_add]
    exact ⟨i.1, y⟩
theorem TF5 : TF (fun _ => True) 5 6 (fun j => 1430 + 6 * j) := by
  intro f g u j hj h i w q c
  refine GF_RB0 (P := 1430 + 6 * j) (S := 6) (by omega) h q (fun b hb n => ?_) (fun b hb n => ?_) (fun b hb n => ?_) (fun b hb n => ?_) (fun b hb n => ?_)
  all_goals exact absurd n (by omega)
theorem k0 {u : SG} (h : ∀ i, i < 201 → u 67 i = 0) (i n : Nat) (hi : i < 201) : NB (u 67 i) n := ⟨0, h i hi, by omega⟩
theorem textk {y1 y2 : Int32} {k sz : Nat} {s t : SG} (hk : k < 6) (e1 : y1 = nI k) (e2 : t 64 2 = nI sz) (hs : sz ≤ 600) (ty : TY y2 k t) (r : RI t) (q : QA s t) : ok (Rtext_74 (Rtext_R xF).1 (Rtext_R xF).2 t y1 y2) (fun p => RI p.2 ∧ QA s p.2) := by
  have hk2 : k = 0 ∨ k = 1 ∨ k = 2 ∨ k = 3 ∨ k = 4 ∨ k = 5 := by omega
  rcases hk2 with rfl | rfl | rfl | rfl | rfl | rfl <;> subst e1
  · exact text74 TF0 ⟨rfl, by omega, by decide, by omega, fun j hj => ⟨place0, by dsimp only; omega, by dsimp only; omega⟩⟩ (fun _ _ => R0_SR) (fun _ p i => republicLine_ok p i) (fun _ _ _ => rfl) (fun u h _ => h rfl) e2 hs ty r q
  · exact text74 TF1 ⟨rfl, by omega, by decide, by omega, fun j hj => ⟨place1, by dsimp only; omega, by dsimp only; omega⟩⟩ (fun _ _ => C8_SR) (fun _ p i => orderLine_ok p i) (fun _ _ _ => rfl) (fun u _ h => k0 (h (by decide)) 0 8 (by omega)) e2 hs ty r q
  · refine text74 TF2 ⟨rfl, by omega, by decide, by omega, fun j hj => ⟨place2, by dsimp only; omega, by dsimp only; omega⟩⟩ (fun _ _ => Y0_SR) (fun _ p i => yearLine_ok p i) (fun _ _ _ => rfl) (fun u _ h => ?_) e2 hs ty r q
    have z := h (by decide)
    exact ⟨k0 z 0 40 (by omega), fun _ j hj => ⟨fun _ => k0 z _ 3 (by omega), fun _ => k0 z _ 2 (by omega)⟩⟩
  · exact text74 TF3 ⟨rfl, by omega, by decide, by omega, fun j hj => ⟨place3, by dsimp only; omega, by dsimp only; omega⟩⟩ (fun _ _ => C8_SR) (fun _ p i => leakLine_ok p i) (fun _ _ _ => rfl) (fun u _ h => k0 (h (by decide)) 0 8 (by omega)) e2 hs ty r q
  · refine text74 TF4 ⟨rfl, by omega, by decide, by omega, fun j hj => ⟨place4, by dsimp only; omega, by dsimp only; omega⟩⟩ (fun _ _ => S0_SR) (fun _ p i => summerLine_ok p i) (fun _ _ _ => rfl) (fun u _ h => ?_) e2 hs ty r q
    have z := h (by decide)
    exact ⟨k0 z 0 8 (by omega), fun _ j hj => ⟨k0 z _ 3 (by omega), k0 z _ 9 (by omega), k0 z _ 9 (by omega), k0 z _ 9 (by omega)⟩⟩
  · exact text74 TF5 ⟨rfl, by omega, by decide, by omega, fun j hj => ⟨place5, by dsimp only; omega, by dsimp only; omega⟩⟩ (fun _ _ _ _ => trivial) (fun _ p _ => ok_w (bargainLine_ok p) (fun _ h => ⟨h, trivial⟩)) (fun _ _ _ => rfl) (fun _ _ _ => trivial) e2 hs ty r q
theorem text_ok {s : SG} {x y : Int32} (r : RI s) : ok (Rtext s x y) (fun p => RI p.2 ∧ QA s p.2) := by
  unfold Rtext
  refine ok_be (rd_nI (e := 6) rfl (by omega) (by decide)) ?_
  obtain ⟨sz, es, hs⟩ := r.1.2.1
  rw [es]
  refine ok_be (wr_nI (e := 6) rfl (by omega) (by decide)) (ok_be (wr_nI (e := 7) rfl (by omega) (by decide)) (ok_be (wr_nI (e := 8) rfl (by omega) (by decide)) ?_))
  have q : QA s (up (up (up (up s 64 2 (nI sz)) 65 6 0) 65 7 0) 65 8 (-1)) := by
    refine QA_tr (QA_tr (QA_tr (QA_QI (QI_up QI_rfl (by omega) (by omega))) (QA_65 (by omega))) (QA_65 (by omega))) (QA_65 (by omega))
  have b : RB0 (up (up (up (up s 64 2 (nI sz)) 65 6 0) 65 7 0) 65 8 (-1) 65) := by
    refine RB0_of (f := s 65) (fun j hj => ?_) ⟨0, ?_, by omega⟩ r.1
    · rw [up_bn (by omega), up_bn (by omega), up_bn (by omega), up_n (by decide)]
    · rw [up_bn (by decide), up_bn (by decide), up_a]; rfl
  have e2 : up (up (up (up s 64 2 (nI sz)) 65 6 0) 65 7 0) 65 8 (-1) 64 2 = nI sz := by
    rw [up_n (by decide), up_n (by decide), up_n (by decide), up_a]
  generalize up (up (up (up s 64 2 (nI sz)) 65 6 0) 65 7 0) 65 8 (-1) = t at q b e2 ⊢
  have rt : RI t := QA_RI q b r
  refine ok_i (fun _ => ok_s ⟨rt, q⟩) (fun c => ?_)
  obtain ⟨k, ek, hk⟩ := inI_nI (b := 5) (by decide) c
  refine ok_i (fun ey => ?_) (fun ny => ?_)
  · refine ok_be (rd_nI ek (by omega) (by decide)) (ok_i (fun h => ?_) (fun _ => ok_s ⟨rt, q⟩))
    obtain ⟨n, en, hn⟩ := rt.1.1 k (by omega)
    refine textk (by omega) ek e2 hs (Or.inl ⟨ey, n, en, ?_⟩) rt q
    rw [en] at h
    have : n ≠ 2 := fun e => by subst e; exact absurd h (by decide)
    omega
  · refine ok_be (q_isOf ek (by omega)) (ok_i (fun _ => ok_s ⟨rt, q⟩) (fun h => ?_))
    exact textk (by omega) ek e2 hs (Or.inr ⟨ny, isOf_k rt (by omega) h⟩) rt q
end XRO
