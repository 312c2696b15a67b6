section XRX
variable {sc : Nat × (Nat → Int32)} {d : Nat} {K : List KD} {r q t a B m : Nat} {w : EW}
/-! the law's body on the machine -/
set_option maxRecDepth 100000 in theorem LAWB {G : EG} {l : Launch} {sc : Nat × (Nat → Int32)} (hsc : xsc G sc) (hN : sc.1 ≤ 4096) : ∃ K2 s2, K2.length ≤ 195 ∧ kSL K2 ≤ 600000 ∧ PX G l 8 cL_law 4 4 false 11 (some (.inl 1)) (wl K2 s2) K2.length (kSL K2) 0 (wc_in 4 [eK 2]) [] [] := by
  obtain ⟨K2, s2, i2, e⟩ := LAW (sc := sc) (d := 0) hN
  rw [xN_eq] at e
  obtain ⟨o, rt, ini, C, ek, rc, rs, h1, h2, k⟩ := xM_body (l := l) (d := 11) hsc oTT e
  have ek2 : xk TT 293 = some (8, 4, false, kL_law_0) := rfl
  rw [ek2] at ek
  cases ek
  have e1 : rc = K2.length := by rw [wl_len] at h1; simpa using h1.symm
  have e2 : rs = kSL K2 := by rw [wl_SL] at h2; have z : wc_SL [] = 0 := rfl; omega
  subst e1 e2
  exact ⟨K2, s2, (INV_sl i2).1, (INV_sl i2).2, k⟩
end XRX
