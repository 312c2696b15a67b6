section XRU
variable {sc : Nat × (Nat → Int32)} {d : Nat} {K : List KD} {r q t a B m : Nat} {w : EW}
section XLW
variable {sc : Nat × (Nat → Int32)} {d : Nat}
theorem LAW (hN : sc.1 ≤ 4096) : ∃ K2 s2, INVP SIM1 K2 s2 ∧ xN sc (d + 12) 293 [.inr (.inr (.inr 2))] [] = some (some (.inl 1), wl K2 s2) := by
  obtain ⟨K2, s2, i2, e⟩ := LOOP (sc := sc) (d := d) hN 512 xF 0 KZ s00 (INVP_0 SIM1_0) (by omega) (by omega) (by have := xF_ge; omega)
  refine ⟨K2, s2, i2, ?_⟩
  have a6 := c_init6 (sc := sc) (d := d + 8) (w := [])
  have a7 := c_init7 (sc := sc) (d := d + 10) (w := [] ++ wl6 0)
  have hl : ([] ++ wl6 0 : EW).length = 64 := rfl
  rw [mL_law, uL_law_0, qL_law_0]
  refine Eq.trans (congrArg (fun r => xcv r _) a6) ?_
  rw [xcv_eq]
  refine Eq.trans (congrArg (fun r => xcv r _) a7) ?_
  rw [xcv_eq]
  rw [← e, ← wl_00]
  rfl
end XLW
end XRU
