section XRW
variable {sc : Nat × (Nat → Int32)} {d : Nat} {K : List KD} {r q t a B m : Nat} {w : EW}
/-! the law's body, its cells and slots -/
theorem fc_sl {s : Nat → Int32} {kd : KD} : wc_sl (fc s kd) = kS1 kd := by
  rcases kd with ⟨ci, fs⟩ | ⟨t, n⟩ | ⟨t, n, f⟩
  · show (fs.mapIdx _).length = fs.length
    exact List.length_mapIdx
  · rfl
  · rfl
theorem wl_SL {K : List KD} {s : SG} : wc_SL (wl K s) = kSL K := by
  unfold wc_SL kSL
  have e : (wl K s).map wc_sl = K.map kS1 := by
    apply List.ext_getElem?
    intro k
    rw [List.getElem?_map, List.getElem?_map]
    cases h : K[k]? with
    | none =>
      have : (wl K s)[k]? = none := by
        rw [List.getElem?_eq_none_iff, wl_len]
        exact List.getElem?_eq_none_iff.mp h
      rw [this]; rfl
    | some kd =>
      rw [wl_get h]
      exact congrArg some fc_sl
  rw [e]
theorem kSL_KZ : kSL KZ + kT * 3 ≤ 600000 := by decide +kernel
theorem INV_sl {P : SG → Nat → Nat → Prop} {K : List KD} {s : SG} (h : INVP P K s) : K.length ≤ 195 ∧ kSL K ≤ 600000 := by
  obtain ⟨f, _, _, _, ⟨a, b⟩, _⟩ := h
  have := kSL_KZ
  exact ⟨by omega, by omega⟩
end XRW
