/-! the law's entry -/
theorem law_start {p : Program} {l : Launch} {e : Env} {s : State} {m : MethodId} {below : List Frame} {meth : Method} {c : Code} {b : Nat} {G : EG} {sc : Nat × (Nat → Int32)} (K : wc_C p s m #[Value.ref b] meth c G RL cL_law 4 0) (hr : meth.sig.returnType = ret) (ga : gA G 2 = b) (hsc : xsc G sc) (hN : sc.1 ≤ 4096) : W p l e room_1 s m #[Value.ref b] below meth c s.heap [] 0 0 (lw_Z below #[Value.ref b] s) (entryFrame m ([Value.ref b] : List Value).toArray 4) := by
  obtain ⟨K2, s2, n1, n2, k⟩ := LAWB (l := l) hsc hN
  have hP0 : va_P (gD G) vwCl (wc_l G []) s.heap := fun k q h => by simp [wc_l] at h
  have hv : ([eK 2] : List EV).map (wc_v G) = [Value.ref b] := by show [wc_k G 2] = _; rw [wc_k_lt (by omega), ga]
  obtain ⟨R, eR⟩ : ∃ R : Room, R = { frames := 13, cells := K2.length, slots := kSL K2, locals := 522 } := ⟨_, rfl⟩
  have r1 : R.frames = 13 := by rw [eR]
  have r2 : R.cells = K2.length := by rw [eR]
  have r3 : R.slots = kSL K2 := by rw [eR]
  have r4 : R.locals = 522 := by rw [eR]
  have rt : RT p l e R s m #[Value.ref b] below meth c (lw_Z below #[Value.ref b] s) G cL_law 4 0 0 4 (some (.inl 1)) (wl K2 s2) := by
    refine ⟨fun pc ls x hx _ hd => ?_, fun pc ls x hx _ _ => ?_, fun pc ls x hx _ _ => ?_, fun pc ls hx _ _ => ?_⟩
    · cases hx
      exact lx_lawret K hr hd (by omega) (by omega)
    · cases hx
    · cases hx
    · cases hx
  have H := k K (fun h => nomatch h) ⟨by omega, by omega⟩ rt
  rw [lg_entry_eq]
  have h9 := H s.heap [] _ (Nat.zero_le _) (Nat.zero_le _) (by rw [r2]; rfl) (by rw [r3]; rfl) hP0 va_S.rf (wc_entry [eK 2] (Nat.le_of_ble_eq_true rfl))
  rw [hv] at h9
  exact lx_W h9 (by rw [r1]; decide) (by rw [r2]; show K2.length ≤ 722995; omega) (by rw [r3]; show kSL K2 ≤ 6933262; omega) (by rw [r4]; decide)
