section XRV
variable {sc : Nat × (Nat → Int32)} {d : Nat} {K : List KD} {r q t a B m : Nat} {w : EW}
/-! a smaller room within a greater one; the law's body -/
theorem lx_room {s : State} {pl : Platform} {R R2 : Room} (h : s.hasRoom pl R = true) (h1 : R2.frames ≤ R.frames) (h2 : R2.cells ≤ R.cells) (h3 : R2.slots ≤ R.slots) (h4 : R2.locals ≤ R.locals) : s.hasRoom pl R2 = true := by
  unfold State.hasRoom at *
  simp only [Bool.and_eq_true, decide_eq_true_eq] at *
  obtain ⟨⟨⟨⟨a, b1, b2, b3, b4, b5⟩, c⟩, d⟩, e⟩ := h
  exact ⟨⟨⟨⟨by omega, by omega, by omega, by omega, by omega, b5⟩, by omega⟩, by omega⟩, e⟩
theorem lx_stand {p : Program} {l : Launch} {e : Env} {R R2 : Room} {s : State} {m : MethodId} {args : Array Value} {below : List Frame} {meth : Method} {c : Code} {T : State} {locs : List Loc} {cells slots : Nat} (X : Stand p l e R s m args below meth c T locs cells slots) (h1 : R2.frames ≤ R.frames) (h2 : R2.cells ≤ R.cells) (h3 : R2.slots ≤ R.slots) (h4 : R2.locals ≤ R.locals) : Stand p l e R2 s m args below meth c T locs cells slots :=
  ⟨X.admits, X.cas, X.clock, X.frames, lx_room X.room h1 h2 h3 h4, X.hears, X.method, X.code, X.here, X.tail, X.warmed, X.limits, X.bytes, X.same⟩
theorem lx_W {p : Program} {l : Launch} {e : Env} {R R2 : Room} {s : State} {m : MethodId} {args : Array Value} {below : List Frame} {meth : Method} {c : Code} {H : Heap} {locs : List Loc} {cells slots : Nat} {Z : State → Prop} {F : JFrame} (w : W p l e R2 s m args below meth c H locs cells slots Z F) (h1 : R2.frames ≤ R.frames) (h2 : R2.cells ≤ R.cells) (h3 : R2.slots ≤ R.slots) (h4 : R2.locals ≤ R.locals) : W p l e R s m args below meth c H locs cells slots Z F :=
  fun T hT X => w T hT (lx_stand X h1 h2 h3 h4)
theorem xM_body {G : EG} {l : Launch} {sc : Nat × (Nat → Int32)} (hsc : xsc G sc) {T : List (Nat × XM)} (hT : xall okT T) {F d y : Nat} {as : List EV} {w w2 : EW} {r : Option EV} (h : xM sc T F (d + 1) y as w = some (r, w2)) : ∃ o rt ini C, xk T y = some (o, rt, ini, C) ∧ PP G l o (yq y).2.1 (yq y).2.2.1 rt ini d r w2 0 (wc_in (yq y).2.2.1 as) [] w := by
  unfold xM at h
  split at h
  · rename_i o rt ini C e
    have hz := xb_some h
    clear h
    obtain ⟨h0, h⟩ := hz
    obtain ⟨g1, g2, g3, g4, g5⟩ := xk_in hT e
    have g5 : xdk (yq y).2.1 C = true := g5
    exact ⟨o, rt, ini, C, e, ex_sound (cc := (yq y).2.1) hsc (xM_sound hsc hT d) (xdk_ok g5) F 0 _ _ _ h⟩
  · cases h
end XRV
