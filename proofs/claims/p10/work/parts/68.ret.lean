/-! the law's return, in any room -/
theorem lx_ret {R : Room} {p : Program} {l : Launch} {e : Env} {s : State} {m : MethodId} {below : List Frame} {meth : Method} {c : Code} {b : Nat} (hx : p.tables.exec = Jvm.exec) (hb : c.code = code) (hr : meth.sig.returnType = ret) (hlocks : meth.locks = false) {pc : Nat} {H : Heap} {ls : Array Slot} (hdg : decode code pc = .ok (.ireturn, 1)) : W p l e R s m #[Value.ref b] below meth c H [] 722995 6933262 (lw_Z below #[Value.ref b] s) (F0 m pc ls [.int 1]) := by
  intro T hT X
  obtain ⟨fs, hret, hrun, hended, hW, hframe⟩ := X.leave (v := some (.int 1)) (hlocks := hlocks) (fun h => by rw [hr] at h; cases h)
  have hmeth' : T.vm.method? m = some meth := X.method'
  refine ⟨T.setFrames fs, ?_, .returned (some (.int 1)), hrun, hended, rfl, ⟨_, rfl⟩, hW, hframe⟩
  jvm_step X.here [X.here.top, hx, hb, hdg, hmeth', hr, ret, narrow_b1]
  (try refine ⟨rfl, ?_⟩); (try refine ⟨rfl, ?_⟩)
  first | (intro acts; rw [hret _ acts rfl rfl rfl]) | rw [hret _ _ rfl rfl rfl]
  exact Steps.refl _
theorem lx_lawret {R : Room} {p : Program} {l : Launch} {e : Env} {s : State} {m : MethodId} {below : List Frame} {meth : Method} {c : Code} {b : Nat} {G : EG} {rc rs pc : Nat} {ls : List (Option EV)} {w : EW} (K : wc_C p s m #[Value.ref b] meth c G RL cL_law 4 0) (hr : meth.sig.returnType = ret) (hd : decode cL_law pc = .ok (.ireturn, 1)) (hc : R.cells ≤ 722995) (hs : R.slots ≤ 6933262) : WW p l e R s m #[Value.ref b] below meth c (lw_Z below #[Value.ref b] s) G 4 0 0 rc rs pc ls [eI 1] w := by
  intro H locs arr h1 h2 h3 h4 hP hS hL
  have e3 : w.length + rc = R.cells := by have q : w.length + rc = 0 + R.cells := h3; omega
  have e4 : wc_SL w + rs = R.slots := by have q : wc_SL w + rs = 0 + R.slots := h4; omega
  have hz : gZ G = s.heap.size := by have q := K.2.2.2.2.2.2.1; omega
  refine va_forget (fun q hq => by have := hS.2.2 q hq; rw [← hz]; exact this) ?_
  refine W.widen (k := 722995) (n := 6933262) (by omega) (by omega) ?_
  exact lx_ret K.1 K.2.1 hr K.2.2.2.2.2.2.2 hd
