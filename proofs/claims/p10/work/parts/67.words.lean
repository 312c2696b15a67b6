-- ===== end of PART A; then your names; then what follows =====
/-! THE CLAIM OUT OF ONE WALK OF THE LAW'S BODY. Your part is whole_start (and what it stands on); all else here is the same for every law, but numbers. -/
def R_law : String := "WindCabinetLaw"
def lw_P (b : Addr) (xs : List Int32) (args : Array Value) (s : State) : Prop := args = #[.ref b] ∧ s.IntsAt b xs ∧ xs.length ≤ 4096 ∧ (Jvm.Cond.and given_1 narrow_1).before args s = true
def lw_Q (_ : Array Value) (s : State) (o : Outcome) (t : State) : Prop := o = .returned (some (.int 1)) ∧ Framed s o t [] 722995 6933262
def lw_Z (below : List Frame) (a : Array Value) (s : State) : State → Prop := fun t => ∃ o, t.status = .running ∧ Ended t below o ∧ lw_Q a s o t
/-- the law's own end, with 1 on the stack, nothing written that was there before, its room as the claim has it -/
theorem lw_ret {p : Program} {l : Launch} {e : Env} {s : State} {m : MethodId} {below : List Frame} {meth : Method} {c : Code} {b : Nat} (hx : p.tables.exec = Jvm.exec) (hb : c.code = code) (hr : meth.sig.returnType = ret) (hlocks : meth.locks = false) {pc : Nat} {H : Heap} {ls : Array Slot} (hdg : decode code pc = .ok (.ireturn, 1)) : W p l e room_1 s m #[Value.ref b] below meth c H [] 722995 6933262 (lw_Z below #[Value.ref b] s) (F0 m pc ls [.int 1]) := by
  intro T hT X
  obtain ⟨fs, hret, hrun, hended, hW, hframe⟩ := X.leave (v := some (.int 1)) (hlocks := hlocks) (fun h => by rw [hr] at h; cases h)
  have hmeth' : T.vm.method? m = some meth := X.method'
  refine ⟨T.setFrames fs, ?_, .returned (some (.int 1)), hrun, hended, rfl, ⟨_, rfl⟩, hW, hframe⟩
  jvm_step X.here [X.here.top, hx, hb, hdg, hmeth', hr, ret, narrow_b1]
  (try refine ⟨rfl, ?_⟩); (try refine ⟨rfl, ?_⟩)
  first | (intro acts; rw [hret _ acts rfl rfl rfl]) | rw [hret _ _ rfl rfl rfl]
  exact Steps.refl _
/-- what holds at the law's entry: the machine, the code, the tables' words (any of lw_tbl by 'hts w (by decide +kernel)'), the script of L ints xs at the cell b, what the Statement gives of the start (any of its parts by flat_of_before) -/
def lw_At (p : Program) (s : State) (m : MethodId) (meth : Method) (c : Code) (b L : Nat) (xs : Nat → Int32) : Prop :=
  p.tables.exec = Jvm.exec ∧ c.code = code ∧ meth.sig.returnType = ret ∧ c.maxLocals = 4 ∧ s.vm.findClass R_law = some m.cls ∧ (∀ w ∈ lw_tbl, w.before #[Value.ref b] s = true) ∧ va_X b L xs s s.heap ∧ b < s.heap.size ∧ meth.locks = false ∧ (Jvm.Cond.and given_1 narrow_1).before #[Value.ref b] s = true

theorem wc_Sl {ws : List Cond} (ps : List (Nat × Nat)) (hp : ws = ps.filterMap (fun i => (wc_seg i.1)[i.2]?)) : ∀ w ∈ ws, w ∈ lw_tbl := by
  intro w hw
  rw [hp] at hw
  obtain ⟨i, -, hi⟩ := List.mem_filterMap.mp hw
  exact wc_seg_in i.1 _ (List.mem_of_getElem? hi)
theorem wc_nests_in : ∀ q ∈ wc_nests, q ∈ lw_tbl := wc_Sl [(1, 36), (1, 105), (1, 147), (1, 152), (1, 154), (1, 198), (1, 204), (2, 34), (2, 90), (2, 119), (3, 16), (3, 25), (3, 30), (3, 51), (3, 52), (3, 66), (3, 75), (3, 96), (3, 177), (3, 196), (3, 238), (4, 9), (4, 10), (4, 15), (4, 16), (4, 32), (4, 38), (4, 39), (4, 45), (4, 211)] (by decide +kernel)
theorem wc_flat {b : Nat} {s : State} (h : (Jvm.Cond.and given_1 narrow_1).before #[Value.ref b] s = true) : ∀ c ∈ flatC (Jvm.Cond.and given_1 narrow_1), c.before #[Value.ref b] s = true := flat_of_before _ h
def wc_rowM : Nat → Int32 := fun j => match j with
  | 0 => 6
  | 1 => 8
  | 2 => 40
  | 3 => 8
  | 4 => 8
  | 5 => 600
  | _ => 0
theorem wc_inM0 : Cond.arrayOf (Term.static "WindCabinet" "MOST_OF_A_TEXT" "[I") .int ∈ flatC (Jvm.Cond.and given_1 narrow_1) := by decide +kernel
theorem wc_inM1 : Cond.eq (.length (Term.static "WindCabinet" "MOST_OF_A_TEXT" "[I")) (.int 6) ∈ flatC (Jvm.Cond.and given_1 narrow_1) := by decide +kernel
theorem wc_inM2_0 : Cond.eq (.elem (Term.static "WindCabinet" "MOST_OF_A_TEXT" "[I") (.int 0)) (.int 6) ∈ flatC (Jvm.Cond.and given_1 narrow_1) := by decide +kernel
theorem wc_inM2_1 : Cond.eq (.elem (Term.static "WindCabinet" "MOST_OF_A_TEXT" "[I") (.int 1)) (.int 8) ∈ flatC (Jvm.Cond.and given_1 narrow_1) := by decide +kernel
theorem wc_inM2_2 : Cond.eq (.elem (Term.static "WindCabinet" "MOST_OF_A_TEXT" "[I") (.int 2)) (.int 40) ∈ flatC (Jvm.Cond.and given_1 narrow_1) := by decide +kernel
theorem wc_inM2_3 : Cond.eq (.elem (Term.static "WindCabinet" "MOST_OF_A_TEXT" "[I") (.int 3)) (.int 8) ∈ flatC (Jvm.Cond.and given_1 narrow_1) := by decide +kernel
theorem wc_inM2_4 : Cond.eq (.elem (Term.static "WindCabinet" "MOST_OF_A_TEXT" "[I") (.int 4)) (.int 8) ∈ flatC (Jvm.Cond.and given_1 narrow_1) := by decide +kernel
theorem wc_inM2_5 : Cond.eq (.elem (Term.static "WindCabinet" "MOST_OF_A_TEXT" "[I") (.int 5)) (.int 600) ∈ flatC (Jvm.Cond.and given_1 narrow_1) := by decide +kernel
theorem wc_constM {b : Nat} {s : State} {A : Nat → Prop} (h : (Jvm.Cond.and given_1 narrow_1).before #[Value.ref b] s = true) (hA : ∀ a : Nat, a < s.heap.size → ¬ A a) : ∃ t : Nat, (Term.static "WindCabinet" "MOST_OF_A_TEXT" "[I").eval #[Value.ref b] s none [] s = some (.ref t) ∧ va_T .int t 6 (fun j => .int (wc_rowM j)) A s s.heap := by
  have hs := wc_flat h
  refine va_Tof (by decide) (hs _ wc_inM0) (va_eqt (hs _ wc_inM1)) (fun j hj => ?_) hA
  rcases (by omega : j = 0 ∨ j = 1 ∨ j = 2 ∨ j = 3 ∨ j = 4 ∨ j = 5) with rfl | rfl | rfl | rfl | rfl | rfl
  · exact va_eqt (hs _ wc_inM2_0)
  · exact va_eqt (hs _ wc_inM2_1)
  · exact va_eqt (hs _ wc_inM2_2)
  · exact va_eqt (hs _ wc_inM2_3)
  · exact va_eqt (hs _ wc_inM2_4)
  · exact va_eqt (hs _ wc_inM2_5)
def wc_rowF : Nat → Int32 := fun j => match j with
  | 0 => 1
  | 1 => 1
  | 2 => 2
  | 3 => 6
  | 4 => 24
  | 5 => 120
  | 6 => 720
  | _ => 0
theorem wc_inF0 : Cond.arrayOf (Term.static "WindCabinet" "FACTORIALS" "[I") .int ∈ flatC (Jvm.Cond.and given_1 narrow_1) := by decide +kernel
theorem wc_inF1 : Cond.eq (.length (Term.static "WindCabinet" "FACTORIALS" "[I")) (.int 7) ∈ flatC (Jvm.Cond.and given_1 narrow_1) := by decide +kernel
theorem wc_inF2_0 : Cond.eq (.elem (Term.static "WindCabinet" "FACTORIALS" "[I") (.int 0)) (.int 1) ∈ flatC (Jvm.Cond.and given_1 narrow_1) := by decide +kernel
theorem wc_inF2_1 : Cond.eq (.elem (Term.static "WindCabinet" "FACTORIALS" "[I") (.int 1)) (.int 1) ∈ flatC (Jvm.Cond.and given_1 narrow_1) := by decide +kernel
theorem wc_inF2_2 : Cond.eq (.elem (Term.static "WindCabinet" "FACTORIALS" "[I") (.int 2)) (.int 2) ∈ flatC (Jvm.Cond.and given_1 narrow_1) := by decide +kernel
theorem wc_inF2_3 : Cond.eq (.elem (Term.static "WindCabinet" "FACTORIALS" "[I") (.int 3)) (.int 6) ∈ flatC (Jvm.Cond.and given_1 narrow_1) := by decide +kernel
theorem wc_inF2_4 : Cond.eq (.elem (Term.static "WindCabinet" "FACTORIALS" "[I") (.int 4)) (.int 24) ∈ flatC (Jvm.Cond.and given_1 narrow_1) := by decide +kernel
theorem wc_inF2_5 : Cond.eq (.elem (Term.static "WindCabinet" "FACTORIALS" "[I") (.int 5)) (.int 120) ∈ flatC (Jvm.Cond.and given_1 narrow_1) := by decide +kernel
theorem wc_inF2_6 : Cond.eq (.elem (Term.static "WindCabinet" "FACTORIALS" "[I") (.int 6)) (.int 720) ∈ flatC (Jvm.Cond.and given_1 narrow_1) := by decide +kernel
theorem wc_constF {b : Nat} {s : State} {A : Nat → Prop} (h : (Jvm.Cond.and given_1 narrow_1).before #[Value.ref b] s = true) (hA : ∀ a : Nat, a < s.heap.size → ¬ A a) : ∃ t : Nat, (Term.static "WindCabinet" "FACTORIALS" "[I").eval #[Value.ref b] s none [] s = some (.ref t) ∧ va_T .int t 7 (fun j => .int (wc_rowF j)) A s s.heap := by
  have hs := wc_flat h
  refine va_Tof (by decide) (hs _ wc_inF0) (va_eqt (hs _ wc_inF1)) (fun j hj => ?_) hA
  rcases (by omega : j = 0 ∨ j = 1 ∨ j = 2 ∨ j = 3 ∨ j = 4 ∨ j = 5 ∨ j = 6) with rfl | rfl | rfl | rfl | rfl | rfl | rfl
  · exact va_eqt (hs _ wc_inF2_0)
  · exact va_eqt (hs _ wc_inF2_1)
  · exact va_eqt (hs _ wc_inF2_2)
  · exact va_eqt (hs _ wc_inF2_3)
  · exact va_eqt (hs _ wc_inF2_4)
  · exact va_eqt (hs _ wc_inF2_5)
  · exact va_eqt (hs _ wc_inF2_6)
