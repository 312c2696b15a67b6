-- ===== end of PART A; then your names; then what follows =====
/-! THE CLAIM OUT OF ONE WALK OF THE LAW'S BODY. Your part is whole_start (and what it stands on); all else here is the same for every law, but numbers. -/
def R_law : String := "WindCabinetLaw"
def lw_P (b : Addr) (xs : List Int32) (args : Array Value) (s : State) : Prop := args = #[.ref b] ∧ s.IntsAt b xs ∧ xs.length ≤ 8 ∧ (Jvm.Cond.and given_1 narrow_1).before args s = true
def lw_Q (_ : Array Value) (s : State) (o : Outcome) (t : State) : Prop := o = .returned (some (.int 1)) ∧ Framed s o t [] 600000 7302249
def lw_Z (below : List Frame) (a : Array Value) (s : State) : State → Prop := fun t => ∃ o, t.status = .running ∧ Ended t below o ∧ lw_Q a s o t
/-- the law's own end, with 1 on the stack, nothing written that was there before, its room as the claim has it -/
theorem lw_ret {p : Program} {l : Launch} {e : Env} {s : State} {m : MethodId} {below : List Frame} {meth : Method} {c : Code} {b : Nat} (hx : p.tables.exec = Jvm.exec) (hb : c.code = code) (hr : meth.sig.returnType = ret) (hlocks : meth.locks = false) {pc : Nat} {H : Heap} {ls : Array Slot} (hdg : decode code pc = .ok (.ireturn, 1)) : W p l e room_1 s m #[Value.ref b] below meth c H [] 600000 7302249 (lw_Z below #[Value.ref b] s) (F0 m pc ls [.int 1]) := by
  intro T hT X
  obtain ⟨fs, hret, hrun, hended, hW, hframe⟩ := X.leave (v := some (.int 1)) (hlocks := hlocks) (fun h => by rw [hr] at h; cases h)
  have hmeth' : T.vm.method? m = some meth := X.method'
  refine ⟨T.setFrames fs, ?_, .returned (some (.int 1)), hrun, hended, rfl, ⟨_, rfl⟩, hW, hframe⟩
  jvm_step X.here [X.here.top, hx, hb, hdg, hmeth', hr, ret, narrow_b1]
  (try refine ⟨rfl, ?_⟩); (try refine ⟨rfl, ?_⟩)
  first | (intro acts; rw [hret _ acts rfl rfl rfl]) | rw [hret _ _ rfl rfl rfl]
  exact Steps.refl _
/-- what holds at the law's entry: the machine, the code, the tables' words (any of lw_tbl by 'hts w (by decide +kernel)'), the script of L ints xs at the cell b, what the Statement gives of the start (any of its parts by flat_of_before) -/
def lw_At (p : Program) (s : State) (m : MethodId) (meth : Method) (c : Code) (b L : Nat) (xs : Nat → Int32) : Prop :=
  p.tables.exec = Jvm.exec ∧ c.code = code ∧ meth.sig.returnType = ret ∧ c.maxLocals = 4 ∧ s.vm.findClass R_law = some m.cls ∧ (∀ w ∈ lw_tbl, w.before #[Value.ref b] s = true) ∧ va_X b L xs s s.heap ∧ b < s.heap.size ∧ meth.locks = false ∧ (Jvm.Cond.and given_1 narrow_1).before #[Value.ref b] s = true

theorem wc_Sl {ws : List Cond} (ps : List (Nat × Nat)) (hp : ws = ps.filterMap (fun i => (wc_seg i.1)[i.2]?)) : ∀ w ∈ ws, w ∈ lw_tbl := by
  intro w hw
  rw [hp] at hw
  obtain ⟨i, -, hi⟩ := List.mem_filterMap.mp hw
  exact wc_seg_in i.1 _ (List.mem_of_getElem? hi)
theorem wc_nests_in : ∀ q ∈ wc_nests, q ∈ lw_tbl := wc_Sl [(1, 36), (1, 105), (1, 147), (1, 152), (1, 154), (1, 198), (1, 204), (2, 34), (2, 90), (2, 119), (3, 16), (3, 25), (3, 30), (3, 51), (3, 52), (3, 66), (3, 75), (3, 96), (3, 177), (3, 196), (3, 238), (4, 9), (4, 10), (4, 15), (4, 16), (4, 32), (4, 38), (4, 39), (4, 45), (4, 211)] (by decide +kernel)
theorem wc_flat {b : Nat} {s : State} (h : (Jvm.Cond.and given_1 narrow_1).before #[Value.ref b] s = true) : ∀ c ∈ flatC (Jvm.Cond.and given_1 narrow_1), c.before #[Value.ref b] s = true := flat_of_before _ h
def wc_rowM : Nat → Int32 := fun j => match j with
  | 0 => 6
  | 1 => 8
  | 2 => 40
  | 3 => 8
  | 4 => 8
  | 5 => 600
  | _ => 0
theorem wc_inM0 : Cond.arrayOf (Term.static "WindCabinet" "MOST_OF_A_TEXT" "[I") .int ∈ flatC (Jvm.Cond.and given_1 narrow_1) := by decide +kernel
theorem wc_inM1 : Cond.eq (.length (Term.static "WindCabinet" "MOST_OF_A_TEXT" "[I")) (.int 6) ∈ flatC (Jvm.Cond.and given_1 narrow_1) := by decide +kernel
theorem wc_inM2_0 : Cond.eq (.elem (Term.static "WindCabinet" "MOST_OF_A_TEXT" "[I") (.int 0)) (.int 6) ∈ flatC (Jvm.Cond.and given_1 narrow_1) := by decide +kernel
theorem wc_inM2_1 : Cond.eq (.elem (Term.static "WindCabinet" "MOST_OF_A_TEXT" "[I") (.int 1)) (.int 8) ∈ flatC (Jvm.Cond.and given_1 narrow_1) := by decide +kernel
theorem wc_inM2_2 : Cond.eq (.elem (Term.static "WindCabinet" "MOST_OF_A_TEXT" "[I") (.int 2)) (.int 40) ∈ flatC (Jvm.Cond.and given_1 narrow_1) := by decide +kernel
theorem wc_inM2_3 : Cond.eq (.elem (Term.static "WindCabinet" "MOST_OF_A_TEXT" "[I") (.int 3)) (.int 8) ∈ flatC (Jvm.Cond.and given_1 narrow_1) := by decide +kernel
theorem wc_inM2_4 : Cond.eq (.elem (Term.static "WindCabinet" "MOST_OF_A_TEXT" "[I") (.int 4)) (.int 8) ∈ flatC (Jvm.Cond.and given_1 narrow_1) := by decide +kernel
theorem wc_inM2_5 : Cond.eq (.elem (Term.static "WindCabinet" "MOST_OF_A_TEXT" "[I") (.int 5)) (.int 600) ∈ flatC (Jvm.Cond.and given_1 narrow_1) := by decide +kernel
theorem wc_constM {b : Nat} {s : State} {A : Nat → Prop} (h : (Jvm.Cond.and given_1 narrow_1).before #[Value.ref b] s = true) (hA : ∀ a : Nat, a < s.heap.size → ¬ A a) : ∃ t : Nat, (Term.static "WindCabinet" "MOST_OF_A_TEXT" "[I").eval #[Value.ref b] s none [] s = some (.ref t) ∧ va_T .int t 6 (fun j => .int (wc_rowM j)) A s s.heap := by
  have hs := wc_flat h
  refine va_Tof (by decide) (hs _ wc_inM0) (va_eqt (hs _ wc_inM1)) (fun j hj => ?_) hA
  rcases (by omega : j = 0 ∨ j = 1 ∨ j = 2 ∨ j = 3 ∨ j = 4 ∨ j = 5) with rfl | rfl | rfl | rfl | rfl | rfl
  · exact va_eqt (hs _ wc_inM2_0)
  · exact va_eqt (hs _ wc_inM2_1)
  · exact va_eqt (hs _ wc_inM2_2)
  · exact va_eqt (hs _ wc_inM2_3)
  · exact va_eqt (hs _ wc_inM2_4)
  · exact va_eqt (hs _ wc_inM2_5)
def wc_rowF : Nat → Int32 := fun j => match j with
  | 0 => 1
  | 1 => 1
  | 2 => 2
  | 3 => 6
  | 4 => 24
  | 5 => 120
  | 6 => 720
  | _ => 0
theorem wc_inF0 : Cond.arrayOf (Term.static "WindCabinet" "FACTORIALS" "[I") .int ∈ flatC (Jvm.Cond.and given_1 narrow_1) := by decide +kernel
theorem wc_inF1 : Cond.eq (.length (Term.static "WindCabinet" "FACTORIALS" "[I")) (.int 7) ∈ flatC (Jvm.Cond.and given_1 narrow_1) := by decide +kernel
theorem wc_inF2_0 : Cond.eq (.elem (Term.static "WindCabinet" "FACTORIALS" "[I") (.int 0)) (.int 1) ∈ flatC (Jvm.Cond.and given_1 narrow_1) := by decide +kernel
theorem wc_inF2_1 : Cond.eq (.elem (Term.static "WindCabinet" "FACTORIALS" "[I") (.int 1)) (.int 1) ∈ flatC (Jvm.Cond.and given_1 narrow_1) := by decide +kernel
theorem wc_inF2_2 : Cond.eq (.elem (Term.static "WindCabinet" "FACTORIALS" "[I") (.int 2)) (.int 2) ∈ flatC (Jvm.Cond.and given_1 narrow_1) := by decide +kernel
theorem wc_inF2_3 : Cond.eq (.elem (Term.static "WindCabinet" "FACTORIALS" "[I") (.int 3)) (.int 6) ∈ flatC (Jvm.Cond.and given_1 narrow_1) := by decide +kernel
theorem wc_inF2_4 : Cond.eq (.elem (Term.static "WindCabinet" "FACTORIALS" "[I") (.int 4)) (.int 24) ∈ flatC (Jvm.Cond.and given_1 narrow_1) := by decide +kernel
theorem wc_inF2_5 : Cond.eq (.elem (Term.static "WindCabinet" "FACTORIALS" "[I") (.int 5)) (.int 120) ∈ flatC (Jvm.Cond.and given_1 narrow_1) := by decide +kernel
theorem wc_inF2_6 : Cond.eq (.elem (Term.static "WindCabinet" "FACTORIALS" "[I") (.int 6)) (.int 720) ∈ flatC (Jvm.Cond.and given_1 narrow_1) := by decide +kernel
theorem wc_constF {b : Nat} {s : State} {A : Nat → Prop} (h : (Jvm.Cond.and given_1 narrow_1).before #[Value.ref b] s = true) (hA : ∀ a : Nat, a < s.heap.size → ¬ A a) : ∃ t : Nat, (Term.static "WindCabinet" "FACTORIALS" "[I").eval #[Value.ref b] s none [] s = some (.ref t) ∧ va_T .int t 7 (fun j => .int (wc_rowF j)) A s s.heap := by
  have hs := wc_flat h
  refine va_Tof (by decide) (hs _ wc_inF0) (va_eqt (hs _ wc_inF1)) (fun j hj => ?_) hA
  rcases (by omega : j = 0 ∨ j = 1 ∨ j = 2 ∨ j = 3 ∨ j = 4 ∨ j = 5 ∨ j = 6) with rfl | rfl | rfl | rfl | rfl | rfl | rfl
  · exact va_eqt (hs _ wc_inF2_0)
  · exact va_eqt (hs _ wc_inF2_1)
  · exact va_eqt (hs _ wc_inF2_2)
  · exact va_eqt (hs _ wc_inF2_3)
  · exact va_eqt (hs _ wc_inF2_4)
  · exact va_eqt (hs _ wc_inF2_5)
  · exact va_eqt (hs _ wc_inF2_6)
set_option maxHeartbeats 4000000 in
/-- at the law's entry: the environment, with the script as the third constant -/
theorem wc_env {b L : Nat} {xs : Nat → Int32} {s : State} (hts : ∀ w ∈ lw_tbl, w.before #[Value.ref b] s = true) (hX : va_X b L xs s s.heap) (hbl : b < s.heap.size) (hLs : L < 2147483648) (hgv : (Jvm.Cond.and given_1 narrow_1).before #[Value.ref b] s = true) : ∃ G : EG, gZ G = s.heap.size ∧ gA G 2 = b ∧ gL G 2 = L ∧ gF G 2 = xs ∧ wc_E G s := by
  obtain ⟨c0, iS0, hKn0⟩ := u_known (C := RX0) (T := TX0) (N := 13) (n := 13) hts (fun w h => wc_Bt w (wuX0 w h)) (hts (.instantiable RX0 13) (wc_seg_in 1 _ (List.mem_of_getElem? (i := 197) (by decide +kernel : (wc_seg 1)[197]? = some (Cond.instantiable RX0 13)))))
  obtain ⟨c1, iS1, hKn1⟩ := u_known (C := RX1) (T := TX1) (N := 12) (n := 12) hts (fun w h => wc_Bt w (wuX1 w h)) (hts (.instantiable RX1 12) (wc_seg_in 1 _ (List.mem_of_getElem? (i := 146) (by decide +kernel : (wc_seg 1)[146]? = some (Cond.instantiable RX1 12)))))
  obtain ⟨c2, iS2, hKn2⟩ := u_known (C := RX2) (T := TX2) (N := 14) (n := 14) hts (fun w h => wc_Bt w (wuX2 w h)) (hts (.instantiable RX2 14) (wc_seg_in 1 _ (List.mem_of_getElem? (i := 35) (by decide +kernel : (wc_seg 1)[35]? = some (Cond.instantiable RX2 14)))))
  obtain ⟨c3, iS3, hKn3⟩ := u_known (C := RX3) (T := TX3) (N := 2) (n := 2) hts (fun w h => wc_Bt w (wuX3 w h)) (hts (.instantiable RX3 2) (wc_seg_in 1 _ (List.mem_of_getElem? (i := 104) (by decide +kernel : (wc_seg 1)[104]? = some (Cond.instantiable RX3 2)))))
  obtain ⟨c4, iS4, hKn4⟩ := u_known (C := RX4) (T := TX4) (N := 3) (n := 3) hts (fun w h => wc_Bt w (wuX4 w h)) (hts (.instantiable RX4 3) (wc_seg_in 1 _ (List.mem_of_getElem? (i := 203) (by decide +kernel : (wc_seg 1)[203]? = some (Cond.instantiable RX4 3)))))
  obtain ⟨c5, iS5, hKn5⟩ := u_known (C := RX5) (T := TX5) (N := 7) (n := 7) hts (fun w h => wc_Bt w (wuX5 w h)) (hts (.instantiable RX5 7) (wc_seg_in 1 _ (List.mem_of_getElem? (i := 26) (by decide +kernel : (wc_seg 1)[26]? = some (Cond.instantiable RX5 7)))))
  obtain ⟨c6, iS6, hKn6⟩ := u_known (C := RX6) (T := TX6) (N := 8) (n := 8) hts (fun w h => wc_Bt w (wuX6 w h)) (hts (.instantiable RX6 8) (wc_seg_in 1 _ (List.mem_of_getElem? (i := 18) (by decide +kernel : (wc_seg 1)[18]? = some (Cond.instantiable RX6 8)))))
  obtain ⟨c7, iS7, hKn7⟩ := u_known (C := RX7) (T := TX7) (N := 35) (n := 35) hts (fun w h => wc_Bt w (wuX7 w h)) (hts (.instantiable RX7 35) (wc_seg_in 5 _ (List.mem_of_getElem? (i := 11) (by decide +kernel : (wc_seg 5)[11]? = some (Cond.instantiable RX7 35)))))
  obtain ⟨y0, k0, p0, g01, g02, g03⟩ := Cond.arrayClass_spec (hts (.arrayClass .int) (wc_seg_in 1 _ (List.mem_of_getElem? (i := 103) (by decide +kernel : (wc_seg 1)[103]? = some (Cond.arrayClass .int)))))
  obtain ⟨y1, k1, p1, g11, g12, g13⟩ := Cond.arrayClass_spec (hts (.arrayClass .boolean) (wc_seg_in 5 _ (List.mem_of_getElem? (i := 122) (by decide +kernel : (wc_seg 5)[122]? = some (Cond.arrayClass .boolean)))))
  have ao2 : va_AO RX2 s := va_AO.of (hts (.arrayOver (.object RX2)) (wc_seg_in 1 _ (List.mem_of_getElem? (i := 32) (by decide +kernel : (wc_seg 1)[32]? = some (Cond.arrayOver (.object RX2))))))
  have ao3 : va_AO RX3 s := va_AO.of (hts (.arrayOver (.object RX3)) (wc_seg_in 1 _ (List.mem_of_getElem? (i := 34) (by decide +kernel : (wc_seg 1)[34]? = some (Cond.arrayOver (.object RX3))))))
  have ao5 : va_AO RX5 s := va_AO.of (hts (.arrayOver (.object RX5)) (wc_seg_in 1 _ (List.mem_of_getElem? (i := 144) (by decide +kernel : (wc_seg 1)[144]? = some (Cond.arrayOver (.object RX5))))))
  obtain ⟨p2, y2, k2, g21, -, g22, g23, g24⟩ := Cond.arrayOver_spec ao2
  obtain ⟨p3, y3, k3, g31, -, g32, g33, g34⟩ := Cond.arrayOver_spec ao3
  obtain ⟨p5, y5, k5, g51, -, g52, g53, g54⟩ := Cond.arrayOver_spec ao5
  have hA : ∀ a : Nat, a < s.heap.size → ¬ (fun q : Nat => s.heap.size ≤ q) a := fun a h => Nat.not_le.mpr h
  obtain ⟨t0, e0, T0⟩ := wc_constM hgv hA
  obtain ⟨t1, e1, T1⟩ := wc_constF hgv hA
  have Z0 := va_Zof (hts (.laysStatic "WindCabinet" "MOST_OF_A_TEXT" "[I") (wc_seg_in 2 _ (List.mem_of_getElem? (i := 212) (by decide +kernel : (wc_seg 2)[212]? = some (Cond.laysStatic "WindCabinet" "MOST_OF_A_TEXT" "[I"))))) (hts (.initialized "WindCabinet") (wc_seg_in 1 _ (List.mem_of_getElem? (i := 1) (by decide +kernel : (wc_seg 1)[1]? = some (Cond.initialized "WindCabinet"))))) e0 hA
  have Z1 := va_Zof (hts (.laysStatic "WindCabinet" "FACTORIALS" "[I") (wc_seg_in 4 _ (List.mem_of_getElem? (i := 125) (by decide +kernel : (wc_seg 4)[125]? = some (Cond.laysStatic "WindCabinet" "FACTORIALS" "[I"))))) (hts (.initialized "WindCabinet") (wc_seg_in 1 _ (List.mem_of_getElem? (i := 1) (by decide +kernel : (wc_seg 1)[1]? = some (Cond.initialized "WindCabinet"))))) e1 hA
  refine ⟨((fun k => match k with
    | 1 => c1
    | 2 => c2
    | 3 => c3
    | 4 => c4
    | 5 => c5
    | 6 => c6
    | 7 => c7
    | _ => c0, fun k => match k with
    | 1 => iS1
    | 2 => iS2
    | 3 => iS3
    | 4 => iS4
    | 5 => iS5
    | 6 => iS6
    | 7 => iS7
    | _ => iS0), (fun k => match k with
    | 0 => y0
    | 1 => y1
    | 2 => y2
    | 3 => y3
    | _ => y5), s.heap.size, (fun k => match k with
    | 0 => t0
    | 1 => t1
    | _ => b), (fun k => match k with
    | 0 => 6
    | 1 => 7
    | _ => L), (fun k => match k with
    | 0 => wc_rowM
    | 1 => wc_rowF
    | _ => xs)), rfl, rfl, rfl, rfl, ⟨?_, ?_⟩, ?_, ?_, Z0, Z1, ao2, ao3, ao5⟩
  · intro k q hq
    match k, hq with
    | 0, hq => cases hq; exact hKn0
    | 1, hq => cases hq; exact hKn1
    | 2, hq => cases hq; exact hKn2
    | 3, hq => cases hq; exact hKn3
    | 4, hq => cases hq; exact hKn4
    | 5, hq => cases hq; exact hKn5
    | 6, hq => cases hq; exact hKn6
    | 7, hq => cases hq; exact hKn7
    | k + 8, hq => simp [vwCl] at hq
  · intro k q hq
    match k, hq with
    | 0, hq => cases hq; exact ⟨fun n z => ⟨(fun k h => by cases h), k0, g02, p0, g03⟩, g01⟩
    | 1, hq => cases hq; exact ⟨fun n z => ⟨(fun k h => by cases h), k1, g12, p1, g13⟩, g11⟩
    | 2, hq => cases hq; exact ⟨fun n z => ⟨(fun k h => by cases h), k2, g22, p2, g23⟩, k2, p2, g22, g23, g21, g24⟩
    | 3, hq => cases hq; exact ⟨fun n z => ⟨(fun k h => by cases h), k3, g32, p3, g33⟩, k3, p3, g32, g33, g31, g34⟩
    | 4, hq => cases hq; exact ⟨fun n z => ⟨(fun k h => by cases h), k5, g52, p5, g53⟩, k5, p5, g52, g53, g51, g54⟩
    | k + 5, hq => simp [wc_tys] at hq
  · intro q hq
    obtain ⟨a, j, x, h, rfl⟩ := wc_nests_form q hq
    exact va_Nw.of rfl (hts _ (wc_nests_in _ hq))
  · intro k hk
    match k, hk with
    | 0, _ => exact T0
    | 1, _ => exact T1
    | 2, _ =>
      obtain ⟨scr, h1, h2, h3, h4, h5⟩ := hX
      exact ⟨scr, h1, h2, h3, Nat.le_of_eq h4.symm, by rw [h4]; rfl, h5, Nat.not_le.mpr hbl⟩
