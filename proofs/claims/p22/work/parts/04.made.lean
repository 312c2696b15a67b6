section WM
variable {p : Program} {l : Launch} {e : Env} {R : Room} {s : State} {m : MethodId} {args : Array Value} {below : List Frame} {meth : Method} {c : Code} {Q : State → Prop} {G : EG} {own : String} {cc : ByteArray} {nL n0 s0 rc rs pc : Nat} {ls : List (Option EV)} {st : List EV} {w : EW}
theorem wc_pushP {cx : EC} {H H1 : Heap} (hP : va_P (gD G) vwCl (wc_l G w) H) (hsz : H.size = gZ G + w.length) (o1 : ∀ q, q < H.size → H1[q]? = H[q]?) (hx : va_at (gD G) vwCl (gZ G + w.length, wc_c G cx) H1) : va_P (gD G) vwCl (wc_l G (w ++ [cx])) H1 := by
  rw [← wc_l_push]
  refine (hP.kept (fun k q hk => o1 q.1 (hP k q hk).lt)).app (fun k q hk => ?_)
  have hz : k < 1 := (List.getElem?_eq_some_iff.mp hk).1
  rw [show k = 0 by omega] at hk
  cases hk
  exact hx
theorem wc_pushS {H H1 : Heap} {locs : List Loc} (hS : va_S (wc_A G) s.heap H locs) (z1 : H1.size = H.size + 1) (o1 : ∀ q, q < H.size → H1[q]? = H[q]?) : va_S (wc_A G) s.heap H1 locs :=
  ⟨Nat.le_trans hS.1 (by omega), fun x h1 h2 => (o1 x (Nat.lt_of_lt_of_le h1 hS.1)).trans (hS.2.1 x h1 h2), hS.2.2⟩
def wk_N (own : String) (idx ci : Nat) (fs : List EV) : Prop := ∃ (C : String) (T : u_T) (N : Nat) (ty : Nat → FieldType), vwCl[ci]? = some (C, T, N) ∧ Cond.classLink own idx C ∈ wc_B ∧ Cond.instantiable C N ∈ wc_B ∧ Cond.initialized C ∈ wc_B ∧ (∀ w ∈ u_ws C T N, w ∈ wc_B) ∧ (∀ k, k < N → parseFieldDescriptor (T k).2.2.1 = some (ty k)) ∧ fs.length = N ∧ ∀ (G : EG) (j : Nat), j < N → defaultValue (ty j) = vp_V (fs.map (wc_v G)) j
theorem ww_new (K : wc_C p s m args meth c G own cc nL n0) {idx ci : Nat} {fs : List EV} (hd : decode cc pc = .ok (.new idx, 3)) (hN : wk_N own idx ci fs) (kk : WW p l e R s m args below meth c Q G nL n0 s0 rc rs (pc + 3) (ls) (eR w.length :: st) (w ++ [cO ci fs])) : WW p l e R s m args below meth c Q G nL n0 s0 (rc + 1) (rs + fs.length) (pc) (ls) (st) (w) := by
  intro H locs arr h1 h2 h3 h4 hP hS hL
  intro T hT X
  obtain ⟨C, TT, N, ty, f1, f2, f3, f4, f5, f6, f7, f8⟩ := hN
  have hsz := wc_size K h1 hP hS hT X
  have hKn := K.2.2.2.2.2.1.1.1 ci _ f1
  subst f7
  refine W.newcK (g := F0 m pc arr (st.map (wc_v G))) (Q := Q) K.1 K.2.1 K.2.2.2.1 (K.2.2.2.2.1 _ f2) (K.2.2.2.2.1 _ f3) (K.2.2.2.2.1 _ f4) rfl hd (by omega) (by omega) hKn.2.1 hsz (fun H1 kC hkC e1 z1 o1 => ?_) T hT X
  have hx : va_at (gD G) vwCl (gZ G + w.length, wc_c G (cO ci fs)) H1 := ⟨_, f1, (u_born ty K.2.2.2.2.1 f5 hKn hkC e1 f6).to (f8 G)⟩
  have h9 := kk H1 locs arr (by rw [List.length_append]; omega) (by rw [wc_SL_push]; omega) (by rw [List.length_append]; show w.length + 1 + rc = _; omega) (by rw [wc_SL_push]; show wc_SL w + fs.length + rs = _; omega) (wc_pushP hP hsz (fun q hq => o1 q (by omega)) hx) (wc_pushS hS (by omega) (fun q hq => o1 q (by omega))) hL
  have c1 : (w ++ [cO ci fs]).length - n0 = w.length - n0 + 1 := by rw [List.length_append]; show w.length + 1 - n0 = _; omega
  have c2 : wc_SL (w ++ [cO ci fs]) - s0 = wc_SL w - s0 + fs.length := by rw [wc_SL_push]; show wc_SL w + fs.length - s0 = _; omega
  rw [c1, c2] at h9
  exact h9
theorem ww_newI (K : wc_C p s m args meth c G own cc nL n0) {n : Int32} {N : Nat} (hd : decode cc pc = .ok (.newarray .int, 2)) (hw : Cond.arrayClass .int ∈ wc_B) (hn : ¬ n < 0) (hN : n.toNatClampNeg = N) (hb : N ≤ 100000) (kk : WW p l e R s m args below meth c Q G nL n0 s0 rc rs (pc + 2) (ls) (eR w.length :: st) (w ++ [cI 0 N (fun _ => 0)])) : WW p l e R s m args below meth c Q G nL n0 s0 (rc + 1) (rs + N) (pc) (ls) (eI n :: st) (w) := by
  intro H locs arr h1 h2 h3 h4 hP hS hL
  intro T hT X
  have hsz := wc_size K h1 hP hS hT X
  refine va_newaK (atype := .int) (g := F0 m pc arr ((eI n :: st).map (wc_v G))) (Q := Q) K.1 K.2.1 (K.2.2.2.2.1 _ hw) rfl hd rfl hn hN (by show N * _ ≤ _; simp only [newarray.typeOf, componentBytes]; omega) (by omega) (by omega) hsz (fun H1 cA e1 z1 o1 hAr hNm => ?_) T hT X
  have hcA : cA = gY G 0 := by
    have h8 : s.vm.findClass ("[" ++ (newarray.typeOf .int).toString) = some (gY G 0) := (K.2.2.2.2.2.1.1.2 0 _ rfl).2
    exact Option.some.inj (hNm.symm.trans h8)
  subst hcA
  have hx : va_at (gD G) vwCl (gZ G + w.length, wc_c G (cI 0 N (fun _ => 0))) H1 := by
    show H1[gZ G + w.length]? = some (vp_cell _ _)
    rw [e1, vp_cell_i]
    rfl
  have h9 := kk H1 locs arr (by rw [List.length_append]; omega) (by rw [wc_SL_push]; omega) (by rw [List.length_append]; show w.length + 1 + rc = _; omega) (by rw [wc_SL_push]; show wc_SL w + N + rs = _; omega) (wc_pushP hP hsz (fun q hq => o1 q (by omega)) hx) (wc_pushS hS (by omega) (fun q hq => o1 q (by omega))) hL
  have c1 : (w ++ [cI 0 N (fun _ => 0)]).length - n0 = w.length - n0 + 1 := by rw [List.length_append]; show w.length + 1 - n0 = _; omega
  have c2 : wc_SL (w ++ [cI 0 N (fun _ => 0)]) - s0 = wc_SL w - s0 + N := by rw [wc_SL_push]; show wc_SL w + N - s0 = _; omega
  rw [c1, c2] at h9
  exact h9
theorem ww_newZ (K : wc_C p s m args meth c G own cc nL n0) {n : Int32} {N : Nat} (hd : decode cc pc = .ok (.newarray .boolean, 2)) (hw : Cond.arrayClass .boolean ∈ wc_B) (hn : ¬ n < 0) (hN : n.toNatClampNeg = N) (hb : N ≤ 100000) (kk : WW p l e R s m args below meth c Q G nL n0 s0 rc rs (pc + 2) (ls) (eR w.length :: st) (w ++ [cI 1 N (fun _ => 0)])) : WW p l e R s m args below meth c Q G nL n0 s0 (rc + 1) (rs + N) (pc) (ls) (eI n :: st) (w) := by
  intro H locs arr h1 h2 h3 h4 hP hS hL
  intro T hT X
  have hsz := wc_size K h1 hP hS hT X
  refine va_newaK (atype := .boolean) (g := F0 m pc arr ((eI n :: st).map (wc_v G))) (Q := Q) K.1 K.2.1 (K.2.2.2.2.1 _ hw) rfl hd rfl hn hN (by show N * _ ≤ _; simp only [newarray.typeOf, componentBytes]; omega) (by omega) (by omega) hsz (fun H1 cA e1 z1 o1 hAr hNm => ?_) T hT X
  have hcA : cA = gY G 1 := by
    have h8 : s.vm.findClass ("[" ++ (newarray.typeOf .boolean).toString) = some (gY G 1) := (K.2.2.2.2.2.1.1.2 1 _ rfl).2
    exact Option.some.inj (hNm.symm.trans h8)
  subst hcA
  have hx : va_at (gD G) vwCl (gZ G + w.length, wc_c G (cI 1 N (fun _ => 0))) H1 := by
    show H1[gZ G + w.length]? = some (vp_cell _ _)
    rw [e1, vp_cell_i]
    rfl
  have h9 := kk H1 locs arr (by rw [List.length_append]; omega) (by rw [wc_SL_push]; omega) (by rw [List.length_append]; show w.length + 1 + rc = _; omega) (by rw [wc_SL_push]; show wc_SL w + N + rs = _; omega) (wc_pushP hP hsz (fun q hq => o1 q (by omega)) hx) (wc_pushS hS (by omega) (fun q hq => o1 q (by omega))) hL
  have c1 : (w ++ [cI 1 N (fun _ => 0)]).length - n0 = w.length - n0 + 1 := by rw [List.length_append]; show w.length + 1 - n0 = _; omega
  have c2 : wc_SL (w ++ [cI 1 N (fun _ => 0)]) - s0 = wc_SL w - s0 + N := by rw [wc_SL_push]; show wc_SL w + N - s0 = _; omega
  rw [c1, c2] at h9
  exact h9
theorem ww_newq2 (K : wc_C p s m args meth c G own cc nL n0) {idx : Nat} {n : Int32} {N : Nat} (hd : decode cc pc = .ok (.anewarray idx, 3)) (hw : Cond.classLink own idx RX2 ∈ wc_B) (hn : ¬ n < 0) (hN : n.toNatClampNeg = N) (hb : N ≤ 100000) (kk : WW p l e R s m args below meth c Q G nL n0 s0 rc rs (pc + 3) (ls) (eR w.length :: st) (w ++ [cQ 2 N (fun _ => none)])) : WW p l e R s m args below meth c Q G nL n0 s0 (rc + 1) (rs + N) (pc) (ls) (eI n :: st) (w) := by
  intro H locs arr h1 h2 h3 h4 hP hS hL
  intro T hT X
  subst hN
  have hsz := wc_size K h1 hP hS hT X
  refine W.anew (g := F0 m pc arr ((eI n :: st).map (wc_v G))) (Q := Q) K.1 K.2.1 K.2.2.2.1 (K.2.2.2.2.1 _ hw) (va_AO.use K.2.2.2.2.2.1.2.2.2.2.2.1) rfl hd rfl hn (by omega) (by omega) (by omega) (fun cA kA comp f1 f2 f3 f4 => ?_) T hT X
  have hcA : cA = gY G 2 := by
    have h8 : va_RA s (gY G 2) (.object RX2) := (K.2.2.2.2.2.1.1.2 2 _ rfl).2
    obtain ⟨kA', comp', g1, g2, g3, g4⟩ := h8
    exact Option.some.inj (f1.symm.trans g4)
  subst hcA
  generalize hH1 : H.push ({ cls := gY G 2, slots := Array.replicate n.toNatClampNeg .null, vm := .none } : Cell) = H1
  have z1 : H1.size = H.size + 1 := by rw [← hH1, Array.size_push]
  have e1 : H1[gZ G + w.length]? = some (arrV (gY G 2) n.toNatClampNeg (fun _ => .null)) := by rw [← hsz, ← hH1, Array.getElem?_push_size, ← arrV_new]
  have o1 : ∀ q : Nat, q < H.size → H1[q]? = H[q]? := fun q hq => by rw [← hH1, Array.getElem?_push, if_neg (Nat.ne_of_lt hq)]
  have hx : va_at (gD G) vwCl (gZ G + w.length, wc_c G (cQ 2 n.toNatClampNeg (fun _ => none))) H1 := by
    show H1[gZ G + w.length]? = some (vp_cell _ _)
    rw [e1, vp_cell_q]
    rfl
  have h9 := kk H1 locs arr (by rw [List.length_append]; omega) (by rw [wc_SL_push]; omega) (by rw [List.length_append]; show w.length + 1 + rc = _; omega) (by rw [wc_SL_push]; show wc_SL w + n.toNatClampNeg + rs = _; omega) (wc_pushP hP hsz o1 hx) (wc_pushS hS z1 o1) hL
  have c1 : (w ++ [cQ 2 n.toNatClampNeg (fun _ => none)]).length - n0 = w.length - n0 + 1 := by rw [List.length_append]; show w.length + 1 - n0 = _; omega
  have c2 : wc_SL (w ++ [cQ 2 n.toNatClampNeg (fun _ => none)]) - s0 = wc_SL w - s0 + n.toNatClampNeg := by rw [wc_SL_push]; show wc_SL w + n.toNatClampNeg - s0 = _; omega
  rw [c1, c2] at h9
  rw [hsz]
  exact h9
theorem ww_newq3 (K : wc_C p s m args meth c G own cc nL n0) {idx : Nat} {n : Int32} {N : Nat} (hd : decode cc pc = .ok (.anewarray idx, 3)) (hw : Cond.classLink own idx RX3 ∈ wc_B) (hn : ¬ n < 0) (hN : n.toNatClampNeg = N) (hb : N ≤ 100000) (kk : WW p l e R s m args below meth c Q G nL n0 s0 rc rs (pc + 3) (ls) (eR w.length :: st) (w ++ [cQ 3 N (fun _ => none)])) : WW p l e R s m args below meth c Q G nL n0 s0 (rc + 1) (rs + N) (pc) (ls) (eI n :: st) (w) := by
  intro H locs arr h1 h2 h3 h4 hP hS hL
  intro T hT X
  subst hN
  have hsz := wc_size K h1 hP hS hT X
  refine W.anew (g := F0 m pc arr ((eI n :: st).map (wc_v G))) (Q := Q) K.1 K.2.1 K.2.2.2.1 (K.2.2.2.2.1 _ hw) (va_AO.use K.2.2.2.2.2.1.2.2.2.2.2.2.1) rfl hd rfl hn (by omega) (by omega) (by omega) (fun cA kA comp f1 f2 f3 f4 => ?_) T hT X
  have hcA : cA = gY G 3 := by
    have h8 : va_RA s (gY G 3) (.object RX3) := (K.2.2.2.2.2.1.1.2 3 _ rfl).2
    obtain ⟨kA', comp', g1, g2, g3, g4⟩ := h8
    exact Option.some.inj (f1.symm.trans g4)
  subst hcA
  generalize hH1 : H.push ({ cls := gY G 3, slots := Array.replicate n.toNatClampNeg .null, vm := .none } : Cell) = H1
  have z1 : H1.size = H.size + 1 := by rw [← hH1, Array.size_push]
  have e1 : H1[gZ G + w.length]? = some (arrV (gY G 3) n.toNatClampNeg (fun _ => .null)) := by rw [← hsz, ← hH1, Array.getElem?_push_size, ← arrV_new]
  have o1 : ∀ q : Nat, q < H.size → H1[q]? = H[q]? := fun q hq => by rw [← hH1, Array.getElem?_push, if_neg (Nat.ne_of_lt hq)]
  have hx : va_at (gD G) vwCl (gZ G + w.length, wc_c G (cQ 3 n.toNatClampNeg (fun _ => none))) H1 := by
    show H1[gZ G + w.length]? = some (vp_cell _ _)
    rw [e1, vp_cell_q]
    rfl
  have h9 := kk H1 locs arr (by rw [List.length_append]; omega) (by rw [wc_SL_push]; omega) (by rw [List.length_append]; show w.length + 1 + rc = _; omega) (by rw [wc_SL_push]; show wc_SL w + n.toNatClampNeg + rs = _; omega) (wc_pushP hP hsz o1 hx) (wc_pushS hS z1 o1) hL
  have c1 : (w ++ [cQ 3 n.toNatClampNeg (fun _ => none)]).length - n0 = w.length - n0 + 1 := by rw [List.length_append]; show w.length + 1 - n0 = _; omega
  have c2 : wc_SL (w ++ [cQ 3 n.toNatClampNeg (fun _ => none)]) - s0 = wc_SL w - s0 + n.toNatClampNeg := by rw [wc_SL_push]; show wc_SL w + n.toNatClampNeg - s0 = _; omega
  rw [c1, c2] at h9
  rw [hsz]
  exact h9
theorem ww_newq4 (K : wc_C p s m args meth c G own cc nL n0) {idx : Nat} {n : Int32} {N : Nat} (hd : decode cc pc = .ok (.anewarray idx, 3)) (hw : Cond.classLink own idx RX5 ∈ wc_B) (hn : ¬ n < 0) (hN : n.toNatClampNeg = N) (hb : N ≤ 100000) (kk : WW p l e R s m args below meth c Q G nL n0 s0 rc rs (pc + 3) (ls) (eR w.length :: st) (w ++ [cQ 4 N (fun _ => none)])) : WW p l e R s m args below meth c Q G nL n0 s0 (rc + 1) (rs + N) (pc) (ls) (eI n :: st) (w) := by
  intro H locs arr h1 h2 h3 h4 hP hS hL
  intro T hT X
  subst hN
  have hsz := wc_size K h1 hP hS hT X
  refine W.anew (g := F0 m pc arr ((eI n :: st).map (wc_v G))) (Q := Q) K.1 K.2.1 K.2.2.2.1 (K.2.2.2.2.1 _ hw) (va_AO.use K.2.2.2.2.2.1.2.2.2.2.2.2.2.1) rfl hd rfl hn (by omega) (by omega) (by omega) (fun cA kA comp f1 f2 f3 f4 => ?_) T hT X
  have hcA : cA = gY G 4 := by
    have h8 : va_RA s (gY G 4) (.object RX5) := (K.2.2.2.2.2.1.1.2 4 _ rfl).2
    obtain ⟨kA', comp', g1, g2, g3, g4⟩ := h8
    exact Option.some.inj (f1.symm.trans g4)
  subst hcA
  generalize hH1 : H.push ({ cls := gY G 4, slots := Array.replicate n.toNatClampNeg .null, vm := .none } : Cell) = H1
  have z1 : H1.size = H.size + 1 := by rw [← hH1, Array.size_push]
  have e1 : H1[gZ G + w.length]? = some (arrV (gY G 4) n.toNatClampNeg (fun _ => .null)) := by rw [← hsz, ← hH1, Array.getElem?_push_size, ← arrV_new]
  have o1 : ∀ q : Nat, q < H.size → H1[q]? = H[q]? := fun q hq => by rw [← hH1, Array.getElem?_push, if_neg (Nat.ne_of_lt hq)]
  have hx : va_at (gD G) vwCl (gZ G + w.length, wc_c G (cQ 4 n.toNatClampNeg (fun _ => none))) H1 := by
    show H1[gZ G + w.length]? = some (vp_cell _ _)
    rw [e1, vp_cell_q]
    rfl
  have h9 := kk H1 locs arr (by rw [List.length_append]; omega) (by rw [wc_SL_push]; omega) (by rw [List.length_append]; show w.length + 1 + rc = _; omega) (by rw [wc_SL_push]; show wc_SL w + n.toNatClampNeg + rs = _; omega) (wc_pushP hP hsz o1 hx) (wc_pushS hS z1 o1) hL
  have c1 : (w ++ [cQ 4 n.toNatClampNeg (fun _ => none)]).length - n0 = w.length - n0 + 1 := by rw [List.length_append]; show w.length + 1 - n0 = _; omega
  have c2 : wc_SL (w ++ [cQ 4 n.toNatClampNeg (fun _ => none)]) - s0 = wc_SL w - s0 + n.toNatClampNeg := by rw [wc_SL_push]; show wc_SL w + n.toNatClampNeg - s0 = _; omega
  rw [c1, c2] at h9
  rw [hsz]
  exact h9
theorem ww_objInit (K : wc_C p s m args meth c G own cc nL n0) {idx k : Nat} (hd : decode cc pc = .ok (.invokespecial idx, 3)) (hw : ∀ w ∈ [Cond.methodLink own idx objectInit, .instanceMethod objectInit, .code objectInit ⟨#[0xb1]⟩ 1 none], w ∈ wc_B) (hR : 1 ≤ R.frames ∧ wc_rest st + 12 ≤ R.locals) (kk : WW p l e R s m args below meth c Q G nL n0 s0 rc rs (pc + 3) (ls) (st) (w)) : WW p l e R s m args below meth c Q G nL n0 s0 rc rs (pc) (ls) (eR k :: st) (w) := fun H locs arr h1 h2 h3 h4 hP hS hL =>
  W.objInit K.1 K.2.1 K.2.2.2.1 (K.2.2.2.2.1 _ (hw _ (by simp))) (K.2.2.2.2.1 _ (hw _ (by simp))) (K.2.2.2.2.1 _ (hw _ (by simp))) rfl (hL.1.trans K.2.2.1.symm) rfl hd hR.1 (by show 2 * 0 + _ + 12 ≤ _; rw [wc_rest_ok]; omega) (kk H locs arr h1 h2 h3 h4 hP hS hL)
theorem ww_mmin (K : wc_C p s m args meth c G own cc nL n0) {idx : Nat} {x y : Int32} (hd : decode cc pc = .ok (.invokestatic idx, 3)) (hw : ∀ w ∈ [Cond.methodLink own idx Lib.Math.min.name, .static Lib.Math.min.name, .initialized "java/lang/Math", .code Lib.Math.min.name Lib.Math.min.code 2 (some .int)], w ∈ wc_B) (hR : 1 ≤ R.frames ∧ wc_rest st + 13 ≤ R.locals) (kk : WW p l e R s m args below meth c Q G nL n0 s0 rc rs (pc + 3) (ls) (eI (if y < x then y else x) :: st) (w)) : WW p l e R s m args below meth c Q G nL n0 s0 rc rs (pc) (ls) (eI y :: eI x :: st) (w) := fun H locs arr h1 h2 h3 h4 hP hS hL =>
  va_mmin K.1 K.2.1 (K.2.2.1.trans hL.1.symm) K.2.2.2.1 (K.2.2.2.2.1 _ (hw _ (by simp))) (K.2.2.2.2.1 _ (hw _ (by simp))) (K.2.2.2.2.1 _ (hw _ (by simp))) (K.2.2.2.2.1 _ (hw _ (by simp))) hR.1 (by rw [wc_rest_ok]; exact hR.2) (by omega) (by omega) hd (kk H locs arr h1 h2 h3 h4 hP hS hL)
theorem ww_mmax (K : wc_C p s m args meth c G own cc nL n0) {idx : Nat} {x y : Int32} (hd : decode cc pc = .ok (.invokestatic idx, 3)) (hw : ∀ w ∈ [Cond.methodLink own idx Lib.Math.max.name, .static Lib.Math.max.name, .initialized "java/lang/Math", .code Lib.Math.max.name Lib.Math.max.code 2 (some .int)], w ∈ wc_B) (hR : 1 ≤ R.frames ∧ wc_rest st + 13 ≤ R.locals) (kk : WW p l e R s m args below meth c Q G nL n0 s0 rc rs (pc + 3) (ls) (eI (if x < y then y else x) :: st) (w)) : WW p l e R s m args below meth c Q G nL n0 s0 rc rs (pc) (ls) (eI y :: eI x :: st) (w) := fun H locs arr h1 h2 h3 h4 hP hS hL =>
  va_mmax K.1 K.2.1 (K.2.2.1.trans hL.1.symm) K.2.2.2.1 (K.2.2.2.2.1 _ (hw _ (by simp))) (K.2.2.2.2.1 _ (hw _ (by simp))) (K.2.2.2.2.1 _ (hw _ (by simp))) (K.2.2.2.2.1 _ (hw _ (by simp))) hR.1 (by rw [wc_rest_ok]; exact hR.2) (by omega) (by omega) hd (kk H locs arr h1 h2 h3 h4 hP hS hL)
theorem ww_mabs (K : wc_C p s m args meth c G own cc nL n0) {idx : Nat} {x : Int32} (hd : decode cc pc = .ok (.invokestatic idx, 3)) (hw : ∀ w ∈ [Cond.methodLink own idx Lib.Math.abs.name, .static Lib.Math.abs.name, .initialized "java/lang/Math", .code Lib.Math.abs.name Lib.Math.abs.code 1 (some .int)], w ∈ wc_B) (hR : 1 ≤ R.frames ∧ wc_rest st + 13 ≤ R.locals) (kk : WW p l e R s m args below meth c Q G nL n0 s0 rc rs (pc + 3) (ls) (eI (if 0 ≤ x then x else 0 - x) :: st) (w)) : WW p l e R s m args below meth c Q G nL n0 s0 rc rs (pc) (ls) (eI x :: st) (w) := fun H locs arr h1 h2 h3 h4 hP hS hL =>
  va_mabs K.1 K.2.1 (K.2.2.1.trans hL.1.symm) K.2.2.2.1 (K.2.2.2.2.1 _ (hw _ (by simp))) (K.2.2.2.2.1 _ (hw _ (by simp))) (K.2.2.2.2.1 _ (hw _ (by simp))) (K.2.2.2.2.1 _ (hw _ (by simp))) hR.1 (by rw [wc_rest_ok]; exact hR.2) (by omega) (by omega) hd (kk H locs arr h1 h2 h3 h4 hP hS hL)
theorem ww_copy (K : wc_C p s m args meth c G own cc nL n0) {idx k0 k1 n0' n1 : Nat} {f g : Nat → Int32} {sp dp n : Int32} (hd : decode cc pc = .ok (.invokestatic idx, 3)) (hw : ∀ w ∈ [Cond.methodLink own idx arraycopyName, .native arraycopyName, .static arraycopyName, .initialized "java/lang/System"], w ∈ wc_B) (hk0 : w[k0]? = some (cI 0 n0' f)) (hk1 : w[k1]? = some (cI 0 n1 g)) (g1 : ¬ sp < 0) (g2 : ¬ dp < 0) (g3 : ¬ n < 0) (g4 : sp.toNatClampNeg + n.toNatClampNeg ≤ n0') (g5 : dp.toNatClampNeg + n.toNatClampNeg ≤ n1) (hR : 1 ≤ R.frames ∧ wc_rest st + (nativeFrameWords "java/lang/System" "arraycopy" 5 + 11) ≤ R.locals) (kk : WW p l e R s m args below meth c Q G nL n0 s0 rc rs (pc + 3) (ls) (st) (w.set k1 (cI 0 n1 (va_cpy f g sp.toNatClampNeg dp.toNatClampNeg n.toNatClampNeg)))) : WW p l e R s m args below meth c Q G nL n0 s0 rc rs (pc) (ls) (eI n :: eI dp :: eR k1 :: eI sp :: eR k0 :: st) (w) := fun H locs arr h1 h2 h3 h4 hP hS hL => by
  refine va_copyi K.1 K.2.1 (K.2.2.1.trans hL.1.symm) K.2.2.2.1 (K.2.2.2.2.1 _ (hw _ (by simp))) (K.2.2.2.2.1 _ (hw _ (by simp))) (K.2.2.2.2.1 _ (hw _ (by simp))) (K.2.2.2.2.1 _ (hw _ (by simp))) K.2.2.2.2.2.1.1 hP wc_D hS k0 k1 0 0 (wc_l_get hk0) (wc_l_get hk1) rfl rfl rfl g1 g2 g3 g4 g5 (fun _ _ => rfl) hR.1 (by rw [wc_rest_ok]; exact hR.2) hd (fun H1 locs1 hP1 _ hS1 => ?_)
  have hP2 : va_P (gD G) vwCl (wc_l G (w.set k1 (cI 0 n1 (va_cpy f g sp.toNatClampNeg dp.toNatClampNeg n.toNatClampNeg)))) H1 := by rw [← wc_l_set]; exact hP1
  have e2 := wc_SL_set (d := cI 0 n1 (va_cpy f g sp.toNatClampNeg dp.toNatClampNeg n.toNatClampNeg)) hk1 rfl
  have hk2 := kk H1 locs1 arr (by rw [List.length_set]; exact h1) (by rw [e2]; exact h2) (by rw [List.length_set]; exact h3) (by rw [e2]; exact h4) hP2 hS1 hL
  rw [List.length_set, e2] at hk2
  exact hk2
end WM
