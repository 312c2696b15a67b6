/-! VALUES, CELLS, WORLDS BY NUMBER: what the law makes lies at the addresses from gZ on, one cell behind another; cell k of a world is the cell at gZ + k. Constants (static rows, the script) lie ahead of it. -/
abbrev EV : Type := Int32 ⊕ (Int64 ⊕ (Option Nat ⊕ Nat))
abbrev EC : Type := (Nat × List EV) ⊕ ((Nat × Nat × (Nat → Int32)) ⊕ (Nat × Nat × (Nat → Option Nat)))
abbrev EW : Type := List EC
abbrev EG : Type := va_G × (Nat → ClassId) × Nat × (Nat → Nat) × (Nat → Nat) × (Nat → Nat → Int32)
abbrev eI (x : Int32) : EV := .inl x
abbrev eJ (x : Int64) : EV := .inr (.inl x)
abbrev eO (o : Option Nat) : EV := .inr (.inr (.inl o))
abbrev eN : EV := .inr (.inr (.inl none))
abbrev eR (k : Nat) : EV := .inr (.inr (.inl (some k)))
abbrev eK (c : Nat) : EV := .inr (.inr (.inr c))
abbrev cO (ci : Nat) (fs : List EV) : EC := .inl (ci, fs)
abbrev cI (t n : Nat) (f : Nat → Int32) : EC := .inr (.inl (t, n, f))
abbrev cQ (t n : Nat) (f : Nat → Option Nat) : EC := .inr (.inr (t, n, f))
abbrev gD (G : EG) : va_G := G.1
abbrev gY (G : EG) (t : Nat) : ClassId := G.2.1 t
abbrev gZ (G : EG) : Nat := G.2.2.1
abbrev gA (G : EG) (k : Nat) : Nat := G.2.2.2.1 k
abbrev gL (G : EG) (k : Nat) : Nat := G.2.2.2.2.1 k
abbrev gF (G : EG) (k : Nat) : Nat → Int32 := G.2.2.2.2.2 k
def wc_tys (G : EG) : List (ClassId × FieldType) := [(gY G 0, .int), (gY G 1, .boolean), (gY G 2, .object RX2), (gY G 3, .object RX3), (gY G 4, .object RX5)]
def wc_k (G : EG) (k : Nat) : Value := bif Nat.beq k 100 && Nat.beq (gL G 100) 1 then .null else .ref (gA G k)
theorem wc_k_lt {G : EG} {k : Nat} (h : k < 100) : wc_k G k = .ref (gA G k) := by
  have e : Nat.beq k 100 = false := by
    cases hb : Nat.beq k 100 with
    | false => rfl
    | true => have := Nat.eq_of_beq_eq_true hb; omega
  unfold wc_k
  rw [e]; rfl
theorem wc_k_or {G : EG} {k : Nat} : wc_k G k = .null ∨ ∃ a, wc_k G k = .ref a := by
  unfold wc_k
  cases Nat.beq k 100 && Nat.beq (gL G 100) 1 with
  | true => exact Or.inl rfl
  | false => exact Or.inr ⟨_, rfl⟩
def wc_v (G : EG) : EV → Value
  | .inl x => .int x
  | .inr (.inl x) => .long x
  | .inr (.inr (.inl none)) => .null
  | .inr (.inr (.inl (some k))) => .ref (gZ G + k)
  | .inr (.inr (.inr k)) => wc_k G k
def wc_c (G : EG) : EC → va_E
  | .inl (ci, fs) => .inr (ci, fs.map (wc_v G))
  | .inr (.inl (t, n, f)) => .inl (gY G t, n, .inl f)
  | .inr (.inr (t, n, f)) => .inl (gY G t, n, .inr (.inr (.inr (.inr (fun i => (f i).map (fun k => gZ G + k))))))
def wc_l (G : EG) (w : EW) : va_W := w.mapIdx (fun k c => (gZ G + k, wc_c G c))
def wc_A (G : EG) : Nat → Prop := fun q => gZ G ≤ q
def wc_sl : EC → Nat
  | .inl (_, fs) => fs.length
  | .inr (.inl (_, n, _)) => n
  | .inr (.inr (_, n, _)) => n
def wc_SL (w : EW) : Nat := (w.map wc_sl).sum
theorem wc_l_get {G : EG} {w : EW} {k : Nat} {c : EC} (h : w[k]? = some c) : (wc_l G w)[k]? = some (gZ G + k, wc_c G c) := by
  simp [wc_l, List.getElem?_mapIdx, h]
theorem wc_l_of {G : EG} {w : EW} {k : Nat} {q : Nat × va_E} (h : (wc_l G w)[k]? = some q) : ∃ c, w[k]? = some c ∧ q = (gZ G + k, wc_c G c) := by
  simp only [wc_l, List.getElem?_mapIdx, Option.map_eq_some_iff] at h
  obtain ⟨c, h1, h2⟩ := h
  exact ⟨c, h1, h2.symm⟩
theorem wc_l_set {G : EG} {w : EW} {k : Nat} {c : EC} : (wc_l G w).set k (gZ G + k, wc_c G c) = wc_l G (w.set k c) := by
  apply List.ext_getElem?
  intro i
  simp only [wc_l, List.getElem?_mapIdx, List.getElem?_set, List.length_mapIdx]
  by_cases h : k = i
  · subst h
    by_cases h2 : k < w.length
    · simp [h2]
    · simp [h2]
  · simp [h]
theorem wc_l_push {G : EG} {w : EW} {c : EC} : wc_l G w ++ [(gZ G + w.length, wc_c G c)] = wc_l G (w ++ [c]) := by
  simp [wc_l, List.mapIdx_append]
theorem wc_D {G : EG} {w : EW} : va_D (wc_A G) (wc_l G w) := by
  refine ⟨fun i j p q hi hj hpq => ?_, fun k q hk => ?_⟩
  · obtain ⟨c, -, e1⟩ := wc_l_of hi
    obtain ⟨d, -, e2⟩ := wc_l_of hj
    rw [e1, e2] at hpq
    have : gZ G + i = gZ G + j := hpq
    omega
  · obtain ⟨c, -, e1⟩ := wc_l_of hk
    rw [e1]
    exact Nat.le_add_right _ _
theorem wc_SL_set {w : EW} {k : Nat} {c d : EC} (hk : w[k]? = some c) (h : wc_sl d = wc_sl c) : wc_SL (w.set k d) = wc_SL w := by
  unfold wc_SL
  congr 1
  apply List.ext_getElem?
  intro i
  rw [List.getElem?_map, List.getElem?_map, List.getElem?_set]
  by_cases hi : k = i
  · subst hi
    obtain ⟨hl, hc⟩ := List.getElem?_eq_some_iff.mp hk
    simp [hl, h, hc]
  · simp [hi]
theorem wc_SL_push {w : EW} {c : EC} : wc_SL (w ++ [c]) = wc_SL w + wc_sl c := by simp [wc_SL]
/-! locals -/
def wc_LR (G : EG) (nL : Nat) (ls : List (Option EV)) (arr : Array Slot) : Prop := arr.size = nL ∧ lv_wf arr ∧ ∀ (i : Nat) (v : EV), ls[i]? = some (some v) → arr[i]? = some (.val (wc_v G v))
def wc_clr (ls : List (Option EV)) (i : Nat) : List (Option EV) := match i with
  | 0 => ls
  | j + 1 => match ls[j]? with
    | some (some (.inr (.inl _))) => ls.set j none
    | _ => ls
def wc_st (ls : List (Option EV)) (i : Nat) (v : EV) : List (Option EV) := (wc_clr ls i).set i (some v)
def wc_st2 (ls : List (Option EV)) (i : Nat) (v : EV) : List (Option EV) := ((wc_clr ls i).set i (some v)).set (i + 1) none
def wc_ll (G : EG) (ls : List (Option EV)) : List (Nat × Value) := (List.range ls.length).filterMap (fun i => match ls[i]? with | some (some v) => some (i, wc_v G v) | _ => none)
theorem wc_ll_in {G : EG} {ls : List (Option EV)} {i : Nat} {v : EV} (h : ls[i]? = some (some v)) : (i, wc_v G v) ∈ wc_ll G ls := by
  refine List.mem_filterMap.mpr ⟨i, List.mem_range.mpr (List.getElem?_eq_some_iff.mp h).1, ?_⟩
  rw [h]
theorem wc_LR_has {G : EG} {nL : Nat} {ls : List (Option EV)} {arr : Array Slot} (h : wc_LR G nL ls arr) : lv_has arr nL (wc_ll G ls) := by
  refine ⟨h.1, h.2.1, fun q hq => ?_⟩
  obtain ⟨i, -, hi⟩ := List.mem_filterMap.mp hq
  cases hl : ls[i]? with
  | none => rw [hl] at hi; cases hi
  | some o => cases o with
    | none => rw [hl] at hi; cases hi
    | some v =>
      rw [hl] at hi
      cases hi
      exact h.2.2 i v hl
theorem wc_clr_of {ls : List (Option EV)} {i j : Nat} {v : EV} (h : (wc_clr ls i)[j]? = some (some v)) : ls[j]? = some (some v) ∧ (j + 1 = i → ∀ x : Int64, v ≠ .inr (.inl x)) := by
  cases i with
  | zero => exact ⟨h, fun q => by omega⟩
  | succ k =>
    simp only [wc_clr] at h
    split at h
    next x hx =>
      rw [List.getElem?_set] at h
      by_cases e : k = j
      · subst e
        simp only [if_true] at h
        split at h <;> cases h
      · rw [if_neg e] at h
        exact ⟨h, fun q => by omega⟩
    next hx =>
      refine ⟨h, fun q x e => ?_⟩
      have : j = k := by omega
      subst this
      subst e
      exact hx x h
theorem wc_cat2 {G : EG} {v : EV} (h : (wc_v G v).category = 2) : ∃ x : Int64, v = .inr (.inl x) := by
  rcases v with x | x | x | x
  · cases h
  · exact ⟨x, rfl⟩
  · cases x <;> cases h
  · have h : (wc_k G x).category = 2 := h
    rcases wc_k_or (G := G) (k := x) with e | ⟨a, e⟩ <;> rw [e] at h <;> cases h
theorem wc_LR_st {G : EG} {nL : Nat} {ls : List (Option EV)} {arr arr' : Array Slot} {i : Nat} {v : EV} (h : lv_has arr' nL ((i, wc_v G v) :: (wc_ll G ls).filter (fun q => !(q.1 == i) && !(q.1 + 1 == i && q.2.category == 2)))) : wc_LR G nL (wc_st ls i v) arr' := by
  refine ⟨h.1, h.2.1, fun j u hj => ?_⟩
  unfold wc_st at hj
  rw [List.getElem?_set] at hj
  by_cases e : i = j
  · subst e
    simp only [if_true] at hj
    split at hj
    · cases hj
      exact h.2.2 (i, wc_v G v) List.mem_cons_self
    · cases hj
  · rw [if_neg e] at hj
    obtain ⟨h1, h2⟩ := wc_clr_of hj
    refine h.2.2 (j, wc_v G u) (List.mem_cons_of_mem _ (List.mem_filter.mpr ⟨wc_ll_in h1, ?_⟩))
    have e1 : (j == i) = false := by simpa using fun q => e q.symm
    by_cases e2 : j + 1 = i
    · have e3 : ((wc_v G u).category == 2) = false := by
        by_cases e4 : (wc_v G u).category = 2
        · obtain ⟨x, hx⟩ := wc_cat2 e4
          exact absurd hx (h2 e2 x)
        · simpa using e4
      simp [e1, e3]
    · have e3 : (j + 1 == i) = false := by simpa using e2
      simp [e1, e3]
theorem wc_LR_st2 {G : EG} {nL : Nat} {ls : List (Option EV)} {arr arr' : Array Slot} {i : Nat} {v : EV} (h : lv_has arr' nL ((i, wc_v G v) :: (wc_ll G ls).filter (fun q => !(q.1 == i) && (!(q.1 == i + 1) && !(q.1 + 1 == i && q.2.category == 2))))) : wc_LR G nL (wc_st2 ls i v) arr' := by
  refine ⟨h.1, h.2.1, fun j u hj => ?_⟩
  unfold wc_st2 at hj
  rw [List.getElem?_set] at hj
  by_cases e0 : i + 1 = j
  · subst e0
    simp only [if_true] at hj
    split at hj <;> cases hj
  rw [if_neg e0, List.getElem?_set] at hj
  by_cases e : i = j
  · subst e
    simp only [if_true] at hj
    split at hj
    · cases hj
      exact h.2.2 (i, wc_v G v) List.mem_cons_self
    · cases hj
  · rw [if_neg e] at hj
    obtain ⟨h1, h2⟩ := wc_clr_of hj
    refine h.2.2 (j, wc_v G u) (List.mem_cons_of_mem _ (List.mem_filter.mpr ⟨wc_ll_in h1, ?_⟩))
    have e1 : (j == i) = false := by simpa using fun q => e q.symm
    have e5 : (j == i + 1) = false := by simpa using fun q => e0 q.symm
    by_cases e2 : j + 1 = i
    · have e3 : ((wc_v G u).category == 2) = false := by
        by_cases e4 : (wc_v G u).category = 2
        · obtain ⟨x, hx⟩ := wc_cat2 e4
          exact absurd hx (h2 e2 x)
        · simpa using e4
      simp [e1, e3, e5]
    · have e3 : (j + 1 == i) = false := by simpa using e2
      simp [e1, e3, e5]
/-! the environment: what never moves -/
def wc_strs : List (Nat × String × Nat) := [(83, "minister want veto feud office quota spite cloud ground heat", 0), (85, "no sum afte\x72", 1), (87, "move season office dismiss recall pass", 2), (89, "said", 3), (91, "was", 4), (93, "share", 5), (95, "", 6), (97, "vtaa; msaaa; m; mf; km; q; a; h; h; h;", 7), (99, "kbai; t; kaka;", 8), (101, "maaa; s; km; m; m; ;", 9), (103, "my;", 10), (105, "saaa;", 11), (107, "mh;", 12), (163, "in", 13), (179, "rain wind sun", 14), (181, "spring summer autumn winte\x72", 15), (183, "above below", 16), (185, "no yes", 17)]
def wc_len : List Nat := [60, 12, 38, 4, 3, 5, 0, 38, 14, 20, 3, 5, 3, 2, 13, 27, 11, 6]
def wc_byt : List (List Int32) := [[109, 105, 110, 105, 115, 116, 101, 114, 32, 119, 97, 110, 116, 32, 118, 101, 116, 111, 32, 102, 101, 117, 100, 32, 111, 102, 102, 105, 99, 101, 32, 113, 117, 111, 116, 97, 32, 115, 112, 105, 116, 101, 32, 99, 108, 111, 117, 100, 32, 103, 114, 111, 117, 110, 100, 32, 104, 101, 97, 116], [110, 111, 32, 115, 117, 109, 32, 97, 102, 116, 101, 114], [109, 111, 118, 101, 32, 115, 101, 97, 115, 111, 110, 32, 111, 102, 102, 105, 99, 101, 32, 100, 105, 115, 109, 105, 115, 115, 32, 114, 101, 99, 97, 108, 108, 32, 112, 97, 115, 115], [115, 97, 105, 100], [119, 97, 115], [115, 104, 97, 114, 101], [], [118, 116, 97, 97, 59, 32, 109, 115, 97, 97, 97, 59, 32, 109, 59, 32, 109, 102, 59, 32, 107, 109, 59, 32, 113, 59, 32, 97, 59, 32, 104, 59, 32, 104, 59, 32, 104, 59], [107, 98, 97, 105, 59, 32, 116, 59, 32, 107, 97, 107, 97, 59], [109, 97, 97, 97, 59, 32, 115, 59, 32, 107, 109, 59, 32, 109, 59, 32, 109, 59, 32, 59], [109, 121, 59], [115, 97, 97, 97, 59], [109, 104, 59], [105, 110], [114, 97, 105, 110, 32, 119, 105, 110, 100, 32, 115, 117, 110], [115, 112, 114, 105, 110, 103, 32, 115, 117, 109, 109, 101, 114, 32, 97, 117, 116, 117, 109, 110, 32, 119, 105, 110, 116, 101, 114], [97, 98, 111, 118, 101, 32, 98, 101, 108, 111, 119], [110, 111, 32, 121, 101, 115]]
def wc_E2 (G : EG) (U : State) : Prop := vk_S 18 wc_len wc_byt (fun i => gA G (3 + i)) (fun i => gA G (40 + i)) (wc_A G) U U.heap ∧ va_Z "java/lang/String" "COMPACT_STRINGS" "Z" (.int 1) (wc_A G) U U.heap ∧ va_Z RJ3 "SIOOBE_FORMATTER" "Ljava/util/function/BiFunction;" (wc_k G 100) (wc_A G) U U.heap ∧ va_Nw (.fieldLinkNest RX1 153 RX6 "MOST_OF_A_TEXT" "[I" RX6) U ∧ ∀ q ∈ wc_strs, vk_R RX1 q.1 q.2.1 (gA G (3 + q.2.2)) U
theorem wc_E2_moved {G : EG} {s U : State} (h : wc_E2 G s) (hW : s.WarmedH U.vm) (hq : ∀ a : Nat, a < s.heap.size → ¬ wc_A G a → U.heap[a]? = s.heap[a]?) : wc_E2 G U :=
  ⟨(h.1.moved hW.alike).kept hq, (h.2.1.moved hW.alike).kept hq, (h.2.2.1.moved hW.alike).kept hq, va_Nw.warmF hW h.2.2.2.1, fun q hn => (h.2.2.2.2 q hn).warm hW⟩
theorem wc_E2_calling {G : EG} {U : State} (h : wc_E2 G U) (g : JFrame) (mk : MethodId) (a : Array Value) : wc_E2 G (U.calling g mk a) :=
  ⟨vk_S.moved (u := U) (U := U.calling g mk a) (Vm.Alike.refl U.vm) h.1, va_Z.moved (u := U) (U := U.calling g mk a) (Vm.Alike.refl U.vm) h.2.1, va_Z.moved (u := U) (U := U.calling g mk a) (Vm.Alike.refl U.vm) h.2.2.1, va_Nw.same (u := U) rfl rfl h.2.2.2.1, fun q hn => vk_R.same (u := U) rfl (h.2.2.2.2 q hn)⟩
def wc_E (G : EG) (U : State) : Prop := va_K (gD G) vwCl (wc_tys G) U ∧ (∀ q ∈ wc_nests, va_Nw q U) ∧ (∀ k : Nat, k < 3 → va_T .int (gA G k) (gL G k) (fun j => .int (gF G k j)) (wc_A G) U U.heap) ∧ va_Z RX6 "MOST_OF_A_TEXT" "[I" (.ref (gA G 0)) (wc_A G) U U.heap ∧ va_Z RX6 "FACTORIALS" "[I" (.ref (gA G 1)) (wc_A G) U U.heap ∧ va_AO RX2 U ∧ va_AO RX3 U ∧ va_AO RX5 U ∧ wc_E2 G U
theorem wc_E_moved {G : EG} {s U : State} (h : wc_E G s) (hW : s.WarmedH U.vm) (hq : ∀ a : Nat, a < s.heap.size → ¬ wc_A G a → U.heap[a]? = s.heap[a]?) : wc_E G U := by
  obtain ⟨h1, h2, h3, h4, h5, h6, h7, h8, h9⟩ := h
  refine ⟨va_K.moved hW.alike h1, fun q hn => ?_, fun k hk => ((h3 k hk).moved hW.alike).kept hq, (h4.moved hW.alike).kept hq, (h5.moved hW.alike).kept hq, h6.moved hW.alike, h7.moved hW.alike, h8.moved hW.alike, wc_E2_moved h9 hW hq⟩
  obtain ⟨a, i, x, b, rfl⟩ := wc_nests_form q hn
  exact va_Nw.warmM hW (h2 _ hn)
theorem wc_E_calling {G : EG} {U : State} (h : wc_E G U) (g : JFrame) (mk : MethodId) (a : Array Value) : wc_E G (U.calling g mk a) := by
  obtain ⟨h1, h2, h3, h4, h5, h6, h7, h8, h9⟩ := h
  exact ⟨va_K.moved (u := U) (U := U.calling g mk a) (Vm.Alike.refl U.vm) h1, fun q hn => by obtain ⟨x1, x2, x3, x4, rfl⟩ := wc_nests_form q hn; exact va_Nw.same (u := U) rfl rfl (h2 _ hn), fun k hk => va_T.moved (u := U) (U := U.calling g mk a) (Vm.Alike.refl U.vm) (h3 k hk), va_Z.moved (u := U) (U := U.calling g mk a) (Vm.Alike.refl U.vm) h4, va_Z.moved (u := U) (U := U.calling g mk a) (Vm.Alike.refl U.vm) h5, va_AO.moved (u := U) (U := U.calling g mk a) (Vm.Alike.refl U.vm) h6, va_AO.moved (u := U) (U := U.calling g mk a) (Vm.Alike.refl U.vm) h7, va_AO.moved (u := U) (U := U.calling g mk a) (Vm.Alike.refl U.vm) h8, wc_E2_calling h9 g mk a⟩
/-! THE JUDGEMENT -/
def WW (p : Program) (l : Launch) (e : Env) (R : Room) (s : State) (m : MethodId) (args : Array Value) (below : List Frame) (meth : Method) (c : Code) (Q : State → Prop) (G : EG) (nL n0 s0 rc rs pc : Nat) (ls : List (Option EV)) (st : List EV) (w : EW) : Prop :=
  ∀ (H : Heap) (locs : List Loc) (arr : Array Slot), n0 ≤ w.length → s0 ≤ wc_SL w → w.length + rc = n0 + R.cells → wc_SL w + rs = s0 + R.slots → va_P (gD G) vwCl (wc_l G w) H → va_S (wc_A G) s.heap H locs → wc_LR G nL ls arr → W p l e R s m args below meth c H locs (w.length - n0) (wc_SL w - s0) Q (F0 m pc arr (st.map (wc_v G)))
def wc_C (p : Program) (s : State) (m : MethodId) (args : Array Value) (meth : Method) (c : Code) (G : EG) (own : String) (cc : ByteArray) (nL n0 : Nat) : Prop :=
  p.tables.exec = Jvm.exec ∧ c.code = cc ∧ c.maxLocals = nL ∧ s.vm.findClass own = some m.cls ∧ (∀ w ∈ wc_B, w.before args s = true) ∧ wc_E G s ∧ s.heap.size = gZ G + n0 ∧ meth.locks = false
def wc_fld (own : String) (idx ci j : Nat) : Prop := ∃ (C : String) (T : u_T) (N : Nat), vwCl[ci]? = some (C, T, N) ∧ j < N ∧ Cond.fieldLink own idx (T j).1 (T j).2.1 (T j).2.2.1 ∈ wc_B ∧ ∀ w ∈ u_ws C T N, w ∈ wc_B
def wc_fpt (own : String) (idx ci j : Nat) (fin : Bool) (ty : FieldType) : Prop := ∃ (C : String) (T : u_T) (N : Nat) (ty0 : Nat → FieldType), vwCl[ci]? = some (C, T, N) ∧ j < N ∧ Cond.fieldLink own idx (T j).1 (T j).2.1 (T j).2.2.1 ∈ wc_B ∧ (∀ w ∈ u_ws C T N, w ∈ wc_B) ∧ (∀ k, k < N → parseFieldDescriptor (T k).2.2.1 = some (ty0 k)) ∧ (∀ a, a < N → ∀ b, b < N → a ≠ b → (T a).2.1 ≠ (T b).2.1) ∧ (T j).2.2.2 = fin ∧ parseFieldDescriptor (T j).2.2.1 = some ty ∧ (T j).1 = C
section WC
variable {p : Program} {l : Launch} {e : Env} {R : Room} {s : State} {m : MethodId} {args : Array Value} {below : List Frame} {meth : Method} {c : Code} {Q : State → Prop} {G : EG} {own : String} {cc : ByteArray} {nL n0 s0 rc rs pc : Nat} {ls : List (Option EV)} {st : List EV} {w : EW}
theorem ww_iconst (K : wc_C p s m args meth c G own cc nL n0) {n : Int} {v : Int32} (hd : decode cc pc = .ok (.iconst n, 1)) (hv : Int32.ofInt n = v) (k : WW p l e R s m args below meth c Q G nL n0 s0 rc rs (pc + 1) (ls) (eI v :: st) (w)) : WW p l e R s m args below meth c Q G nL n0 s0 rc rs (pc) (ls) (st) (w) := fun H locs arr h1 h2 h3 h4 hP hS hL => lv_iconst K.1 K.2.1  hd hv (k H locs arr h1 h2 h3 h4 hP hS hL)
theorem ww_bipush (K : wc_C p s m args meth c G own cc nL n0) {n : Int} {v : Int32} (hd : decode cc pc = .ok (.bipush n, 2)) (hv : (Int8.ofInt n).toInt32 = v) (k : WW p l e R s m args below meth c Q G nL n0 s0 rc rs (pc + 2) (ls) (eI v :: st) (w)) : WW p l e R s m args below meth c Q G nL n0 s0 rc rs (pc) (ls) (st) (w) := fun H locs arr h1 h2 h3 h4 hP hS hL => lv_bipush K.1 K.2.1  hd hv (k H locs arr h1 h2 h3 h4 hP hS hL)
theorem ww_sipush (K : wc_C p s m args meth c G own cc nL n0) {n : Int} {v : Int32} (hd : decode cc pc = .ok (.sipush n, 3)) (hv : (Int16.ofInt n).toInt32 = v) (k : WW p l e R s m args below meth c Q G nL n0 s0 rc rs (pc + 3) (ls) (eI v :: st) (w)) : WW p l e R s m args below meth c Q G nL n0 s0 rc rs (pc) (ls) (st) (w) := fun H locs arr h1 h2 h3 h4 hP hS hL => lv_sipush K.1 K.2.1  hd hv (k H locs arr h1 h2 h3 h4 hP hS hL)
theorem ww_lconst (K : wc_C p s m args meth c G own cc nL n0) {n : Fin 2} {v : Int64} (hd : decode cc pc = .ok (.lconst n, 1)) (hv : Int64.ofNat (n : Nat) = v) (k : WW p l e R s m args below meth c Q G nL n0 s0 rc rs (pc + 1) (ls) (eJ v :: st) (w)) : WW p l e R s m args below meth c Q G nL n0 s0 rc rs (pc) (ls) (st) (w) := fun H locs arr h1 h2 h3 h4 hP hS hL => lv_lconst K.1 K.2.1  hd hv (k H locs arr h1 h2 h3 h4 hP hS hL)
theorem ww_null (K : wc_C p s m args meth c G own cc nL n0) (hd : decode cc pc = .ok (.aconst_null, 1)) (k : WW p l e R s m args below meth c Q G nL n0 s0 rc rs (pc + 1) (ls) (eN :: st) (w)) : WW p l e R s m args below meth c Q G nL n0 s0 rc rs (pc) (ls) (st) (w) := fun H locs arr h1 h2 h3 h4 hP hS hL => lv_null K.1 K.2.1 hd (k H locs arr h1 h2 h3 h4 hP hS hL)
theorem ww_iadd (K : wc_C p s m args meth c G own cc nL n0) {x y : Int32} (hd : decode cc pc = .ok (.iadd, 1))  (k : WW p l e R s m args below meth c Q G nL n0 s0 rc rs (pc + 1) (ls) (eI (x + y) :: st) (w)) : WW p l e R s m args below meth c Q G nL n0 s0 rc rs (pc) (ls) (eI y :: eI x :: st) (w) := fun H locs arr h1 h2 h3 h4 hP hS hL => lv_iadd K.1 K.2.1  hd  (k H locs arr h1 h2 h3 h4 hP hS hL)
theorem ww_isub (K : wc_C p s m args meth c G own cc nL n0) {x y : Int32} (hd : decode cc pc = .ok (.isub, 1))  (k : WW p l e R s m args below meth c Q G nL n0 s0 rc rs (pc + 1) (ls) (eI (x - y) :: st) (w)) : WW p l e R s m args below meth c Q G nL n0 s0 rc rs (pc) (ls) (eI y :: eI x :: st) (w) := fun H locs arr h1 h2 h3 h4 hP hS hL => lv_isub K.1 K.2.1  hd  (k H locs arr h1 h2 h3 h4 hP hS hL)
theorem ww_imul (K : wc_C p s m args meth c G own cc nL n0) {x y : Int32} (hd : decode cc pc = .ok (.imul, 1))  (k : WW p l e R s m args below meth c Q G nL n0 s0 rc rs (pc + 1) (ls) (eI (x * y) :: st) (w)) : WW p l e R s m args below meth c Q G nL n0 s0 rc rs (pc) (ls) (eI y :: eI x :: st) (w) := fun H locs arr h1 h2 h3 h4 hP hS hL => lv_imul K.1 K.2.1  hd  (k H locs arr h1 h2 h3 h4 hP hS hL)
theorem ww_iand (K : wc_C p s m args meth c G own cc nL n0) {x y : Int32} (hd : decode cc pc = .ok (.iand, 1))  (k : WW p l e R s m args below meth c Q G nL n0 s0 rc rs (pc + 1) (ls) (eI (x &&& y) :: st) (w)) : WW p l e R s m args below meth c Q G nL n0 s0 rc rs (pc) (ls) (eI y :: eI x :: st) (w) := fun H locs arr h1 h2 h3 h4 hP hS hL => lv_iand K.1 K.2.1  hd  (k H locs arr h1 h2 h3 h4 hP hS hL)
theorem ww_ior (K : wc_C p s m args meth c G own cc nL n0) {x y : Int32} (hd : decode cc pc = .ok (.ior, 1))  (k : WW p l e R s m args below meth c Q G nL n0 s0 rc rs (pc + 1) (ls) (eI (x ||| y) :: st) (w)) : WW p l e R s m args below meth c Q G nL n0 s0 rc rs (pc) (ls) (eI y :: eI x :: st) (w) := fun H locs arr h1 h2 h3 h4 hP hS hL => lv_ior K.1 K.2.1  hd  (k H locs arr h1 h2 h3 h4 hP hS hL)
theorem ww_ixor (K : wc_C p s m args meth c G own cc nL n0) {x y : Int32} (hd : decode cc pc = .ok (.ixor, 1))  (k : WW p l e R s m args below meth c Q G nL n0 s0 rc rs (pc + 1) (ls) (eI (x ^^^ y) :: st) (w)) : WW p l e R s m args below meth c Q G nL n0 s0 rc rs (pc) (ls) (eI y :: eI x :: st) (w) := fun H locs arr h1 h2 h3 h4 hP hS hL => lv_ixor K.1 K.2.1  hd  (k H locs arr h1 h2 h3 h4 hP hS hL)
theorem ww_ishl (K : wc_C p s m args meth c G own cc nL n0) {x y : Int32} (hd : decode cc pc = .ok (.ishl, 1))  (k : WW p l e R s m args below meth c Q G nL n0 s0 rc rs (pc + 1) (ls) (eI (x <<< (y &&& 31)) :: st) (w)) : WW p l e R s m args below meth c Q G nL n0 s0 rc rs (pc) (ls) (eI y :: eI x :: st) (w) := fun H locs arr h1 h2 h3 h4 hP hS hL => lv_ishl K.1 K.2.1  hd  (k H locs arr h1 h2 h3 h4 hP hS hL)
theorem ww_ishr (K : wc_C p s m args meth c G own cc nL n0) {x y : Int32} (hd : decode cc pc = .ok (.ishr, 1))  (k : WW p l e R s m args below meth c Q G nL n0 s0 rc rs (pc + 1) (ls) (eI (x >>> (y &&& 31)) :: st) (w)) : WW p l e R s m args below meth c Q G nL n0 s0 rc rs (pc) (ls) (eI y :: eI x :: st) (w) := fun H locs arr h1 h2 h3 h4 hP hS hL => lv_ishr K.1 K.2.1  hd  (k H locs arr h1 h2 h3 h4 hP hS hL)
theorem ww_idiv (K : wc_C p s m args meth c G own cc nL n0) {x y : Int32} (hd : decode cc pc = .ok (.idiv, 1)) (hne : ¬ y = 0) (k : WW p l e R s m args below meth c Q G nL n0 s0 rc rs (pc + 1) (ls) (eI (x / y) :: st) (w)) : WW p l e R s m args below meth c Q G nL n0 s0 rc rs (pc) (ls) (eI y :: eI x :: st) (w) := fun H locs arr h1 h2 h3 h4 hP hS hL => lv_idiv K.1 K.2.1  hd hne (k H locs arr h1 h2 h3 h4 hP hS hL)
theorem ww_irem (K : wc_C p s m args meth c G own cc nL n0) {x y : Int32} (hd : decode cc pc = .ok (.irem, 1)) (hne : ¬ y = 0) (k : WW p l e R s m args below meth c Q G nL n0 s0 rc rs (pc + 1) (ls) (eI (x - x / y * y) :: st) (w)) : WW p l e R s m args below meth c Q G nL n0 s0 rc rs (pc) (ls) (eI y :: eI x :: st) (w) := fun H locs arr h1 h2 h3 h4 hP hS hL => lv_irem K.1 K.2.1  hd hne (k H locs arr h1 h2 h3 h4 hP hS hL)
theorem ww_ineg (K : wc_C p s m args meth c G own cc nL n0) {x : Int32} (hd : decode cc pc = .ok (.ineg, 1))  (k : WW p l e R s m args below meth c Q G nL n0 s0 rc rs (pc + 1) (ls) (eI (-x) :: st) (w)) : WW p l e R s m args below meth c Q G nL n0 s0 rc rs (pc) (ls) (eI x :: st) (w) := fun H locs arr h1 h2 h3 h4 hP hS hL => lv_ineg K.1 K.2.1  hd  (k H locs arr h1 h2 h3 h4 hP hS hL)
theorem ww_iushr (K : wc_C p s m args meth c G own cc nL n0) {x y : Int32} (hd : decode cc pc = .ok (.iushr, 1))  (k : WW p l e R s m args below meth c Q G nL n0 s0 rc rs (pc + 1) (ls) (eI (x.toUInt32 >>> (y.toUInt32 &&& Int32.toUInt32 31)).toInt32 :: st) (w)) : WW p l e R s m args below meth c Q G nL n0 s0 rc rs (pc) (ls) (eI y :: eI x :: st) (w) := fun H locs arr h1 h2 h3 h4 hP hS hL => lv_iushr K.1 K.2.1  hd rfl (k H locs arr h1 h2 h3 h4 hP hS hL)
theorem ww_i2l (K : wc_C p s m args meth c G own cc nL n0) {x : Int32} (hd : decode cc pc = .ok (.i2l, 1))  (k : WW p l e R s m args below meth c Q G nL n0 s0 rc rs (pc + 1) (ls) (eJ x.toInt64 :: st) (w)) : WW p l e R s m args below meth c Q G nL n0 s0 rc rs (pc) (ls) (eI x :: st) (w) := fun H locs arr h1 h2 h3 h4 hP hS hL => lv_i2l K.1 K.2.1  hd rfl (k H locs arr h1 h2 h3 h4 hP hS hL)
theorem ww_i2c (K : wc_C p s m args meth c G own cc nL n0) {x : Int32} (hd : decode cc pc = .ok (.i2c, 1))  (k : WW p l e R s m args below meth c Q G nL n0 s0 rc rs (pc + 1) (ls) (eI (x.toUInt32 % 65536).toInt32 :: st) (w)) : WW p l e R s m args below meth c Q G nL n0 s0 rc rs (pc) (ls) (eI x :: st) (w) := fun H locs arr h1 h2 h3 h4 hP hS hL => lv_i2c K.1 K.2.1  hd rfl (k H locs arr h1 h2 h3 h4 hP hS hL)
theorem ww_ladd (K : wc_C p s m args meth c G own cc nL n0) {x y : Int64} (hd : decode cc pc = .ok (.ladd, 1))  (k : WW p l e R s m args below meth c Q G nL n0 s0 rc rs (pc + 1) (ls) (eJ (x + y) :: st) (w)) : WW p l e R s m args below meth c Q G nL n0 s0 rc rs (pc) (ls) (eJ y :: eJ x :: st) (w) := fun H locs arr h1 h2 h3 h4 hP hS hL => lv_ladd K.1 K.2.1  hd  (k H locs arr h1 h2 h3 h4 hP hS hL)
theorem ww_lsub (K : wc_C p s m args meth c G own cc nL n0) {x y : Int64} (hd : decode cc pc = .ok (.lsub, 1))  (k : WW p l e R s m args below meth c Q G nL n0 s0 rc rs (pc + 1) (ls) (eJ (x - y) :: st) (w)) : WW p l e R s m args below meth c Q G nL n0 s0 rc rs (pc) (ls) (eJ y :: eJ x :: st) (w) := fun H locs arr h1 h2 h3 h4 hP hS hL => lv_lsub K.1 K.2.1  hd  (k H locs arr h1 h2 h3 h4 hP hS hL)
theorem ww_lmul (K : wc_C p s m args meth c G own cc nL n0) {x y : Int64} (hd : decode cc pc = .ok (.lmul, 1))  (k : WW p l e R s m args below meth c Q G nL n0 s0 rc rs (pc + 1) (ls) (eJ (x * y) :: st) (w)) : WW p l e R s m args below meth c Q G nL n0 s0 rc rs (pc) (ls) (eJ y :: eJ x :: st) (w) := fun H locs arr h1 h2 h3 h4 hP hS hL => lv_lmul K.1 K.2.1  hd  (k H locs arr h1 h2 h3 h4 hP hS hL)
theorem ww_lcmp (K : wc_C p s m args meth c G own cc nL n0) {x y : Int64} (hd : decode cc pc = .ok (.lcmp, 1))  (k : WW p l e R s m args below meth c Q G nL n0 s0 rc rs (pc + 1) (ls) (eI (lg_cmp x y) :: st) (w)) : WW p l e R s m args below meth c Q G nL n0 s0 rc rs (pc) (ls) (eJ y :: eJ x :: st) (w) := fun H locs arr h1 h2 h3 h4 hP hS hL => W.lcmp K.1 K.2.1  hd  (k H locs arr h1 h2 h3 h4 hP hS hL)
def wc_c1 : EV → Prop
  | .inr (.inl _) => False
  | _ => True
theorem wc_c1_cat {v : EV} (h : wc_c1 v) : (wc_v G v).category = 1 := by
  rcases v with x | x | x | x
  · rfl
  · exact h.elim
  · cases x <;> rfl
  · show (wc_k G x).category = 1
    rcases wc_k_or (G := G) (k := x) with e | ⟨a, e⟩ <;> rw [e] <;> rfl
theorem ww_dup (K : wc_C p s m args meth c G own cc nL n0) {v : EV} (hd : decode cc pc = .ok (.dup, 1)) (hv : wc_c1 v) (k : WW p l e R s m args below meth c Q G nL n0 s0 rc rs (pc + 1) (ls) (v :: v :: st) (w)) : WW p l e R s m args below meth c Q G nL n0 s0 rc rs (pc) (ls) (v :: st) (w) := fun H locs arr h1 h2 h3 h4 hP hS hL => lv_dup K.1 K.2.1 hd (wc_c1_cat hv) (k H locs arr h1 h2 h3 h4 hP hS hL)
theorem ww_pop (K : wc_C p s m args meth c G own cc nL n0) {v : EV} (hd : decode cc pc = .ok (.pop, 1)) (hv : wc_c1 v) (k : WW p l e R s m args below meth c Q G nL n0 s0 rc rs (pc + 1) (ls) (st) (w)) : WW p l e R s m args below meth c Q G nL n0 s0 rc rs (pc) (ls) (v :: st) (w) := fun H locs arr h1 h2 h3 h4 hP hS hL => lv_pop K.1 K.2.1 hd (wc_c1_cat hv) (k H locs arr h1 h2 h3 h4 hP hS hL)
theorem ww_dup2 (K : wc_C p s m args meth c G own cc nL n0) {v u : EV} (hd : decode cc pc = .ok (.dup2, 1)) (hv : wc_c1 v) (hu : wc_c1 u) (k : WW p l e R s m args below meth c Q G nL n0 s0 rc rs (pc + 1) (ls) (v :: u :: v :: u :: st) (w)) : WW p l e R s m args below meth c Q G nL n0 s0 rc rs (pc) (ls) (v :: u :: st) (w) := fun H locs arr h1 h2 h3 h4 hP hS hL => lv_dup2_11 K.1 K.2.1 hd (wc_c1_cat hv) (wc_c1_cat hu) (k H locs arr h1 h2 h3 h4 hP hS hL)
theorem ww_iload_n (K : wc_C p s m args meth c G own cc nL n0) {k : Fin 4} {x : Int32} (hd : decode cc pc = .ok (.iload_n k, 1)) (hl : ls[(k : Nat)]? = some (some (eI x))) (kk : WW p l e R s m args below meth c Q G nL n0 s0 rc rs (pc + 1) (ls) (eI x :: st) (w)) : WW p l e R s m args below meth c Q G nL n0 s0 rc rs (pc) (ls) (st) (w) := fun H locs arr h1 h2 h3 h4 hP hS hL => lv_iload_n K.1 K.2.1 hd rfl (hL.2.2 _ _ hl) (kk H locs arr h1 h2 h3 h4 hP hS hL)
theorem ww_iload (K : wc_C p s m args meth c G own cc nL n0) {i : Nat} {x : Int32} (hd : decode cc pc = .ok (.iload i, 2)) (hl : ls[i]? = some (some (eI x))) (kk : WW p l e R s m args below meth c Q G nL n0 s0 rc rs (pc + 2) (ls) (eI x :: st) (w)) : WW p l e R s m args below meth c Q G nL n0 s0 rc rs (pc) (ls) (st) (w) := fun H locs arr h1 h2 h3 h4 hP hS hL => lv_iload K.1 K.2.1 hd (hL.2.2 _ _ hl) (kk H locs arr h1 h2 h3 h4 hP hS hL)
theorem ww_lload_n (K : wc_C p s m args meth c G own cc nL n0) {k : Fin 4} {x : Int64} (hd : decode cc pc = .ok (.lload_n k, 1)) (hl : ls[(k : Nat)]? = some (some (eJ x))) (kk : WW p l e R s m args below meth c Q G nL n0 s0 rc rs (pc + 1) (ls) (eJ x :: st) (w)) : WW p l e R s m args below meth c Q G nL n0 s0 rc rs (pc) (ls) (st) (w) := fun H locs arr h1 h2 h3 h4 hP hS hL => lv_lload_n K.1 K.2.1 hd rfl (hL.2.2 _ _ hl) (kk H locs arr h1 h2 h3 h4 hP hS hL)
theorem ww_lload (K : wc_C p s m args meth c G own cc nL n0) {i : Nat} {x : Int64} (hd : decode cc pc = .ok (.lload i, 2)) (hl : ls[i]? = some (some (eJ x))) (kk : WW p l e R s m args below meth c Q G nL n0 s0 rc rs (pc + 2) (ls) (eJ x :: st) (w)) : WW p l e R s m args below meth c Q G nL n0 s0 rc rs (pc) (ls) (st) (w) := fun H locs arr h1 h2 h3 h4 hP hS hL => lv_lload K.1 K.2.1 hd (hL.2.2 _ _ hl) (kk H locs arr h1 h2 h3 h4 hP hS hL)
theorem ww_aload_n (K : wc_C p s m args meth c G own cc nL n0) {k : Fin 4} {x : Nat} (hd : decode cc pc = .ok (.aload_n k, 1)) (hl : ls[(k : Nat)]? = some (some (eR x))) (kk : WW p l e R s m args below meth c Q G nL n0 s0 rc rs (pc + 1) (ls) (eR x :: st) (w)) : WW p l e R s m args below meth c Q G nL n0 s0 rc rs (pc) (ls) (st) (w) := fun H locs arr h1 h2 h3 h4 hP hS hL => lv_aload_n K.1 K.2.1 hd rfl (hL.2.2 _ _ hl) (kk H locs arr h1 h2 h3 h4 hP hS hL)
theorem ww_aload (K : wc_C p s m args meth c G own cc nL n0) {i : Nat} {x : Nat} (hd : decode cc pc = .ok (.aload i, 2)) (hl : ls[i]? = some (some (eR x))) (kk : WW p l e R s m args below meth c Q G nL n0 s0 rc rs (pc + 2) (ls) (eR x :: st) (w)) : WW p l e R s m args below meth c Q G nL n0 s0 rc rs (pc) (ls) (st) (w) := fun H locs arr h1 h2 h3 h4 hP hS hL => lv_aload K.1 K.2.1 hd (hL.2.2 _ _ hl) (kk H locs arr h1 h2 h3 h4 hP hS hL)
theorem ww_aload_nN (K : wc_C p s m args meth c G own cc nL n0) {k : Fin 4} (hd : decode cc pc = .ok (.aload_n k, 1)) (hl : ls[(k : Nat)]? = some (some eN)) (kk : WW p l e R s m args below meth c Q G nL n0 s0 rc rs (pc + 1) (ls) (eN :: st) (w)) : WW p l e R s m args below meth c Q G nL n0 s0 rc rs (pc) (ls) (st) (w) := fun H locs arr h1 h2 h3 h4 hP hS hL => lv_aload_nN K.1 K.2.1 hd rfl (hL.2.2 _ _ hl) (kk H locs arr h1 h2 h3 h4 hP hS hL)
theorem ww_aloadN (K : wc_C p s m args meth c G own cc nL n0) {i : Nat} (hd : decode cc pc = .ok (.aload i, 2)) (hl : ls[i]? = some (some eN)) (kk : WW p l e R s m args below meth c Q G nL n0 s0 rc rs (pc + 2) (ls) (eN :: st) (w)) : WW p l e R s m args below meth c Q G nL n0 s0 rc rs (pc) (ls) (st) (w) := fun H locs arr h1 h2 h3 h4 hP hS hL => lv_aloadN K.1 K.2.1 hd (hL.2.2 _ _ hl) (kk H locs arr h1 h2 h3 h4 hP hS hL)
theorem ww_aload_nK (K : wc_C p s m args meth c G own cc nL n0) {k : Fin 4} {x : Nat} (hd : decode cc pc = .ok (.aload_n k, 1)) (hl : ls[(k : Nat)]? = some (some (eK x))) (kk : WW p l e R s m args below meth c Q G nL n0 s0 rc rs (pc + 1) (ls) (eK x :: st) (w)) : WW p l e R s m args below meth c Q G nL n0 s0 rc rs (pc) (ls) (st) (w) := fun H locs arr h1 h2 h3 h4 hP hS hL => by
  have hv : arr[(k : Nat)]? = some (.val (wc_k G x)) := hL.2.2 _ _ hl
  have kz := kk H locs arr h1 h2 h3 h4 hP hS hL
  have e0 : (eK x :: st).map (wc_v G) = wc_k G x :: st.map (wc_v G) := rfl
  rw [e0] at kz
  rcases wc_k_or (G := G) (k := x) with e | ⟨a, e⟩
  · rw [e] at hv kz; exact lv_aload_nN K.1 K.2.1 hd rfl hv kz
  · rw [e] at hv kz; exact lv_aload_n K.1 K.2.1 hd rfl hv kz
theorem ww_aloadK (K : wc_C p s m args meth c G own cc nL n0) {i : Nat} {x : Nat} (hd : decode cc pc = .ok (.aload i, 2)) (hl : ls[i]? = some (some (eK x))) (kk : WW p l e R s m args below meth c Q G nL n0 s0 rc rs (pc + 2) (ls) (eK x :: st) (w)) : WW p l e R s m args below meth c Q G nL n0 s0 rc rs (pc) (ls) (st) (w) := fun H locs arr h1 h2 h3 h4 hP hS hL => by
  have hv : arr[i]? = some (.val (wc_k G x)) := hL.2.2 _ _ hl
  have kz := kk H locs arr h1 h2 h3 h4 hP hS hL
  have e0 : (eK x :: st).map (wc_v G) = wc_k G x :: st.map (wc_v G) := rfl
  rw [e0] at kz
  rcases wc_k_or (G := G) (k := x) with e | ⟨a, e⟩
  · rw [e] at hv kz; exact lv_aloadN K.1 K.2.1 hd hv kz
  · rw [e] at hv kz; exact lv_aload K.1 K.2.1 hd hv kz
theorem ww_istore_n (K : wc_C p s m args meth c G own cc nL n0) {k : Fin 4} {x : Int32} {ls2 : List (Option EV)} (hd : decode cc pc = .ok (.istore_n k, 1)) (hn : (k : Nat) < nL) (hl : wc_st ls k (eI x) = ls2) (kk : WW p l e R s m args below meth c Q G nL n0 s0 rc rs (pc + 1) (ls2) (st) (w)) : WW p l e R s m args below meth c Q G nL n0 s0 rc rs (pc) (ls) (eI x :: st) (w) := fun H locs arr h1 h2 h3 h4 hP hS hL => lv_istore_n K.1 K.2.1 hd rfl (wc_LR_has hL) hn rfl (fun arr2 ha => kk H locs arr2 h1 h2 h3 h4 hP hS (hl ▸ wc_LR_st (arr := arr) ha))
theorem ww_istore (K : wc_C p s m args meth c G own cc nL n0) {i : Nat} {x : Int32} {ls2 : List (Option EV)} (hd : decode cc pc = .ok (.istore i, 2)) (hn : i < nL) (hl : wc_st ls i (eI x) = ls2) (kk : WW p l e R s m args below meth c Q G nL n0 s0 rc rs (pc + 2) (ls2) (st) (w)) : WW p l e R s m args below meth c Q G nL n0 s0 rc rs (pc) (ls) (eI x :: st) (w) := fun H locs arr h1 h2 h3 h4 hP hS hL => lv_istore K.1 K.2.1 hd (wc_LR_has hL) hn rfl (fun arr2 ha => kk H locs arr2 h1 h2 h3 h4 hP hS (hl ▸ wc_LR_st (arr := arr) ha))
theorem ww_astore_n (K : wc_C p s m args meth c G own cc nL n0) {k : Fin 4} {x : Nat} {ls2 : List (Option EV)} (hd : decode cc pc = .ok (.astore_n k, 1)) (hn : (k : Nat) < nL) (hl : wc_st ls k (eR x) = ls2) (kk : WW p l e R s m args below meth c Q G nL n0 s0 rc rs (pc + 1) (ls2) (st) (w)) : WW p l e R s m args below meth c Q G nL n0 s0 rc rs (pc) (ls) (eR x :: st) (w) := fun H locs arr h1 h2 h3 h4 hP hS hL => lv_astore_n K.1 K.2.1 hd rfl (wc_LR_has hL) hn rfl (fun arr2 ha => kk H locs arr2 h1 h2 h3 h4 hP hS (hl ▸ wc_LR_st (arr := arr) ha))
theorem ww_astore (K : wc_C p s m args meth c G own cc nL n0) {i : Nat} {x : Nat} {ls2 : List (Option EV)} (hd : decode cc pc = .ok (.astore i, 2)) (hn : i < nL) (hl : wc_st ls i (eR x) = ls2) (kk : WW p l e R s m args below meth c Q G nL n0 s0 rc rs (pc + 2) (ls2) (st) (w)) : WW p l e R s m args below meth c Q G nL n0 s0 rc rs (pc) (ls) (eR x :: st) (w) := fun H locs arr h1 h2 h3 h4 hP hS hL => lv_astore K.1 K.2.1 hd (wc_LR_has hL) hn rfl (fun arr2 ha => kk H locs arr2 h1 h2 h3 h4 hP hS (hl ▸ wc_LR_st (arr := arr) ha))
theorem ww_astore_nN (K : wc_C p s m args meth c G own cc nL n0) {k : Fin 4} {ls2 : List (Option EV)} (hd : decode cc pc = .ok (.astore_n k, 1)) (hn : (k : Nat) < nL) (hl : wc_st ls k eN = ls2) (kk : WW p l e R s m args below meth c Q G nL n0 s0 rc rs (pc + 1) (ls2) (st) (w)) : WW p l e R s m args below meth c Q G nL n0 s0 rc rs (pc) (ls) (eN :: st) (w) := fun H locs arr h1 h2 h3 h4 hP hS hL => lv_astore_nN K.1 K.2.1 hd rfl (wc_LR_has hL) hn rfl (fun arr2 ha => kk H locs arr2 h1 h2 h3 h4 hP hS (hl ▸ wc_LR_st (v := eN) (arr := arr) ha))
theorem ww_astoreN (K : wc_C p s m args meth c G own cc nL n0) {i : Nat} {ls2 : List (Option EV)} (hd : decode cc pc = .ok (.astore i, 2)) (hn : i < nL) (hl : wc_st ls i eN = ls2) (kk : WW p l e R s m args below meth c Q G nL n0 s0 rc rs (pc + 2) (ls2) (st) (w)) : WW p l e R s m args below meth c Q G nL n0 s0 rc rs (pc) (ls) (eN :: st) (w) := fun H locs arr h1 h2 h3 h4 hP hS hL => lv_astoreN K.1 K.2.1 hd (wc_LR_has hL) hn rfl (fun arr2 ha => kk H locs arr2 h1 h2 h3 h4 hP hS (hl ▸ wc_LR_st (v := eN) (arr := arr) ha))
theorem ww_lstore_n (K : wc_C p s m args meth c G own cc nL n0) {k : Fin 4} {x : Int64} {ls2 : List (Option EV)} (hd : decode cc pc = .ok (.lstore_n k, 1)) (hn : (k : Nat) + 1 < nL) (hl : wc_st2 ls k (eJ x) = ls2) (kk : WW p l e R s m args below meth c Q G nL n0 s0 rc rs (pc + 1) (ls2) (st) (w)) : WW p l e R s m args below meth c Q G nL n0 s0 rc rs (pc) (ls) (eJ x :: st) (w) := fun H locs arr h1 h2 h3 h4 hP hS hL => lv_lstore_n K.1 K.2.1 hd rfl (wc_LR_has hL) hn rfl (fun arr2 ha => kk H locs arr2 h1 h2 h3 h4 hP hS (hl ▸ wc_LR_st2 (arr := arr) ha))
theorem ww_iinc (K : wc_C p s m args meth c G own cc nL n0) {i : Nat} {n : Int} {x : Int32} {ls2 : List (Option EV)} (hd : decode cc pc = .ok (.iinc i n, 3)) (hn : i < nL) (hx : ls[i]? = some (some (eI x))) (hl : wc_st ls i (eI (x + Int32.ofInt n)) = ls2) (kk : WW p l e R s m args below meth c Q G nL n0 s0 rc rs (pc + 3) (ls2) (st) (w)) : WW p l e R s m args below meth c Q G nL n0 s0 rc rs (pc) (ls) (st) (w) := fun H locs arr h1 h2 h3 h4 hP hS hL => by
  obtain ⟨k, hk⟩ := List.getElem?_of_mem (wc_ll_in (G := G) hx)
  exact lv_iinc K.1 K.2.1 hd (wc_LR_has hL) hk rfl hn rfl (fun arr2 ha => kk H locs arr2 h1 h2 h3 h4 hP hS (hl ▸ wc_LR_st (v := eI (x + Int32.ofInt n)) (arr := arr) ha))
theorem ww_if_eq (K : wc_C p s m args meth c G own cc nL n0) {x : Int32} {off : Int} {tgt : Nat} (hd : decode cc pc = .ok (.ifCond .eq off, 3)) (ht : (pc : Int) + off = (tgt : Int)) (kt : x = 0 → WW p l e R s m args below meth c Q G nL n0 s0 rc rs (tgt) (ls) (st) (w)) (kf : ¬ x = 0 → WW p l e R s m args below meth c Q G nL n0 s0 rc rs (pc + 3) (ls) (st) (w)) : WW p l e R s m args below meth c Q G nL n0 s0 rc rs (pc) (ls) (eI x :: st) (w) := fun H locs arr h1 h2 h3 h4 hP hS hL => lv_if_eq K.1 K.2.1 hd ht (fun h => kt h H locs arr h1 h2 h3 h4 hP hS hL) (fun h => kf h H locs arr h1 h2 h3 h4 hP hS hL)
theorem ww_icmp_eq (K : wc_C p s m args meth c G own cc nL n0) {x y : Int32} {off : Int} {tgt : Nat} (hd : decode cc pc = .ok (.if_icmp .eq off, 3)) (ht : (pc : Int) + off = (tgt : Int)) (kt : x = y → WW p l e R s m args below meth c Q G nL n0 s0 rc rs (tgt) (ls) (st) (w)) (kf : ¬ x = y → WW p l e R s m args below meth c Q G nL n0 s0 rc rs (pc + 3) (ls) (st) (w)) : WW p l e R s m args below meth c Q G nL n0 s0 rc rs (pc) (ls) (eI y :: eI x :: st) (w) := fun H locs arr h1 h2 h3 h4 hP hS hL => lv_icmp_eq K.1 K.2.1 hd ht (fun h => kt h H locs arr h1 h2 h3 h4 hP hS hL) (fun h => kf h H locs arr h1 h2 h3 h4 hP hS hL)
theorem ww_if_ne (K : wc_C p s m args meth c G own cc nL n0) {x : Int32} {off : Int} {tgt : Nat} (hd : decode cc pc = .ok (.ifCond .ne off, 3)) (ht : (pc : Int) + off = (tgt : Int)) (kt : ¬ x = 0 → WW p l e R s m args below meth c Q G nL n0 s0 rc rs (tgt) (ls) (st) (w)) (kf : x = 0 → WW p l e R s m args below meth c Q G nL n0 s0 rc rs (pc + 3) (ls) (st) (w)) : WW p l e R s m args below meth c Q G nL n0 s0 rc rs (pc) (ls) (eI x :: st) (w) := fun H locs arr h1 h2 h3 h4 hP hS hL => lv_if_ne K.1 K.2.1 hd ht (fun h => kt h H locs arr h1 h2 h3 h4 hP hS hL) (fun h => kf h H locs arr h1 h2 h3 h4 hP hS hL)
theorem ww_icmp_ne (K : wc_C p s m args meth c G own cc nL n0) {x y : Int32} {off : Int} {tgt : Nat} (hd : decode cc pc = .ok (.if_icmp .ne off, 3)) (ht : (pc : Int) + off = (tgt : Int)) (kt : ¬ x = y → WW p l e R s m args below meth c Q G nL n0 s0 rc rs (tgt) (ls) (st) (w)) (kf : x = y → WW p l e R s m args below meth c Q G nL n0 s0 rc rs (pc + 3) (ls) (st) (w)) : WW p l e R s m args below meth c Q G nL n0 s0 rc rs (pc) (ls) (eI y :: eI x :: st) (w) := fun H locs arr h1 h2 h3 h4 hP hS hL => lv_icmp_ne K.1 K.2.1 hd ht (fun h => kt h H locs arr h1 h2 h3 h4 hP hS hL) (fun h => kf h H locs arr h1 h2 h3 h4 hP hS hL)
theorem ww_if_lt (K : wc_C p s m args meth c G own cc nL n0) {x : Int32} {off : Int} {tgt : Nat} (hd : decode cc pc = .ok (.ifCond .lt off, 3)) (ht : (pc : Int) + off = (tgt : Int)) (kt : x < 0 → WW p l e R s m args below meth c Q G nL n0 s0 rc rs (tgt) (ls) (st) (w)) (kf : ¬ x < 0 → WW p l e R s m args below meth c Q G nL n0 s0 rc rs (pc + 3) (ls) (st) (w)) : WW p l e R s m args below meth c Q G nL n0 s0 rc rs (pc) (ls) (eI x :: st) (w) := fun H locs arr h1 h2 h3 h4 hP hS hL => lv_if_lt K.1 K.2.1 hd ht (fun h => kt h H locs arr h1 h2 h3 h4 hP hS hL) (fun h => kf h H locs arr h1 h2 h3 h4 hP hS hL)
theorem ww_icmp_lt (K : wc_C p s m args meth c G own cc nL n0) {x y : Int32} {off : Int} {tgt : Nat} (hd : decode cc pc = .ok (.if_icmp .lt off, 3)) (ht : (pc : Int) + off = (tgt : Int)) (kt : x < y → WW p l e R s m args below meth c Q G nL n0 s0 rc rs (tgt) (ls) (st) (w)) (kf : ¬ x < y → WW p l e R s m args below meth c Q G nL n0 s0 rc rs (pc + 3) (ls) (st) (w)) : WW p l e R s m args below meth c Q G nL n0 s0 rc rs (pc) (ls) (eI y :: eI x :: st) (w) := fun H locs arr h1 h2 h3 h4 hP hS hL => lv_icmp_lt K.1 K.2.1 hd ht (fun h => kt h H locs arr h1 h2 h3 h4 hP hS hL) (fun h => kf h H locs arr h1 h2 h3 h4 hP hS hL)
theorem ww_if_ge (K : wc_C p s m args meth c G own cc nL n0) {x : Int32} {off : Int} {tgt : Nat} (hd : decode cc pc = .ok (.ifCond .ge off, 3)) (ht : (pc : Int) + off = (tgt : Int)) (kt : 0 ≤ x → WW p l e R s m args below meth c Q G nL n0 s0 rc rs (tgt) (ls) (st) (w)) (kf : ¬ 0 ≤ x → WW p l e R s m args below meth c Q G nL n0 s0 rc rs (pc + 3) (ls) (st) (w)) : WW p l e R s m args below meth c Q G nL n0 s0 rc rs (pc) (ls) (eI x :: st) (w) := fun H locs arr h1 h2 h3 h4 hP hS hL => lv_if_ge K.1 K.2.1 hd ht (fun h => kt h H locs arr h1 h2 h3 h4 hP hS hL) (fun h => kf h H locs arr h1 h2 h3 h4 hP hS hL)
theorem ww_icmp_ge (K : wc_C p s m args meth c G own cc nL n0) {x y : Int32} {off : Int} {tgt : Nat} (hd : decode cc pc = .ok (.if_icmp .ge off, 3)) (ht : (pc : Int) + off = (tgt : Int)) (kt : y ≤ x → WW p l e R s m args below meth c Q G nL n0 s0 rc rs (tgt) (ls) (st) (w)) (kf : ¬ y ≤ x → WW p l e R s m args below meth c Q G nL n0 s0 rc rs (pc + 3) (ls) (st) (w)) : WW p l e R s m args below meth c Q G nL n0 s0 rc rs (pc) (ls) (eI y :: eI x :: st) (w) := fun H locs arr h1 h2 h3 h4 hP hS hL => lv_icmp_ge K.1 K.2.1 hd ht (fun h => kt h H locs arr h1 h2 h3 h4 hP hS hL) (fun h => kf h H locs arr h1 h2 h3 h4 hP hS hL)
theorem ww_if_gt (K : wc_C p s m args meth c G own cc nL n0) {x : Int32} {off : Int} {tgt : Nat} (hd : decode cc pc = .ok (.ifCond .gt off, 3)) (ht : (pc : Int) + off = (tgt : Int)) (kt : 0 < x → WW p l e R s m args below meth c Q G nL n0 s0 rc rs (tgt) (ls) (st) (w)) (kf : ¬ 0 < x → WW p l e R s m args below meth c Q G nL n0 s0 rc rs (pc + 3) (ls) (st) (w)) : WW p l e R s m args below meth c Q G nL n0 s0 rc rs (pc) (ls) (eI x :: st) (w) := fun H locs arr h1 h2 h3 h4 hP hS hL => lv_if_gt K.1 K.2.1 hd ht (fun h => kt h H locs arr h1 h2 h3 h4 hP hS hL) (fun h => kf h H locs arr h1 h2 h3 h4 hP hS hL)
theorem ww_icmp_gt (K : wc_C p s m args meth c G own cc nL n0) {x y : Int32} {off : Int} {tgt : Nat} (hd : decode cc pc = .ok (.if_icmp .gt off, 3)) (ht : (pc : Int) + off = (tgt : Int)) (kt : y < x → WW p l e R s m args below meth c Q G nL n0 s0 rc rs (tgt) (ls) (st) (w)) (kf : ¬ y < x → WW p l e R s m args below meth c Q G nL n0 s0 rc rs (pc + 3) (ls) (st) (w)) : WW p l e R s m args below meth c Q G nL n0 s0 rc rs (pc) (ls) (eI y :: eI x :: st) (w) := fun H locs arr h1 h2 h3 h4 hP hS hL => lv_icmp_gt K.1 K.2.1 hd ht (fun h => kt h H locs arr h1 h2 h3 h4 hP hS hL) (fun h => kf h H locs arr h1 h2 h3 h4 hP hS hL)
theorem ww_if_le (K : wc_C p s m args meth c G own cc nL n0) {x : Int32} {off : Int} {tgt : Nat} (hd : decode cc pc = .ok (.ifCond .le off, 3)) (ht : (pc : Int) + off = (tgt : Int)) (kt : x ≤ 0 → WW p l e R s m args below meth c Q G nL n0 s0 rc rs (tgt) (ls) (st) (w)) (kf : ¬ x ≤ 0 → WW p l e R s m args below meth c Q G nL n0 s0 rc rs (pc + 3) (ls) (st) (w)) : WW p l e R s m args below meth c Q G nL n0 s0 rc rs (pc) (ls) (eI x :: st) (w) := fun H locs arr h1 h2 h3 h4 hP hS hL => lv_if_le K.1 K.2.1 hd ht (fun h => kt h H locs arr h1 h2 h3 h4 hP hS hL) (fun h => kf h H locs arr h1 h2 h3 h4 hP hS hL)
theorem ww_icmp_le (K : wc_C p s m args meth c G own cc nL n0) {x y : Int32} {off : Int} {tgt : Nat} (hd : decode cc pc = .ok (.if_icmp .le off, 3)) (ht : (pc : Int) + off = (tgt : Int)) (kt : x ≤ y → WW p l e R s m args below meth c Q G nL n0 s0 rc rs (tgt) (ls) (st) (w)) (kf : ¬ x ≤ y → WW p l e R s m args below meth c Q G nL n0 s0 rc rs (pc + 3) (ls) (st) (w)) : WW p l e R s m args below meth c Q G nL n0 s0 rc rs (pc) (ls) (eI y :: eI x :: st) (w) := fun H locs arr h1 h2 h3 h4 hP hS hL => lv_icmp_le K.1 K.2.1 hd ht (fun h => kt h H locs arr h1 h2 h3 h4 hP hS hL) (fun h => kf h H locs arr h1 h2 h3 h4 hP hS hL)
theorem ww_goto (K : wc_C p s m args meth c G own cc nL n0) {off : Int} {tgt : Nat} (hd : decode cc pc = .ok (.goto off, 3)) (ht : (pc : Int) + off = (tgt : Int)) (k : WW p l e R s m args below meth c Q G nL n0 s0 rc rs (tgt) (ls) (st) (w)) : WW p l e R s m args below meth c Q G nL n0 s0 rc rs (pc) (ls) (st) (w) := fun H locs arr h1 h2 h3 h4 hP hS hL => lv_goto K.1 K.2.1 hd ht (k H locs arr h1 h2 h3 h4 hP hS hL)
theorem ww_ifnull (K : wc_C p s m args meth c G own cc nL n0) {x : Nat} {off : Int} (hd : decode cc pc = .ok (.ifnull off, 3)) (k : WW p l e R s m args below meth c Q G nL n0 s0 rc rs (pc + 3) (ls) (st) (w)) : WW p l e R s m args below meth c Q G nL n0 s0 rc rs (pc) (ls) (eR x :: st) (w) := fun H locs arr h1 h2 h3 h4 hP hS hL => lv_ifnull K.1 K.2.1 hd (k H locs arr h1 h2 h3 h4 hP hS hL)
theorem ww_ifnullN (K : wc_C p s m args meth c G own cc nL n0) {off : Int} {tgt : Nat} (hd : decode cc pc = .ok (.ifnull off, 3)) (ht : (pc : Int) + off = (tgt : Int)) (k : WW p l e R s m args below meth c Q G nL n0 s0 rc rs (tgt) (ls) (st) (w)) : WW p l e R s m args below meth c Q G nL n0 s0 rc rs (pc) (ls) (eN :: st) (w) := fun H locs arr h1 h2 h3 h4 hP hS hL => lv_ifnullN K.1 K.2.1 hd ht (k H locs arr h1 h2 h3 h4 hP hS hL)
theorem ww_ifnonnull (K : wc_C p s m args meth c G own cc nL n0) {x : Nat} {off : Int} {tgt : Nat} (hd : decode cc pc = .ok (.ifnonnull off, 3)) (ht : (pc : Int) + off = (tgt : Int)) (k : WW p l e R s m args below meth c Q G nL n0 s0 rc rs (tgt) (ls) (st) (w)) : WW p l e R s m args below meth c Q G nL n0 s0 rc rs (pc) (ls) (eR x :: st) (w) := fun H locs arr h1 h2 h3 h4 hP hS hL => lv_ifnonnull K.1 K.2.1 hd ht (k H locs arr h1 h2 h3 h4 hP hS hL)
theorem ww_ifnonnullN (K : wc_C p s m args meth c G own cc nL n0) {off : Int} (hd : decode cc pc = .ok (.ifnonnull off, 3)) (k : WW p l e R s m args below meth c Q G nL n0 s0 rc rs (pc + 3) (ls) (st) (w)) : WW p l e R s m args below meth c Q G nL n0 s0 rc rs (pc) (ls) (eN :: st) (w) := fun H locs arr h1 h2 h3 h4 hP hS hL => lv_ifnonnullN K.1 K.2.1 hd (k H locs arr h1 h2 h3 h4 hP hS hL)
theorem ww_tableOut (K : wc_C p s m args meth c G own cc nL n0) {dflt lo hi : Int} {offs : Array Int} {len : Nat} {x : Int32} {tgt : Nat} (hd : decode cc pc = .ok (.tableswitch dflt lo hi offs, len)) (h : x.toInt < lo ∨ hi < x.toInt) (ht : (pc : Int) + dflt = (tgt : Int)) (k : WW p l e R s m args below meth c Q G nL n0 s0 rc rs (tgt) (ls) (st) (w)) : WW p l e R s m args below meth c Q G nL n0 s0 rc rs (pc) (ls) (eI x :: st) (w) := fun H locs arr h1 h2 h3 h4 hP hS hL => lv_tableOut K.1 K.2.1 hd h ht (k H locs arr h1 h2 h3 h4 hP hS hL)
theorem ww_tableIn (K : wc_C p s m args meth c G own cc nL n0) {dflt lo hi : Int} {offs : Array Int} {len : Nat} {x : Int32} {off : Int} {tgt : Nat} (hd : decode cc pc = .ok (.tableswitch dflt lo hi offs, len)) (ha : ¬ x.toInt < lo) (hb : ¬ hi < x.toInt) (ho : offs[(x.toInt - lo).toNat]? = some off) (ht : (pc : Int) + off = (tgt : Int)) (k : WW p l e R s m args below meth c Q G nL n0 s0 rc rs (tgt) (ls) (st) (w)) : WW p l e R s m args below meth c Q G nL n0 s0 rc rs (pc) (ls) (eI x :: st) (w) := fun H locs arr h1 h2 h3 h4 hP hS hL => lv_tableIn K.1 K.2.1 hd ha hb ho ht (k H locs arr h1 h2 h3 h4 hP hS hL)
theorem ww_lookup (K : wc_C p s m args meth c G own cc nL n0) {dflt : Int} {ps : Array (Int × Int)} {len : Nat} {x : Int32} {off : Int} {tgt : Nat} (hd : decode cc pc = .ok (.lookupswitch dflt ps, len)) (hp : (ps.toList.zip (ps.toList.drop 1)).all (fun (a, next) => a.1 < next.1) = true) (ho : Op.lookupswitch.offset ps.toList dflt x.toInt = off) (ht : (pc : Int) + off = (tgt : Int)) (k : WW p l e R s m args below meth c Q G nL n0 s0 rc rs (tgt) (ls) (st) (w)) : WW p l e R s m args below meth c Q G nL n0 s0 rc rs (pc) (ls) (eI x :: st) (w) := fun H locs arr h1 h2 h3 h4 hP hS hL => lv_lookup K.1 K.2.1 hd hp ho ht (k H locs arr h1 h2 h3 h4 hP hS hL)
theorem ww_ldc (K : wc_C p s m args meth c G own cc nL n0) {idx : Nat} {v : Int32} (hd : decode cc pc = .ok (.ldc idx, 2)) (hw : Cond.constant own idx v ∈ wc_B) (k : WW p l e R s m args below meth c Q G nL n0 s0 rc rs (pc + 2) (ls) (eI v :: st) (w)) : WW p l e R s m args below meth c Q G nL n0 s0 rc rs (pc) (ls) (st) (w) := fun H locs arr h1 h2 h3 h4 hP hS hL => lv_ldc K.1 K.2.1 K.2.2.2.1 (K.2.2.2.2.1 _ hw) hd (k H locs arr h1 h2 h3 h4 hP hS hL)
theorem ww_ldcw (K : wc_C p s m args meth c G own cc nL n0) {idx : Nat} {v : Int32} (hd : decode cc pc = .ok (.ldc_w idx, 3)) (hw : Cond.constant own idx v ∈ wc_B) (k : WW p l e R s m args below meth c Q G nL n0 s0 rc rs (pc + 3) (ls) (eI v :: st) (w)) : WW p l e R s m args below meth c Q G nL n0 s0 rc rs (pc) (ls) (st) (w) := fun H locs arr h1 h2 h3 h4 hP hS hL => lv_ldcw K.1 K.2.1 K.2.2.2.1 (K.2.2.2.2.1 _ hw) hd (k H locs arr h1 h2 h3 h4 hP hS hL)
theorem ww_ldc2 (K : wc_C p s m args meth c G own cc nL n0) {idx : Nat} {v : Int64} (hd : decode cc pc = .ok (.ldc2_w idx, 3)) (hw : Cond.constantLong own idx v ∈ wc_B) (k : WW p l e R s m args below meth c Q G nL n0 s0 rc rs (pc + 3) (ls) (eJ v :: st) (w)) : WW p l e R s m args below meth c Q G nL n0 s0 rc rs (pc) (ls) (st) (w) := fun H locs arr h1 h2 h3 h4 hP hS hL => lv_ldc2 K.1 K.2.1 K.2.2.2.1 (K.2.2.2.2.1 _ hw) hd (k H locs arr h1 h2 h3 h4 hP hS hL)
theorem ww_get (K : wc_C p s m args meth c G own cc nL n0) {k ci j idx : Nat} {fs : List EV} {v : EV} (hd : decode cc pc = .ok (.getfield idx, 3)) (hF : wc_fld own idx ci j) (hk : w[k]? = some (cO ci fs)) (hv : fs[j]? = some v) (kk : WW p l e R s m args below meth c Q G nL n0 s0 rc rs (pc + 3) (ls) (v :: st) (w)) : WW p l e R s m args below meth c Q G nL n0 s0 rc rs (pc) (ls) (eR k :: st) (w) := fun H locs arr h1 h2 h3 h4 hP hS hL => by
  obtain ⟨C, T, N, f1, f2, f3, f4⟩ := hF
  exact va_get K.1 K.2.1 K.2.2.2.2.1 f4 K.2.2.2.1 K.2.2.2.2.2.1.1 hP k (wc_l_get hk) f1 j f2 (K.2.2.2.2.1 _ f3) (fun _ h9 => h9) (v := wc_v G v) (by rw [List.getElem?_map, hv]; rfl) hd (kk H locs arr h1 h2 h3 h4 hP hS hL)
theorem ww_put (K : wc_C p s m args meth c G own cc nL n0) {k ci j idx : Nat} {fs : List EV} {v : EV} {ty : FieldType} (hd : decode cc pc = .ok (.putfield idx, 3)) (hF : wc_fpt own idx ci j false ty) (hk : w[k]? = some (cO ci fs)) (hj : j < fs.length) (hn : narrow ty (wc_v G v) = wc_v G v) (hf : fits ty (wc_v G v) = true) (kk : WW p l e R s m args below meth c Q G nL n0 s0 rc rs (pc + 3) (ls) (st) (w.set k (cO ci (fs.set j v)))) : WW p l e R s m args below meth c Q G nL n0 s0 rc rs (pc) (ls) (v :: eR k :: st) (w) := fun H locs arr h1 h2 h3 h4 hP hS hL => by
  obtain ⟨C, T, N, ty0, f1, f2, f3, f4, f5, f6, f7, f8, -⟩ := hF
  refine va_put K.1 K.2.1 K.2.2.2.2.1 f4 ty0 f5 f6 K.2.2.2.1 K.2.2.2.2.2.1.1 hP wc_D hS k (wc_l_get hk) f1 j f2 (K.2.2.2.2.1 _ f3) (fun _ h9 => h9) f7 f8 hn hf (by rw [List.length_map]; exact hj) hd (fun H1 locs1 hP1 _ hS1 => ?_)
  have e1 : wc_c G (cO ci (fs.set j v)) = .inr (ci, (fs.map (wc_v G)).set j (wc_v G v)) := by simp [wc_c]
  rw [← e1, wc_l_set] at hP1
  have e2 := wc_SL_set (d := cO ci (fs.set j v)) hk (by simp [wc_sl])
  have hk2 := kk H1 locs1 arr (by rw [List.length_set]; exact h1) (by rw [e2]; exact h2) (by rw [List.length_set]; exact h3) (by rw [e2]; exact h4) hP1 hS1 hL
  rw [List.length_set, e2] at hk2
  exact hk2
theorem ww_putF (K : wc_C p s m args meth c G own cc nL n0) {k ci j idx : Nat} {fs : List EV} {v : EV} {ty : FieldType} (hin : meth.name = "<init>") (hd : decode cc pc = .ok (.putfield idx, 3)) (hF : wc_fpt own idx ci j true ty) (hC : ∀ q, vwCl[ci]? = some q → q.1 = own) (hk : w[k]? = some (cO ci fs)) (hj : j < fs.length) (hn : narrow ty (wc_v G v) = wc_v G v) (hf : fits ty (wc_v G v) = true) (kk : WW p l e R s m args below meth c Q G nL n0 s0 rc rs (pc + 3) (ls) (st) (w.set k (cO ci (fs.set j v)))) : WW p l e R s m args below meth c Q G nL n0 s0 rc rs (pc) (ls) (v :: eR k :: st) (w) := fun H locs arr h1 h2 h3 h4 hP hS hL => by
  obtain ⟨C, T, N, ty0, f1, f2, f3, f4, f5, f6, f7, f8, f9⟩ := hF
  refine va_putF K.1 K.2.1 K.2.2.2.2.1 f4 ty0 f5 f6 K.2.2.2.1 K.2.2.2.2.2.1.1 hP wc_D hS k (wc_l_get hk) f1 j f2 (K.2.2.2.2.1 _ f3) (fun _ h9 => h9) f7 hin (f9.trans (hC _ f1)) f8 hn hf (by rw [List.length_map]; exact hj) hd (fun H1 locs1 hP1 _ hS1 => ?_)
  have e1 : wc_c G (cO ci (fs.set j v)) = .inr (ci, (fs.map (wc_v G)).set j (wc_v G v)) := by simp [wc_c]
  rw [← e1, wc_l_set] at hP1
  have e2 := wc_SL_set (d := cO ci (fs.set j v)) hk (by simp [wc_sl])
  have hk2 := kk H1 locs1 arr (by rw [List.length_set]; exact h1) (by rw [e2]; exact h2) (by rw [List.length_set]; exact h3) (by rw [e2]; exact h4) hP1 hS1 hL
  rw [List.length_set, e2] at hk2
  exact hk2
theorem ww_getsM (K : wc_C p s m args meth c G own cc nL n0) {idx : Nat} (hd : decode cc pc = .ok (.getstatic idx, 3)) (hw : Cond.fieldLink own idx RX6 "MOST_OF_A_TEXT" "[I" ∈ wc_B) (k : WW p l e R s m args below meth c Q G nL n0 s0 rc rs (pc + 3) (ls) (eK 0 :: st) (w)) : WW p l e R s m args below meth c Q G nL n0 s0 rc rs (pc) (ls) (st) (w) := fun H locs arr h1 h2 h3 h4 hP hS hL => va_gets K.1 K.2.1 K.2.2.2.2.2.1.2.2.2.1 hS K.2.2.2.1 (K.2.2.2.2.1 _ hw) (fun _ h9 => h9) hd (k H locs arr h1 h2 h3 h4 hP hS hL)
theorem ww_getsF (K : wc_C p s m args meth c G own cc nL n0) {idx : Nat} (hd : decode cc pc = .ok (.getstatic idx, 3)) (hw : Cond.fieldLink own idx RX6 "FACTORIALS" "[I" ∈ wc_B) (k : WW p l e R s m args below meth c Q G nL n0 s0 rc rs (pc + 3) (ls) (eK 1 :: st) (w)) : WW p l e R s m args below meth c Q G nL n0 s0 rc rs (pc) (ls) (st) (w) := fun H locs arr h1 h2 h3 h4 hP hS hL => va_gets K.1 K.2.1 K.2.2.2.2.2.1.2.2.2.2.1 hS K.2.2.2.1 (K.2.2.2.2.1 _ hw) (fun _ h9 => h9) hd (k H locs arr h1 h2 h3 h4 hP hS hL)
theorem ww_iald (K : wc_C p s m args meth c G own cc nL n0) {k n : Nat} {f : Nat → Int32} {i : Int32} (hd : decode cc pc = .ok (.iaload, 1)) (hk : w[k]? = some (cI 0 n f)) (hin : vp_in i n) (kk : WW p l e R s m args below meth c Q G nL n0 s0 rc rs (pc + 1) (ls) (eI (f i.toNatClampNeg) :: st) (w)) : WW p l e R s m args below meth c Q G nL n0 s0 rc rs (pc) (ls) (eI i :: eR k :: st) (w) := fun H locs arr h1 h2 h3 h4 hP hS hL => va_iald K.1 K.2.1 K.2.2.2.2.2.1.1 hP k 0 (wc_l_get hk) rfl hin hd (kk H locs arr h1 h2 h3 h4 hP hS hL)
theorem ww_zald (K : wc_C p s m args meth c G own cc nL n0) {k n : Nat} {f : Nat → Int32} {i : Int32} (hd : decode cc pc = .ok (.baload, 1)) (hk : w[k]? = some (cI 1 n f)) (hin : vp_in i n) (kk : WW p l e R s m args below meth c Q G nL n0 s0 rc rs (pc + 1) (ls) (eI (f i.toNatClampNeg) :: st) (w)) : WW p l e R s m args below meth c Q G nL n0 s0 rc rs (pc) (ls) (eI i :: eR k :: st) (w) := fun H locs arr h1 h2 h3 h4 hP hS hL => va_zald K.1 K.2.1 K.2.2.2.2.2.1.1 hP k 1 (wc_l_get hk) rfl hin hd (kk H locs arr h1 h2 h3 h4 hP hS hL)
theorem ww_ialdK (K : wc_C p s m args meth c G own cc nL n0) {k : Nat} {i : Int32} (hd : decode cc pc = .ok (.iaload, 1)) (hk : k < 3) (hin : vp_in i (gL G k)) (kk : WW p l e R s m args below meth c Q G nL n0 s0 rc rs (pc + 1) (ls) (eI (gF G k i.toNatClampNeg) :: st) (w)) : WW p l e R s m args below meth c Q G nL n0 s0 rc rs (pc) (ls) (eI i :: eK k :: st) (w) := fun H locs arr h1 h2 h3 h4 hP hS hL => by
  have e0 : (eI i :: eK k :: st).map (wc_v G) = .int i :: wc_k G k :: st.map (wc_v G) := rfl
  rw [wc_k_lt (by omega)] at e0
  rw [e0]
  exact va_ti K.1 K.2.1 (K.2.2.2.2.2.1.2.2.1 k hk) hS hin rfl hd (kk H locs arr h1 h2 h3 h4 hP hS hL)
theorem ww_alenK (K : wc_C p s m args meth c G own cc nL n0) {k : Nat} (hd : decode cc pc = .ok (.arraylength, 1)) (hk : k < 3) (kk : WW p l e R s m args below meth c Q G nL n0 s0 rc rs (pc + 1) (ls) (eI (Int32.ofNat (gL G k)) :: st) (w)) : WW p l e R s m args below meth c Q G nL n0 s0 rc rs (pc) (ls) (eK k :: st) (w) := fun H locs arr h1 h2 h3 h4 hP hS hL => by
  have e0 : (eK k :: st).map (wc_v G) = wc_k G k :: st.map (wc_v G) := rfl
  rw [wc_k_lt (by omega)] at e0
  rw [e0]
  exact va_tlen K.1 K.2.1 (K.2.2.2.2.2.1.2.2.1 k hk) hS rfl hd (kk H locs arr h1 h2 h3 h4 hP hS hL)
theorem ww_alen (K : wc_C p s m args meth c G own cc nL n0) {k t n : Nat} {f : Nat → Int32} (hd : decode cc pc = .ok (.arraylength, 1)) (hk : w[k]? = some (cI t n f)) (ht : t < 5) (kk : WW p l e R s m args below meth c Q G nL n0 s0 rc rs (pc + 1) (ls) (eI (Int32.ofNat n) :: st) (w)) : WW p l e R s m args below meth c Q G nL n0 s0 rc rs (pc) (ls) (eR k :: st) (w) := fun H locs arr h1 h2 h3 h4 hP hS hL => by
  have h5 : ∃ ty, (wc_tys G)[t]? = some (gY G t, ty) := by
    rcases (by omega : t = 0 ∨ t = 1 ∨ t = 2 ∨ t = 3 ∨ t = 4) with rfl | rfl | rfl | rfl | rfl <;> exact ⟨_, rfl⟩
  obtain ⟨ty, h5⟩ := h5
  exact va_alen K.1 K.2.1 K.2.2.2.2.2.1.1 hP k t (wc_l_get hk) h5 rfl hd (kk H locs arr h1 h2 h3 h4 hP hS hL)
theorem ww_alenq (K : wc_C p s m args meth c G own cc nL n0) {k t n : Nat} {f : Nat → Option Nat} (hd : decode cc pc = .ok (.arraylength, 1)) (hk : w[k]? = some (cQ t n f)) (ht : t < 5) (kk : WW p l e R s m args below meth c Q G nL n0 s0 rc rs (pc + 1) (ls) (eI (Int32.ofNat n) :: st) (w)) : WW p l e R s m args below meth c Q G nL n0 s0 rc rs (pc) (ls) (eR k :: st) (w) := fun H locs arr h1 h2 h3 h4 hP hS hL => by
  have h5 : ∃ ty, (wc_tys G)[t]? = some (gY G t, ty) := by
    rcases (by omega : t = 0 ∨ t = 1 ∨ t = 2 ∨ t = 3 ∨ t = 4) with rfl | rfl | rfl | rfl | rfl <;> exact ⟨_, rfl⟩
  obtain ⟨ty, h5⟩ := h5
  exact va_alen K.1 K.2.1 K.2.2.2.2.2.1.1 hP k t (wc_l_get hk) h5 rfl hd (kk H locs arr h1 h2 h3 h4 hP hS hL)
theorem ww_iast (K : wc_C p s m args meth c G own cc nL n0) {k n : Nat} {f : Nat → Int32} {i x : Int32} (hd : decode cc pc = .ok (.iastore, 1)) (hk : w[k]? = some (cI 0 n f)) (hin : vp_in i n) (kk : WW p l e R s m args below meth c Q G nL n0 s0 rc rs (pc + 1) (ls) (st) (w.set k (cI 0 n (upd f i.toNatClampNeg x)))) : WW p l e R s m args below meth c Q G nL n0 s0 rc rs (pc) (ls) (eI x :: eI i :: eR k :: st) (w) := fun H locs arr h1 h2 h3 h4 hP hS hL => by
  refine va_iast K.1 K.2.1 K.2.2.2.2.2.1.1 hP wc_D hS k 0 (wc_l_get hk) rfl hin hd (fun H1 locs1 hP1 _ hS1 => ?_)
  have hP2 : va_P (gD G) vwCl (wc_l G (w.set k (cI 0 n (upd f i.toNatClampNeg x)))) H1 := by rw [← wc_l_set]; exact hP1
  have e2 := wc_SL_set (d := cI 0 n (upd f i.toNatClampNeg x)) hk rfl
  have hk2 := kk H1 locs1 arr (by rw [List.length_set]; exact h1) (by rw [e2]; exact h2) (by rw [List.length_set]; exact h3) (by rw [e2]; exact h4) hP2 hS1 hL
  rw [List.length_set, e2] at hk2
  exact hk2
theorem ww_zast (K : wc_C p s m args meth c G own cc nL n0) {k n : Nat} {f : Nat → Int32} {i x : Int32} (hd : decode cc pc = .ok (.bastore, 1)) (hk : w[k]? = some (cI 1 n f)) (hin : vp_in i n) (kk : WW p l e R s m args below meth c Q G nL n0 s0 rc rs (pc + 1) (ls) (st) (w.set k (cI 1 n (upd f i.toNatClampNeg (vp_nar .boolean x))))) : WW p l e R s m args below meth c Q G nL n0 s0 rc rs (pc) (ls) (eI x :: eI i :: eR k :: st) (w) := fun H locs arr h1 h2 h3 h4 hP hS hL => by
  refine va_zast K.1 K.2.1 K.2.2.2.2.2.1.1 hP wc_D hS k 1 (wc_l_get hk) rfl hin hd (fun H1 locs1 hP1 _ hS1 => ?_)
  have hP2 : va_P (gD G) vwCl (wc_l G (w.set k (cI 1 n (upd f i.toNatClampNeg (vp_nar .boolean x))))) H1 := by rw [← wc_l_set]; exact hP1
  have e2 := wc_SL_set (d := cI 1 n (upd f i.toNatClampNeg (vp_nar .boolean x))) hk rfl
  have hk2 := kk H1 locs1 arr (by rw [List.length_set]; exact h1) (by rw [e2]; exact h2) (by rw [List.length_set]; exact h3) (by rw [e2]; exact h4) hP2 hS1 hL
  rw [List.length_set, e2] at hk2
  exact hk2
theorem ww_aald2 (K : wc_C p s m args meth c G own cc nL n0) {k n : Nat} {f : Nat → Option Nat} {i : Int32} (hd : decode cc pc = .ok (.aaload, 1)) (hk : w[k]? = some (cQ 2 n f)) (hin : vp_in i n) (kk : WW p l e R s m args below meth c Q G nL n0 s0 rc rs (pc + 1) (ls) (eO (f i.toNatClampNeg) :: st) (w)) : WW p l e R s m args below meth c Q G nL n0 s0 rc rs (pc) (ls) (eI i :: eR k :: st) (w) := fun H locs arr h1 h2 h3 h4 hP hS hL => by
  refine va_aldq K.1 K.2.1 K.2.2.2.2.2.1.1 hP k 2 (wc_l_get hk) rfl hin hd ?_
  have h9 : va_rf ((f i.toNatClampNeg).map (fun k => gZ G + k)) = wc_v G (eO (f i.toNatClampNeg)) := by cases f i.toNatClampNeg <;> rfl
  rw [h9]
  exact kk H locs arr h1 h2 h3 h4 hP hS hL
theorem ww_aast2 (K : wc_C p s m args meth c G own cc nL n0) {k n v : Nat} {f : Nat → Option Nat} {i : Int32} {vs : List EV} (hd : decode cc pc = .ok (.aastore, 1)) (hk : w[k]? = some (cQ 2 n f)) (hv : w[v]? = some (cO 2 vs)) (hin : vp_in i n) (kk : WW p l e R s m args below meth c Q G nL n0 s0 rc rs (pc + 1) (ls) (st) (w.set k (cQ 2 n (va_up f i.toNatClampNeg (some v))))) : WW p l e R s m args below meth c Q G nL n0 s0 rc rs (pc) (ls) (eR v :: eI i :: eR k :: st) (w) := fun H locs arr h1 h2 h3 h4 hP hS hL => by
  refine va_astq K.1 K.2.1 K.2.2.2.2.2.1.1 hP wc_D hS k 2 v 2 (wc_l_get hk) (r := (RX2, TX2, 14)) rfl (wc_l_get hv) rfl hin hd (fun H1 locs1 hP1 _ hS1 => ?_)
  have e1 : wc_c G (cQ 2 n (va_up f i.toNatClampNeg (some v))) = .inl (gY G 2, n, .inr (.inr (.inr (.inr (va_up (fun j => (f j).map (fun k => gZ G + k)) i.toNatClampNeg (some (gZ G + v))))))) := by
    show Sum.inl _ = Sum.inl _
    congr 1
    congr 1
    congr 1
    congr 1
    congr 1
    congr 1
    congr 1
    funext j
    by_cases hj : j = i.toNatClampNeg
    · simp [va_up, hj]
    · simp [va_up, hj]
  have hP2 : va_P (gD G) vwCl (wc_l G (w.set k (cQ 2 n (va_up f i.toNatClampNeg (some v))))) H1 := by rw [← wc_l_set, e1]; exact hP1
  have e2 := wc_SL_set (d := cQ 2 n (va_up f i.toNatClampNeg (some v))) hk rfl
  have hk2 := kk H1 locs1 arr (by rw [List.length_set]; exact h1) (by rw [e2]; exact h2) (by rw [List.length_set]; exact h3) (by rw [e2]; exact h4) hP2 hS1 hL
  rw [List.length_set, e2] at hk2
  exact hk2
theorem ww_aald3 (K : wc_C p s m args meth c G own cc nL n0) {k n : Nat} {f : Nat → Option Nat} {i : Int32} (hd : decode cc pc = .ok (.aaload, 1)) (hk : w[k]? = some (cQ 3 n f)) (hin : vp_in i n) (kk : WW p l e R s m args below meth c Q G nL n0 s0 rc rs (pc + 1) (ls) (eO (f i.toNatClampNeg) :: st) (w)) : WW p l e R s m args below meth c Q G nL n0 s0 rc rs (pc) (ls) (eI i :: eR k :: st) (w) := fun H locs arr h1 h2 h3 h4 hP hS hL => by
  refine va_aldq K.1 K.2.1 K.2.2.2.2.2.1.1 hP k 3 (wc_l_get hk) rfl hin hd ?_
  have h9 : va_rf ((f i.toNatClampNeg).map (fun k => gZ G + k)) = wc_v G (eO (f i.toNatClampNeg)) := by cases f i.toNatClampNeg <;> rfl
  rw [h9]
  exact kk H locs arr h1 h2 h3 h4 hP hS hL
theorem ww_aast3 (K : wc_C p s m args meth c G own cc nL n0) {k n v : Nat} {f : Nat → Option Nat} {i : Int32} {vs : List EV} (hd : decode cc pc = .ok (.aastore, 1)) (hk : w[k]? = some (cQ 3 n f)) (hv : w[v]? = some (cO 3 vs)) (hin : vp_in i n) (kk : WW p l e R s m args below meth c Q G nL n0 s0 rc rs (pc + 1) (ls) (st) (w.set k (cQ 3 n (va_up f i.toNatClampNeg (some v))))) : WW p l e R s m args below meth c Q G nL n0 s0 rc rs (pc) (ls) (eR v :: eI i :: eR k :: st) (w) := fun H locs arr h1 h2 h3 h4 hP hS hL => by
  refine va_astq K.1 K.2.1 K.2.2.2.2.2.1.1 hP wc_D hS k 3 v 3 (wc_l_get hk) (r := (RX3, TX3, 2)) rfl (wc_l_get hv) rfl hin hd (fun H1 locs1 hP1 _ hS1 => ?_)
  have e1 : wc_c G (cQ 3 n (va_up f i.toNatClampNeg (some v))) = .inl (gY G 3, n, .inr (.inr (.inr (.inr (va_up (fun j => (f j).map (fun k => gZ G + k)) i.toNatClampNeg (some (gZ G + v))))))) := by
    show Sum.inl _ = Sum.inl _
    congr 1
    congr 1
    congr 1
    congr 1
    congr 1
    congr 1
    congr 1
    funext j
    by_cases hj : j = i.toNatClampNeg
    · simp [va_up, hj]
    · simp [va_up, hj]
  have hP2 : va_P (gD G) vwCl (wc_l G (w.set k (cQ 3 n (va_up f i.toNatClampNeg (some v))))) H1 := by rw [← wc_l_set, e1]; exact hP1
  have e2 := wc_SL_set (d := cQ 3 n (va_up f i.toNatClampNeg (some v))) hk rfl
  have hk2 := kk H1 locs1 arr (by rw [List.length_set]; exact h1) (by rw [e2]; exact h2) (by rw [List.length_set]; exact h3) (by rw [e2]; exact h4) hP2 hS1 hL
  rw [List.length_set, e2] at hk2
  exact hk2
theorem ww_aald4 (K : wc_C p s m args meth c G own cc nL n0) {k n : Nat} {f : Nat → Option Nat} {i : Int32} (hd : decode cc pc = .ok (.aaload, 1)) (hk : w[k]? = some (cQ 4 n f)) (hin : vp_in i n) (kk : WW p l e R s m args below meth c Q G nL n0 s0 rc rs (pc + 1) (ls) (eO (f i.toNatClampNeg) :: st) (w)) : WW p l e R s m args below meth c Q G nL n0 s0 rc rs (pc) (ls) (eI i :: eR k :: st) (w) := fun H locs arr h1 h2 h3 h4 hP hS hL => by
  refine va_aldq K.1 K.2.1 K.2.2.2.2.2.1.1 hP k 4 (wc_l_get hk) rfl hin hd ?_
  have h9 : va_rf ((f i.toNatClampNeg).map (fun k => gZ G + k)) = wc_v G (eO (f i.toNatClampNeg)) := by cases f i.toNatClampNeg <;> rfl
  rw [h9]
  exact kk H locs arr h1 h2 h3 h4 hP hS hL
theorem ww_aast4 (K : wc_C p s m args meth c G own cc nL n0) {k n v : Nat} {f : Nat → Option Nat} {i : Int32} {vs : List EV} (hd : decode cc pc = .ok (.aastore, 1)) (hk : w[k]? = some (cQ 4 n f)) (hv : w[v]? = some (cO 5 vs)) (hin : vp_in i n) (kk : WW p l e R s m args below meth c Q G nL n0 s0 rc rs (pc + 1) (ls) (st) (w.set k (cQ 4 n (va_up f i.toNatClampNeg (some v))))) : WW p l e R s m args below meth c Q G nL n0 s0 rc rs (pc) (ls) (eR v :: eI i :: eR k :: st) (w) := fun H locs arr h1 h2 h3 h4 hP hS hL => by
  refine va_astq K.1 K.2.1 K.2.2.2.2.2.1.1 hP wc_D hS k 4 v 5 (wc_l_get hk) (r := (RX5, TX5, 7)) rfl (wc_l_get hv) rfl hin hd (fun H1 locs1 hP1 _ hS1 => ?_)
  have e1 : wc_c G (cQ 4 n (va_up f i.toNatClampNeg (some v))) = .inl (gY G 4, n, .inr (.inr (.inr (.inr (va_up (fun j => (f j).map (fun k => gZ G + k)) i.toNatClampNeg (some (gZ G + v))))))) := by
    show Sum.inl _ = Sum.inl _
    congr 1
    congr 1
    congr 1
    congr 1
    congr 1
    congr 1
    congr 1
    funext j
    by_cases hj : j = i.toNatClampNeg
    · simp [va_up, hj]
    · simp [va_up, hj]
  have hP2 : va_P (gD G) vwCl (wc_l G (w.set k (cQ 4 n (va_up f i.toNatClampNeg (some v))))) H1 := by rw [← wc_l_set, e1]; exact hP1
  have e2 := wc_SL_set (d := cQ 4 n (va_up f i.toNatClampNeg (some v))) hk rfl
  have hk2 := kk H1 locs1 arr (by rw [List.length_set]; exact h1) (by rw [e2]; exact h2) (by rw [List.length_set]; exact h3) (by rw [e2]; exact h4) hP2 hS1 hL
  rw [List.length_set, e2] at hk2
  exact hk2
end WC
/-! CONTRACTS -/
def wc_in0 (as : List EV) : List (Option EV) := as.flatMap (fun v => match v with
  | .inr (.inl x) => [some (.inr (.inl x)), none]
  | v => [some v])
def wc_in (nL : Nat) (as : List EV) : List (Option EV) := wc_in0 as ++ List.replicate (nL - (wc_in0 as).length) none
theorem wc_in0_len {G : EG} (as : List EV) : (lg_sl (as.map (wc_v G))).length = (wc_in0 as).length := by
  induction as with
  | nil => rfl
  | cons v t ih =>
    have h1 : wc_in0 (v :: t) = wc_in0 [v] ++ wc_in0 t := by simp [wc_in0]
    have h2 : lg_sl ((v :: t).map (wc_v G)) = lg_sl [wc_v G v] ++ lg_sl (t.map (wc_v G)) := by simp [lg_sl]
    rw [h1, h2, List.length_append, List.length_append, ih]
    congr 1
    rcases v with x | x | x | x
    · rfl
    · rfl
    · cases x <;> rfl
    · show (lg_sl [wc_k G x]).length = _
      rcases wc_k_or (G := G) (k := x) with e | ⟨a, e⟩ <;> rw [e] <;> rfl
theorem wc_in0_at {G : EG} : ∀ (as : List EV) (k i : Nat) (v : EV), (wc_in0 as)[i]? = some (some v) → (k + i, wc_v G v) ∈ lv_args k (as.map (wc_v G)) := by
  intro as
  induction as with
  | nil => intro k i v h; simp [wc_in0] at h
  | cons u t ih =>
    intro k i v h
    have h1 : wc_in0 (u :: t) = wc_in0 [u] ++ wc_in0 t := by simp [wc_in0]
    rw [h1] at h
    show (k + i, wc_v G v) ∈ (k, wc_v G u) :: lv_args (if (wc_v G u).category = 2 then k + 2 else k + 1) (t.map (wc_v G))
    by_cases hl : ∃ x : Int64, u = .inr (.inl x)
    · obtain ⟨x, rfl⟩ := hl
      match i, h with
      | 0, h => cases h; exact List.mem_cons_self
      | 1, h => cases h
      | i + 2, h =>
        have h2 : (wc_in0 t)[i]? = some (some v) := h
        have h3 := ih (k + 2) i v h2
        rw [show k + 2 + i = k + (i + 2) by omega] at h3
        exact List.mem_cons_of_mem _ h3
    · have hc : ¬ (wc_v G u).category = 2 := fun q => hl (wc_cat2 q)
      have h0 : wc_in0 [u] = [some u] := by
        rcases u with x | x | x | x
        · rfl
        · exact absurd ⟨x, rfl⟩ hl
        · rfl
        · rfl
      rw [h0] at h
      rw [if_neg hc]
      match i, h with
      | 0, h => cases h; exact List.mem_cons_self
      | i + 1, h =>
        have h2 : (wc_in0 t)[i]? = some (some v) := h
        have h3 := ih (k + 1) i v h2
        rw [show k + 1 + i = k + (i + 1) by omega] at h3
        exact List.mem_cons_of_mem _ h3
theorem wc_entry {G : EG} {nL : Nat} (as : List EV) (h : (wc_in0 as).length ≤ nL) : wc_LR G nL (wc_in nL as) ((lg_sl (as.map (wc_v G)) ++ List.replicate (nL - (lg_sl (as.map (wc_v G))).length) Slot.unset).toArray) := by
  have h1 := lv_entry (as.map (wc_v G)) (n := nL) (by rw [wc_in0_len]; exact h)
  refine ⟨h1.1, h1.2.1, fun i v hi => ?_⟩
  unfold wc_in at hi
  by_cases hl : i < (wc_in0 as).length
  · rw [List.getElem?_append_left hl] at hi
    have h2 := wc_in0_at (G := G) as 0 i v hi
    rw [Nat.zero_add] at h2
    exact h1.2.2 _ h2
  · rw [List.getElem?_append_right (by omega)] at hi
    have h3 := List.eq_of_mem_replicate (List.mem_of_getElem? hi)
    cases h3
def wc_Q (G : EG) (w : EW) (mc ms : Nat) (Qr : Option EV → EW → Prop) : Array Value → State → Outcome → State → Prop := fun _ st o t => (∃ (r : Option EV) (w' : EW), o = .returned (r.map (wc_v G)) ∧ Qr r w' ∧ w'.length = w.length + mc ∧ wc_SL w' = wc_SL w + ms ∧ va_P (gD G) vwCl (wc_l G w') t.heap) ∧ va_F (wc_A G) st t
def wc_Pc (G : EG) (as : List EV) (w : EW) : Array Value → State → Prop := fun v U => v = (as.map (wc_v G)).toArray ∧ wc_E G U ∧ U.heap.size = gZ G + w.length ∧ va_P (gD G) vwCl (wc_l G w) U.heap
def wc_ws (y : MethodName) (b : ByteArray) (nL : Nat) (ret : Option FieldType) : List Cond := .code y b nL ret :: wc_B
def wc_rm (d mc ms : Nat) : Room := { frames := d, cells := mc, slots := ms, locals := 40 * d }
/-- the method y, called with as in the world w, returns r and leaves the world w', and Qr r w'; mc cells of ms slots come -/
def Ct (G : EG) (l : Launch) (y : MethodName) (b : ByteArray) (nL : Nat) (ret : Option FieldType) (d mc ms : Nat) (as : List EV) (w : EW) (Qr : Option EV → EW → Prop) : Prop :=
  Met l y (wc_ws y b nL ret) (wc_rm d mc ms) (wc_Pc G as w) (wc_Q G w mc ms Qr) mc ms (wc_A G)
theorem Ct_of {G : EG} {l : Launch} {y : MethodName} {b : ByteArray} {nL : Nat} {ret : Option FieldType} {d mc ms : Nat} {as : List EV} {w : EW} {Qr : Option EV → EW → Prop} (hy : plainName y.cls = true) (hlen : (wc_in0 as).length ≤ nL)
    (body : ∀ (p : Program) (e : Env) (s : State) (m : MethodId) (args : Array Value) (below : List Frame) (meth : Method) (c : Code), wc_C p s m args meth c G y.cls b nL w.length → meth.sig.returnType = ret → meth.name = y.name →
      WW p l e (wc_rm d mc ms) s m args below meth c (MQ below (wc_Q G w mc ms Qr) args s mc ms (wc_A G)) G nL w.length (wc_SL w) mc ms 0 (wc_in nL as) [] w) : Ct G l y b nL ret d mc ms as w Qr := by
  refine Met.ofW (cc := b) (maxL := nL) (ret := ret) hy rfl ?_
  intro p e s m args below meth c s₁ B hml hv
  obtain ⟨rfl, hE, hsz, hP⟩ := hv
  have hts := atoms_spec (ws := wc_ws y b nL ret) B.pre
  have K : wc_C p s m (as.map (wc_v G)).toArray meth c G y.cls b nL w.length := ⟨B.exec, B.bytes, hml, findClass_of_methodNamed B.named, fun q h => hts q (List.mem_cons_of_mem _ h), hE, hsz, B.notSynchronized⟩
  have k := body p e s m _ below meth c K B.returns (name_of_methodNamed B.named B.method).1
  rw [lg_entry_eq]
  have h9 := k s.heap [] _ (Nat.le_refl _) (Nat.le_refl _) rfl rfl hP va_S.rf (wc_entry as hlen)
  rw [Nat.sub_self, Nat.sub_self] at h9
  exact h9
theorem Ct_weak {G : EG} {l : Launch} {y : MethodName} {b : ByteArray} {nL : Nat} {ret : Option FieldType} {d mc ms : Nat} {as : List EV} {w : EW} {Q1 Q2 : Option EV → EW → Prop} (h : Ct G l y b nL ret d mc ms as w Q1) (hq : ∀ r w', Q1 r w' → Q2 r w') : Ct G l y b nL ret d mc ms as w Q2 := by
  intro p e ha hcs hk s m args below hf hap hpc htr
  obtain ⟨n, o, g1, g2, g3, ⟨⟨r, w', h1, h2, h3⟩, h4⟩, h5⟩ := h p e ha hcs hk s m args below hf hap hpc htr
  exact ⟨n, o, g1, g2, g3, ⟨⟨r, w', h1, hq r w' h2, h3⟩, h4⟩, h5⟩
section WCR
variable {d mc ms : Nat} {Qr : Option EV → EW → Prop} {wE : EW}
variable {p : Program} {l : Launch} {e : Env} {R : Room} {s : State} {m : MethodId} {args : Array Value} {below : List Frame} {meth : Method} {c : Code} {Q : State → Prop} {G : EG} {own : String} {cc : ByteArray} {nL n0 s0 rc rs pc : Nat} {ls : List (Option EV)} {st : List EV} {w : EW}
theorem ww_iret (K : wc_C p s m args meth c G own cc nL wE.length) {x : Int32} (hd : decode cc pc = .ok (.ireturn, 1)) (hr : meth.sig.returnType = some .int) (hq : Qr (some (eI x)) w) : WW p l e (wc_rm d mc ms) s m args below meth c (MQ below (wc_Q G wE mc ms Qr) args s mc ms (wc_A G)) G nL wE.length (wc_SL wE) 0 0 (pc) (ls) ([eI x]) (w) := by
  intro H locs arr h1 h2 h3 h4 hP hS hL
  have hc : w.length = wE.length + mc := h3
  have hs : wc_SL w = wc_SL wE + ms := h4
  have e1 : w.length - wE.length = mc := by omega
  have e2 : wc_SL w - wc_SL wE = ms := by omega
  rw [e1, e2]
  exact W.iret K.1 K.2.1 hr  (fun t ht hW => ⟨⟨some (eI x), w, rfl, hq, hc, hs, by rw [ht]; exact hP⟩, hS.F ht⟩) hS.2.2 hd (hlocks := K.2.2.2.2.2.2.2)
theorem ww_zret (K : wc_C p s m args meth c G own cc nL wE.length) {x : Int32} (hn : narrow .boolean (.int x) = .int x) (hd : decode cc pc = .ok (.ireturn, 1)) (hr : meth.sig.returnType = some .boolean) (hq : Qr (some (eI x)) w) : WW p l e (wc_rm d mc ms) s m args below meth c (MQ below (wc_Q G wE mc ms Qr) args s mc ms (wc_A G)) G nL wE.length (wc_SL wE) 0 0 (pc) (ls) ([eI x]) (w) := by
  intro H locs arr h1 h2 h3 h4 hP hS hL
  have hc : w.length = wE.length + mc := h3
  have hs : wc_SL w = wc_SL wE + ms := h4
  have e1 : w.length - wE.length = mc := by omega
  have e2 : wc_SL w - wc_SL wE = ms := by omega
  rw [e1, e2]
  exact W.zret K.1 K.2.1 hr hn (fun t ht hW => ⟨⟨some (eI x), w, rfl, hq, hc, hs, by rw [ht]; exact hP⟩, hS.F ht⟩) hS.2.2 hd (hlocks := K.2.2.2.2.2.2.2)
theorem ww_lret (K : wc_C p s m args meth c G own cc nL wE.length) {x : Int64} (hd : decode cc pc = .ok (.lreturn, 1)) (hr : meth.sig.returnType = some .long) (hq : Qr (some (eJ x)) w) : WW p l e (wc_rm d mc ms) s m args below meth c (MQ below (wc_Q G wE mc ms Qr) args s mc ms (wc_A G)) G nL wE.length (wc_SL wE) 0 0 (pc) (ls) ([eJ x]) (w) := by
  intro H locs arr h1 h2 h3 h4 hP hS hL
  have hc : w.length = wE.length + mc := h3
  have hs : wc_SL w = wc_SL wE + ms := h4
  have e1 : w.length - wE.length = mc := by omega
  have e2 : wc_SL w - wc_SL wE = ms := by omega
  rw [e1, e2]
  exact W.lret K.1 K.2.1 hr  (fun t ht hW => ⟨⟨some (eJ x), w, rfl, hq, hc, hs, by rw [ht]; exact hP⟩, hS.F ht⟩) hS.2.2 hd (hlocks := K.2.2.2.2.2.2.2)
theorem ww_vret (K : wc_C p s m args meth c G own cc nL wE.length)  (hd : decode cc pc = .ok (.return_, 1)) (hr : meth.sig.returnType = none) (hq : Qr (none) w) : WW p l e (wc_rm d mc ms) s m args below meth c (MQ below (wc_Q G wE mc ms Qr) args s mc ms (wc_A G)) G nL wE.length (wc_SL wE) 0 0 (pc) (ls) ([]) (w) := by
  intro H locs arr h1 h2 h3 h4 hP hS hL
  have hc : w.length = wE.length + mc := h3
  have hs : wc_SL w = wc_SL wE + ms := h4
  have e1 : w.length - wE.length = mc := by omega
  have e2 : wc_SL w - wc_SL wE = ms := by omega
  rw [e1, e2]
  exact W.vret K.1 K.2.1 hr  (fun t ht hW => ⟨⟨none, w, rfl, hq, hc, hs, by rw [ht]; exact hP⟩, hS.F ht⟩) hS.2.2 hd (hlocks := K.2.2.2.2.2.2.2)
theorem ww_aretN (K : wc_C p s m args meth c G own cc nL wE.length) {rt : FieldType} (hrt : (∃ n, rt = .object n) ∨ ∃ t, rt = .array t) (hd : decode cc pc = .ok (.areturn, 1)) (hr : meth.sig.returnType = some rt) (hq : Qr (some eN) w) : WW p l e (wc_rm d mc ms) s m args below meth c (MQ below (wc_Q G wE mc ms Qr) args s mc ms (wc_A G)) G nL wE.length (wc_SL wE) 0 0 (pc) (ls) ([eN]) (w) := by
  intro H locs arr h1 h2 h3 h4 hP hS hL
  have hc : w.length = wE.length + mc := h3
  have hs : wc_SL w = wc_SL wE + ms := h4
  have e1 : w.length - wE.length = mc := by omega
  have e2 : wc_SL w - wc_SL wE = ms := by omega
  rw [e1, e2]
  exact W.aret K.1 K.2.1 hr hrt (Or.inl rfl) (fun t ht hW => ⟨⟨some eN, w, rfl, hq, hc, hs, by rw [ht]; exact hP⟩, hS.F ht⟩) hS.2.2 hd (hlocks := K.2.2.2.2.2.2.2)
theorem ww_aret (K : wc_C p s m args meth c G own cc nL wE.length) {rt : FieldType} {x : Nat} (hrt : (∃ n, rt = .object n) ∨ ∃ t, rt = .array t) (hd : decode cc pc = .ok (.areturn, 1)) (hr : meth.sig.returnType = some rt) (hq : Qr (some (eR x)) w) : WW p l e (wc_rm d mc ms) s m args below meth c (MQ below (wc_Q G wE mc ms Qr) args s mc ms (wc_A G)) G nL wE.length (wc_SL wE) 0 0 (pc) (ls) ([eR x]) (w) := by
  intro H locs arr h1 h2 h3 h4 hP hS hL
  have hc : w.length = wE.length + mc := h3
  have hs : wc_SL w = wc_SL wE + ms := h4
  have e1 : w.length - wE.length = mc := by omega
  have e2 : wc_SL w - wc_SL wE = ms := by omega
  rw [e1, e2]
  exact W.aret K.1 K.2.1 hr hrt (Or.inr ⟨_, rfl⟩) (fun t ht hW => ⟨⟨some (eR x), w, rfl, hq, hc, hs, by rw [ht]; exact hP⟩, hS.F ht⟩) hS.2.2 hd (hlocks := K.2.2.2.2.2.2.2)
end WCR
section WCC
variable {p : Program} {l : Launch} {e : Env} {R : Room} {s : State} {m : MethodId} {args : Array Value} {below : List Frame} {meth : Method} {c : Code} {Q : State → Prop} {G : EG} {own : String} {cc : ByteArray} {nL n0 s0 rc rs pc : Nat} {ls : List (Option EV)} {st : List EV} {w : EW}
theorem wc_size {T : State} (K : wc_C p s m args meth c G own cc nL n0) {H : Heap} {locs : List Loc} (h1 : n0 ≤ w.length) (hP : va_P (gD G) vwCl (wc_l G w) H) (hS : va_S (wc_A G) s.heap H locs) (hT : T.heap = H) (X : Stand p l e R s m args below meth c T locs (w.length - n0) (wc_SL w - s0)) : H.size = gZ G + w.length := by
  have h2 := X.heapSize
  rw [hT, K.2.2.2.2.2.2.1] at h2
  have h3 := hS.1
  rw [K.2.2.2.2.2.2.1] at h3
  have h4 : gZ G + w.length ≤ H.size := by
    cases hw : w[w.length - 1]? with
    | none =>
      have := List.getElem?_eq_none_iff.mp hw
      omega
    | some c0 =>
      have h5 : gZ G + (w.length - 1) < H.size := (hP (w.length - 1) _ (wc_l_get hw)).lt
      omega
  omega
theorem wc_cont {mc ms : Nat} {as : List EV} {Qr : Option EV → EW → Prop} {T : State} (K : wc_C p s m args meth c G own cc nL n0) {H : Heap} {locs : List Loc} {arr : Array Slot} {g : JFrame} (h1 : n0 ≤ w.length) (h2 : s0 ≤ wc_SL w) (h3 : w.length + (rc + mc) = n0 + R.cells) (h4 : wc_SL w + (rs + ms) = s0 + R.slots) (hS : va_S (wc_A G) s.heap H locs) (hL : wc_LR G nL ls arr) (hg : g = F0 m pc arr (g.stack)) {aa : Array Value}
    (hr : va_Run p l e R s m args below meth c H locs (w.length - n0) (wc_SL w - s0) mc ms g (st.map (wc_v G)) (wc_Q G w mc ms Qr aa) (wc_A G))
    (kk : ∀ (r : Option EV) (w' : EW), Qr r w' → w'.length = w.length + mc → wc_SL w' = wc_SL w + ms → WW p l e R s m args below meth c Q G nL n0 s0 rc rs (pc + 3) ls (r.toList ++ st) w')
    (hT : T.heap = H) (X : Stand p l e R s m args below meth c T locs (w.length - n0) (wc_SL w - s0)) : ∃ t, Steps p.tables e below (T.setTop g) t ∧ Q t := by
  obtain ⟨v, st₀, t, T', L, e0, X', hF, e1, e2, ⟨⟨r, w', hv, hq, hlen, hsl, hP'⟩, hz, hk⟩, st1⟩ := hr T hT X
  cases hv
  rw [e0] at hz hk
  have c1 : w.length - n0 + mc = w'.length - n0 := by omega
  have c2 : wc_SL w - s0 + ms = wc_SL w' - s0 := by omega
  rw [c1, c2] at X'
  have hS' : va_S (wc_A G) s.heap T'.heap (locs ++ L) := ⟨Nat.le_trans hS.1 (by rw [e1]; exact hz), fun q h3 h4 => by rw [e1, hk q (Nat.lt_of_lt_of_le h3 hS.1) h4]; exact hS.2.1 q h3 h4, fun q hq => by
    rcases List.mem_append.mp hq with h | h
    · exact hS.2.2 q h
    · exact hF q h⟩
  obtain ⟨t2, a1, b1⟩ := kk r w' hq hlen hsl T'.heap (locs ++ L) arr (by omega) (by omega) (by omega) (by omega) (by rw [e1]; exact hP') hS' hL T' rfl X'
  refine ⟨t2, st1 t2 ?_, b1⟩
  have hst : (r.toList ++ st).map (wc_v G) = (r.map (wc_v G)).toList ++ st.map (wc_v G) := by cases r <;> rfl
  rw [hst] at a1
  rw [hg]
  exact a1
theorem wc_pre {as : List EV} {mcx : Nat} (K : wc_C p s m args meth c G own cc nL n0) {H : Heap} {locs : List Loc} (hP : va_P (gD G) vwCl (wc_l G w) H) (hS : va_S (wc_A G) s.heap H locs) (hsz : H.size = gZ G + w.length) : FrameBlind (wc_Pc G as w) ∧ ∀ U : State, U.heap = H → s.WarmedH U.vm → wc_Pc G as w (as.map (wc_v G)).toArray U :=
  ⟨fun a U g mk h => ⟨h.1, wc_E_calling h.2.1 g mk a, h.2.2.1, h.2.2.2⟩, fun U hU hW => ⟨rfl, wc_E_moved K.2.2.2.2.2.1 hW (fun a h1 h2 => by rw [hU]; exact hS.2.1 a h1 h2), by rw [hU]; exact hsz, by rw [hU]; exact hP⟩⟩
def wc_rest (st : List EV) : Nat := (st.map (fun v => match v with | .inr (.inl _) => 2 | _ => 1)).sum
theorem wc_rest_ok {G : EG} (st : List EV) : ((st.map (wc_v G)).map fun v => v.category).sum = wc_rest st := by
  induction st with
  | nil => rfl
  | cons v t ih =>
    simp only [List.map_cons, List.sum_cons, wc_rest] at ih ⊢
    rw [ih]
    congr 1
    rcases v with x | x | x | x
    · rfl
    · rfl
    · cases x <;> rfl
    · show (wc_k G x).category = 1
      rcases wc_k_or (G := G) (k := x) with e | ⟨a, e⟩ <;> rw [e] <;> rfl
/-- the callee's words at a call: of a static method, of an instance method, of a constructor; whose name another class of the nest says is private (N) -/
def wk_S (own : String) (idx : Nat) (y : MethodName) (b : ByteArray) (nL : Nat) (ret : Option FieldType) (n : Nat) : Prop := (∀ w ∈ [Cond.methodLink own idx y, .static y, .initialized y.cls, .code y b nL ret], w ∈ wc_B) ∧ y.cls ≠ "java/lang/invoke/MethodHandle" ∧ y.cls ≠ "java/lang/invoke/VarHandle" ∧ (parseMethodDescriptor y.desc).map (fun d => d.parameters.length) = some n
def wk_SN (own : String) (idx : Nat) (y : MethodName) (host : String) (b : ByteArray) (nL : Nat) (ret : Option FieldType) (n : Nat) : Prop := (∀ w ∈ [Cond.static y, .initialized y.cls, .code y b nL ret], w ∈ wc_B) ∧ Cond.methodLinkNest own idx y host ∈ wc_nests ∧ y.cls ≠ "java/lang/invoke/MethodHandle" ∧ y.cls ≠ "java/lang/invoke/VarHandle" ∧ (parseMethodDescriptor y.desc).map (fun d => d.parameters.length) = some n
def wk_V (own : String) (idx : Nat) (y : MethodName) (b : ByteArray) (nL : Nat) (ret : Option FieldType) (n : Nat) : Prop := (∀ w ∈ [Cond.methodLink own idx y, .instanceMethod y, .selects y.cls y y, .initialized y.cls, .code y b nL ret], w ∈ wc_B) ∧ y.cls ≠ "java/lang/invoke/MethodHandle" ∧ y.cls ≠ "java/lang/invoke/VarHandle" ∧ (parseMethodDescriptor y.desc).map (fun d => d.parameters.length) = some n
def wk_I (own : String) (idx : Nat) (y : MethodName) (b : ByteArray) (nL : Nat) (n : Nat) : Prop := (∀ w ∈ [Cond.methodLink own idx y, .instanceMethod y, .initialized y.cls, .code y b nL none], w ∈ wc_B) ∧ y.name = "<init>" ∧ y.cls ≠ "java/lang/invoke/MethodHandle" ∧ y.cls ≠ "java/lang/invoke/VarHandle" ∧ (parseMethodDescriptor y.desc).map (fun d => d.parameters.length) = some n
def wk_IN (own : String) (idx : Nat) (y : MethodName) (host : String) (b : ByteArray) (nL : Nat) (n : Nat) : Prop := (∀ w ∈ [Cond.instanceMethod y, .initialized y.cls, .code y b nL none], w ∈ wc_B) ∧ Cond.methodLinkNest own idx y host ∈ wc_nests ∧ y.name = "<init>" ∧ y.cls ≠ "java/lang/invoke/MethodHandle" ∧ y.cls ≠ "java/lang/invoke/VarHandle" ∧ (parseMethodDescriptor y.desc).map (fun d => d.parameters.length) = some n
theorem wc_goodws {y : MethodName} {b : ByteArray} {nL : Nat} {ret : Option FieldType} (h : Cond.code y b nL ret ∈ wc_B) : GoodIn wc_B (wc_ws y b nL ret) := wc_BG (fun w hw => (List.mem_cons.mp hw).elim (fun e => by rw [e]; exact h) id)
theorem ww_callS (K : wc_C p s m args meth c G own cc nL n0) {y : MethodName} {b : ByteArray} {nL2 d mc ms idx : Nat} {ret : Option FieldType} {as : List EV} {Qr : Option EV → EW → Prop} {st0 : List EV} (hd : decode cc pc = .ok (.invokestatic idx, 3)) (hw : wk_S own idx y b nL2 ret as.length) (hC : Ct G l y b nL2 ret d mc ms as w Qr) (hst0 : st0 = as.reverse ++ st) (hR : d + 1 ≤ R.frames ∧ 8 + (nL2 + 11) + 40 * d ≤ R.locals) (hrest : wc_rest st ≤ 8) (kk : ∀ (r : Option EV) (w2 : EW), Qr r w2 → w2.length = w.length + mc → wc_SL w2 = wc_SL w + ms → WW p l e R s m args below meth c Q G nL n0 s0 rc rs (pc + 3) (ls) (r.toList ++ st) (w2)) : WW p l e R s m args below meth c Q G nL n0 s0 (rc + mc) (rs + ms) (pc) (ls) (st0) (w) := by
  intro H locs arr h1 h2 h3 h4 hP hS hL
  intro T hT X
  have hcs : w.length - n0 + mc ≤ R.cells ∧ wc_SL w - s0 + ms ≤ R.slots := ⟨by omega, by omega⟩
  obtain ⟨w1, w2, w3, w4⟩ := hw
  have hsz := wc_size K h1 hP hS hT X
  subst hst0
  refine wc_cont (as := as) K h1 h2 h3 h4 hS hL (g := F0 m pc arr ((as.reverse ++ st).map (wc_v G))) rfl (va_runS (As := as.map (wc_v G)) (n := as.length) ⟨K.1, K.2.1, K.2.2.1, K.2.2.2.1, K.2.2.2.2.1⟩ hC (va_cwS as.length K.2.2.2.2.1 (fun q hq => ?_) rfl rfl rfl ⟨w2, w3, w4⟩ ⟨hR.1, hR.2⟩) (wc_pre (mcx := 0) K hP hS hsz) rfl (by rw [List.length_map]) hL.1 (by simp) (by show 2 * 0 + _ ≤ 8; rw [wc_rest_ok]; omega) hd hcs) kk hT X
  rcases List.mem_append.mp hq with hq | hq
  · exact wc_BG w1 q (by revert hq; simp only [List.mem_cons, List.not_mem_nil, or_false]; intro hq; rcases hq with h | h | h <;> simp [h])
  · exact wc_goodws (w1 _ (by simp)) q hq
theorem ww_callSN (K : wc_C p s m args meth c G own cc nL n0) {y : MethodName} {b : ByteArray} {nL2 d mc ms idx : Nat} {ret : Option FieldType} {as : List EV} {Qr : Option EV → EW → Prop} {st0 : List EV} {host : String} (hd : decode cc pc = .ok (.invokestatic idx, 3)) (hw : wk_SN own idx y host b nL2 ret as.length) (hC : Ct G l y b nL2 ret d mc ms as w Qr) (hst0 : st0 = as.reverse ++ st) (hR : d + 1 ≤ R.frames ∧ 8 + (nL2 + 11) + 40 * d ≤ R.locals) (hrest : wc_rest st ≤ 8) (kk : ∀ (r : Option EV) (w2 : EW), Qr r w2 → w2.length = w.length + mc → wc_SL w2 = wc_SL w + ms → WW p l e R s m args below meth c Q G nL n0 s0 rc rs (pc + 3) (ls) (r.toList ++ st) (w2)) : WW p l e R s m args below meth c Q G nL n0 s0 (rc + mc) (rs + ms) (pc) (ls) (st0) (w) := by
  intro H locs arr h1 h2 h3 h4 hP hS hL
  intro T hT X
  have hcs : w.length - n0 + mc ≤ R.cells ∧ wc_SL w - s0 + ms ≤ R.slots := ⟨by omega, by omega⟩
  obtain ⟨w1, wn, w2, w3, w4⟩ := hw
  have hsz := wc_size K h1 hP hS hT X
  subst hst0
  exact wc_cont (as := as) K h1 h2 h3 h4 hS hL (g := F0 m pc arr ((as.reverse ++ st).map (wc_v G))) rfl (va_runSN (As := as.map (wc_v G)) (n := as.length) ⟨K.1, K.2.1, K.2.2.1, K.2.2.2.1, K.2.2.2.2.1⟩ hC ⟨va_cnB as.length K.2.2.2.2.1 (wc_goodws (w1 _ (by simp))) rfl rfl rfl (K.2.2.2.2.2.1.2.1 _ wn) (K.2.2.2.2.1 _ (w1 _ (by simp))) ⟨w2, w3, w4⟩ ⟨hR.1, hR.2⟩, K.2.2.2.2.1 _ (w1 _ (by simp)), trivial⟩ (wc_pre (mcx := 0) K hP hS hsz) rfl (by rw [List.length_map]) hL.1 (by simp) (by show 2 * 0 + _ ≤ 8; rw [wc_rest_ok]; omega) hd hcs) kk hT X
theorem ww_callV (K : wc_C p s m args meth c G own cc nL n0) {y : MethodName} {b : ByteArray} {nL2 d mc ms idx : Nat} {ret : Option FieldType} {as : List EV} {Qr : Option EV → EW → Prop} {st0 : List EV} {k ci : Nat} {fs : List EV} (hd : decode cc pc = .ok (.invokevirtual idx, 3)) (hw : wk_V own idx y b nL2 ret as.length) (hk : w[k]? = some (cO ci fs)) (hci : ∃ q, vwCl[ci]? = some q ∧ q.1 = y.cls) (hC : Ct G l y b nL2 ret d mc ms (eR k :: as) w Qr) (hst0 : st0 = as.reverse ++ eR k :: st) (hR : d + 1 ≤ R.frames ∧ 8 + (nL2 + 11) + 40 * d ≤ R.locals) (hrest : wc_rest st ≤ 8) (kk : ∀ (r : Option EV) (w2 : EW), Qr r w2 → w2.length = w.length + mc → wc_SL w2 = wc_SL w + ms → WW p l e R s m args below meth c Q G nL n0 s0 rc rs (pc + 3) (ls) (r.toList ++ st) (w2)) : WW p l e R s m args below meth c Q G nL n0 s0 (rc + mc) (rs + ms) (pc) (ls) (st0) (w) := by
  intro H locs arr h1 h2 h3 h4 hP hS hL
  intro T hT X
  have hcs : w.length - n0 + mc ≤ R.cells ∧ wc_SL w - s0 + ms ≤ R.slots := ⟨by omega, by omega⟩
  obtain ⟨w1, w2, w3, w4⟩ := hw
  obtain ⟨qc, hq1, hq2⟩ := hci
  have hsz := wc_size K h1 hP hS hT X
  have hpre := wc_pre (mcx := 0) (as := eR k :: as) K hP hS hsz
  subst hst0
  refine wc_cont (as := eR k :: as) K h1 h2 h3 h4 hS hL (g := F0 m pc arr ((as.reverse ++ eR k :: st).map (wc_v G))) rfl (va_runV (C := y.cls) (b := gZ G + k) (As := as.map (wc_v G)) (n := as.length) ⟨K.1, K.2.1, K.2.2.1, K.2.2.2.1, K.2.2.2.2.1⟩ hC (cwV as.length K.2.2.2.2.1 (fun q hq => ?_) rfl rfl rfl ⟨rfl, w2, w3, w4⟩ ⟨hR.1, hR.2⟩) ⟨hpre.1, by rw [← hq2]; exact va_recv K.2.2.2.2.2.1.1 hP hq1 (wc_l_get hk), hpre.2⟩ rfl (by rw [List.length_map]) hL.1 (by simp [wc_v]) (by show 2 * 0 + _ ≤ 8; rw [wc_rest_ok]; omega) hd hcs) kk hT X
  rcases List.mem_append.mp hq with hq | hq
  · exact wc_BG w1 q (by revert hq; simp only [List.mem_cons, List.not_mem_nil, or_false]; intro hq; rcases hq with h | h | h | h <;> simp [h])
  · exact wc_goodws (w1 _ (by simp)) q hq
theorem ww_callI (K : wc_C p s m args meth c G own cc nL n0) {y : MethodName} {b : ByteArray} {nL2 d mc ms idx : Nat} {as : List EV} {Qr : Option EV → EW → Prop} {st0 : List EV} {k : Nat} (hd : decode cc pc = .ok (.invokespecial idx, 3)) (hw : wk_I own idx y b nL2 as.length) (hC : Ct G l y b nL2 none d mc ms (eR k :: as) w Qr) (hst0 : st0 = as.reverse ++ eR k :: st) (hR : d + 1 ≤ R.frames ∧ 8 + (nL2 + 11) + 40 * d ≤ R.locals) (hrest : wc_rest st ≤ 8) (kk : ∀ (r : Option EV) (w2 : EW), Qr r w2 → w2.length = w.length + mc → wc_SL w2 = wc_SL w + ms → WW p l e R s m args below meth c Q G nL n0 s0 rc rs (pc + 3) (ls) (r.toList ++ st) (w2)) : WW p l e R s m args below meth c Q G nL n0 s0 (rc + mc) (rs + ms) (pc) (ls) (st0) (w) := by
  intro H locs arr h1 h2 h3 h4 hP hS hL
  intro T hT X
  have hcs : w.length - n0 + mc ≤ R.cells ∧ wc_SL w - s0 + ms ≤ R.slots := ⟨by omega, by omega⟩
  obtain ⟨w1, wi, w2, w3, w4⟩ := hw
  have hsz := wc_size K h1 hP hS hT X
  subst hst0
  exact wc_cont (as := eR k :: as) K h1 h2 h3 h4 hS hL (g := F0 m pc arr ((as.reverse ++ eR k :: st).map (wc_v G))) rfl (va_runI (b := gZ G + k) (As := as.map (wc_v G)) (n := as.length) ⟨K.1, K.2.1, K.2.2.1, K.2.2.2.1, K.2.2.2.2.1⟩ hC (cwI as.length K.2.2.2.2.1 (wc_goodws (w1 _ (by simp))) rfl rfl rfl (K.2.2.2.2.1 _ (w1 _ (by simp))) (K.2.2.2.2.1 _ (w1 _ (by simp))) (K.2.2.2.2.1 _ (w1 _ (by simp))) wi ⟨w2, w3, w4⟩ ⟨hR.1, hR.2⟩) (wc_pre (mcx := 0) (as := eR k :: as) K hP hS hsz) rfl (by rw [List.length_map]) hL.1 (by simp [wc_v]) (by show 2 * 0 + _ ≤ 8; rw [wc_rest_ok]; omega) hd hcs) kk hT X
theorem ww_callIN (K : wc_C p s m args meth c G own cc nL n0) {y : MethodName} {host : String} {b : ByteArray} {nL2 d mc ms idx : Nat} {as : List EV} {Qr : Option EV → EW → Prop} {st0 : List EV} {k : Nat} (hd : decode cc pc = .ok (.invokespecial idx, 3)) (hw : wk_IN own idx y host b nL2 as.length) (hC : Ct G l y b nL2 none d mc ms (eR k :: as) w Qr) (hst0 : st0 = as.reverse ++ eR k :: st) (hR : d + 1 ≤ R.frames ∧ 8 + (nL2 + 11) + 40 * d ≤ R.locals) (hrest : wc_rest st ≤ 8) (kk : ∀ (r : Option EV) (w2 : EW), Qr r w2 → w2.length = w.length + mc → wc_SL w2 = wc_SL w + ms → WW p l e R s m args below meth c Q G nL n0 s0 rc rs (pc + 3) (ls) (r.toList ++ st) (w2)) : WW p l e R s m args below meth c Q G nL n0 s0 (rc + mc) (rs + ms) (pc) (ls) (st0) (w) := by
  intro H locs arr h1 h2 h3 h4 hP hS hL
  intro T hT X
  have hcs : w.length - n0 + mc ≤ R.cells ∧ wc_SL w - s0 + ms ≤ R.slots := ⟨by omega, by omega⟩
  obtain ⟨w1, wn, wi, w2, w3, w4⟩ := hw
  have hsz := wc_size K h1 hP hS hT X
  subst hst0
  exact wc_cont (as := eR k :: as) K h1 h2 h3 h4 hS hL (g := F0 m pc arr ((as.reverse ++ eR k :: st).map (wc_v G))) rfl (va_runIN (b := gZ G + k) (As := as.map (wc_v G)) (n := as.length) ⟨K.1, K.2.1, K.2.2.1, K.2.2.2.1, K.2.2.2.2.1⟩ hC ⟨va_cnB as.length K.2.2.2.2.1 (wc_goodws (w1 _ (by simp))) rfl rfl rfl (K.2.2.2.2.2.1.2.1 _ wn) (K.2.2.2.2.1 _ (w1 _ (by simp))) ⟨w2, w3, w4⟩ ⟨hR.1, hR.2⟩, wi, K.2.2.2.2.1 _ (w1 _ (by simp))⟩ (wc_pre (mcx := 0) (as := eR k :: as) K hP hS hsz) rfl (by rw [List.length_map]) hL.1 (by simp [wc_v]) (by show 2 * 0 + _ ≤ 8; rw [wc_rest_ok]; omega) hd hcs) kk hT X
end WCC
