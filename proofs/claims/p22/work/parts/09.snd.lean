section XKR
variable {p : Program} {l : Launch} {e : Env} {R : Room} {s : State} {m : MethodId} {args : Array Value} {below : List Frame} {meth : Method} {c : Code} {Q : State → Prop} {G : EG} {own : String} {cc : ByteArray} {nL n0 s0 rc rs pc : Nat} {ls : List (Option EV)} {st : List EV} {w : EW}
theorem ww_astore_nK (K : wc_C p s m args meth c G own cc nL n0) {k : Fin 4} {x : Nat} {ls2 : List (Option EV)} (hd : decode cc pc = .ok (.astore_n k, 1)) (hn : (k : Nat) < nL) (hl : wc_st ls k (eK x) = ls2) (kk : WW p l e R s m args below meth c Q G nL n0 s0 rc rs (pc + 1) (ls2) (st) (w)) : WW p l e R s m args below meth c Q G nL n0 s0 rc rs (pc) (ls) (eK x :: st) (w) := fun H locs arr h1 h2 h3 h4 hP hS hL => by
  have e0 : (eK x :: st).map (wc_v G) = wc_k G x :: st.map (wc_v G) := rfl
  rw [e0]
  have kz : ∀ arr2, lv_has arr2 nL (((k : Nat), wc_k G x) :: (wc_ll G ls).filter (fun q => !(q.1 == (k : Nat)) && !(q.1 + 1 == (k : Nat) && q.2.category == 2))) → W p l e R s m args below meth c H locs (w.length - n0) (wc_SL w - s0) Q (F0 m (pc + 1) arr2 (st.map (wc_v G))) := fun arr2 ha => kk H locs arr2 h1 h2 h3 h4 hP hS (hl ▸ wc_LR_st (v := eK x) (arr := arr) ha)
  rcases wc_k_or (G := G) (k := x) with e | ⟨a, e⟩
  · rw [e] at kz ⊢; exact lv_astore_nN K.1 K.2.1 hd rfl (wc_LR_has hL) hn rfl kz
  · rw [e] at kz ⊢; exact lv_astore_n K.1 K.2.1 hd rfl (wc_LR_has hL) hn rfl kz
theorem ww_astoreK (K : wc_C p s m args meth c G own cc nL n0) {i : Nat} {x : Nat} {ls2 : List (Option EV)} (hd : decode cc pc = .ok (.astore i, 2)) (hn : i < nL) (hl : wc_st ls i (eK x) = ls2) (kk : WW p l e R s m args below meth c Q G nL n0 s0 rc rs (pc + 2) (ls2) (st) (w)) : WW p l e R s m args below meth c Q G nL n0 s0 rc rs (pc) (ls) (eK x :: st) (w) := fun H locs arr h1 h2 h3 h4 hP hS hL => by
  have e0 : (eK x :: st).map (wc_v G) = wc_k G x :: st.map (wc_v G) := rfl
  rw [e0]
  have kz : ∀ arr2, lv_has arr2 nL ((i, wc_k G x) :: (wc_ll G ls).filter (fun q => !(q.1 == (i : Nat)) && !(q.1 + 1 == (i : Nat) && q.2.category == 2))) → W p l e R s m args below meth c H locs (w.length - n0) (wc_SL w - s0) Q (F0 m (pc + 2) arr2 (st.map (wc_v G))) := fun arr2 ha => kk H locs arr2 h1 h2 h3 h4 hP hS (hl ▸ wc_LR_st (v := eK x) (arr := arr) ha)
  rcases wc_k_or (G := G) (k := x) with e | ⟨a, e⟩
  · rw [e] at kz ⊢; exact lv_astoreN K.1 K.2.1 hd (wc_LR_has hL) hn rfl kz
  · rw [e] at kz ⊢; exact lv_astore K.1 K.2.1 hd (wc_LR_has hL) hn rfl kz
theorem ww_callVK (K : wc_C p s m args meth c G own cc nL n0) {y : MethodName} {b : ByteArray} {nL2 d mc ms idx : Nat} {ret : Option FieldType} {as : List EV} {Qr : Option EV → EW → Prop} {st0 : List EV} {i : Nat} (hi : i < 18) (hd : decode cc pc = .ok (.invokevirtual idx, 3)) (hw : wk_V own idx y b nL2 ret as.length) (hci : y.cls = "java/lang/String") (hC : Ct G l y b nL2 ret d mc ms (eK (3 + i) :: as) w Qr) (hst0 : st0 = as.reverse ++ eK (3 + i) :: st) (hR : d + 1 ≤ R.frames ∧ 8 + (nL2 + 11) + 40 * d ≤ R.locals) (hrest : wc_rest st ≤ 8) (kk : ∀ (r : Option EV) (w2 : EW), Qr r w2 → w2.length = w.length + mc → wc_SL w2 = wc_SL w + ms → WW p l e R s m args below meth c Q G nL n0 s0 rc rs (pc + 3) (ls) (r.toList ++ st) (w2)) : WW p l e R s m args below meth c Q G nL n0 s0 (rc + mc) (rs + ms) (pc) (ls) (st0) (w) := by
  intro H locs arr h1 h2 h3 h4 hP hS hL
  intro T hT X
  have hcs : w.length - n0 + mc ≤ R.cells ∧ wc_SL w - s0 + ms ≤ R.slots := ⟨by omega, by omega⟩
  obtain ⟨w1, w2, w3, w4⟩ := hw
  have hsz := wc_size K h1 hP hS hT X
  have hpre := wc_pre (mcx := 0) (as := eK (3 + i) :: as) K hP hS hsz
  subst hst0
  have ek : wc_k G (3 + i) = .ref (gA G (3 + i)) := wc_k_lt (by omega)
  have e0 : (eK (3 + i) :: as).map (wc_v G) = .ref (gA G (3 + i)) :: as.map (wc_v G) := by show wc_k G (3 + i) :: _ = _; rw [ek]
  rw [e0] at hpre
  refine wc_cont (as := eK (3 + i) :: as) K h1 h2 h3 h4 hS hL (g := F0 m pc arr ((as.reverse ++ eK (3 + i) :: st).map (wc_v G))) rfl (va_runV (C := y.cls) (b := gA G (3 + i)) (As := as.map (wc_v G)) (n := as.length) ⟨K.1, K.2.1, K.2.2.1, K.2.2.2.1, K.2.2.2.2.1⟩ hC (cwV as.length K.2.2.2.2.1 (fun q hq => ?_) rfl rfl rfl ⟨rfl, w2, w3, w4⟩ ⟨hR.1, hR.2⟩) ⟨hpre.1, by rw [hci]; exact vk_recv (i := i) K.2.2.2.2.2.1.2.2.2.2.2.2.2.2.1 hi hS, hpre.2⟩ rfl (by rw [List.length_map]) hL.1 (by simp [wc_v, ek]) (by show 2 * 0 + _ ≤ 8; rw [wc_rest_ok]; omega) hd hcs) kk hT X
  rcases List.mem_append.mp hq with hq | hq
  · exact wc_BG w1 q (by revert hq; simp only [List.mem_cons, List.not_mem_nil, or_false]; intro hq; rcases hq with h | h | h | h <;> simp [h])
  · exact wc_goodws (w1 _ (by simp)) q hq
end XKR
section XKQ
variable {d mc ms : Nat} {Qr : Option EV → EW → Prop} {wE : EW}
variable {p : Program} {l : Launch} {e : Env} {R : Room} {s : State} {m : MethodId} {args : Array Value} {below : List Frame} {meth : Method} {c : Code} {Q : State → Prop} {G : EG} {own : String} {cc : ByteArray} {nL n0 s0 rc rs pc : Nat} {ls : List (Option EV)} {st : List EV} {w : EW}
theorem ww_aretK (K : wc_C p s m args meth c G own cc nL wE.length) {rt : FieldType} {x : Nat} (hrt : (∃ n, rt = .object n) ∨ ∃ t, rt = .array t) (hd : decode cc pc = .ok (.areturn, 1)) (hr : meth.sig.returnType = some rt) (hq : Qr (some (eK x)) w) : WW p l e (wc_rm d mc ms) s m args below meth c (MQ below (wc_Q G wE mc ms Qr) args s mc ms (wc_A G)) G nL wE.length (wc_SL wE) 0 0 (pc) (ls) ([eK x]) (w) := by
  intro H locs arr h1 h2 h3 h4 hP hS hL
  have hc : w.length = wE.length + mc := h3
  have hs : wc_SL w = wc_SL wE + ms := h4
  have e1 : w.length - wE.length = mc := by omega
  have e2 : wc_SL w - wc_SL wE = ms := by omega
  rw [e1, e2]
  exact W.aret K.1 K.2.1 hr hrt wc_k_or (fun t ht hW => ⟨⟨some (eK x), w, rfl, hq, hc, hs, by rw [ht]; exact hP⟩, hS.F ht⟩) hS.2.2 hd (hlocks := K.2.2.2.2.2.2.2)
theorem ww_nret (K : wc_C p s m args meth c G own cc nL wE.length) {x : Int32} {ty : FieldType} (hn : narrow ty (.int x) = .int x) (hd : decode cc pc = .ok (.ireturn, 1)) (hr : meth.sig.returnType = some ty) (hq : Qr (some (eI x)) w) : WW p l e (wc_rm d mc ms) s m args below meth c (MQ below (wc_Q G wE mc ms Qr) args s mc ms (wc_A G)) G nL wE.length (wc_SL wE) 0 0 (pc) (ls) ([eI x]) (w) := by
  intro H locs arr h1 h2 h3 h4 hP hS hL
  have hc : w.length = wE.length + mc := h3
  have hs : wc_SL w = wc_SL wE + ms := h4
  have e1 : w.length - wE.length = mc := by omega
  have e2 : wc_SL w - wc_SL wE = ms := by omega
  rw [e1, e2]
  exact W.zret K.1 K.2.1 hr hn (fun t ht hW => ⟨⟨some (eI x), w, rfl, hq, hc, hs, by rw [ht]; exact hP⟩, hS.F ht⟩) hS.2.2 hd (hlocks := K.2.2.2.2.2.2.2)
end XKQ
/-! facts of the small machine's words -/
theorem xvb_in {i : Int32} {n : Nat} (h : xvb i n = true) : vp_in i n := by
  simp only [xvb, Bool.and_eq_true, Bool.not_eq_true', decide_eq_false_iff_not, decide_eq_true_eq] at h
  intro q
  rcases q with q | q
  · exact h.1 q
  · omega
theorem xii_some {st : XS} {f : Int32 → Int32 → XS → XR} {q : Option EV × EW} (h : xii st f = some q) : ∃ x y t, st = .inl y :: .inl x :: t ∧ f x y t = some q := by
  unfold xii at h
  split at h
  · exact ⟨_, _, _, rfl, h⟩
  · cases h
theorem xi1_some {st : XS} {f : Int32 → XS → XR} {q : Option EV × EW} (h : xi1 st f = some q) : ∃ x t, st = .inl x :: t ∧ f x t = some q := by
  unfold xi1 at h
  split at h
  · exact ⟨_, _, rfl, h⟩
  · cases h
theorem xv1_some {st : XS} {f : EV → XS → XR} {q : Option EV × EW} (h : xv1 st f = some q) : ∃ x t, st = x :: t ∧ f x t = some q := by
  unfold xv1 at h
  split at h
  · exact ⟨_, _, rfl, h⟩
  · cases h
theorem xjj_some {st : XS} {f : Int64 → Int64 → XS → XR} {q : Option EV × EW} (h : xjj st f = some q) : ∃ x y t, st = .inr (.inl y) :: .inr (.inl x) :: t ∧ f x y t = some q := by
  unfold xjj at h
  split at h
  · exact ⟨_, _, _, rfl, h⟩
  · cases h
theorem xli_some {ls : XL} {i : Nat} {f : Int32 → XR} {q : Option EV × EW} (h : xli ls i f = some q) : ∃ x, ls[i]? = some (some (.inl x)) ∧ f x = some q := by
  unfold xli at h
  split at h
  · exact ⟨_, by assumption, h⟩
  · cases h
theorem xlj_some {ls : XL} {i : Nat} {f : Int64 → XR} {q : Option EV × EW} (h : xlj ls i f = some q) : ∃ x, ls[i]? = some (some (.inr (.inl x))) ∧ f x = some q := by
  unfold xlj at h
  split at h
  · exact ⟨_, by assumption, h⟩
  · cases h
theorem xla_some {ls : XL} {i : Nat} {f : Option Nat ⊕ Nat → XR} {q : Option EV × EW} (h : xla ls i f = some q) : ∃ x, ls[i]? = some (some (.inr (.inr x))) ∧ f x = some q := by
  unfold xla at h
  split at h
  · exact ⟨_, by assumption, h⟩
  · cases h
theorem xb_some {b : Bool} {f : XR} {q : Option EV × EW} (h : (bif b then f else none) = some q) : b = true ∧ f = some q := by
  cases b
  · cases h
  · exact ⟨rfl, h⟩
theorem xnj_clr {ls : XL} {i : Nat} (h : xnj ls i = true) : wc_clr ls i = ls := by
  cases i with
  | zero => rfl
  | succ j =>
    simp only [xnj] at h
    simp only [wc_clr]
    cases e : ls[j]? with
    | none => rfl
    | some o => cases o with
      | none => rfl
      | some v =>
        rcases v with x | x | x
        · rfl
        · rw [e] at h; cases h
        · rfl
theorem xls_some {nL i : Nat} {ls : XL} {v : EV} {f : XL → XR} {q : Option EV × EW} (h : xls nL ls i v f = some q) : i < nL ∧ wc_st ls i v = ls.set i (some v) ∧ f (ls.set i (some v)) = some q := by
  obtain ⟨h1, h2⟩ := xb_some h
  rw [Bool.and_eq_true] at h1
  exact ⟨by simpa using h1.1, by unfold wc_st; rw [xnj_clr h1.2], h2⟩
theorem xlt_some {nL i : Nat} {ls : XL} {v : EV} {f : XL → XR} {q : Option EV × EW} (h : xlt nL ls i v f = some q) : i + 1 < nL ∧ wc_st2 ls i v = (ls.set i (some v)).set (i + 1) none ∧ f ((ls.set i (some v)).set (i + 1) none) = some q := by
  obtain ⟨h1, h2⟩ := xb_some h
  rw [Bool.and_eq_true] at h1
  exact ⟨by simpa using h1.1, by unfold wc_st2; rw [xnj_clr h1.2], h2⟩
theorem xc1_ok {v : EV} (h : xc1 v = true) : wc_c1 v := by
  rcases v with x | x | x | x
  · trivial
  · cases h
  · trivial
  · trivial
theorem xbind {α : Type} {x : Option α} {f : α → XR} {q : Option EV × EW} (h : x.bind f = some q) : ∃ a, x = some a ∧ f a = some q := by
  cases x with
  | none => cases h
  | some a => exact ⟨a, rfl, h⟩
theorem xgi_some {w : EW} {ci j : Nat} {v : EV} {x : Int32} (h : xgi w ci j v = some x) : ∃ k fs, v = eR k ∧ w[k]? = some (cO ci fs) ∧ fs[j]? = some (eI x) := by
  unfold xgi at h
  split at h
  · split at h
    · rename_i k _ c fs hk
      cases e : Nat.beq c ci with
      | false => rw [e] at h; cases h
      | true =>
        rw [e] at h
        have e2 := Nat.eq_of_beq_eq_true e
        subst e2
        simp only [cond_true] at h
        split at h
        · cases h
          exact ⟨k, fs, rfl, hk, by assumption⟩
        · cases h
    · cases h
  · cases h
theorem xga_some {w : EW} {ci j : Nat} {v : EV} {u : Option Nat} (h : xga w ci j v = some u) : ∃ k fs, v = eR k ∧ w[k]? = some (cO ci fs) ∧ fs[j]? = some (eO u) := by
  unfold xga at h
  split at h
  · split at h
    · rename_i k _ c fs hk
      cases e : Nat.beq c ci with
      | false => rw [e] at h; cases h
      | true =>
        rw [e] at h
        have e2 := Nat.eq_of_beq_eq_true e
        subst e2
        simp only [cond_true] at h
        split at h
        · cases h
          exact ⟨k, fs, rfl, hk, by assumption⟩
        · cases h
    · cases h
  · cases h
theorem xp_some {w w2 : EW} {ci j : Nat} {v a : EV} (h : xp w ci j v a = some w2) : ∃ k fs, a = eR k ∧ w[k]? = some (cO ci fs) ∧ j < fs.length ∧ w2 = w.set k (cO ci (fs.set j v)) := by
  unfold xp at h
  split at h
  · split at h
    · rename_i k _ c fs hk
      cases e : (Nat.beq c ci && Nat.blt j fs.length) with
      | false => rw [e] at h; cases h
      | true =>
        rw [e] at h
        rw [Bool.and_eq_true] at e
        have e2 := Nat.eq_of_beq_eq_true e.1
        subst e2
        cases h
        exact ⟨k, fs, rfl, hk, by simpa using e.2, rfl⟩
    · cases h
  · cases h
theorem xok_nar {kd : Nat} {ty : FieldType} {v : EV} {G : EG} (h : xok kd v = true) (ht : xty kd ty) : narrow ty (wc_v G v) = wc_v G v ∧ fits ty (wc_v G v) = true := by
  unfold xok at h
  split at h
  · rename_i x
    rw [Bool.or_eq_true, Bool.and_eq_true] at h
    rcases h with h | h
    · have e := Nat.eq_of_beq_eq_true h
      subst e
      have e2 : ty = .int := ht
      subst e2
      exact ⟨rfl, rfl⟩
    · have e := Nat.eq_of_beq_eq_true h.1
      subst e
      have e2 : ty = .boolean := ht
      subst e2
      have h3 := h.2
      rw [Bool.or_eq_true, beq_iff_eq, beq_iff_eq] at h3
      rcases h3 with h3 | h3 <;> subst h3 <;> exact ⟨rfl, rfl⟩
  · cases h
  · rename_i u
    have e := Nat.eq_of_beq_eq_true h
    subst e
    rcases ht with ⟨n, e2⟩ | ⟨n, e2⟩ <;> subst e2 <;> cases u <;> exact ⟨rfl, rfl⟩
  · cases h
theorem xst_some {v : EV} {f : Nat → XR} {q : Option EV × EW} (h : xst v f = some q) : ∃ i, i < 18 ∧ v = eK (3 + i) ∧ f i = some q := by
  unfold xst at h
  split at h
  · rename_i c
    obtain ⟨h1, h2⟩ := xb_some h
    rw [Bool.and_eq_true] at h1
    have h3 : 3 ≤ c := by simpa using h1.1
    have h4 : c < 21 := by simpa using h1.2
    exact ⟨c - 3, by omega, by rw [Nat.add_sub_cancel' h3], h2⟩
  · cases h
/-- the script, and the rows of constants, are what the environment says -/
def xsc (G : EG) (sc : Nat × (Nat → Int32)) : Prop := ∀ c, c < 3 → gL G c = (xkx sc c).1 ∧ ∀ j, j < (xkx sc c).1 → gF G c j = (xkx sc c).2 j
theorem xdi_some {sc : Nat × (Nat → Int32)} {w : EW} {i x : Int32} {v : EV} (h : xdi sc w i v = some x) : (∃ k n f, v = eR k ∧ w[k]? = some (cI 0 n f) ∧ vp_in i n ∧ x = f i.toNatClampNeg) ∨ (∃ c, v = eK c ∧ c < 3 ∧ vp_in i (xkx sc c).1 ∧ x = (xkx sc c).2 i.toNatClampNeg) := by
  unfold xdi at h
  split at h
  · split at h
    · rename_i k _ t n f hk
      cases e : (Nat.beq t 0 && xvb i n) with
      | false => rw [e] at h; cases h
      | true =>
        rw [e] at h
        rw [Bool.and_eq_true] at e
        have e2 := Nat.eq_of_beq_eq_true e.1
        subst e2
        cases h
        exact Or.inl ⟨k, n, f, rfl, hk, xvb_in e.2, rfl⟩
    · cases h
  · rename_i c
    cases e : (Nat.blt c 3 && xvb i (xkx sc c).1) with
    | false => rw [e] at h; cases h
    | true =>
      rw [e] at h
      rw [Bool.and_eq_true] at e
      cases h
      exact Or.inr ⟨c, rfl, by simpa using e.1, xvb_in e.2, rfl⟩
  · cases h
theorem xdb_some {w : EW} {i x : Int32} {v : EV} (h : xdb w i v = some x) : (∃ k n f, v = eR k ∧ w[k]? = some (cI 1 n f) ∧ vp_in i n ∧ x = f i.toNatClampNeg) ∨ (∃ c, v = eK (40 + c) ∧ c < 18 ∧ vp_in i (wc_len.getD c 0) ∧ x = (wc_byt.getD c []).getD i.toNatClampNeg 0) := by
  unfold xdb at h
  split at h
  · split at h
    · rename_i k _ t n f hk
      cases e : (Nat.beq t 1 && xvb i n) with
      | false => rw [e] at h; cases h
      | true =>
        rw [e] at h
        rw [Bool.and_eq_true] at e
        have e2 := Nat.eq_of_beq_eq_true e.1
        subst e2
        cases h
        exact Or.inl ⟨k, n, f, rfl, hk, xvb_in e.2, rfl⟩
    · cases h
  · rename_i c
    cases e : (Nat.ble 40 c && Nat.blt c 58 && xvb i (wc_len.getD (c - 40) 0)) with
    | false => rw [e] at h; cases h
    | true =>
      rw [e] at h
      rw [Bool.and_eq_true, Bool.and_eq_true] at e
      cases h
      have h3 : 40 ≤ c := by simpa using e.1.1
      have h4 : c < 58 := by simpa using e.1.2
      exact Or.inr ⟨c - 40, by rw [Nat.add_sub_cancel' h3], by omega, xvb_in e.2, rfl⟩
  · cases h
theorem xdq_some {w : EW} {i : Int32} {v : EV} {u : Option Nat} (h : xdq w i v = some u) : ∃ k t n f, v = eR k ∧ w[k]? = some (cQ t n f) ∧ (t = 2 ∨ t = 3 ∨ t = 4) ∧ vp_in i n ∧ u = f i.toNatClampNeg := by
  unfold xdq at h
  split at h
  · split at h
    · rename_i k _ t n f hk
      cases e : (Nat.ble 2 t && Nat.ble t 4 && xvb i n) with
      | false => rw [e] at h; cases h
      | true =>
        rw [e] at h
        rw [Bool.and_eq_true, Bool.and_eq_true] at e
        cases h
        have h3 : 2 ≤ t := by simpa using e.1.1
        have h4 : t ≤ 4 := by simpa using e.1.2
        exact ⟨k, t, n, f, rfl, hk, by omega, xvb_in e.2, rfl⟩
    · cases h
  · cases h
theorem xti_some {w w2 : EW} {i x : Int32} {v : EV} (h : xti w i x v = some w2) : ∃ k n f, v = eR k ∧ w[k]? = some (cI 0 n f) ∧ vp_in i n ∧ w2 = w.set k (cI 0 n (upd f i.toNatClampNeg x)) := by
  unfold xti at h
  split at h
  · split at h
    · rename_i k _ t n f hk
      cases e : (Nat.beq t 0 && xvb i n) with
      | false => rw [e] at h; cases h
      | true =>
        rw [e] at h
        rw [Bool.and_eq_true] at e
        have e2 := Nat.eq_of_beq_eq_true e.1
        subst e2
        cases h
        exact ⟨k, n, f, rfl, hk, xvb_in e.2, rfl⟩
    · cases h
  · cases h
theorem xtb_some {w w2 : EW} {i x : Int32} {v : EV} (h : xtb w i x v = some w2) : ∃ k n f, v = eR k ∧ w[k]? = some (cI 1 n f) ∧ vp_in i n ∧ w2 = w.set k (cI 1 n (upd f i.toNatClampNeg (vp_nar .boolean x))) := by
  unfold xtb at h
  split at h
  · split at h
    · rename_i k _ t n f hk
      cases e : (Nat.beq t 1 && xvb i n) with
      | false => rw [e] at h; cases h
      | true =>
        rw [e] at h
        rw [Bool.and_eq_true] at e
        have e2 := Nat.eq_of_beq_eq_true e.1
        subst e2
        cases h
        exact ⟨k, n, f, rfl, hk, xvb_in e.2, rfl⟩
    · cases h
  · cases h
theorem xtq_some {w w2 : EW} {i : Int32} {v a : EV} (h : xtq w i v a = some w2) : ∃ k t n f q vs, a = eR k ∧ v = eR q ∧ w[k]? = some (cQ t n f) ∧ w[q]? = some (cO (xco_of t) vs) ∧ (t = 2 ∨ t = 3 ∨ t = 4) ∧ vp_in i n ∧ w2 = w.set k (cQ t n (va_up f i.toNatClampNeg (some q))) := by
  unfold xtq at h
  split at h
  · split at h
    · rename_i k _ _ t n f q hk
      split at h
      · rename_i _ c vs hq
        cases e : (Nat.ble 2 t && Nat.ble t 4 && xvb i n && Nat.beq c (xco_of t)) with
        | false => rw [e] at h; cases h
        | true =>
          rw [e] at h
          rw [Bool.and_eq_true, Bool.and_eq_true, Bool.and_eq_true] at e
          cases h
          have h3 : 2 ≤ t := by simpa using e.1.1.1
          have h4 : t ≤ 4 := by simpa using e.1.1.2
          have h5 := Nat.eq_of_beq_eq_true e.2
          subst h5
          exact ⟨k, t, n, f, q, vs, rfl, rfl, hk, hq, by omega, xvb_in e.1.2, rfl⟩
      · cases h
    · cases h
  · cases h
theorem xnn_some {sc : Nat × (Nat → Int32)} {w : EW} {v : EV} {n : Nat} (h : xnn sc w v = some n) : (∃ k t f, v = eR k ∧ w[k]? = some (cI t n f) ∧ t < 5) ∨ (∃ k t f, v = eR k ∧ w[k]? = some (cQ t n f) ∧ t < 5) ∨ (∃ c, v = eK c ∧ c < 3 ∧ n = (xkx sc c).1) ∨ (∃ c, v = eK (40 + c) ∧ c < 18 ∧ n = wc_len.getD c 0) := by
  unfold xnn at h
  split at h
  · split at h
    · rename_i k _ t n f hk
      cases e : Nat.blt t 5 with
      | false => rw [e] at h; cases h
      | true => rw [e] at h; cases h; exact Or.inl ⟨k, t, f, rfl, hk, by simpa using e⟩
    · rename_i k _ t n f hk
      cases e : Nat.blt t 5 with
      | false => rw [e] at h; cases h
      | true => rw [e] at h; cases h; exact Or.inr (Or.inl ⟨k, t, f, rfl, hk, by simpa using e⟩)
    · cases h
  · rename_i c
    cases e : Nat.blt c 3 with
    | true => rw [e] at h; cases h; exact Or.inr (Or.inr (Or.inl ⟨c, rfl, by simpa using e, rfl⟩))
    | false =>
      rw [e] at h
      simp only [cond_false] at h
      cases e2 : (Nat.ble 40 c && Nat.blt c 58) with
      | false => rw [e2] at h; cases h
      | true =>
        rw [e2] at h
        rw [Bool.and_eq_true] at e2
        have h3 : 40 ≤ c := by simpa using e2.1
        have h4 : c < 58 := by simpa using e2.2
        cases h
        exact Or.inr (Or.inr (Or.inr ⟨c - 40, by rw [Nat.add_sub_cancel' h3], by omega, rfl⟩))
  · cases h
theorem xrv_some {w : EW} {ci : Nat} {v : EV} (h : xrv w ci v = true) : ∃ k fs, v = eR k ∧ w[k]? = some (cO ci fs) := by
  unfold xrv at h
  split at h
  · split at h
    · rename_i k _ c fs hk
      have e := Nat.eq_of_beq_eq_true h
      subst e
      exact ⟨k, fs, rfl, hk⟩
    · cases h
  · cases h
section XKS
variable {p : Program} {l : Launch} {e : Env} {R : Room} {s : State} {m : MethodId} {args : Array Value} {below : List Frame} {meth : Method} {c : Code} {Q : State → Prop} {G : EG} {own : String} {cc : ByteArray} {nL n0 s0 rc rs pc : Nat} {ls : List (Option EV)} {st : List EV} {w : EW}
theorem ww_getKv (K : wc_C p s m args meth c G own cc nL n0) {i idx : Nat} (hi : i < 18) (hd : decode cc pc = .ok (.getfield idx, 3)) (hw : Cond.fieldLink own idx "java/lang/String" "value" "[B" ∈ wc_B) (k : WW p l e R s m args below meth c Q G nL n0 s0 rc rs (pc + 3) ls (eK (40 + i) :: st) w) : WW p l e R s m args below meth c Q G nL n0 s0 rc rs pc ls (eK (3 + i) :: st) w := fun H locs arr h1 h2 h3 h4 hP hS hL => by
  have e0 : (eK (3 + i) :: st).map (wc_v G) = wc_k G (3 + i) :: st.map (wc_v G) := rfl
  rw [wc_k_lt (by omega)] at e0
  rw [e0]
  have kz := k H locs arr h1 h2 h3 h4 hP hS hL
  have e1 : (eK (40 + i) :: st).map (wc_v G) = wc_k G (40 + i) :: st.map (wc_v G) := rfl
  rw [wc_k_lt (by omega)] at e1
  rw [e1] at kz
  exact vk_getf K.1 K.2.1 (K.2.2.2.2.2.1.2.2.2.2.2.2.2.2.1.1 i hi).2.2.1 hS K.2.2.2.1 (K.2.2.2.2.1 _ hw) (fun _ h9 => h9) hd kz
theorem ww_getKc (K : wc_C p s m args meth c G own cc nL n0) {i idx : Nat} (hi : i < 18) (hd : decode cc pc = .ok (.getfield idx, 3)) (hw : Cond.fieldLink own idx "java/lang/String" "coder" "B" ∈ wc_B) (k : WW p l e R s m args below meth c Q G nL n0 s0 rc rs (pc + 3) ls (eI 0 :: st) w) : WW p l e R s m args below meth c Q G nL n0 s0 rc rs pc ls (eK (3 + i) :: st) w := fun H locs arr h1 h2 h3 h4 hP hS hL => by
  have e0 : (eK (3 + i) :: st).map (wc_v G) = wc_k G (3 + i) :: st.map (wc_v G) := rfl
  rw [wc_k_lt (by omega)] at e0
  rw [e0]
  exact vk_getf K.1 K.2.1 (K.2.2.2.2.2.1.2.2.2.2.2.2.2.2.1.1 i hi).2.1 hS K.2.2.2.1 (K.2.2.2.2.1 _ hw) (fun _ h9 => h9) hd (k H locs arr h1 h2 h3 h4 hP hS hL)
theorem ww_balK (K : wc_C p s m args meth c G own cc nL n0) {i : Nat} {x : Int32} (hi : i < 18) (hd : decode cc pc = .ok (.baload, 1)) (hin : vp_in x (wc_len.getD i 0)) (k : WW p l e R s m args below meth c Q G nL n0 s0 rc rs (pc + 1) ls (eI ((wc_byt.getD i []).getD x.toNatClampNeg 0) :: st) w) : WW p l e R s m args below meth c Q G nL n0 s0 rc rs pc ls (eI x :: eK (40 + i) :: st) w := fun H locs arr h1 h2 h3 h4 hP hS hL => by
  have e0 : (eI x :: eK (40 + i) :: st).map (wc_v G) = .int x :: wc_k G (40 + i) :: st.map (wc_v G) := rfl
  rw [wc_k_lt (by omega)] at e0
  rw [e0]
  exact va_tb K.1 K.2.1 (K.2.2.2.2.2.1.2.2.2.2.2.2.2.2.1.1 i hi).2.2.2 hS hin rfl hd (k H locs arr h1 h2 h3 h4 hP hS hL)
theorem ww_alenB (K : wc_C p s m args meth c G own cc nL n0) {i : Nat} (hi : i < 18) (hd : decode cc pc = .ok (.arraylength, 1)) (k : WW p l e R s m args below meth c Q G nL n0 s0 rc rs (pc + 1) ls (eI (Int32.ofNat (wc_len.getD i 0)) :: st) w) : WW p l e R s m args below meth c Q G nL n0 s0 rc rs pc ls (eK (40 + i) :: st) w := fun H locs arr h1 h2 h3 h4 hP hS hL => by
  have e0 : (eK (40 + i) :: st).map (wc_v G) = wc_k G (40 + i) :: st.map (wc_v G) := rfl
  rw [wc_k_lt (by omega)] at e0
  rw [e0]
  exact va_tlen K.1 K.2.1 (K.2.2.2.2.2.1.2.2.2.2.2.2.2.2.1.1 i hi).2.2.2 hS rfl hd (k H locs arr h1 h2 h3 h4 hP hS hL)
theorem ww_getsC (K : wc_C p s m args meth c G own cc nL n0) {idx : Nat} (hd : decode cc pc = .ok (.getstatic idx, 3)) (hw : Cond.fieldLink own idx "java/lang/String" "COMPACT_STRINGS" "Z" ∈ wc_B) (k : WW p l e R s m args below meth c Q G nL n0 s0 rc rs (pc + 3) ls (eI 1 :: st) w) : WW p l e R s m args below meth c Q G nL n0 s0 rc rs pc ls st w := fun H locs arr h1 h2 h3 h4 hP hS hL => va_gets K.1 K.2.1 K.2.2.2.2.2.1.2.2.2.2.2.2.2.2.2.1 hS K.2.2.2.1 (K.2.2.2.2.1 _ hw) (fun _ h9 => h9) hd (k H locs arr h1 h2 h3 h4 hP hS hL)
theorem ww_getsS (K : wc_C p s m args meth c G own cc nL n0) {idx : Nat} (hd : decode cc pc = .ok (.getstatic idx, 3)) (hw : Cond.fieldLink own idx RJ3 "SIOOBE_FORMATTER" "Ljava/util/function/BiFunction;" ∈ wc_B) (k : WW p l e R s m args below meth c Q G nL n0 s0 rc rs (pc + 3) ls (eK 100 :: st) w) : WW p l e R s m args below meth c Q G nL n0 s0 rc rs pc ls st w := fun H locs arr h1 h2 h3 h4 hP hS hL => va_gets K.1 K.2.1 K.2.2.2.2.2.1.2.2.2.2.2.2.2.2.2.2.1 hS K.2.2.2.1 (K.2.2.2.2.1 _ hw) (fun _ h9 => h9) hd (k H locs arr h1 h2 h3 h4 hP hS hL)
theorem ww_getsN (K : wc_C p s m args meth c G RX1 cc nL n0) (hd : decode cc pc = .ok (.getstatic 153, 3)) (k : WW p l e R s m args below meth c Q G nL n0 s0 rc rs (pc + 3) ls (eK 0 :: st) w) : WW p l e R s m args below meth c Q G nL n0 s0 rc rs pc ls st w := fun H locs arr h1 h2 h3 h4 hP hS hL => va_getsN K.1 K.2.1 K.2.2.2.2.2.1.2.2.2.1 hS K.2.2.2.1 (va_Nw.use rfl K.2.2.2.2.2.1.2.2.2.2.2.2.2.2.2.2.2.1) (fun _ h9 => h9) hd (k H locs arr h1 h2 h3 h4 hP hS hL)
theorem wc_strs_lt : ∀ q ∈ wc_strs, q.2.2 < 18 := by decide
theorem ww_ldcS (K : wc_C p s m args meth c G RX1 cc nL n0) {idx i : Nat} {tx : String} (hd : decode cc pc = .ok (.ldc idx, 2)) (hw : (idx, tx, i) ∈ wc_strs) (k : WW p l e R s m args below meth c Q G nL n0 s0 rc rs (pc + 2) ls (eK (3 + i) :: st) w) : WW p l e R s m args below meth c Q G nL n0 s0 rc rs pc ls st w := fun H locs arr h1 h2 h3 h4 hP hS hL => by
  have hi : i < 18 := wc_strs_lt _ hw
  have kz := k H locs arr h1 h2 h3 h4 hP hS hL
  have e1 : (eK (3 + i) :: st).map (wc_v G) = wc_k G (3 + i) :: st.map (wc_v G) := rfl
  rw [wc_k_lt (by omega)] at e1
  rw [e1] at kz
  exact va_ldcS K.1 K.2.1 K.2.2.2.1 (K.2.2.2.2.2.1.2.2.2.2.2.2.2.2.2.2.2.2 _ hw) hd kz
end XKS
