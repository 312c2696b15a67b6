/-! WHAT IT ANSWERS IS WHAT THE MACHINE DOES -/
/-- what a method's end asks -/
def RT (p : Program) (l : Launch) (e : Env) (R : Room) (s : State) (m : MethodId) (args : Array Value) (below : List Frame) (meth : Method) (c : Code) (Q : State → Prop) (G : EG) (cc : ByteArray) (nL n0 s0 rt : Nat) (r : Option EV) (w2 : EW) : Prop :=
  (∀ pc ls x, r = some (.inl x) → xrt rt x = true → decode cc pc = .ok (.ireturn, 1) → WW p l e R s m args below meth c Q G nL n0 s0 0 0 pc ls [.inl x] w2) ∧
  (∀ pc ls x, r = some (.inr (.inl x)) → rt = 2 → decode cc pc = .ok (.lreturn, 1) → WW p l e R s m args below meth c Q G nL n0 s0 0 0 pc ls [.inr (.inl x)] w2) ∧
  (∀ pc ls x, r = some (.inr (.inr x)) → rt = 3 → decode cc pc = .ok (.areturn, 1) → WW p l e R s m args below meth c Q G nL n0 s0 0 0 pc ls [.inr (.inr x)] w2) ∧
  (∀ pc ls, r = none → rt = 0 → decode cc pc = .ok (.return_, 1) → WW p l e R s m args below meth c Q G nL n0 s0 0 0 pc ls [] w2)
def PX (G : EG) (l : Launch) (o : Nat) (cc : ByteArray) (nL rt : Nat) (ini : Bool) (d : Nat) (r : Option EV) (w2 : EW) (rc rs : Nat) (pc : Nat) (ls : XL) (st : XS) (w : EW) : Prop :=
  ∀ {p : Program} {e : Env} {R : Room} {s : State} {m : MethodId} {args : Array Value} {below : List Frame} {meth : Method} {c : Code} {Q : State → Prop} {n0 s0 : Nat}, wc_C p s m args meth c G (oN o) cc nL n0 → (ini = true → meth.name = "<init>") → (d + 1 ≤ R.frames ∧ 40 * (d + 1) ≤ R.locals) → RT p l e R s m args below meth c Q G cc nL n0 s0 rt r w2 → WW p l e R s m args below meth c Q G nL n0 s0 rc rs pc ls st w
def PP (G : EG) (l : Launch) (o : Nat) (cc : ByteArray) (nL rt : Nat) (ini : Bool) (d : Nat) (r : Option EV) (w2 : EW) (pc : Nat) (ls : XL) (st : XS) (w : EW) : Prop :=
  ∃ rc rs, w2.length = w.length + rc ∧ wc_SL w2 = wc_SL w + rs ∧ PX G l o cc nL rt ini d r w2 rc rs pc ls st w
section XPP
variable {G : EG} {l : Launch} {o : Nat} {cc : ByteArray} {nL rt : Nat} {ini : Bool} {d : Nat} {r : Option EV} {w2 : EW} {pc pc1 : Nat} {ls ls1 : XL} {st sta : XS} {w w1 : EW}
theorem PP.row (h : PP G l o cc nL rt ini d r w2 pc1 ls1 sta w1) {dc ds : Nat} (hl : w1.length = w.length + dc) (hs : wc_SL w1 = wc_SL w + ds) (f : ∀ {p : Program} {e : Env} {R : Room} {s : State} {m : MethodId} {args : Array Value} {below : List Frame} {meth : Method} {c : Code} {Q : State → Prop} {n0 s0 : Nat} {rc rs : Nat}, wc_C p s m args meth c G (oN o) cc nL n0 → (ini = true → meth.name = "<init>") → (d + 1 ≤ R.frames ∧ 40 * (d + 1) ≤ R.locals) → WW p l e R s m args below meth c Q G nL n0 s0 rc rs pc1 ls1 sta w1 → WW p l e R s m args below meth c Q G nL n0 s0 (rc + dc) (rs + ds) pc ls st w) : PP G l o cc nL rt ini d r w2 pc ls st w := by
  obtain ⟨rc, rs, h1, h2, k⟩ := h
  exact ⟨rc + dc, rs + ds, by omega, by omega, fun K hi hR hT => f K hi hR (k K hi hR hT)⟩
theorem PP.r0 (h : PP G l o cc nL rt ini d r w2 pc1 ls1 sta w) (f : ∀ {p : Program} {e : Env} {R : Room} {s : State} {m : MethodId} {args : Array Value} {below : List Frame} {meth : Method} {c : Code} {Q : State → Prop} {n0 s0 : Nat} {rc rs : Nat}, wc_C p s m args meth c G (oN o) cc nL n0 → (ini = true → meth.name = "<init>") → (d + 1 ≤ R.frames ∧ 40 * (d + 1) ≤ R.locals) → WW p l e R s m args below meth c Q G nL n0 s0 rc rs pc1 ls1 sta w → WW p l e R s m args below meth c Q G nL n0 s0 rc rs pc ls st w) : PP G l o cc nL rt ini d r w2 pc ls st w :=
  PP.row h (dc := 0) (ds := 0) rfl rfl f
theorem PP.rw (h : PP G l o cc nL rt ini d r w2 pc1 ls1 sta w1) (hl : w1.length = w.length) (hs : wc_SL w1 = wc_SL w) (f : ∀ {p : Program} {e : Env} {R : Room} {s : State} {m : MethodId} {args : Array Value} {below : List Frame} {meth : Method} {c : Code} {Q : State → Prop} {n0 s0 : Nat} {rc rs : Nat}, wc_C p s m args meth c G (oN o) cc nL n0 → (ini = true → meth.name = "<init>") → (d + 1 ≤ R.frames ∧ 40 * (d + 1) ≤ R.locals) → WW p l e R s m args below meth c Q G nL n0 s0 rc rs pc1 ls1 sta w1 → WW p l e R s m args below meth c Q G nL n0 s0 rc rs pc ls st w) : PP G l o cc nL rt ini d r w2 pc ls st w :=
  PP.row h (dc := 0) (ds := 0) hl hs f
theorem xset_len {k : Nat} {q : EC} : (w.set k q).length = w.length := List.length_set
set_option maxHeartbeats 4000000 in
theorem st1_sound {sc : Nat × (Nat → Int32)} (hsc : xsc G sc) {I : Jvm.ClassFile.Instr} {κ : XL → XS → EW → XR} (hd : decode cc pc = .ok (I, xln I))
    (hk : ∀ ls st w, κ ls st w = some (r, w2) → PP G l o cc nL rt ini d r w2 (pc + xln I) ls st w) (h : st1 sc o ini nL I ls st w κ = some (r, w2)) : PP G l o cc nL rt ini d r w2 pc ls st w := by
  cases I <;> (unfold st1 at h; try dsimp only at h)
  case iconst n => exact PP.r0 (hk _ _ _ h) (fun K _ _ k => ww_iconst K hd rfl k)
  case bipush n => exact PP.r0 (hk _ _ _ h) (fun K _ _ k => ww_bipush K hd rfl k)
  case sipush n => exact PP.r0 (hk _ _ _ h) (fun K _ _ k => ww_sipush K hd rfl k)
  case lconst n => exact PP.r0 (hk _ _ _ h) (fun K _ _ k => ww_lconst K hd rfl k)
  case aconst_null => exact PP.r0 (hk _ _ _ h) (fun K _ _ k => ww_null K hd k)
  case ldc k0 =>
    split at h
    · rename_i v e
      have h1 := xk_in (okL_all o) e
      exact PP.r0 (hk _ _ _ h) (fun K _ _ k => ww_ldc K hd h1 k)
    · rename_i i e
      obtain ⟨h1, tx, h2⟩ := xk_in (okL_all o) e
      exact PP.r0 (hk _ _ _ h) (fun K _ _ k => by rw [h1] at K; exact ww_ldcS K hd h2 k)
    · cases h
  case ldc_w k0 =>
    split at h
    · rename_i v e
      have h1 := xk_in (okL_all o) e
      exact PP.r0 (hk _ _ _ h) (fun K _ _ k => ww_ldcw K hd h1 k)
    · cases h
  case ldc2_w k0 =>
    split at h
    · rename_i v e
      have h1 := xk_in (okJ_all o) e
      exact PP.r0 (hk _ _ _ h) (fun K _ _ k => ww_ldc2 K hd h1 k)
    · cases h
  case iload i => have hz := xli_some h; clear h; obtain ⟨x, h1, h⟩ := hz; exact PP.r0 (hk _ _ _ h) (fun K _ _ k => ww_iload K hd h1 k)
  case iload_n i => have hz := xli_some h; clear h; obtain ⟨x, h1, h⟩ := hz; exact PP.r0 (hk _ _ _ h) (fun K _ _ k => ww_iload_n K hd h1 k)
  case lload i => have hz := xlj_some h; clear h; obtain ⟨x, h1, h⟩ := hz; exact PP.r0 (hk _ _ _ h) (fun K _ _ k => ww_lload K hd h1 k)
  case lload_n i => have hz := xlj_some h; clear h; obtain ⟨x, h1, h⟩ := hz; exact PP.r0 (hk _ _ _ h) (fun K _ _ k => ww_lload_n K hd h1 k)
  case aload i =>
    have hz := xla_some h; clear h; obtain ⟨x, h1, h⟩ := hz
    rcases x with x | x
    · cases x with
      | none => exact PP.r0 (hk _ _ _ h) (fun K _ _ k => ww_aloadN K hd h1 k)
      | some x => exact PP.r0 (hk _ _ _ h) (fun K _ _ k => ww_aload K hd h1 k)
    · exact PP.r0 (hk _ _ _ h) (fun K _ _ k => ww_aloadK K hd h1 k)
  case aload_n i =>
    have hz := xla_some h; clear h; obtain ⟨x, h1, h⟩ := hz
    rcases x with x | x
    · cases x with
      | none => exact PP.r0 (hk _ _ _ h) (fun K _ _ k => ww_aload_nN K hd h1 k)
      | some x => exact PP.r0 (hk _ _ _ h) (fun K _ _ k => ww_aload_n K hd h1 k)
    · exact PP.r0 (hk _ _ _ h) (fun K _ _ k => ww_aload_nK K hd h1 k)
  case istore i => have hz := xi1_some h; clear h; obtain ⟨x, t, rfl, h⟩ := hz; have hz := xls_some h; clear h; obtain ⟨h1, h2, h⟩ := hz; exact PP.r0 (hk _ _ _ h) (fun K _ _ k => ww_istore K hd h1 h2 k)
  case istore_n i => have hz := xi1_some h; clear h; obtain ⟨x, t, rfl, h⟩ := hz; have hz := xls_some h; clear h; obtain ⟨h1, h2, h⟩ := hz; exact PP.r0 (hk _ _ _ h) (fun K _ _ k => ww_istore_n K hd h1 h2 k)
  case astore i =>
    split at h
    · rename_i x t
      have hz := xls_some h; clear h; obtain ⟨h1, h2, h⟩ := hz
      rcases x with x | x
      · cases x with
        | none => exact PP.r0 (hk _ _ _ h) (fun K _ _ k => ww_astoreN K hd h1 h2 k)
        | some x => exact PP.r0 (hk _ _ _ h) (fun K _ _ k => ww_astore K hd h1 h2 k)
      · exact PP.r0 (hk _ _ _ h) (fun K _ _ k => ww_astoreK K hd h1 h2 k)
    · cases h
  case astore_n i =>
    split at h
    · rename_i x t
      have hz := xls_some h; clear h; obtain ⟨h1, h2, h⟩ := hz
      rcases x with x | x
      · cases x with
        | none => exact PP.r0 (hk _ _ _ h) (fun K _ _ k => ww_astore_nN K hd h1 h2 k)
        | some x => exact PP.r0 (hk _ _ _ h) (fun K _ _ k => ww_astore_n K hd h1 h2 k)
      · exact PP.r0 (hk _ _ _ h) (fun K _ _ k => ww_astore_nK K hd h1 h2 k)
    · cases h
  case lstore_n i =>
    split at h
    · have hz := xlt_some h; clear h; obtain ⟨h1, h2, h⟩ := hz
      exact PP.r0 (hk _ _ _ h) (fun K _ _ k => ww_lstore_n K hd h1 h2 k)
    · cases h
  case iinc i n => have hz := xli_some h; clear h; obtain ⟨x, h0, h⟩ := hz; have hz := xls_some h; clear h; obtain ⟨h1, h2, h⟩ := hz; exact PP.r0 (hk _ _ _ h) (fun K _ _ k => ww_iinc K hd h1 h0 h2 k)
  case iadd => have hz := xii_some h; clear h; obtain ⟨x, y, t, rfl, h⟩ := hz; exact PP.r0 (hk _ _ _ h) (fun K _ _ k => ww_iadd K hd k)
  case isub => have hz := xii_some h; clear h; obtain ⟨x, y, t, rfl, h⟩ := hz; exact PP.r0 (hk _ _ _ h) (fun K _ _ k => ww_isub K hd k)
  case imul => have hz := xii_some h; clear h; obtain ⟨x, y, t, rfl, h⟩ := hz; exact PP.r0 (hk _ _ _ h) (fun K _ _ k => ww_imul K hd k)
  case iand => have hz := xii_some h; clear h; obtain ⟨x, y, t, rfl, h⟩ := hz; exact PP.r0 (hk _ _ _ h) (fun K _ _ k => ww_iand K hd k)
  case ior => have hz := xii_some h; clear h; obtain ⟨x, y, t, rfl, h⟩ := hz; exact PP.r0 (hk _ _ _ h) (fun K _ _ k => ww_ior K hd k)
  case ixor => have hz := xii_some h; clear h; obtain ⟨x, y, t, rfl, h⟩ := hz; exact PP.r0 (hk _ _ _ h) (fun K _ _ k => ww_ixor K hd k)
  case ishl => have hz := xii_some h; clear h; obtain ⟨x, y, t, rfl, h⟩ := hz; exact PP.r0 (hk _ _ _ h) (fun K _ _ k => ww_ishl K hd k)
  case ishr => have hz := xii_some h; clear h; obtain ⟨x, y, t, rfl, h⟩ := hz; exact PP.r0 (hk _ _ _ h) (fun K _ _ k => ww_ishr K hd k)
  case iushr => have hz := xii_some h; clear h; obtain ⟨x, y, t, rfl, h⟩ := hz; exact PP.r0 (hk _ _ _ h) (fun K _ _ k => ww_iushr K hd k)
  case idiv =>
    have hz := xii_some h; clear h; obtain ⟨x, y, t, rfl, h⟩ := hz
    split at h
    · cases h
    · rename_i hne; exact PP.r0 (hk _ _ _ h) (fun K _ _ k => ww_idiv K hd hne k)
  case irem =>
    have hz := xii_some h; clear h; obtain ⟨x, y, t, rfl, h⟩ := hz
    split at h
    · cases h
    · rename_i hne; exact PP.r0 (hk _ _ _ h) (fun K _ _ k => ww_irem K hd hne k)
  case ineg => have hz := xi1_some h; clear h; obtain ⟨x, t, rfl, h⟩ := hz; exact PP.r0 (hk _ _ _ h) (fun K _ _ k => ww_ineg K hd k)
  case i2l => have hz := xi1_some h; clear h; obtain ⟨x, t, rfl, h⟩ := hz; exact PP.r0 (hk _ _ _ h) (fun K _ _ k => ww_i2l K hd k)
  case i2c => have hz := xi1_some h; clear h; obtain ⟨x, t, rfl, h⟩ := hz; exact PP.r0 (hk _ _ _ h) (fun K _ _ k => ww_i2c K hd k)
  case ladd => have hz := xjj_some h; clear h; obtain ⟨x, y, t, rfl, h⟩ := hz; exact PP.r0 (hk _ _ _ h) (fun K _ _ k => ww_ladd K hd k)
  case lsub => have hz := xjj_some h; clear h; obtain ⟨x, y, t, rfl, h⟩ := hz; exact PP.r0 (hk _ _ _ h) (fun K _ _ k => ww_lsub K hd k)
  case lmul => have hz := xjj_some h; clear h; obtain ⟨x, y, t, rfl, h⟩ := hz; exact PP.r0 (hk _ _ _ h) (fun K _ _ k => ww_lmul K hd k)
  case lcmp => have hz := xjj_some h; clear h; obtain ⟨x, y, t, rfl, h⟩ := hz; exact PP.r0 (hk _ _ _ h) (fun K _ _ k => ww_lcmp K hd k)
  case dup => have hz := xv1_some h; clear h; obtain ⟨x, t, rfl, h⟩ := hz; have hz := xb_some h; clear h; obtain ⟨h1, h⟩ := hz; exact PP.r0 (hk _ _ _ h) (fun K _ _ k => ww_dup K hd (xc1_ok h1) k)
  case pop => have hz := xv1_some h; clear h; obtain ⟨x, t, rfl, h⟩ := hz; have hz := xb_some h; clear h; obtain ⟨h1, h⟩ := hz; exact PP.r0 (hk _ _ _ h) (fun K _ _ k => ww_pop K hd (xc1_ok h1) k)
  case dup2 =>
    have hz := xv1_some h; clear h; obtain ⟨x, t, rfl, h⟩ := hz
    have hz := xv1_some h; clear h; obtain ⟨y, t, rfl, h⟩ := hz
    have hz := xb_some h; clear h; obtain ⟨h1, h⟩ := hz
    rw [Bool.and_eq_true] at h1
    exact PP.r0 (hk _ _ _ h) (fun K _ _ k => ww_dup2 K hd (xc1_ok h1.1) (xc1_ok h1.2) k)
  case getfield k0 =>
    split at h
    · rename_i ci j kd e
      have h1 := xk_in (okF_all o _) e
      have hz := xv1_some h; clear h; obtain ⟨v, t, rfl, h⟩ := hz
      cases e2 : Nat.beq kd 2 with
      | true =>
        rw [e2] at h
        have e3 := Nat.eq_of_beq_eq_true e2
        subst e3
        have hz := xbind h; clear h; obtain ⟨u, hu, h⟩ := hz
        obtain ⟨k, fs, rfl, a1, a2⟩ := xga_some hu
        exact PP.r0 (hk _ _ _ h) (fun K _ _ k => ww_get K hd h1 a1 a2 k)
      | false =>
        rw [e2] at h
        simp only [cond_false] at h
        cases e3 : Nat.ble kd 1 with
        | true =>
          rw [e3] at h
          have hz := xbind h; clear h; obtain ⟨u, hu, h⟩ := hz
          obtain ⟨k, fs, rfl, a1, a2⟩ := xgi_some hu
          have e4 := Nat.le_of_ble_eq_true e3
          have h2 : wc_fld (oN o) k0 ci j := by
            rcases (by omega : kd = 0 ∨ kd = 1) with e5 | e5 <;> subst e5 <;> exact h1
          exact PP.r0 (hk _ _ _ h) (fun K _ _ k => ww_get K hd h2 a1 a2 k)
        | false =>
          rw [e3] at h
          simp only [cond_false] at h
          cases e4 : Nat.beq kd 3 with
          | true =>
            rw [e4] at h
            have e5 := Nat.eq_of_beq_eq_true e4
            subst e5
            simp only [cond_true] at h
            have hz := xst_some h; clear h; obtain ⟨i, hi, rfl, h⟩ := hz
            exact PP.r0 (hk _ _ _ h) (fun K _ _ k => ww_getKv K hi hd h1 k)
          | false =>
            rw [e4] at h
            simp only [cond_false] at h
            have hz := xb_some h; clear h; obtain ⟨e5, h⟩ := hz
            have e6 := Nat.eq_of_beq_eq_true e5
            subst e6
            have hz := xst_some h; clear h; obtain ⟨i, hi, rfl, h⟩ := hz
            exact PP.r0 (hk _ _ _ h) (fun K _ _ k => ww_getKc K hi hd h1 k)
    · cases h
  case putfield k0 =>
    split at h
    · rename_i ci j kd fin e
      obtain ⟨ty, h1, h2, h3⟩ := xk_in (okP_all o _) e
      have hz := xv1_some h; clear h; obtain ⟨v, t, rfl, h⟩ := hz
      have hz := xv1_some h; clear h; obtain ⟨a, t, rfl, h⟩ := hz
      have hz := xb_some h; clear h; obtain ⟨g1, h⟩ := hz
      rw [Bool.and_eq_true] at g1
      have hz := xbind h; clear h; obtain ⟨w1, hw, h⟩ := hz
      obtain ⟨k, fs, rfl, a1, a2, rfl⟩ := xp_some hw
      have e2 : wc_SL (w.set k (cO ci (fs.set j v))) = wc_SL w := wc_SL_set a1 (by simp [wc_sl])
      refine PP.rw (hk _ _ _ h) xset_len e2 (fun {p e R s m args below meth c Q n0 s0 rc rs} K hi _ k => ?_)
      have n1 := xok_nar (G := G) g1.1 h2
      cases fin with
      | false => exact ww_put K hd h1 a1 a2 n1.1 n1.2 k
      | true => exact ww_putF K (hi (by simpa using g1.2)) hd h1 (h3 rfl) a1 a2 n1.1 n1.2 k
    · cases h
  case getstatic k0 =>
    split at h
    · rename_i v e
      rcases xk_in (okS_all o) e with ⟨rfl, h1⟩ | ⟨rfl, h1⟩ | ⟨rfl, h1⟩ | ⟨rfl, h1⟩ | ⟨rfl, h1, h2⟩
      · exact PP.r0 (hk _ _ _ h) (fun K _ _ k => ww_getsM K hd h1 k)
      · exact PP.r0 (hk _ _ _ h) (fun K _ _ k => ww_getsF K hd h1 k)
      · exact PP.r0 (hk _ _ _ h) (fun K _ _ k => ww_getsC K hd h1 k)
      · exact PP.r0 (hk _ _ _ h) (fun K _ _ k => ww_getsS K hd h1 k)
      · have h3 : k0 = 153 := h2
        subst h3
        exact PP.r0 (hk _ _ _ h) (fun K _ _ k => by rw [h1] at K; exact ww_getsN K hd k)
    · cases h
  case iaload =>
    have hz := xi1_some h; clear h; obtain ⟨i, t, rfl, h⟩ := hz
    have hz := xv1_some h; clear h; obtain ⟨a, t, rfl, h⟩ := hz
    have hz := xbind h; clear h; obtain ⟨x, hx, h⟩ := hz
    rcases xdi_some hx with ⟨k, n, f, rfl, a1, a2, rfl⟩ | ⟨k, rfl, a1, a2, rfl⟩
    · exact PP.r0 (hk _ _ _ h) (fun K _ _ k => ww_iald K hd a1 a2 k)
    · have h2 := hsc k a1
      have h3 : gF G k i.toNatClampNeg = (xkx sc k).2 i.toNatClampNeg := h2.2 _ (by have := a2; unfold vp_in at this; omega)
      rw [← h3] at h
      exact PP.r0 (hk _ _ _ h) (fun K _ _ k => ww_ialdK K hd a1 (by rw [h2.1]; exact a2) k)
  case baload =>
    have hz := xi1_some h; clear h; obtain ⟨i, t, rfl, h⟩ := hz
    have hz := xv1_some h; clear h; obtain ⟨a, t, rfl, h⟩ := hz
    have hz := xbind h; clear h; obtain ⟨x, hx, h⟩ := hz
    rcases xdb_some hx with ⟨k, n, f, rfl, a1, a2, rfl⟩ | ⟨k, rfl, a1, a2, rfl⟩
    · exact PP.r0 (hk _ _ _ h) (fun K _ _ k => ww_zald K hd a1 a2 k)
    · exact PP.r0 (hk _ _ _ h) (fun K _ _ k => ww_balK K a1 hd a2 k)
  case aaload =>
    have hz := xi1_some h; clear h; obtain ⟨i, t, rfl, h⟩ := hz
    have hz := xv1_some h; clear h; obtain ⟨a, t, rfl, h⟩ := hz
    have hz := xbind h; clear h; obtain ⟨x, hx, h⟩ := hz
    obtain ⟨k, t, n, f, rfl, a1, a2, a3, rfl⟩ := xdq_some hx
    rcases a2 with rfl | rfl | rfl
    · exact PP.r0 (hk _ _ _ h) (fun K _ _ k => ww_aald2 K hd a1 a3 k)
    · exact PP.r0 (hk _ _ _ h) (fun K _ _ k => ww_aald3 K hd a1 a3 k)
    · exact PP.r0 (hk _ _ _ h) (fun K _ _ k => ww_aald4 K hd a1 a3 k)
  case iastore =>
    have hz := xii_some h; clear h; obtain ⟨i, x, t, rfl, h⟩ := hz
    have hz := xv1_some h; clear h; obtain ⟨a, t, rfl, h⟩ := hz
    have hz := xbind h; clear h; obtain ⟨w1, hw, h⟩ := hz
    obtain ⟨k, n, f, rfl, a1, a2, rfl⟩ := xti_some hw
    exact PP.rw (hk _ _ _ h) xset_len (wc_SL_set a1 rfl) (fun K _ _ k => ww_iast K hd a1 a2 k)
  case bastore =>
    have hz := xii_some h; clear h; obtain ⟨i, x, t, rfl, h⟩ := hz
    have hz := xv1_some h; clear h; obtain ⟨a, t, rfl, h⟩ := hz
    have hz := xbind h; clear h; obtain ⟨w1, hw, h⟩ := hz
    obtain ⟨k, n, f, rfl, a1, a2, rfl⟩ := xtb_some hw
    exact PP.rw (hk _ _ _ h) xset_len (wc_SL_set a1 rfl) (fun K _ _ k => ww_zast K hd a1 a2 k)
  case aastore =>
    have hz := xv1_some h; clear h; obtain ⟨v, t, rfl, h⟩ := hz
    have hz := xi1_some h; clear h; obtain ⟨i, t, rfl, h⟩ := hz
    have hz := xv1_some h; clear h; obtain ⟨a, t, rfl, h⟩ := hz
    have hz := xbind h; clear h; obtain ⟨w1, hw, h⟩ := hz
    obtain ⟨k, t, n, f, q, vs, rfl, rfl, a1, a2, a3, a4, rfl⟩ := xtq_some hw
    rcases a3 with rfl | rfl | rfl
    · exact PP.rw (hk _ _ _ h) xset_len (wc_SL_set a1 rfl) (fun K _ _ k => ww_aast2 K hd a1 a2 a4 k)
    · exact PP.rw (hk _ _ _ h) xset_len (wc_SL_set a1 rfl) (fun K _ _ k => ww_aast3 K hd a1 a2 a4 k)
    · exact PP.rw (hk _ _ _ h) xset_len (wc_SL_set a1 rfl) (fun K _ _ k => ww_aast4 K hd a1 a2 a4 k)
  case arraylength =>
    have hz := xv1_some h; clear h; obtain ⟨a, t, rfl, h⟩ := hz
    have hz := xbind h; clear h; obtain ⟨n, hn, h⟩ := hz
    rcases xnn_some hn with ⟨k, t, f, rfl, a1, a2⟩ | ⟨k, t, f, rfl, a1, a2⟩ | ⟨k, rfl, a1, rfl⟩ | ⟨k, rfl, a1, rfl⟩
    · exact PP.r0 (hk _ _ _ h) (fun K _ _ k => ww_alen K hd a1 a2 k)
    · exact PP.r0 (hk _ _ _ h) (fun K _ _ k => ww_alenq K hd a1 a2 k)
    · rw [← (hsc k a1).1] at h
      exact PP.r0 (hk _ _ _ h) (fun K _ _ k => ww_alenK K hd a1 k)
    · exact PP.r0 (hk _ _ _ h) (fun K _ _ k => ww_alenB K a1 hd k)
  case new k0 =>
    split at h
    · rename_i ci fs e
      have h1 := xk_in (okN_all o) e
      exact PP.row (hk _ _ _ h) (by simp) wc_SL_push (fun K _ _ k => ww_new K hd h1 k)
    · cases h
  case newarray at0 =>
    cases at0
    case int =>
      have hz := xi1_some h; clear h; obtain ⟨n, t, rfl, h⟩ := hz
      split at h
      · cases h
      · rename_i hn
        have hz := xb_some h; clear h; obtain ⟨h1, h⟩ := hz
        exact PP.row (hk _ _ _ h) (by simp) wc_SL_push (fun K _ _ k => ww_newI K hd la_int hn rfl (Nat.le_of_ble_eq_true h1) k)
    case boolean =>
      have hz := xi1_some h; clear h; obtain ⟨n, t, rfl, h⟩ := hz
      split at h
      · cases h
      · rename_i hn
        have hz := xb_some h; clear h; obtain ⟨h1, h⟩ := hz
        exact PP.row (hk _ _ _ h) (by simp) wc_SL_push (fun K _ _ k => ww_newZ K hd la_bool hn rfl (Nat.le_of_ble_eq_true h1) k)
    all_goals cases h
  case anewarray k0 =>
    split at h
    · rename_i t0 e
      obtain ⟨h1, h2, h3⟩ := xk_in (okQ_all o) e
      have hz := xi1_some h; clear h; obtain ⟨n, t, rfl, h⟩ := hz
      split at h
      · cases h
      · rename_i hn
        have hz := xb_some h; clear h; obtain ⟨g1, h⟩ := hz
        have h2 : 2 ≤ t0 := h2
        have h3 : t0 ≤ 4 := h3
        rcases (by omega : t0 = 2 ∨ t0 = 3 ∨ t0 = 4) with rfl | rfl | rfl
        · exact PP.row (hk _ _ _ h) (by simp) wc_SL_push (fun K _ _ k => ww_newq2 K hd h1 hn rfl (Nat.le_of_ble_eq_true g1) k)
        · exact PP.row (hk _ _ _ h) (by simp) wc_SL_push (fun K _ _ k => ww_newq3 K hd h1 hn rfl (Nat.le_of_ble_eq_true g1) k)
        · exact PP.row (hk _ _ _ h) (by simp) wc_SL_push (fun K _ _ k => ww_newq4 K hd h1 hn rfl (Nat.le_of_ble_eq_true g1) k)
    · cases h
  all_goals cases h
end XPP
