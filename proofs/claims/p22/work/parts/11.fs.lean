section XPF
variable {G : EG} {l : Launch} {o : Nat} {cc : ByteArray} {nL rt : Nat} {ini : Bool} {d : Nat} {r : Option EV} {w2 : EW} {pc : Nat} {ls : XL} {st : XS} {w : EW}
def xsw : Jvm.ClassFile.Instr → Bool
  | .tableswitch _ _ _ _ | .lookupswitch _ _ => true
  | _ => false
theorem xjn_some {p : Nat} {off : Int} {f : Nat → XR} {y : Option EV × EW} (h : xjn p off f = some y) : ∃ t : Nat, (p : Int) + off = (t : Int) ∧ f t = some y := by
  unfold xjn at h
  split at h
  · rename_i t e
    exact ⟨t, e, h⟩
  · cases h
theorem xj_some {f b : Nat → XL → XS → EW → XR} {p t : Nat} (hf : ∀ t ls st w, f t ls st w = some (r, w2) → PP G l o cc nL rt ini d r w2 t ls st w) (hb : ∀ t ls st w, b t ls st w = some (r, w2) → PP G l o cc nL rt ini d r w2 t ls st w) (h : xj f b p t ls st w = some (r, w2)) : PP G l o cc nL rt ini d r w2 t ls st w := by
  unfold xj at h
  cases e2 : Nat.blt p t with
  | true => rw [e2] at h; exact hf _ _ _ _ h
  | false => rw [e2] at h; exact hb _ _ _ _ h
theorem xcr_some {rk : Nat} {q : XR} {κ : XS → EW → XR} {y : Option EV × EW} (h : xcr rk q st κ = some y) : ∃ v w3, q = some (v, w3) ∧ κ (v.toList ++ st) w3 = some y := by
  unfold xcr at h
  cases e1 : Nat.beq rk 0 with
  | true =>
    rw [e1] at h
    simp only [cond_true] at h
    unfold xcv at h
    split at h
    · exact ⟨_, _, rfl, h⟩
    · cases h
  | false =>
    rw [e1] at h
    simp only [cond_false] at h
    cases e2 : Nat.beq rk 1 with
    | true =>
      rw [e2] at h
      simp only [cond_true] at h
      unfold xci at h
      split at h
      · exact ⟨_, _, rfl, h⟩
      · cases h
    | false =>
      rw [e2] at h
      simp only [cond_false] at h
      cases e3 : Nat.beq rk 2 with
      | true =>
        rw [e3] at h
        simp only [cond_true] at h
        unfold xcj at h
        split at h
        · exact ⟨_, _, rfl, h⟩
        · cases h
      | false =>
        rw [e3] at h
        simp only [cond_false] at h
        cases e4 : Nat.beq rk 3 with
        | true =>
          rw [e4] at h
          simp only [cond_true] at h
          unfold xco at h
          split at h
          · exact ⟨_, _, rfl, h⟩
          · cases h
        | false =>
          rw [e4] at h
          simp only [cond_false] at h
          unfold xck at h
          split at h
          · exact ⟨_, _, rfl, h⟩
          · cases h
theorem xak_some {n : Nat} {f : List EV → XS → XR} {y : Option EV × EW} (h : xak n st f = some y) : ∃ as t, as.length = n ∧ st = as.reverse ++ t ∧ wc_rest t ≤ 8 ∧ f as t = some y := by
  have hz := xb_some h; clear h; obtain ⟨h1, h⟩ := hz
  rw [Bool.and_eq_true] at h1
  have h2 := Nat.le_of_ble_eq_true h1.1
  refine ⟨(st.take n).reverse, st.drop n, by simp only [List.length_reverse, List.length_take]; exact Nat.min_eq_left h2, by simp, Nat.le_of_ble_eq_true h1.2, h⟩
/-- what is known of the methods that are called: each answers as the machine does -/
def xI (G : EG) (l : Launch) (d : Nat) (i : Nat → List EV → EW → XR) : Prop := ∀ (y : Nat) (as : List EV) (w : EW) (r : Option EV) (w2 : EW), i y as w = some (r, w2) → ∃ mc ms, w2.length = w.length + mc ∧ wc_SL w2 = wc_SL w + ms ∧ Ct G l (yq y).1 (yq y).2.1 (yq y).2.2.1 (yq y).2.2.2 d mc ms as w (fun r' w' => r' = r ∧ w' = w2)
theorem wc_rest_cons {v : EV} {t : XS} : wc_rest t ≤ wc_rest (v :: t) := by
  unfold wc_rest
  rw [List.map_cons, List.sum_cons]
  omega
theorem xcS_sound {i : Nat → List EV → EW → XR} (hi : xI G l d i) {k0 n0' : Nat} {q : Nat × Nat × Nat × Nat × Nat} (hq : okC o (k0, q)) (hd : decode cc pc = .ok (.invokestatic k0, n0')) (hn : n0' = 3) {κ : XS → EW → XR} (hk : ∀ st w, κ st w = some (r, w2) → PP G l o cc nL rt ini d r w2 (pc + 3) ls st w) (h : xcS i q st w κ = some (r, w2)) : PP G l o cc nL rt ini d r w2 pc ls st w := by
  subst hn
  obtain ⟨kd, y, n, rk, ci⟩ := q
  unfold xcS at h
  dsimp only at h
  cases e : Nat.ble kd 1 with
  | true =>
    rw [e] at h
    simp only [cond_true] at h
    have hz := xak_some h; clear h; obtain ⟨as, t, rfl, rfl, h3, h⟩ := hz
    have hz := xcr_some h; clear h; obtain ⟨v, w3, h4, h⟩ := hz
    obtain ⟨mc, ms, l1, l2, hC⟩ := hi _ _ _ _ _ h4
    have e2 := Nat.le_of_ble_eq_true e
    refine PP.row (hk _ _ h) l1 l2 (fun {p e R s m args below meth c Q n0 s0 rc rs} K _ hR k => ?_)
    rcases (by omega : kd = 0 ∨ kd = 1) with rfl | rfl
    · have h6 : (yq y).2.2.1 ≤ 21 := hq.2
      exact ww_callS K hd hq.1 hC rfl ⟨hR.1, by omega⟩ h3 (fun r' w' hh _ _ => by obtain ⟨rfl, rfl⟩ := hh; exact k)
    · obtain ⟨⟨host, h5⟩, h6⟩ := hq
      have h6 : (yq y).2.2.1 ≤ 21 := h6
      exact ww_callSN K hd h5 hC rfl ⟨hR.1, by omega⟩ h3 (fun r' w' hh _ _ => by obtain ⟨rfl, rfl⟩ := hh; exact k)
  | false =>
    rw [e] at h
    simp only [cond_false] at h
    have hz := xb_some h; clear h; obtain ⟨h0, h⟩ := hz
    have h0 := Nat.le_of_ble_eq_true h0
    cases e1 : Nat.beq kd 7 with
    | true =>
      rw [e1] at h
      have e2 := Nat.eq_of_beq_eq_true e1
      subst e2
      have hz := xii_some h; clear h; obtain ⟨x, z, t, rfl, h⟩ := hz
      have h0 := Nat.le_trans wc_rest_cons (Nat.le_trans wc_rest_cons h0)
      exact PP.r0 (hk _ _ h) (fun K _ hR k => ww_mmin K hd hq ⟨by omega, by omega⟩ k)
    | false =>
      rw [e1] at h
      simp only [cond_false] at h
      cases e1 : Nat.beq kd 8 with
      | true =>
        rw [e1] at h
        have e2 := Nat.eq_of_beq_eq_true e1
        subst e2
        have hz := xii_some h; clear h; obtain ⟨x, z, t, rfl, h⟩ := hz
        have h0 := Nat.le_trans wc_rest_cons (Nat.le_trans wc_rest_cons h0)
        exact PP.r0 (hk _ _ h) (fun K _ hR k => ww_mmax K hd hq ⟨by omega, by omega⟩ k)
      | false =>
        rw [e1] at h
        simp only [cond_false] at h
        cases e1 : Nat.beq kd 9 with
        | true =>
          rw [e1] at h
          have e2 := Nat.eq_of_beq_eq_true e1
          subst e2
          have hz := xi1_some h; clear h; obtain ⟨x, t, rfl, h⟩ := hz
          have h0 := Nat.le_trans wc_rest_cons h0
          exact PP.r0 (hk _ _ h) (fun K _ hR k => ww_mabs K hd hq ⟨by omega, by omega⟩ k)
        | false =>
          rw [e1] at h
          simp only [cond_false] at h
          have hz := xb_some h; clear h; obtain ⟨e1, h⟩ := hz
          have e2 := Nat.eq_of_beq_eq_true e1
          subst e2
          split at h
          · rename_i n dp k1 sp k0' t
            split at h
            · rename_i t0 n0 f t1 n1 g g0 g1
              split at h
              · cases h
              · rename_i g2
                have hz := xb_some h; clear h; obtain ⟨g3, h⟩ := hz
                rw [Bool.and_eq_true, Bool.and_eq_true, Bool.and_eq_true] at g3
                obtain ⟨⟨⟨a1, a2⟩, a3⟩, a4⟩ := g3
                have a1 := Nat.eq_of_beq_eq_true a1
                have a2 := Nat.eq_of_beq_eq_true a2
                subst a1; subst a2
                have h0 := Nat.le_trans wc_rest_cons (Nat.le_trans wc_rest_cons (Nat.le_trans wc_rest_cons (Nat.le_trans wc_rest_cons (Nat.le_trans wc_rest_cons h0))))
                have b1 : nativeFrameWords "java/lang/System" "arraycopy" 5 + 11 ≤ 32 := Nat.le_of_ble_eq_true rfl
                exact PP.rw (hk _ _ h) xset_len (wc_SL_set g1 rfl) (fun K _ hR k => ww_copy K hd hq g0 g1 (fun q => g2 (Or.inl q)) (fun q => g2 (Or.inr (Or.inl q))) (fun q => g2 (Or.inr (Or.inr q))) (Nat.le_of_ble_eq_true a3) (Nat.le_of_ble_eq_true a4) ⟨by omega, by omega⟩ k)
            · cases h
          · cases h
theorem xcV_sound {i : Nat → List EV → EW → XR} (hi : xI G l d i) {k0 n0' : Nat} {q : Nat × Nat × Nat × Nat × Nat} (hq : okC o (k0, q)) (hd : decode cc pc = .ok (.invokevirtual k0, n0')) (hn : n0' = 3) {κ : XS → EW → XR} (hk : ∀ st w, κ st w = some (r, w2) → PP G l o cc nL rt ini d r w2 (pc + 3) ls st w) (h : xcV i q st w κ = some (r, w2)) : PP G l o cc nL rt ini d r w2 pc ls st w := by
  subst hn
  obtain ⟨kd, y, n, rk, ci⟩ := q
  unfold xcV at h
  dsimp only at h
  cases e : Nat.beq kd 2 with
  | true =>
    rw [e] at h
    have e2 := Nat.eq_of_beq_eq_true e
    subst e2
    simp only [cond_true] at h
    have hz := xak_some h; clear h; obtain ⟨as, t, rfl, rfl, h3, h⟩ := hz
    have hz := xv1_some h; clear h; obtain ⟨a, t, rfl, h⟩ := hz
    have hz := xb_some h; clear h; obtain ⟨h4, h⟩ := hz
    obtain ⟨k1, fs, rfl, h4b⟩ := xrv_some h4
    have hz := xcr_some h; clear h; obtain ⟨v, w3, h5, h⟩ := hz
    obtain ⟨mc, ms, l1, l2, hC⟩ := hi _ _ _ _ _ h5
    obtain ⟨g1, g2, g3⟩ := hq
    have g2 : (yq y).2.2.1 ≤ 21 := g2
    exact PP.row (hk _ _ h) l1 l2 (fun K _ hR k => ww_callV K hd g1 h4b g3 hC rfl ⟨hR.1, by omega⟩ (Nat.le_trans wc_rest_cons h3) (fun r' w' hh _ _ => by obtain ⟨rfl, rfl⟩ := hh; exact k))
  | false =>
    rw [e] at h
    simp only [cond_false] at h
    have hz := xb_some h; clear h; obtain ⟨e1, h⟩ := hz
    have e2 := Nat.eq_of_beq_eq_true e1
    subst e2
    have hz := xak_some h; clear h; obtain ⟨as, t, rfl, rfl, h3, h⟩ := hz
    have hz := xv1_some h; clear h; obtain ⟨a, t, rfl, h⟩ := hz
    have hz := xst_some h; clear h; obtain ⟨c0, hc0, rfl, h⟩ := hz
    have hz := xcr_some h; clear h; obtain ⟨v, w3, h5, h⟩ := hz
    obtain ⟨mc, ms, l1, l2, hC⟩ := hi _ _ _ _ _ h5
    obtain ⟨g1, g2, g3⟩ := hq
    have g2 : (yq y).2.2.1 ≤ 21 := g2
    exact PP.row (hk _ _ h) l1 l2 (fun K _ hR k => ww_callVK (i := c0) K hc0 hd g1 g3 hC rfl ⟨hR.1, by omega⟩ (Nat.le_trans wc_rest_cons h3) (fun r' w' hh _ _ => by obtain ⟨rfl, rfl⟩ := hh; exact k))
theorem xcI_sound {i : Nat → List EV → EW → XR} (hi : xI G l d i) {k0 n0' : Nat} {q : Nat × Nat × Nat × Nat × Nat} (hq : okC o (k0, q)) (hd : decode cc pc = .ok (.invokespecial k0, n0')) (hn : n0' = 3) {κ : XS → EW → XR} (hk : ∀ st w, κ st w = some (r, w2) → PP G l o cc nL rt ini d r w2 (pc + 3) ls st w) (h : xcI i q st w κ = some (r, w2)) : PP G l o cc nL rt ini d r w2 pc ls st w := by
  subst hn
  obtain ⟨kd, y, n, rk, ci⟩ := q
  unfold xcI at h
  dsimp only at h
  have hz := xak_some h; clear h; obtain ⟨as, t, rfl, rfl, h3, h⟩ := hz
  split at h
  · rename_i k1 t
    have h3' := Nat.le_trans wc_rest_cons h3
    cases e : Nat.beq kd 6 with
    | true =>
      rw [e] at h
      have e2 := Nat.eq_of_beq_eq_true e
      subst e2
      obtain ⟨g1, g2⟩ := hq
      have g3 : as = [] := List.eq_nil_of_length_eq_zero g2
      subst g3
      exact PP.r0 (hk _ _ h) (fun K _ hR k => ww_objInit K hd g1 ⟨by omega, by omega⟩ k)
    | false =>
      rw [e] at h
      simp only [cond_false] at h
      have hz := xb_some h; clear h; obtain ⟨e1, h⟩ := hz
      have hz := xcr_some h; clear h; obtain ⟨v, w3, h5, h⟩ := hz
      obtain ⟨mc, ms, l1, l2, hC⟩ := hi _ _ _ _ _ h5
      rw [Bool.or_eq_true] at e1
      rcases e1 with e1 | e1
      · have e2 := Nat.eq_of_beq_eq_true e1
        subst e2
        obtain ⟨g1, g2, g3⟩ := hq
        have g2 : (yq y).2.2.1 ≤ 21 := g2
        have g3 : (yq y).2.2.2 = none := g3
        rw [g3] at hC
        exact PP.row (hk _ _ h) l1 l2 (fun K _ hR k => ww_callI K hd g1 hC rfl ⟨hR.1, by omega⟩ h3' (fun r' w' hh _ _ => by obtain ⟨rfl, rfl⟩ := hh; exact k))
      · have e2 := Nat.eq_of_beq_eq_true e1
        subst e2
        obtain ⟨⟨host, g1⟩, g2, g3⟩ := hq
        have g2 : (yq y).2.2.1 ≤ 21 := g2
        have g3 : (yq y).2.2.2 = none := g3
        rw [g3] at hC
        exact PP.row (hk _ _ h) l1 l2 (fun K _ hR k => ww_callIN K hd g1 hC rfl ⟨hR.1, by omega⟩ h3' (fun r' w' hh _ _ => by obtain ⟨rfl, rfl⟩ := hh; exact k))
  · cases h
set_option maxHeartbeats 4000000 in
theorem fw_sound {sc : Nat × (Nat → Int32)} (hsc : xsc G sc) {i : Nat → List EV → EW → XR} (hi : xI G l d i) {b : Nat → XL → XS → EW → XR} (hb : ∀ t ls st w, b t ls st w = some (r, w2) → PP G l o cc nL rt ini d r w2 t ls st w) : ∀ (L : XC), (∀ q ∈ L, ∃ n, decode cc q.1 = .ok (q.2, n) ∧ (xsw q.2 = true ∨ n = xln q.2)) → ∀ (pc : Nat) (ls : XL) (st : XS) (w : EW), fw sc o rt ini nL i b L pc ls st w = some (r, w2) → PP G l o cc nL rt ini d r w2 pc ls st w := by
  intro L
  induction L with
  | nil => intro _ pc ls st w h; cases h
  | cons q L ih =>
    intro hL pc ls st w h
    obtain ⟨n, hd, hn⟩ := hL q List.mem_cons_self
    have ih := ih (fun q hq => hL q (List.mem_cons_of_mem _ hq))
    obtain ⟨p, I⟩ := q
    unfold fw at h
    cases e : Nat.beq p pc with
    | false => rw [e] at h; exact ih _ _ _ _ h
    | true =>
      rw [e] at h
      have e2 := Nat.eq_of_beq_eq_true e
      subst e2
      simp only [cond_true] at h
      dsimp only at hd hn
      cases I
      case goto off =>
        dsimp only at h
        rcases hn with hn | rfl
        · cases hn
        have hz := xjn_some h; clear h; obtain ⟨t, h1, h⟩ := hz
        exact PP.r0 (xj_some ih hb h) (fun K _ _ k => ww_goto K hd h1 k)
      case ifCond cn off =>
        rcases hn with hn | rfl
        · cases hn
        cases cn
        all_goals
          dsimp only at h
          have hz := xi1_some h; clear h; obtain ⟨x, t0, rfl, h⟩ := hz
          have hz := xjn_some h; clear h; obtain ⟨t, h1, h⟩ := hz
          split at h
          all_goals rename_i hc
        · exact PP.r0 (xj_some ih hb h) (fun K _ _ k => ww_if_eq K hd h1 (fun _ => k) (fun q => absurd hc q))
        · exact PP.r0 (ih _ _ _ _ h) (fun K _ _ k => ww_if_eq K hd h1 (fun q => absurd q hc) (fun _ => k))
        · exact PP.r0 (ih _ _ _ _ h) (fun K _ _ k => ww_if_ne K hd h1 (fun q => absurd hc q) (fun _ => k))
        · exact PP.r0 (xj_some ih hb h) (fun K _ _ k => ww_if_ne K hd h1 (fun _ => k) (fun q => absurd q hc))
        · exact PP.r0 (xj_some ih hb h) (fun K _ _ k => ww_if_lt K hd h1 (fun _ => k) (fun q => absurd hc q))
        · exact PP.r0 (ih _ _ _ _ h) (fun K _ _ k => ww_if_lt K hd h1 (fun q => absurd q hc) (fun _ => k))
        · exact PP.r0 (xj_some ih hb h) (fun K _ _ k => ww_if_ge K hd h1 (fun _ => k) (fun q => absurd hc q))
        · exact PP.r0 (ih _ _ _ _ h) (fun K _ _ k => ww_if_ge K hd h1 (fun q => absurd q hc) (fun _ => k))
        · exact PP.r0 (xj_some ih hb h) (fun K _ _ k => ww_if_gt K hd h1 (fun _ => k) (fun q => absurd hc q))
        · exact PP.r0 (ih _ _ _ _ h) (fun K _ _ k => ww_if_gt K hd h1 (fun q => absurd q hc) (fun _ => k))
        · exact PP.r0 (xj_some ih hb h) (fun K _ _ k => ww_if_le K hd h1 (fun _ => k) (fun q => absurd hc q))
        · exact PP.r0 (ih _ _ _ _ h) (fun K _ _ k => ww_if_le K hd h1 (fun q => absurd q hc) (fun _ => k))
      case if_icmp cn off =>
        rcases hn with hn | rfl
        · cases hn
        cases cn
        all_goals
          dsimp only at h
          have hz := xii_some h; clear h; obtain ⟨x, y, t0, rfl, h⟩ := hz
          have hz := xjn_some h; clear h; obtain ⟨t, h1, h⟩ := hz
          split at h
          all_goals rename_i hc
        · exact PP.r0 (xj_some ih hb h) (fun K _ _ k => ww_icmp_eq K hd h1 (fun _ => k) (fun q => absurd hc q))
        · exact PP.r0 (ih _ _ _ _ h) (fun K _ _ k => ww_icmp_eq K hd h1 (fun q => absurd q hc) (fun _ => k))
        · exact PP.r0 (ih _ _ _ _ h) (fun K _ _ k => ww_icmp_ne K hd h1 (fun q => absurd hc q) (fun _ => k))
        · exact PP.r0 (xj_some ih hb h) (fun K _ _ k => ww_icmp_ne K hd h1 (fun _ => k) (fun q => absurd q hc))
        · exact PP.r0 (xj_some ih hb h) (fun K _ _ k => ww_icmp_lt K hd h1 (fun _ => k) (fun q => absurd hc q))
        · exact PP.r0 (ih _ _ _ _ h) (fun K _ _ k => ww_icmp_lt K hd h1 (fun q => absurd q hc) (fun _ => k))
        · exact PP.r0 (xj_some ih hb h) (fun K _ _ k => ww_icmp_ge K hd h1 (fun _ => k) (fun q => absurd hc q))
        · exact PP.r0 (ih _ _ _ _ h) (fun K _ _ k => ww_icmp_ge K hd h1 (fun q => absurd q hc) (fun _ => k))
        · exact PP.r0 (xj_some ih hb h) (fun K _ _ k => ww_icmp_gt K hd h1 (fun _ => k) (fun q => absurd hc q))
        · exact PP.r0 (ih _ _ _ _ h) (fun K _ _ k => ww_icmp_gt K hd h1 (fun q => absurd q hc) (fun _ => k))
        · exact PP.r0 (xj_some ih hb h) (fun K _ _ k => ww_icmp_le K hd h1 (fun _ => k) (fun q => absurd hc q))
        · exact PP.r0 (ih _ _ _ _ h) (fun K _ _ k => ww_icmp_le K hd h1 (fun q => absurd q hc) (fun _ => k))
      case ifnull off =>
        rcases hn with hn | rfl
        · cases hn
        dsimp only at h
        split at h
        · rename_i u t0
          have hz := xjn_some h; clear h; obtain ⟨t, h1, h⟩ := hz
          cases u with
          | none => exact PP.r0 (xj_some ih hb h) (fun K _ _ k => ww_ifnullN K hd h1 k)
          | some u => exact PP.r0 (ih _ _ _ _ h) (fun K _ _ k => ww_ifnull K hd k)
        · cases h
      case ifnonnull off =>
        rcases hn with hn | rfl
        · cases hn
        dsimp only at h
        split at h
        · rename_i u t0
          have hz := xjn_some h; clear h; obtain ⟨t, h1, h⟩ := hz
          cases u with
          | none => exact PP.r0 (ih _ _ _ _ h) (fun K _ _ k => ww_ifnonnullN K hd k)
          | some u => exact PP.r0 (xj_some ih hb h) (fun K _ _ k => ww_ifnonnull K hd h1 k)
        · cases h
      case tableswitch d0 lo hi0 offs =>
        dsimp only at h
        have hz := xi1_some h; clear h; obtain ⟨x, t0, rfl, h⟩ := hz
        split at h
        · rename_i hc
          have hz := xjn_some h; clear h; obtain ⟨t, h1, h⟩ := hz
          exact PP.r0 (xj_some ih hb h) (fun K _ _ k => ww_tableOut K hd hc h1 k)
        · rename_i hc
          split at h
          · rename_i off ho
            have hz := xjn_some h; clear h; obtain ⟨t, h1, h⟩ := hz
            exact PP.r0 (xj_some ih hb h) (fun K _ _ k => ww_tableIn K hd (fun q => hc (Or.inl q)) (fun q => hc (Or.inr q)) ho h1 k)
          · cases h
      case lookupswitch d0 ps =>
        dsimp only at h
        have hz := xi1_some h; clear h; obtain ⟨x, t0, rfl, h⟩ := hz
        have hz := xb_some h; clear h; obtain ⟨hp, h⟩ := hz
        have hz := xjn_some h; clear h; obtain ⟨t, h1, h⟩ := hz
        exact PP.r0 (xj_some ih hb h) (fun K _ _ k => ww_lookup K hd hp rfl h1 k)
      case ireturn =>
        rcases hn with hn | rfl
        · cases hn
        dsimp only at h
        split at h
        · rename_i x
          have hz := xb_some h; clear h; obtain ⟨h1, h⟩ := hz
          cases h
          exact ⟨0, 0, rfl, rfl, fun K _ _ hT => hT.1 _ _ _ rfl h1 hd⟩
        · cases h
      case lreturn =>
        rcases hn with hn | rfl
        · cases hn
        dsimp only at h
        split at h
        · rename_i x
          have hz := xb_some h; clear h; obtain ⟨h1, h⟩ := hz
          cases h
          exact ⟨0, 0, rfl, rfl, fun K _ _ hT => hT.2.1 _ _ _ rfl (Nat.eq_of_beq_eq_true h1) hd⟩
        · cases h
      case areturn =>
        rcases hn with hn | rfl
        · cases hn
        dsimp only at h
        split at h
        · rename_i x
          have hz := xb_some h; clear h; obtain ⟨h1, h⟩ := hz
          cases h
          exact ⟨0, 0, rfl, rfl, fun K _ _ hT => hT.2.2.1 _ _ _ rfl (Nat.eq_of_beq_eq_true h1) hd⟩
        · cases h
      case return_ =>
        rcases hn with hn | rfl
        · cases hn
        dsimp only at h
        split at h
        · have hz := xb_some h; clear h; obtain ⟨h1, h⟩ := hz
          cases h
          exact ⟨0, 0, rfl, rfl, fun K _ _ hT => hT.2.2.2 _ _ rfl (Nat.eq_of_beq_eq_true h1) hd⟩
        · cases h
      case invokestatic k0 =>
        rcases hn with hn | hn
        · cases hn
        dsimp only at h
        split at h
        · rename_i q e
          exact xcS_sound hi (xk_in (okC_all o _) e) hd hn (fun st w h => ih _ _ _ _ h) h
        · cases h
      case invokevirtual k0 =>
        rcases hn with hn | hn
        · cases hn
        dsimp only at h
        split at h
        · rename_i q e
          exact xcV_sound hi (xk_in (okC_all o _) e) hd hn (fun st w h => ih _ _ _ _ h) h
        · cases h
      case invokespecial k0 =>
        rcases hn with hn | hn
        · cases hn
        dsimp only at h
        split at h
        · rename_i q e
          exact xcI_sound hi (xk_in (okC_all o _) e) hd hn (fun st w h => ih _ _ _ _ h) h
        · cases h
      all_goals
        rcases hn with hn | rfl
        · cases hn
        exact st1_sound hsc hd (fun ls st w h => ih _ _ _ _ h) h
theorem ex_sound {sc : Nat × (Nat → Int32)} (hsc : xsc G sc) {i : Nat → List EV → EW → XR} (hi : xI G l d i) {C : XC} (hC : ∀ q ∈ C, ∃ n, decode cc q.1 = .ok (q.2, n) ∧ (xsw q.2 = true ∨ n = xln q.2)) : ∀ (k : Nat) (pc : Nat) (ls : XL) (st : XS) (w : EW), ex sc o rt ini nL i C k pc ls st w = some (r, w2) → PP G l o cc nL rt ini d r w2 pc ls st w := by
  intro k
  induction k with
  | zero => intro pc ls st w h; cases h
  | succ k ih => intro pc ls st w h; exact fw_sound hsc hi ih C hC pc ls st w h
end XPF
def xrk (rt : Nat) (ret : Option FieldType) : Prop := match rt with
  | 0 => ret = none
  | 1 => ret = some .int
  | 2 => ret = some .long
  | 3 => (∃ n, ret = some (.object n)) ∨ ∃ t, ret = some (.array t)
  | 4 => ret = some .boolean
  | 5 => ret = some .char
  | _ => ret = some .byte
/-- the code as printed, against the bytes -/
def xdk (cc : ByteArray) (C : XC) : Bool := C.all (fun q => match decode cc q.1 with
  | .ok (I, n) => decide (I = q.2) && (xsw q.2 || Nat.beq n (xln q.2))
  | _ => false)
theorem xdk_ok {cc : ByteArray} {C : XC} (h : xdk cc C = true) : ∀ q ∈ C, ∃ n, decode cc q.1 = .ok (q.2, n) ∧ (xsw q.2 = true ∨ n = xln q.2) := by
  intro q hq
  have h1 := List.all_eq_true.mp h q hq
  split at h1
  · rename_i I n e
    rw [Bool.and_eq_true, Bool.or_eq_true] at h1
    have h2 : I = q.2 := of_decide_eq_true h1.1
    subst h2
    exact ⟨n, e, h1.2.imp id Nat.eq_of_beq_eq_true⟩
  · cases h1
def okT (q : Nat × XM) : Prop := plainName (yq q.1).1.cls = true ∧ (yq q.1).1.cls = oN q.2.1 ∧ xrk q.2.2.1 (yq q.1).2.2.2 ∧ (q.2.2.2.1 = true → (yq q.1).1.name = "<init>") ∧ xdk (yq q.1).2.1 q.2.2.2.2 = true
theorem xrt_nar {rt : Nat} {x : Int32} {ret : Option FieldType} (h : xrt rt x = true) (hr : xrk rt ret) : ∃ ty, ret = some ty ∧ narrow ty (.int x) = .int x := by
  unfold xrt at h
  rw [Bool.or_eq_true, Bool.or_eq_true, Bool.or_eq_true, Bool.and_eq_true, Bool.and_eq_true, Bool.and_eq_true] at h
  rcases h with ((h | h) | h) | h
  · have e := Nat.eq_of_beq_eq_true h
    subst e
    exact ⟨_, hr, rfl⟩
  · have e := Nat.eq_of_beq_eq_true h.1
    subst e
    have h2 := h.2
    rw [Bool.or_eq_true, beq_iff_eq, beq_iff_eq] at h2
    rcases h2 with h2 | h2 <;> subst h2 <;> exact ⟨_, hr, rfl⟩
  · have e := Nat.eq_of_beq_eq_true h.1
    subst e
    have h2 := h.2
    rw [beq_iff_eq] at h2
    exact ⟨_, hr, by show Value.int _ = _; rw [h2]⟩
  · have e := Nat.eq_of_beq_eq_true h.1
    subst e
    have h2 := h.2
    rw [beq_iff_eq] at h2
    exact ⟨_, hr, by show Value.int _ = _; rw [h2]⟩
theorem xM_sound {G : EG} {l : Launch} {sc : Nat × (Nat → Int32)} (hsc : xsc G sc) {T : List (Nat × XM)} (hT : xall okT T) {F : Nat} : ∀ d, xI G l d (xM sc T F d) := by
  intro d
  induction d with
  | zero => intro y as w r w2 h; cases h
  | succ d ih =>
    intro y as w r w2 h
    unfold xM at h
    split at h
    · rename_i o rt ini C e
      have hz := xb_some h
      clear h
      obtain ⟨h0, h⟩ := hz
      obtain ⟨g1, g2, g3, g4, g5⟩ := xk_in hT e
      have g1 : plainName (yq y).1.cls = true := g1
      have g2 : (yq y).1.cls = oN o := g2
      have g3 : xrk rt (yq y).2.2.2 := g3
      have g4 : ini = true → (yq y).1.name = "<init>" := g4
      have g5 : xdk (yq y).2.1 C = true := g5
      obtain ⟨rc, rs, h1, h2, k⟩ := ex_sound (cc := (yq y).2.1) hsc ih (xdk_ok g5) F 0 _ _ _ h
      refine ⟨rc, rs, h1, h2, Ct_of g1 (Nat.le_of_ble_eq_true h0) ?_⟩
      intro p e s m args below meth c K hr hn
      rw [g2] at K
      refine k K (fun q => hn.trans (g4 q)) ⟨Nat.le_refl _, Nat.le_refl _⟩ ⟨?_, ?_, ?_, ?_⟩
      · intro pc ls x hx hx2 hd
        subst hx
        obtain ⟨ty, e1, e2⟩ := xrt_nar hx2 g3
        exact ww_nret (wE := w) K e2 hd (hr.trans e1) ⟨rfl, rfl⟩
      · intro pc ls x hx hx2 hd
        subst hx; subst hx2
        exact ww_lret (wE := w) K hd (hr.trans g3) ⟨rfl, rfl⟩
      · intro pc ls x hx hx2 hd
        subst hx; subst hx2
        have g6 : ∃ rt0, (yq y).2.2.2 = some rt0 ∧ ((∃ n, rt0 = .object n) ∨ ∃ t, rt0 = .array t) := by
          rcases g3 with ⟨n, e⟩ | ⟨n, e⟩
          · exact ⟨_, e, Or.inl ⟨_, rfl⟩⟩
          · exact ⟨_, e, Or.inr ⟨_, rfl⟩⟩
        obtain ⟨rt0, e1, e2⟩ := g6
        rcases x with x | x
        · cases x with
          | none => exact ww_aretN (wE := w) K e2 hd (hr.trans e1) ⟨rfl, rfl⟩
          | some x => exact ww_aret (wE := w) K e2 hd (hr.trans e1) ⟨rfl, rfl⟩
        · exact ww_aretK (wE := w) K e2 hd (hr.trans e1) ⟨rfl, rfl⟩
      · intro pc ls hx hx2 hd
        subst hx; subst hx2
        exact ww_vret (wE := w) K hd (hr.trans g3) ⟨rfl, rfl⟩
    · cases h
