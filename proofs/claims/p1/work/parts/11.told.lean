theorem ct_fill (G : EG) (l : Launch) {w : EW} {k n : Nat} {f : Nat → Int32} {v : Int32} (hk : w[k]? = some (cI 0 n f)) (hn : n < 2147483648) : Ct G l yJ7_fill_53178 cJ7_fill_53178 4 none 0 0 0 [eR k, eI v] w (fun r w2 => r = none ∧ ((∃ F : Nat → Int32, (∀ j, j < n → F j = v) ∧ w2[k]? = some (cI 0 n F)) ∧ wc_same [k] w w2)) := by
  refine Ct_of (by decide +kernel) (Nat.le_of_ble_eq_true rfl) ?_
  intro p_ e_ s_ m_ a_ b_ t_ c_ K0 hr hin
  have K : wc_C p_ s_ m_ a_ t_ c_ G RJ7 cJ7_fill_53178 4 w.length := K0
  clear K0
  refine WW_ls (ls2 := [some (eR k), some (eI v), none, none]) rfl ?_
  refine ww_iconst (v := 0) K dJ7_fill_53178_0 rfl ?_
  refine ww_istore_n (ls2 := [some (eR k), some (eI v), some (eI (nI 0)), none]) K dJ7_fill_53178_1 (by decide) rfl ?_
  refine ww_aload_n K dJ7_fill_53178_2 rfl ?_
  refine ww_alen K dJ7_fill_53178_3 hk (by decide) ?_
  refine ww_istore_n (ls2 := [some (eR k), some (eI v), some (eI (nI 0)), some (eI (nI n))]) K dJ7_fill_53178_4 (by decide) rfl ?_
  have loop : ∀ (d i : Nat), i + d = n → ∀ (w1 : EW) (f1 : Nat → Int32), w1[k]? = some (cI 0 n f1) → (∀ j, j < i → f1 j = v) → wc_same [k] w w1 → WW p_ l e_ (wc_rm 0 0 0) s_ m_ a_ b_ t_ c_ (MQ b_ (wc_Q G w 0 0 (fun r w2 => r = none ∧ ((∃ F : Nat → Int32, (∀ j, j < n → F j = v) ∧ w2[k]? = some (cI 0 n F)) ∧ wc_same [k] w w2))) a_ s_ 0 0 (wc_A G)) G 4 w.length (wc_SL w) 0 0 5 [some (eR k), some (eI v), some (eI (nI i)), some (eI (nI n))] [] w1 := by
    intro d
    induction d with
    | zero =>
      intro i hi w1 f1 h1 hv hS
      have : i = n := by omega
      subst this
      refine ww_iload_n K dJ7_fill_53178_5 rfl ?_
      refine ww_iload_n K dJ7_fill_53178_6 rfl ?_
      refine ww_icmp_ge (tgt := 20) K dJ7_fill_53178_7 rfl (fun _ => ?_) (fun q => absurd (nI_le (Nat.le_refl _) hn) q)
      exact ww_vret K dJ7_fill_53178_20 hr ⟨rfl, ⟨f1, hv, h1⟩, hS⟩
    | succ d ih =>
      intro i hi w1 f1 h1 hv hS
      have hlt : i < n := by omega
      refine ww_iload_n K dJ7_fill_53178_5 rfl ?_
      refine ww_iload_n K dJ7_fill_53178_6 rfl ?_
      refine ww_icmp_ge (tgt := 20) K dJ7_fill_53178_7 rfl (fun q => absurd q (nI_ge hlt hn)) (fun _ => ?_)
      refine ww_aload_n K dJ7_fill_53178_10 rfl ?_
      refine ww_iload_n K dJ7_fill_53178_11 rfl ?_
      refine ww_iload_n K dJ7_fill_53178_12 rfl ?_
      refine ww_iastX K dJ7_fill_53178_13 h1 (vp_in_nI hlt hn) (fun w3 hln h3 hne => ?_)
      refine ww_iinc (ls2 := [some (eR k), some (eI v), some (eI (nI (i + 1))), some (eI (nI n))]) K dJ7_fill_53178_14 (by decide) rfl (by rw [nI_succ]; rfl) ?_
      refine ww_goto (tgt := 5) K dJ7_fill_53178_17 rfl ?_
      refine ih (i + 1) (by omega) w3 _ h3 (fun j hj => ?_) (hS.put (by simp) hne)
      rw [nI_clamp (by omega)]
      by_cases e : j = i
      · rw [e]; exact pk_us
      · rw [pk_un e]; exact hv j (by omega)
  exact loop n 0 (by omega) w f hk (fun j hj => absurd hj (Nat.not_lt_zero _)) wc_same.rf
set_option maxRecDepth 100000 in
theorem ct_copy (G : EG) (l : Launch) {w : EW} {k0 k1 n : Nat} {f g : Nat → Int32} (h0 : w[k0]? = some (cI 0 n f)) (h1 : w[k1]? = some (cI 0 n g)) (hn : n < 2147483648) : Ct G l yX6_copy cX6_copy 2 none 1 0 0 [eR k0, eR k1] w (fun r w2 => r = none ∧ ((∃ F : Nat → Int32, (∀ j, j < n → F j = f j) ∧ w2[k1]? = some (cI 0 n F)) ∧ wc_same [k1] w w2)) := by
  refine Ct_of (by decide +kernel) (Nat.le_of_ble_eq_true rfl) ?_
  intro p_ e_ s_ m_ a_ b_ t_ c_ K0 hr hin
  have K : wc_C p_ s_ m_ a_ t_ c_ G RX6 cX6_copy 2 w.length := K0
  clear K0
  refine WW_ls (ls2 := [some (eR k0), some (eR k1)]) rfl ?_
  refine ww_aload_n K dX6_copy_0 rfl ?_
  refine ww_iconst (v := 0) K dX6_copy_1 rfl ?_
  refine ww_aload_n K dX6_copy_2 rfl ?_
  refine ww_iconst (v := 0) K dX6_copy_3 rfl ?_
  refine ww_aload_n K dX6_copy_4 rfl ?_
  refine ww_alen K dX6_copy_5 h0 (by decide) ?_
  refine ww_aload_n K dX6_copy_6 rfl ?_
  refine ww_alen K dX6_copy_7 h1 (by decide) ?_
  refine ww_mmin K dX6_copy_8 lm_X6_366 ⟨Nat.le_of_ble_eq_true rfl, Nat.le_of_ble_eq_true rfl⟩ ?_
  rw [ite_self]
  have hc : (Int32.ofNat n).toNatClampNeg = n := nI_clamp hn
  refine ww_copyX K dX6_copy_11 lm_X6_422 h0 h1 (by decide) (by decide) (nI_pos hn) (by rw [hc]; show 0 + n ≤ n; omega) (by rw [hc]; show 0 + n ≤ n; omega) ⟨Nat.le_of_ble_eq_true rfl, by decide +kernel⟩ (fun w2 hln h2 hne => ?_)
  rw [hc] at h2
  exact ww_vret K dX6_copy_14 hr ⟨rfl, ⟨_, fun j hj => sb_cpy0 hj, h2⟩, wc_same.put wc_same.rf (by simp) hne⟩
