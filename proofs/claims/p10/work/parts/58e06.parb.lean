section XTF
variable {sc : Nat × (Nat → Int32)} {d : Nat} {K : List KD} {r q t a B m : Nat} {w : EW}
/-! words and ends of a line, on both sides -/
/-- a told word out of the class's list z, the reference's words from lo to hi (the class's first is lo) -/
def WO (f : Nat → Int32) (L a part lo hi : Nat) (u v : SG) (rp p : Int32 × SG) : Prop := (rp.1 = 1 ∧ ∃ a2 e2 k, a < a2 ∧ k ≤ hi - lo ∧ SM f L a2 e2 rp.2 p.2 ∧ FRc u rp.2 ∧ rp.2 55 = upd (u 55) part (nI k) ∧ FRr v p.2 ∧ p.2 65 = v 65 ∧ p.1 = nI (lo + k)) ∨ (rp.1 = 0 ∧ rp.2 = u ∧ p.1 = 0 ∧ WR u v p.2)
/-- whether the class's list z holds just the reference's words lo .. hi, in that order -/
def zOK (z lo hi : Nat) : Bool := (List.range 32).all (fun c => if lo ≤ c + 1 ∧ c + 1 ≤ hi then decide (tb z c = nI (c + 1 - lo)) else decide (tb z c = -1))
theorem zOK_e {z lo hi c : Nat} (h : zOK z lo hi = true) (hc : c < 32) : tb z c = if lo ≤ c + 1 ∧ c + 1 ≤ hi then nI (c + 1 - lo) else -1 := by
  unfold zOK at h
  rw [List.all_eq_true] at h
  have := h c (List.mem_range.mpr hc)
  split at this <;> rename_i q
  · rw [if_pos q]; exact of_decide_eq_true this
  · rw [if_neg q]; exact of_decide_eq_true this
theorem inI_le {n lo hi : Nat} (hn : n ≤ 1000) (hl : lo ≤ 1000) (hh : hi ≤ 1000) : inI (nI n) (nI lo) (nI hi) = if lo ≤ n ∧ n ≤ hi then 1 else 0 := by
  unfold inI
  have l1 : nI n < nI lo ↔ n < lo := by rw [Int32.lt_iff_toInt_lt, nI_toInt (by omega), nI_toInt (by omega)]; omega
  have l2 : nI hi < nI n ↔ hi < n := by rw [Int32.lt_iff_toInt_lt, nI_toInt (by omega), nI_toInt (by omega)]; omega
  by_cases c1 : n < lo
  · rw [if_pos (l1.2 c1), if_neg (by omega)]
  · rw [if_neg (fun h => c1 (l1.1 h))]
    by_cases c2 : hi < n
    · rw [if_pos (l2.2 c2), if_neg (by omega)]
    · rw [if_neg (fun h => c2 (l2.1 h)), if_pos (by omega)]
theorem nI_n1 {k : Nat} (hk : k ≤ 1000) : ¬ nI k = -1 := by
  intro h
  have h2 := congrArg Int32.toInt h
  rw [nI_toInt (by omega)] at h2
  have : (-1 : Int32).toInt = -1 := by decide
  omega
/-- the token as a word: what the class chooses of a list, what the reference sees -/
theorem TK_w {f : Nat → Int32} {L a e z lo hi : Nat} {u v : SG} (h : SM f L a e u v) (hz : z ∈ ZS) (ok_ : zOK z lo hi = true) (hh : hi ≤ 32) (h1 : 1 ≤ lo) (hlo : lo ≤ hi) : (choI u z = -1 ∧ (¬ v 64 5 = 3 ∨ inI (v 64 7) (nI lo) (nI hi) = 0)) ∨ ∃ k, a < e ∧ k ≤ hi - lo ∧ lo + k ≤ hi ∧ choI u z = nI k ∧ v 64 5 = 3 ∧ v 64 7 = nI (lo + k) ∧ ¬ inI (v 64 7) (nI lo) (nI hi) = 0 := by
  obtain ⟨_, _, _, tk, _⟩ := h
  rcases tk.2.2.2.2.2 with ⟨_, _, k, k2⟩ | ⟨ae, ⟨k, ⟨k2, k3⟩ | ⟨c, hc, k2, k3, k4⟩⟩ | ⟨k, k2, _⟩ | ⟨k, k2⟩ | ⟨k, k2⟩⟩
  · exact Or.inl ⟨choI_n (by rw [k]; decide), Or.inl (by rw [k2]; decide)⟩
  · exact Or.inl ⟨k3 z hz, Or.inl (by rw [k2]; decide)⟩
  · have t := k4 z hz
    rw [zOK_e ok_ hc] at t
    have ii := inI_le (n := c + 1) (lo := lo) (hi := hi) (by omega) (by omega) (by omega)
    by_cases q : lo ≤ c + 1 ∧ c + 1 ≤ hi
    · rw [if_pos q] at t ii
      refine Or.inr ⟨c + 1 - lo, ae, by omega, by omega, t, k2, by rw [k3, show lo + (c + 1 - lo) = c + 1 by omega], ?_⟩
      rw [k3, ii]; decide
    · rw [if_neg q] at t ii
      exact Or.inl ⟨t, Or.inr (by rw [k3, ii])⟩
  · exact Or.inl ⟨choI_n (by rw [k]; decide), Or.inl (by rw [k2]; decide)⟩
  · exact Or.inl ⟨choI_n (by rw [k]; decide), Or.inl (by rw [k2]; decide)⟩
  · exact Or.inl ⟨choI_n (by rw [k]; decide), Or.inl (by rw [k2]; decide)⟩
/-- what the class does with a word of the list z -/
def cwP (u : SG) (z : Nat) (part : Nat) : Int32 × SG := if choI u z = -1 then (0, u) else (1, advS (pt 5 u 55 (nI part) (choI u z)))
theorem wor_s {f : Nat → Int32} {L a e part z lo hi : Nat} {u v : SG} (h : SM f L a e u v) (hp : part < 5) (hz : z ∈ ZS) (ok_ : zOK z lo hi = true) (hh : hi ≤ 32) (h1 : 1 ≤ lo) (hlo : lo ≤ hi) : ok (Rtakes v (nI lo) (nI hi)) (fun p => WO f L a part lo hi u v (cwP u z part) p) := by
  have h0 := h
  have tw := TK_w h hz ok_ hh h1 hlo
  obtain ⟨hc, hr, h8, tk, hf⟩ := h
  unfold Rtakes cwP
  rw [if_pos h8]
  rcases tw with ⟨t1, t2⟩ | ⟨k, ae, hk, hkl, t1, t2, t3, t4⟩
  · rw [if_pos t1]
    have no : ok (Rtakes_27 v (nI lo) (nI hi)) (fun p => WO f L a part lo hi u v (0, u) p) := by
      unfold Rtakes_27
      exact ok_b (ends_w h8 tk) (fun w hw => ok_s (Or.inr ⟨rfl, rfl, rfl, hw⟩))
    rcases t2 with t2 | t2
    · rw [if_neg t2]; exact no
    · refine ok_i (fun _ => ?_) (fun _ => no)
      rw [if_pos t2]; exact no
  · rw [if_neg (show ¬ choI u z = -1 by rw [t1]; exact nI_n1 (by omega)), if_pos t2, if_neg t4, pt5 hp, t1]
    have cb : CB f L (up u 55 part (nI k)) := CB_of hc (by rw [up_n (by decide)]) (by rw [up_n (by decide)]) (by rw [up_n (by decide)])
    have fl : FL e (up u 55 part (nI k)) v := FL_lo hf (by omega) (by rw [up_n (by decide)]) (by rw [up_n (by decide)]) rfl rfl
    refine ok_b (SM_adv cb (by rw [up_n (by decide)]; exact tk.2.1) tk.2.2.2.2.1 hr tk.2.2.2.1 h8 fl) (fun w hw => ok_s ?_)
    obtain ⟨⟨a2, e2, ha2, sm⟩, w1, w2⟩ := hw
    obtain ⟨_, _, c3, c4⟩ := adv_c cb
    have frc : FRc u (advS (up u 55 part (nI k))) := ⟨fun c b1 b2 => by rw [c3 c b1, up_n b2], fun j b1 b2 b3 b4 b5 => by rw [c4 j b3 b4 b5, up_n (by decide)]⟩
    have f55 : advS (up u 55 part (nI k)) 55 = upd (u 55) part (nI k) := by rw [c3 55 (by decide), up_s]
    have frr : FRr v w := ⟨fun c b1 b2 => w1 c b1, fun j b1 b2 => by rw [w1 65 (by decide)], fun j b1 => w2 j b1⟩
    exact Or.inl ⟨rfl, a2, e2, k, by omega, hk, sm, frc, f55, frr, w1 65 (by decide), t3⟩
/-- the end of a line -/
def SO (f : Nat → Int32) (L a : Nat) (u v : SG) (rp : Int32 × SG) (w : SG) : Prop := (rp.1 = 1 ∧ ∃ a2 e2, a < a2 ∧ SM f L a2 e2 rp.2 w ∧ FRc u rp.2 ∧ rp.2 55 = u 55 ∧ FRr v w ∧ w 65 = v 65) ∨ (rp.1 = 0 ∧ rp.2 = u ∧ WR u v w)
theorem sem_s {f : Nat → Int32} {L a e : Nat} {u v : SG} (h : SM f L a e u v) : ok (RendsLine v) (fun w => SO f L a u v (resP u) w) := by
  obtain ⟨hc, hr, h8, tk, hf⟩ := h
  have sy : (u 43 7 = 3 ∧ v 64 5 = 2 ∧ a < e) ∨ (¬ u 43 7 = 3 ∧ ¬ v 64 5 = 2) := by
    rcases tk.2.2.2.2.2 with ⟨_, _, k, k2⟩ | ⟨ae, ⟨k, ⟨k2, k3⟩ | ⟨c, hc, k2, k3, k4⟩⟩ | ⟨k, k2, _⟩ | ⟨k, k2⟩ | ⟨k, k2⟩⟩
    · exact Or.inr ⟨by rw [k]; decide, by rw [k2]; decide⟩
    · exact Or.inr ⟨by rw [k]; decide, by rw [k2]; decide⟩
    · exact Or.inr ⟨by rw [k]; decide, by rw [k2]; decide⟩
    · exact Or.inr ⟨by rw [k]; decide, by rw [k2]; decide⟩
    · exact Or.inl ⟨k, k2, ae⟩
    · exact Or.inr ⟨by rw [k]; decide, by rw [k2]; decide⟩
  unfold RendsLine resP
  rw [if_pos h8]
  rcases sy with ⟨s1, s2, ae⟩ | ⟨s1, s2⟩
  · rw [if_pos s1, if_pos s2]
    have fl : FL e u v := FL_lo hf (by omega) rfl rfl rfl rfl
    refine ok_b (SM_adv hc tk.2.1 tk.2.2.2.2.1 hr tk.2.2.2.1 h8 fl) (fun w hw => ok_s ?_)
    obtain ⟨⟨a2, e2, ha2, sm⟩, w1, w2⟩ := hw
    obtain ⟨_, _, c3, c4⟩ := adv_c hc
    have frc : FRc u (advS u) := ⟨fun c b1 b2 => c3 c b1, fun j b1 b2 b3 b4 b5 => c4 j b3 b4 b5⟩
    have frr : FRr v w := ⟨fun c b1 b2 => w1 c b1, fun j b1 b2 => by rw [w1 65 (by decide)], fun j b1 => w2 j b1⟩
    exact Or.inl ⟨rfl, a2, e2, by omega, sm, frc, c3 55 (by decide), frr, w1 65 (by decide)⟩
  · rw [if_neg s1, if_neg s2]
    unfold RendsLine_22
    exact ok_b (ends_w h8 tk) (fun w hw => ok_s (Or.inr ⟨rfl, rfl, hw⟩))
/-! once there is a fault of grammar the reference does nothing more -/
theorem wr_num {v : SG} {x y : Int32} (h : ¬ v 64 8 = 0) : Rnumbered v x y = some (x, v) := by
  unfold Rnumbered Rnumbered_15 Rends
  rw [if_neg h, if_neg h]; rfl
theorem wr_tak {v : SG} {x y : Int32} (h : ¬ v 64 8 = 0) : Rtakes v x y = some (0, v) := by
  unfold Rtakes Rtakes_27 Rends
  rw [if_neg h, if_neg h]; rfl
theorem wr_sem {v : SG} (h : ¬ v 64 8 = 0) : RendsLine v = some v := by
  unfold RendsLine RendsLine_22 Rends
  rw [if_neg h, if_neg h]; rfl
theorem wr_also {v : SG} {x y : Int32} (h : ¬ v 64 8 = 0) : Ralso v x y = some v := by
  unfold Ralso
  rw [if_neg h]
end XTF
