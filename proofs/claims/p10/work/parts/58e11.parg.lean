section XTK
variable {sc : Nat × (Nat → Int32)} {d : Nat} {K : List KD} {r q t a B m : Nat} {w : EW}
/-! lines of summers, bargains, years and orders, on both sides -/
section AL
variable {f : Nat → Int32} {L a a2 e2 y N : Nat} {u w : SG} {so line x0 x1 x2 x3 x4 : Int32}
/-- what the class takes of a line: a row more -/
def TKR (u4 : SG) (so line x0 x1 x2 x3 x4 : Int32) : Prop := ∃ (t : SG) (yy : Nat), yy ≤ 1 ∧ tkeS u4 so line = adwS t x0 (nI yy) ∧ (∀ c, c ≠ 55 → t c = u4 c) ∧ x1 = t 55 yy ∧ x2 = t 55 (yy + 1) ∧ x3 = t 55 (yy + 2) ∧ x4 = cl 5 (t 55) (nI (yy + 3))
/-- a row more of five numbers, the end of the line -/
theorem add_l (ha : a < a2) (sm : SM f L a2 e2 u w) (hN : N ≤ 40) (hx0 : NB x0 (bnd N) ∧ (N = 40 → x0 = 0 → NB x2 9 ∧ NB x3 9 ∧ NB x4 9))
    (hR : w 65 7 = 0 → (∃ n, n < N ∧ u 52 0 = nI n ∧ u 43 10 = nI (n + 1) ∧ w 67 0 = nI n ∧ (∀ j i, j < n → i < 5 → u 53 (5 * j + i) = w 67 (1 + 5 * j + i)) ∧ ∀ j, j < n → ROK N (fun i => w 67 (1 + 5 * j + i))) ∧ ∀ u4 : SG, u4 55 = u 55 → TKR u4 so line x0 x1 x2 x3 x4)
    : pc ((Radds w (nI N) x0 x1 x2 x3 x4).bind fun s => (RendsLine s).bind fun s1 => some s1) (fun w => LE (QL f L a (RWS 5 N)) (rlC so line [59] u y) w) := by
  by_cases z : w 65 7 = 0
  · obtain ⟨⟨n, hn, en, el, r67, rows, bds⟩, ht⟩ := hR z
    have i0 : (1 : Int32) + 5 * nI n = nI (1 + 5 * n) := by rw [show (5 : Int32) * nI n = nI (5 * n) from nI_mulx 5 n]; exact nI_add 1 _
    have ex : Radds w (nI N) x0 x1 x2 x3 x4 = some (up (up (up (up (up (up w 67 (1 + 5 * n) x0) 67 (1 + 5 * n + 1) x1) 67 (1 + 5 * n + 2) x2) 67 (1 + 5 * n + 3) x3) 67 (1 + 5 * n + 4) x4) 67 0 (nI (n + 1))) := by
      unfold Radds
      rw [rd_nI (x := 0) (e := 0) rfl (by decide) (by decide)]
      show (if w 67 0 < nI N then _ else _) = _
      rw [r67, if_pos (nI_lt2 hn (by omega))]
      show (wrI w 67 201 (1 + 5 * nI n) x0).bind _ = _
      rw [i0, wr_nI (e := 1 + 5 * n) rfl (by omega) (by decide)]
      show (wrI _ 67 201 (nI (1 + 5 * n) + 1) x1).bind _ = _
      rw [wr_nI (e := 1 + 5 * n + 1) (by rw [← nI_succ]) (by omega) (by decide)]
      show (wrI _ 67 201 (nI (1 + 5 * n) + 2) x2).bind _ = _
      rw [wr_nI (x := nI (1 + 5 * n) + 2) (e := 1 + 5 * n + 2) (nI_add _ 2) (by omega) (by decide)]
      show (wrI _ 67 201 (nI (1 + 5 * n) + 3) x3).bind _ = _
      rw [wr_nI (x := nI (1 + 5 * n) + 3) (e := 1 + 5 * n + 3) (nI_add _ 3) (by omega) (by decide)]
      show (wrI _ 67 201 (nI (1 + 5 * n) + 4) x4).bind _ = _
      rw [wr_nI (x := nI (1 + 5 * n) + 4) (e := 1 + 5 * n + 4) (nI_add _ 4) (by omega) (by decide)]
      rw [Option.bind_some, rd_nI (x := 0) (e := 0) rfl (by decide) (by decide), Option.bind_some, wr_nI (x := 0) (e := 0) rfl (by decide) (by decide), up_bn (by omega), up_bn (by omega), up_bn (by omega), up_bn (by omega), up_bn (by omega), r67, ← nI_succ]
      rfl
    rw [ex]
    refine end_l ha (SM_67 sm (fun c hc => by rw [up_n hc, up_n hc, up_n hc, up_n hc, up_n hc, up_n hc])) (fun _ u4 w5 frc5 f55 frr5 => ?_)
    obtain ⟨t, yy, hy, et, tc, y1, y2, y3, y4⟩ := ht u4 f55
    rw [et]
    have e67 := frr5.1 67 (by decide) (by decide)
    have k0 : w5 67 (1 + 5 * n + 0) = x0 := by
      rw [e67, up_bn (by omega), up_bn (by omega), up_bn (by omega), up_bn (by omega), up_bn (by omega)]; exact up_a
    have k2 : w5 67 (1 + 5 * n + 2) = x2 := by rw [e67, up_bn (by omega), up_bn (by omega), up_bn (by omega), up_a]
    have k3 : w5 67 (1 + 5 * n + 3) = x3 := by rw [e67, up_bn (by omega), up_bn (by omega), up_a]
    have k4 : w5 67 (1 + 5 * n + 4) = x4 := by rw [e67, up_bn (by omega), up_a]
    have ro : ROK N (fun i => w5 67 (1 + 5 * n + i)) := by
      unfold ROK
      show NB (w5 67 (1 + 5 * n + 0)) _ ∧ (_ → w5 67 (1 + 5 * n + 0) = 0 → NB (w5 67 (1 + 5 * n + 2)) 9 ∧ NB (w5 67 (1 + 5 * n + 3)) 9 ∧ NB (w5 67 (1 + 5 * n + 4)) 9)
      rw [k0, k2, k3, k4]; exact hx0
    have rr := row_add (c := 5) (N := N) (n := n) (y := yy) (u2 := t) (v := w) (w2 := w5) (x := x0) (by decide) hn hN hy (by rw [tc 52 (by decide), frc5.1 52 (by decide) (by decide)]; exact en) (by rw [tc 43 (by decide), frc5.2 10 (by decide) (by decide) (by decide) (by decide) (by decide)]; exact el) (fun j i hj hi => by rw [tc 53 (by decide), frc5.1 53 (by decide) (by decide)]; exact rows j i hj hi) (by rw [e67, up_a]) (fun i h1 h2 => by rw [e67, up_bn (by omega), up_bn (by omega), up_bn (by omega), up_bn (by omega), up_bn (by omega), up_bn (by omega)]) (fun _ => ⟨ro, bds⟩) (fun i hi => ?_)
    · exact ⟨fun j _ => by rw [rr.1 j, tc 43 (by decide)], by rw [rr.2.1, tc 54 (by decide)], rr.2.2⟩
    · rw [e67]
      rcases (by omega : i = 0 ∨ i = 1 ∨ i = 2 ∨ i = 3 ∨ i = 4) with rfl | rfl | rfl | rfl | rfl
      · rw [if_pos rfl, up_bn (by omega), up_bn (by omega), up_bn (by omega), up_bn (by omega), up_bn (by omega)]; exact up_a
      · rw [if_neg (by decide), up_bn (by omega), up_bn (by omega), up_bn (by omega), up_bn (by omega), up_a, y1, show yy + 1 - 1 = yy by omega, cl5 (by omega)]
      · rw [if_neg (by decide), up_bn (by omega), up_bn (by omega), up_bn (by omega), up_a, y2, show yy + 2 - 1 = yy + 1 by omega, cl5 (by omega)]
      · rw [if_neg (by decide), up_bn (by omega), up_bn (by omega), up_a, y3, show yy + 3 - 1 = yy + 2 by omega, cl5 (by omega)]
      · rw [if_neg (by decide), up_bn (by omega), up_a, y4, show yy + 4 - 1 = yy + 3 by omega]
  · have go : ∀ w4 : SG, (∀ c, c ≠ 67 → w4 c = w c) → pc ((RendsLine w4).bind fun s1 => some s1) (fun w => LE (QL f L a (RWS 5 N)) (rlC so line [59] u y) w) := fun w4 q1 => end_l ha (SM_67 sm q1) (fun z2 => absurd (by rw [← q1 65 (by decide)]; exact z2) z)
    have ad : pc (Radds w (nI N) x0 x1 x2 x3 x4) (fun w4 => ∀ c, c ≠ 67 → w4 c = w c) := by
      unfold Radds
      exact pc_rd (fun _ => pc_i (fun _ => pc_rd (fun _ => pc_wr (fun _ => pc_wr (fun _ => pc_wr (fun _ => pc_wr (fun _ => pc_wr (fun _ => pc_rd (fun _ => pc_wr (fun _ => pc_s (fun c hc => by rw [up_n hc, up_n hc, up_n hc, up_n hc, up_n hc, up_n hc])))))))))) (fun _ => pc_s (fun _ _ => rfl)))
    exact pc_b ad (fun w4 q1 => go w4 q1)
end AL
theorem w_su142 {u v : SG} {y1 y2 y3 y4 y5 : Int32} (hw : WE u v) : pc (RsummerLine_142 v y1 y2 y3 y4 y5) (fun w => WE u w) := by
  unfold RsummerLine_142
  repeat' first
    | exact pc_s (by assumption)
    | exact we_sem (by assumption) (pc_s (by assumption))
    | refine we_num (by assumption) (fun _ => ?_)
    | refine we_kin (by assumption) (fun _ => ?_)
    | refine we_sea (by assumption) (fun _ => ?_)
    | refine we_tak (by assumption) (fun _ => ?_)
    | refine we_add (by assumption) (fun _ _ => ?_)
    | refine we_als (by assumption) ?_
    | refine we_wri (by assumption) (fun _ _ => ?_)
    | refine we_min (by assumption) (fun _ _ _ => ?_)
    | refine pc_i (fun _ => ?_) (fun _ => ?_)
    | refine pc_rd (fun _ => ?_)
theorem w_su38 {u v : SG} {y1 : Int32} (hw : WE u v) : pc (RsummerLine_38 v y1) (fun w => WE u w) := by
  unfold RsummerLine_38
  repeat' first
    | exact w_su142 (by assumption)
    | exact pc_s (by assumption)
    | exact we_sem (by assumption) (pc_s (by assumption))
    | refine we_num (by assumption) (fun _ => ?_)
    | refine we_kin (by assumption) (fun _ => ?_)
    | refine we_sea (by assumption) (fun _ => ?_)
    | refine we_tak (by assumption) (fun _ => ?_)
    | refine we_add (by assumption) (fun _ _ => ?_)
    | refine we_als (by assumption) ?_
    | refine we_wri (by assumption) (fun _ _ => ?_)
    | refine we_min (by assumption) (fun _ _ _ => ?_)
    | refine pc_i (fun _ => ?_) (fun _ => ?_)
    | refine pc_rd (fun _ => ?_)
theorem w_ba38 {u v : SG} {y1 y2 : Int32} (hw : WE u v) : pc (RbargainLine_38 v y1 y2) (fun w => WE u w) := by
  unfold RbargainLine_38
  repeat' first
    | exact pc_s (by assumption)
    | exact we_sem (by assumption) (pc_s (by assumption))
    | refine we_num (by assumption) (fun _ => ?_)
    | refine we_kin (by assumption) (fun _ => ?_)
    | refine we_sea (by assumption) (fun _ => ?_)
    | refine we_tak (by assumption) (fun _ => ?_)
    | refine we_add (by assumption) (fun _ _ => ?_)
    | refine we_als (by assumption) ?_
    | refine we_wri (by assumption) (fun _ _ => ?_)
    | refine we_min (by assumption) (fun _ _ _ => ?_)
    | refine pc_i (fun _ => ?_) (fun _ => ?_)
    | refine pc_rd (fun _ => ?_)
theorem w_y201 {u v : SG} {y1 y2 : Int32} (hw : WE u v) : pc (RyearLine_201 v y1 y2) (fun w => WE u w) := by
  unfold RyearLine_201
  repeat' first
    | exact pc_s (by assumption)
    | exact we_sem (by assumption) (pc_s (by assumption))
    | refine we_num (by assumption) (fun _ => ?_)
    | refine we_kin (by assumption) (fun _ => ?_)
    | refine we_sea (by assumption) (fun _ => ?_)
    | refine we_tak (by assumption) (fun _ => ?_)
    | refine we_add (by assumption) (fun _ _ => ?_)
    | refine we_als (by assumption) ?_
    | refine we_wri (by assumption) (fun _ _ => ?_)
    | refine we_min (by assumption) (fun _ _ _ => ?_)
    | refine pc_i (fun _ => ?_) (fun _ => ?_)
    | refine pc_rd (fun _ => ?_)
theorem w_y184 {u v : SG} {y1 y2 : Int32} (hw : WE u v) : pc (RyearLine_184 v y1 y2) (fun w => WE u w) := by
  unfold RyearLine_184
  repeat' first
    | exact w_y201 (by assumption)
    | exact pc_s (by assumption)
    | exact we_sem (by assumption) (pc_s (by assumption))
    | refine we_num (by assumption) (fun _ => ?_)
    | refine we_kin (by assumption) (fun _ => ?_)
    | refine we_sea (by assumption) (fun _ => ?_)
    | refine we_tak (by assumption) (fun _ => ?_)
    | refine we_add (by assumption) (fun _ _ => ?_)
    | refine we_als (by assumption) ?_
    | refine we_wri (by assumption) (fun _ _ => ?_)
    | refine we_min (by assumption) (fun _ _ _ => ?_)
    | refine pc_i (fun _ => ?_) (fun _ => ?_)
    | refine pc_rd (fun _ => ?_)
theorem w_y163 {u v : SG} {y1 y2 : Int32} (hw : WE u v) : pc (RyearLine_163 v y1 y2) (fun w => WE u w) := by
  unfold RyearLine_163
  repeat' first
    | exact w_y184 (by assumption)
    | exact pc_s (by assumption)
    | exact we_sem (by assumption) (pc_s (by assumption))
    | refine we_num (by assumption) (fun _ => ?_)
    | refine we_kin (by assumption) (fun _ => ?_)
    | refine we_sea (by assumption) (fun _ => ?_)
    | refine we_tak (by assumption) (fun _ => ?_)
    | refine we_add (by assumption) (fun _ _ => ?_)
    | refine we_als (by assumption) ?_
    | refine we_wri (by assumption) (fun _ _ => ?_)
    | refine we_min (by assumption) (fun _ _ _ => ?_)
    | refine pc_i (fun _ => ?_) (fun _ => ?_)
    | refine pc_rd (fun _ => ?_)
theorem w_y151 {u v : SG} {y1 y2 : Int32} (hw : WE u v) : pc (RyearLine_151 v y1 y2) (fun w => WE u w) := by
  unfold RyearLine_151
  repeat' first
    | exact w_y163 (by assumption)
    | exact w_y184 (by assumption)
    | exact pc_s (by assumption)
    | exact we_sem (by assumption) (pc_s (by assumption))
    | refine we_num (by assumption) (fun _ => ?_)
    | refine we_kin (by assumption) (fun _ => ?_)
    | refine we_sea (by assumption) (fun _ => ?_)
    | refine we_tak (by assumption) (fun _ => ?_)
    | refine we_add (by assumption) (fun _ _ => ?_)
    | refine we_als (by assumption) ?_
    | refine we_wri (by assumption) (fun _ _ => ?_)
    | refine we_min (by assumption) (fun _ _ _ => ?_)
    | refine pc_i (fun _ => ?_) (fun _ => ?_)
    | refine pc_rd (fun _ => ?_)
theorem w_y125 {u v : SG} {y1 y2 : Int32} (hw : WE u v) : pc (RyearLine_125 v y1 y2) (fun w => WE u w) := by
  unfold RyearLine_125
  repeat' first
    | exact w_y151 (by assumption)
    | exact pc_s (by assumption)
    | exact we_sem (by assumption) (pc_s (by assumption))
    | refine we_num (by assumption) (fun _ => ?_)
    | refine we_kin (by assumption) (fun _ => ?_)
    | refine we_sea (by assumption) (fun _ => ?_)
    | refine we_tak (by assumption) (fun _ => ?_)
    | refine we_add (by assumption) (fun _ _ => ?_)
    | refine we_als (by assumption) ?_
    | refine we_wri (by assumption) (fun _ _ => ?_)
    | refine we_min (by assumption) (fun _ _ _ => ?_)
    | refine pc_i (fun _ => ?_) (fun _ => ?_)
    | refine pc_rd (fun _ => ?_)
theorem w_y105 {u v : SG} {y1 y2 : Int32} (hw : WE u v) : pc (RyearLine_105 v y1 y2) (fun w => WE u w) := by
  unfold RyearLine_105
  repeat' first
    | exact w_y125 (by assumption)
    | exact pc_s (by assumption)
    | exact we_sem (by assumption) (pc_s (by assumption))
    | refine we_num (by assumption) (fun _ => ?_)
    | refine we_kin (by assumption) (fun _ => ?_)
    | refine we_sea (by assumption) (fun _ => ?_)
    | refine we_tak (by assumption) (fun _ => ?_)
    | refine we_add (by assumption) (fun _ _ => ?_)
    | refine we_als (by assumption) ?_
    | refine we_wri (by assumption) (fun _ _ => ?_)
    | refine we_min (by assumption) (fun _ _ _ => ?_)
    | refine pc_i (fun _ => ?_) (fun _ => ?_)
    | refine pc_rd (fun _ => ?_)
theorem w_y55 {u v : SG} {y1 y2 : Int32} (hw : WE u v) : pc (RyearLine_55 v y1 y2) (fun w => WE u w) := by
  unfold RyearLine_55
  repeat' first
    | exact w_y105 (by assumption)
    | exact pc_s (by assumption)
    | exact we_sem (by assumption) (pc_s (by assumption))
    | refine we_num (by assumption) (fun _ => ?_)
    | refine we_kin (by assumption) (fun _ => ?_)
    | refine we_sea (by assumption) (fun _ => ?_)
    | refine we_tak (by assumption) (fun _ => ?_)
    | refine we_add (by assumption) (fun _ _ => ?_)
    | refine we_als (by assumption) ?_
    | refine we_wri (by assumption) (fun _ _ => ?_)
    | refine we_min (by assumption) (fun _ _ _ => ?_)
    | refine pc_i (fun _ => ?_) (fun _ => ?_)
    | refine pc_rd (fun _ => ?_)
theorem w_y30 {u v : SG} {y1 y2 : Int32} (hw : WE u v) : pc (RyearLine_30 v y1 y2) (fun w => WE u w) := by
  unfold RyearLine_30
  repeat' first
    | exact w_y55 (by assumption)
    | exact pc_s (by assumption)
    | exact we_sem (by assumption) (pc_s (by assumption))
    | refine we_num (by assumption) (fun _ => ?_)
    | refine we_kin (by assumption) (fun _ => ?_)
    | refine we_sea (by assumption) (fun _ => ?_)
    | refine we_tak (by assumption) (fun _ => ?_)
    | refine we_add (by assumption) (fun _ _ => ?_)
    | refine we_als (by assumption) ?_
    | refine we_wri (by assumption) (fun _ _ => ?_)
    | refine we_min (by assumption) (fun _ _ _ => ?_)
    | refine pc_i (fun _ => ?_) (fun _ => ?_)
    | refine pc_rd (fun _ => ?_)
theorem w_o140 {u v : SG} {y1 y2 : Int32} (hw : WE u v) : pc (RorderLine_140 v y1 y2) (fun w => WE u w) := by
  unfold RorderLine_140
  repeat' first
    | exact pc_s (by assumption)
    | exact we_sem (by assumption) (pc_s (by assumption))
    | refine we_num (by assumption) (fun _ => ?_)
    | refine we_kin (by assumption) (fun _ => ?_)
    | refine we_sea (by assumption) (fun _ => ?_)
    | refine we_tak (by assumption) (fun _ => ?_)
    | refine we_add (by assumption) (fun _ _ => ?_)
    | refine we_als (by assumption) ?_
    | refine we_wri (by assumption) (fun _ _ => ?_)
    | refine we_min (by assumption) (fun _ _ _ => ?_)
    | refine pc_i (fun _ => ?_) (fun _ => ?_)
    | refine pc_rd (fun _ => ?_)
theorem w_o91 {u v : SG} {y1 y2 : Int32} (hw : WE u v) : pc (RorderLine_91 v y1 y2) (fun w => WE u w) := by
  unfold RorderLine_91
  repeat' first
    | exact w_o140 (by assumption)
    | exact pc_s (by assumption)
    | exact we_sem (by assumption) (pc_s (by assumption))
    | refine we_num (by assumption) (fun _ => ?_)
    | refine we_kin (by assumption) (fun _ => ?_)
    | refine we_sea (by assumption) (fun _ => ?_)
    | refine we_tak (by assumption) (fun _ => ?_)
    | refine we_add (by assumption) (fun _ _ => ?_)
    | refine we_als (by assumption) ?_
    | refine we_wri (by assumption) (fun _ _ => ?_)
    | refine we_min (by assumption) (fun _ _ _ => ?_)
    | refine pc_i (fun _ => ?_) (fun _ => ?_)
    | refine pc_rd (fun _ => ?_)
theorem w_o68 {u v : SG} {y1 y2 : Int32} (hw : WE u v) : pc (RorderLine_68 v y1 y2) (fun w => WE u w) := by
  unfold RorderLine_68
  repeat' first
    | exact w_o91 (by assumption)
    | exact pc_s (by assumption)
    | exact we_sem (by assumption) (pc_s (by assumption))
    | refine we_num (by assumption) (fun _ => ?_)
    | refine we_kin (by assumption) (fun _ => ?_)
    | refine we_sea (by assumption) (fun _ => ?_)
    | refine we_tak (by assumption) (fun _ => ?_)
    | refine we_add (by assumption) (fun _ _ => ?_)
    | refine we_als (by assumption) ?_
    | refine we_wri (by assumption) (fun _ _ => ?_)
    | refine we_min (by assumption) (fun _ _ _ => ?_)
    | refine pc_i (fun _ => ?_) (fun _ => ?_)
    | refine pc_rd (fun _ => ?_)
theorem w_no62 {u v : SG} {y1 y2 y3 y4 : Int32} (hw : WE u v) : pc (RnoLine_62 v y1 y2 y3 y4) (fun w => WE u w) := by
  unfold RnoLine_62
  repeat' first
    | exact pc_s (by assumption)
    | exact we_sem (by assumption) (pc_s (by assumption))
    | refine we_num (by assumption) (fun _ => ?_)
    | refine we_kin (by assumption) (fun _ => ?_)
    | refine we_sea (by assumption) (fun _ => ?_)
    | refine we_tak (by assumption) (fun _ => ?_)
    | refine we_add (by assumption) (fun _ _ => ?_)
    | refine we_als (by assumption) ?_
    | refine we_wri (by assumption) (fun _ _ => ?_)
    | refine we_min (by assumption) (fun _ _ _ => ?_)
    | refine pc_i (fun _ => ?_) (fun _ => ?_)
    | refine pc_rd (fun _ => ?_)
theorem w_no {u v : SG} {β : Type} {P : β → Prop} {k : SG → Option β} (h : WE u v) (g : ∀ w, WE u w → pc (k w) P) : pc ((RnoLine v).bind k) P := by
  refine pc_b (Q := fun w => WE u w) ?_ (fun w hw => g w hw)
  unfold RnoLine
  refine we_kin h (fun _ => we_tak h (fun _ => we_num h (fun _ => pc_i (fun z => absurd z h.1) (fun _ => ?_))))
  exact w_no62 h
theorem w_o58 {u v : SG} {y1 y2 : Int32} (hw : WE u v) : pc (RorderLine_58 v y1 y2) (fun w => WE u w) := by
  unfold RorderLine_58
  repeat' first
    | exact w_o68 (by assumption)
    | refine w_no (by assumption) (fun _ _ => ?_)
    | exact pc_s (by assumption)
    | exact we_sem (by assumption) (pc_s (by assumption))
    | refine we_num (by assumption) (fun _ => ?_)
    | refine we_kin (by assumption) (fun _ => ?_)
    | refine we_sea (by assumption) (fun _ => ?_)
    | refine we_tak (by assumption) (fun _ => ?_)
    | refine we_add (by assumption) (fun _ _ => ?_)
    | refine we_als (by assumption) ?_
    | refine we_wri (by assumption) (fun _ _ => ?_)
    | refine we_min (by assumption) (fun _ _ _ => ?_)
    | refine pc_i (fun _ => ?_) (fun _ => ?_)
    | refine pc_rd (fun _ => ?_)
theorem w_o33 {u v : SG} {y1 y2 : Int32} (hw : WE u v) : pc (RorderLine_33 v y1 y2) (fun w => WE u w) := by
  unfold RorderLine_33
  repeat' first
    | exact w_o58 (by assumption)
    | exact pc_s (by assumption)
    | exact we_sem (by assumption) (pc_s (by assumption))
    | refine we_num (by assumption) (fun _ => ?_)
    | refine we_kin (by assumption) (fun _ => ?_)
    | refine we_sea (by assumption) (fun _ => ?_)
    | refine we_tak (by assumption) (fun _ => ?_)
    | refine we_add (by assumption) (fun _ _ => ?_)
    | refine we_als (by assumption) ?_
    | refine we_wri (by assumption) (fun _ _ => ?_)
    | refine we_min (by assumption) (fun _ _ _ => ?_)
    | refine pc_i (fun _ => ?_) (fun _ => ?_)
    | refine pc_rd (fun _ => ?_)
theorem yr_move {f : Nat → Int32} {L a a2 e2 : Nat} {u v u0 w0 : SG} {y1 : Int32} (ct : v 65 7 = 0 → RWS 5 40 u v) (ha2 : a < a2) (sm : SM f L a2 e2 u0 w0) (f0 : RL0 u u0) (f67 : w0 67 = v 67) (hz : w0 65 7 = 0 → v 65 7 = 0 ∧ ∃ n, n < 40 ∧ u 43 10 = nI n ∧ v 67 0 = nI n) : pc (RyearLine_55 w0 y1 24) (fun w => LE (QL f L a (RWS 5 40)) (rlC 2 (nI 0) [109, 97, 97, 97, 59] u0 0) w) := by
  unfold RyearLine_55
  rw [if_pos rfl]
  have ev : ∀ s : SG, RyearLine_105 s y1 24 = (RendsLine s).bind fun s1 => some s1 := by
    intro s
    unfold RyearLine_105 RyearLine_125 RyearLine_151 RyearLine_184 RyearLine_201
    rw [if_neg (by decide), if_neg (by decide), if_neg (by decide), if_neg (by decide), if_neg (by decide)]
  simp only [ev]
  refine LX_m sm (by omega) (fun u1 p1 b1 e1 x1 hb1 sm1 frc1 g1 frr1 hx1 nb1 => ?_) (fun _ _ hw => we_num hw (fun _ => we_num hw (fun _ => we_num hw (fun _ => we_add hw (fun _ h2 => we_sem h2 (pc_s h2))))))
  refine LX_a sm1 (by omega) (fun u2 p2 b2 e2 x2 hb2 sm2 frc2 g2 frr2 hx2 nb2 => ?_) (fun _ _ hw => we_num hw (fun _ => we_num hw (fun _ => we_add hw (fun _ h2 => we_sem h2 (pc_s h2)))))
  refine LX_a sm2 (by omega) (fun u3 p3 b3 e3 x3 hb3 sm3 frc3 g3 frr3 hx3 nb3 => ?_) (fun _ _ hw => we_num hw (fun _ => we_add hw (fun _ h2 => we_sem h2 (pc_s h2))))
  refine LX_a sm3 (by omega) (fun u4 p4 b4 e4 x4 hb4 sm4 frc4 g4 frr4 hx4 nb4 => ?_) (fun _ _ hw => we_add hw (fun _ h2 => we_sem h2 (pc_s h2)))
  refine add_l (N := 40) (by omega) sm4 (by decide) ⟨⟨0, rfl, by decide⟩, fun _ _ => ⟨nb2, nb3, nb4⟩⟩ (fun z => ?_)
  obtain ⟨z4, v4⟩ := hx4 z
  obtain ⟨z3, v3⟩ := hx3 z4
  obtain ⟨z2, v2⟩ := hx2 z3
  obtain ⟨z1, v1⟩ := hx1 z2
  obtain ⟨n, hn, en, el, r67, rows, bds⟩ := rws_0 ct (by decide) f0 hz z1
  have k67 : p4.2 67 = v 67 := by rw [frr4.1 67 (by decide) (by decide), frr3.1 67 (by decide) (by decide), frr2.1 67 (by decide) (by decide), frr1.1 67 (by decide) (by decide), f67]
  have k52 : u4 52 = u0 52 := by rw [frc4.1 52 (by decide) (by decide), frc3.1 52 (by decide) (by decide), frc2.1 52 (by decide) (by decide), frc1.1 52 (by decide) (by decide)]
  have k53 : u4 53 = u0 53 := by rw [frc4.1 53 (by decide) (by decide), frc3.1 53 (by decide) (by decide), frc2.1 53 (by decide) (by decide), frc1.1 53 (by decide) (by decide)]
  have k10 : u4 43 10 = u0 43 10 := by rw [frc4.2 10 (by decide) (by decide) (by decide) (by decide) (by decide), frc3.2 10 (by decide) (by decide) (by decide) (by decide) (by decide), frc2.2 10 (by decide) (by decide) (by decide) (by decide) (by decide), frc1.2 10 (by decide) (by decide) (by decide) (by decide) (by decide)]
  have d0 : u4 55 0 = p1.1 := by rw [g4, upd_b (by decide), g3, upd_b (by decide), g2, upd_b (by decide), g1, upd_a]; exact v1
  have d1 : u4 55 1 = p2.1 := by rw [g4, upd_b (by decide), g3, upd_b (by decide), g2, upd_a]; exact v2
  have d2 : u4 55 2 = p3.1 := by rw [g4, upd_b (by decide), g3, upd_a]; exact v3
  have d3 : u4 55 3 = p4.1 := by rw [g4, upd_a]; exact v4
  have d4 : u4 55 4 = -1 := by rw [g4, upd_b (by decide), g3, upd_b (by decide), g2, upd_b (by decide), g1, upd_b (by decide)]; exact f0.2.2.2 4 (by decide)
  refine ⟨⟨n, hn, by rw [k52]; exact en, by rw [k10]; exact el, by rw [k67]; exact r67, fun j i hj hi => by rw [k53, k67]; exact rows j i hj hi, fun j hj => ROK_g (bds rfl j hj) (fun i _ => by show _ = _; rw [k67])⟩, fun u4 e55 => ?_⟩
  have e : tkeS u4 2 (nI 0) = adwS u4 (nI 0) (nI 0) := by
    unfold tkeS tkeSW
    rw [if_neg (by decide), if_neg (by decide), if_pos rfl]; rfl
  refine ⟨u4, 0, by decide, e, fun _ _ => rfl, ?_, ?_, ?_, ?_⟩
  · rw [e55]; exact d0.symm
  · rw [e55]; exact d1.symm
  · rw [e55]; exact d2.symm
  · rw [e55, show 0 + 3 = 3 from rfl, cl5 (by decide)]; exact d3.symm
theorem yr_season {f : Nat → Int32} {L a a2 e2 : Nat} {u v u0 w0 : SG} {y1 : Int32} (ct : v 65 7 = 0 → RWS 5 40 u v) (ha2 : a < a2) (sm : SM f L a2 e2 u0 w0) (f0 : RL0 u u0) (f67 : w0 67 = v 67) (hz : w0 65 7 = 0 → v 65 7 = 0 ∧ ∃ n, n < 40 ∧ u 43 10 = nI n ∧ v 67 0 = nI n) : pc (RyearLine_55 w0 y1 25) (fun w => LE (QL f L a (RWS 5 40)) (rlC 2 (nI 1) [115, 59] u0 0) w) := by
  unfold RyearLine_55
  rw [if_neg (by decide)]
  unfold RyearLine_105
  rw [if_pos rfl]
  have ev : ∀ s : SG, RyearLine_125 s y1 25 = (RendsLine s).bind fun s1 => some s1 := by
    intro s
    unfold RyearLine_125 RyearLine_151 RyearLine_184 RyearLine_201
    rw [if_neg (by decide), if_neg (by decide), if_neg (by decide), if_neg (by decide)]
  simp only [ev]
  refine LX_sea sm (by omega) (fun u1 q1 b1 e1 j1 hb1 hj1 sm1 frc1 g1 frr1 h65_1 => ?_) (fun _ _ hw => we_add hw (fun _ h2 => we_sem h2 (pc_s h2)))
  try dsimp only
  refine add_l (N := 40) (by omega) sm1 (by decide) ⟨⟨1, rfl, by decide⟩, fun _ h => absurd h (by decide)⟩ (fun z => ?_)
  have z1 := z
  rw [h65_1] at z1
  obtain ⟨n, hn, en, el, r67, rows, bds⟩ := rws_0 ct (by decide) f0 hz z1
  have k67 : q1 67 = v 67 := by rw [frr1.1 67 (by decide) (by decide), f67]
  have k52 : u1 52 = u0 52 := by rw [frc1.1 52 (by decide) (by decide)]
  have k53 : u1 53 = u0 53 := by rw [frc1.1 53 (by decide) (by decide)]
  have k10 : u1 43 10 = u0 43 10 := by rw [frc1.2 10 (by decide) (by decide) (by decide) (by decide) (by decide)]
  have d0 : u1 55 0 = nI j1 := by rw [g1, upd_a]
  have d1 : u1 55 1 = -1 := by rw [g1, upd_b (by decide)]; exact f0.2.2.2 1 (by decide)
  have d2 : u1 55 2 = -1 := by rw [g1, upd_b (by decide)]; exact f0.2.2.2 2 (by decide)
  have d3 : u1 55 3 = -1 := by rw [g1, upd_b (by decide)]; exact f0.2.2.2 3 (by decide)
  have d4 : u1 55 4 = -1 := by rw [g1, upd_b (by decide)]; exact f0.2.2.2 4 (by decide)
  refine ⟨⟨n, hn, by rw [k52]; exact en, by rw [k10]; exact el, by rw [k67]; exact r67, fun j i hj hi => by rw [k53, k67]; exact rows j i hj hi, fun j hj => ROK_g (bds rfl j hj) (fun i _ => by show _ = _; rw [k67])⟩, fun u4 e55 => ?_⟩
  have e : tkeS u4 2 (nI 1) = adwS u4 (nI 1) (nI 0) := by
    unfold tkeS tkeSW
    rw [if_neg (by decide), if_neg (by decide), if_pos rfl]; rfl
  refine ⟨u4, 0, by decide, e, fun _ _ => rfl, ?_, ?_, ?_, ?_⟩
  · rw [e55]; exact d0.symm
  · rw [e55]; exact d1.symm
  · rw [e55]; exact d2.symm
  · rw [e55, show 0 + 3 = 3 from rfl, cl5 (by decide)]; exact d3.symm
theorem yr_office {f : Nat → Int32} {L a a2 e2 : Nat} {u v u0 w0 : SG} {y1 : Int32} (ct : v 65 7 = 0 → RWS 5 40 u v) (ha2 : a < a2) (sm : SM f L a2 e2 u0 w0) (f0 : RL0 u u0) (f67 : w0 67 = v 67) (hz : w0 65 7 = 0 → v 65 7 = 0 ∧ ∃ n, n < 40 ∧ u 43 10 = nI n ∧ v 67 0 = nI n) : pc (RyearLine_55 w0 y1 5) (fun w => LE (QL f L a (RWS 5 40)) (rlC 2 (nI 2) [107, 109, 59] u0 0) w) := by
  unfold RyearLine_55
  rw [if_neg (by decide)]
  unfold RyearLine_105
  rw [if_neg (by decide)]
  unfold RyearLine_125
  rw [if_pos rfl]
  have ev : ∀ s : SG, RyearLine_151 s y1 5 = (RendsLine s).bind fun s1 => some s1 := by
    intro s
    unfold RyearLine_151 RyearLine_184 RyearLine_201
    rw [if_neg (by decide), if_neg (by decide), if_neg (by decide)]
  simp only [ev]
  refine LX_kin sm (by omega) (fun u1 q1 b1 e1 j1 hb1 hj1 sm1 frc1 g1 frr1 h65_1 => ?_) (fun _ _ hw => we_num hw (fun _ => we_add hw (fun _ h2 => we_sem h2 (pc_s h2))))
  try dsimp only
  refine LX_m sm1 (by omega) (fun u2 p2 b2 e2 x2 hb2 sm2 frc2 g2 frr2 hx2 nb2 => ?_) (fun _ _ hw => we_add hw (fun _ h2 => we_sem h2 (pc_s h2)))
  refine add_l (N := 40) (by omega) sm2 (by decide) ⟨⟨2, rfl, by decide⟩, fun _ h => absurd h (by decide)⟩ (fun z => ?_)
  obtain ⟨z2, v2⟩ := hx2 z
  have z1 := z2
  rw [h65_1] at z1
  obtain ⟨n, hn, en, el, r67, rows, bds⟩ := rws_0 ct (by decide) f0 hz z1
  have k67 : p2.2 67 = v 67 := by rw [frr2.1 67 (by decide) (by decide), frr1.1 67 (by decide) (by decide), f67]
  have k52 : u2 52 = u0 52 := by rw [frc2.1 52 (by decide) (by decide), frc1.1 52 (by decide) (by decide)]
  have k53 : u2 53 = u0 53 := by rw [frc2.1 53 (by decide) (by decide), frc1.1 53 (by decide) (by decide)]
  have k10 : u2 43 10 = u0 43 10 := by rw [frc2.2 10 (by decide) (by decide) (by decide) (by decide) (by decide), frc1.2 10 (by decide) (by decide) (by decide) (by decide) (by decide)]
  have d0 : u2 55 0 = nI j1 := by rw [g2, upd_b (by decide), g1, upd_a]
  have d1 : u2 55 1 = p2.1 := by rw [g2, upd_a]; exact v2
  have d2 : u2 55 2 = -1 := by rw [g2, upd_b (by decide), g1, upd_b (by decide)]; exact f0.2.2.2 2 (by decide)
  have d3 : u2 55 3 = -1 := by rw [g2, upd_b (by decide), g1, upd_b (by decide)]; exact f0.2.2.2 3 (by decide)
  have d4 : u2 55 4 = -1 := by rw [g2, upd_b (by decide), g1, upd_b (by decide)]; exact f0.2.2.2 4 (by decide)
  refine ⟨⟨n, hn, by rw [k52]; exact en, by rw [k10]; exact el, by rw [k67]; exact r67, fun j i hj hi => by rw [k53, k67]; exact rows j i hj hi, fun j hj => ROK_g (bds rfl j hj) (fun i _ => by show _ = _; rw [k67])⟩, fun u4 e55 => ?_⟩
  have e : tkeS u4 2 (nI 2) = adwS u4 (nI 2) (nI 0) := by
    unfold tkeS tkeSW
    rw [if_neg (by decide), if_neg (by decide), if_pos rfl]; rfl
  refine ⟨u4, 0, by decide, e, fun _ _ => rfl, ?_, ?_, ?_, ?_⟩
  · rw [e55]; exact d0.symm
  · rw [e55]; exact d1.symm
  · rw [e55]; exact d2.symm
  · rw [e55, show 0 + 3 = 3 from rfl, cl5 (by decide)]; exact d3.symm
theorem yr_dismiss {f : Nat → Int32} {L a a2 e2 : Nat} {u v u0 w0 : SG} {y1 : Int32} (ct : v 65 7 = 0 → RWS 5 40 u v) (ha2 : a < a2) (sm : SM f L a2 e2 u0 w0) (f0 : RL0 u u0) (f67 : w0 67 = v 67) (hz : w0 65 7 = 0 → v 65 7 = 0 ∧ ∃ n, n < 40 ∧ u 43 10 = nI n ∧ v 67 0 = nI n) : pc (RyearLine_55 w0 y1 26) (fun w => LE (QL f L a (RWS 5 40)) (rlC 2 (nI 3) [109, 59] u0 0) w) := by
  unfold RyearLine_55
  rw [if_neg (by decide)]
  unfold RyearLine_105
  rw [if_neg (by decide)]
  unfold RyearLine_125
  rw [if_neg (by decide)]
  unfold RyearLine_151
  rw [if_pos rfl]
  unfold RyearLine_163
  have ev : ∀ s : SG, RyearLine_184 s y1 26 = (RendsLine s).bind fun s1 => some s1 := by
    intro s
    unfold RyearLine_184 RyearLine_201
    rw [if_neg (by decide)]
  simp only [ev]
  refine LX_m sm (by omega) (fun u1 p1 b1 e1 x1 hb1 sm1 frc1 g1 frr1 hx1 nb1 => ?_) (fun _ _ hw => we_add hw (fun _ h2 => we_sem h2 (pc_s h2)))
  rw [show (3 : Int32) + 26 - 26 = nI 3 from rfl]
  refine add_l (N := 40) (by omega) sm1 (by decide) ⟨⟨3, rfl, by decide⟩, fun _ h => absurd h (by decide)⟩ (fun z => ?_)
  obtain ⟨z1, v1⟩ := hx1 z
  obtain ⟨n, hn, en, el, r67, rows, bds⟩ := rws_0 ct (by decide) f0 hz z1
  have k67 : p1.2 67 = v 67 := by rw [frr1.1 67 (by decide) (by decide), f67]
  have k52 : u1 52 = u0 52 := by rw [frc1.1 52 (by decide) (by decide)]
  have k53 : u1 53 = u0 53 := by rw [frc1.1 53 (by decide) (by decide)]
  have k10 : u1 43 10 = u0 43 10 := by rw [frc1.2 10 (by decide) (by decide) (by decide) (by decide) (by decide)]
  have d0 : u1 55 0 = p1.1 := by rw [g1, upd_a]; exact v1
  have d1 : u1 55 1 = -1 := by rw [g1, upd_b (by decide)]; exact f0.2.2.2 1 (by decide)
  have d2 : u1 55 2 = -1 := by rw [g1, upd_b (by decide)]; exact f0.2.2.2 2 (by decide)
  have d3 : u1 55 3 = -1 := by rw [g1, upd_b (by decide)]; exact f0.2.2.2 3 (by decide)
  have d4 : u1 55 4 = -1 := by rw [g1, upd_b (by decide)]; exact f0.2.2.2 4 (by decide)
  refine ⟨⟨n, hn, by rw [k52]; exact en, by rw [k10]; exact el, by rw [k67]; exact r67, fun j i hj hi => by rw [k53, k67]; exact rows j i hj hi, fun j hj => ROK_g (bds rfl j hj) (fun i _ => by show _ = _; rw [k67])⟩, fun u4 e55 => ?_⟩
  have e : tkeS u4 2 (nI 3) = adwS u4 (nI 3) (nI 0) := by
    unfold tkeS tkeSW
    rw [if_neg (by decide), if_neg (by decide), if_pos rfl]; rfl
  refine ⟨u4, 0, by decide, e, fun _ _ => rfl, ?_, ?_, ?_, ?_⟩
  · rw [e55]; exact d0.symm
  · rw [e55]; exact d1.symm
  · rw [e55]; exact d2.symm
  · rw [e55, show 0 + 3 = 3 from rfl, cl5 (by decide)]; exact d3.symm
theorem yr_recall {f : Nat → Int32} {L a a2 e2 : Nat} {u v u0 w0 : SG} {y1 : Int32} (ct : v 65 7 = 0 → RWS 5 40 u v) (ha2 : a < a2) (sm : SM f L a2 e2 u0 w0) (f0 : RL0 u u0) (f67 : w0 67 = v 67) (hz : w0 65 7 = 0 → v 65 7 = 0 ∧ ∃ n, n < 40 ∧ u 43 10 = nI n ∧ v 67 0 = nI n) : pc (RyearLine_55 w0 y1 27) (fun w => LE (QL f L a (RWS 5 40)) (rlC 2 (nI 4) [109, 59] u0 0) w) := by
  unfold RyearLine_55
  rw [if_neg (by decide)]
  unfold RyearLine_105
  rw [if_neg (by decide)]
  unfold RyearLine_125
  rw [if_neg (by decide)]
  unfold RyearLine_151
  rw [if_neg (by decide), if_pos rfl]
  unfold RyearLine_163
  have ev : ∀ s : SG, RyearLine_184 s y1 27 = (RendsLine s).bind fun s1 => some s1 := by
    intro s
    unfold RyearLine_184 RyearLine_201
    rw [if_neg (by decide)]
  simp only [ev]
  refine LX_m sm (by omega) (fun u1 p1 b1 e1 x1 hb1 sm1 frc1 g1 frr1 hx1 nb1 => ?_) (fun _ _ hw => we_add hw (fun _ h2 => we_sem h2 (pc_s h2)))
  rw [show (3 : Int32) + 27 - 26 = nI 4 from rfl]
  refine add_l (N := 40) (by omega) sm1 (by decide) ⟨⟨4, rfl, by decide⟩, fun _ h => absurd h (by decide)⟩ (fun z => ?_)
  obtain ⟨z1, v1⟩ := hx1 z
  obtain ⟨n, hn, en, el, r67, rows, bds⟩ := rws_0 ct (by decide) f0 hz z1
  have k67 : p1.2 67 = v 67 := by rw [frr1.1 67 (by decide) (by decide), f67]
  have k52 : u1 52 = u0 52 := by rw [frc1.1 52 (by decide) (by decide)]
  have k53 : u1 53 = u0 53 := by rw [frc1.1 53 (by decide) (by decide)]
  have k10 : u1 43 10 = u0 43 10 := by rw [frc1.2 10 (by decide) (by decide) (by decide) (by decide) (by decide)]
  have d0 : u1 55 0 = p1.1 := by rw [g1, upd_a]; exact v1
  have d1 : u1 55 1 = -1 := by rw [g1, upd_b (by decide)]; exact f0.2.2.2 1 (by decide)
  have d2 : u1 55 2 = -1 := by rw [g1, upd_b (by decide)]; exact f0.2.2.2 2 (by decide)
  have d3 : u1 55 3 = -1 := by rw [g1, upd_b (by decide)]; exact f0.2.2.2 3 (by decide)
  have d4 : u1 55 4 = -1 := by rw [g1, upd_b (by decide)]; exact f0.2.2.2 4 (by decide)
  refine ⟨⟨n, hn, by rw [k52]; exact en, by rw [k10]; exact el, by rw [k67]; exact r67, fun j i hj hi => by rw [k53, k67]; exact rows j i hj hi, fun j hj => ROK_g (bds rfl j hj) (fun i _ => by show _ = _; rw [k67])⟩, fun u4 e55 => ?_⟩
  have e : tkeS u4 2 (nI 4) = adwS u4 (nI 4) (nI 0) := by
    unfold tkeS tkeSW
    rw [if_neg (by decide), if_neg (by decide), if_pos rfl]; rfl
  refine ⟨u4, 0, by decide, e, fun _ _ => rfl, ?_, ?_, ?_, ?_⟩
  · rw [e55]; exact d0.symm
  · rw [e55]; exact d1.symm
  · rw [e55]; exact d2.symm
  · rw [e55, show 0 + 3 = 3 from rfl, cl5 (by decide)]; exact d3.symm
theorem yr_pass {f : Nat → Int32} {L a a2 e2 : Nat} {u v u0 w0 : SG} {y1 : Int32} (ct : v 65 7 = 0 → RWS 5 40 u v) (ha2 : a < a2) (sm : SM f L a2 e2 u0 w0) (f0 : RL0 u u0) (f67 : w0 67 = v 67) (hz : w0 65 7 = 0 → v 65 7 = 0 ∧ ∃ n, n < 40 ∧ u 43 10 = nI n ∧ v 67 0 = nI n) : pc (RyearLine_55 w0 y1 28) (fun w => LE (QL f L a (RWS 5 40)) (rlC 2 (nI 5) [59] u0 0) w) := by
  unfold RyearLine_55
  rw [if_neg (by decide)]
  unfold RyearLine_105
  rw [if_neg (by decide)]
  unfold RyearLine_125
  rw [if_neg (by decide)]
  unfold RyearLine_151
  rw [if_neg (by decide), if_neg (by decide)]
  unfold RyearLine_184 RyearLine_201
  rw [if_pos rfl]
  refine add_l (N := 40) (by omega) sm (by decide) ⟨⟨5, rfl, by decide⟩, fun _ h => absurd h (by decide)⟩ (fun z => ?_)
  obtain ⟨n, hn, en, el, r67, rows, bds⟩ := rws_0 ct (by decide) f0 hz z
  have k67 : w0 67 = v 67 := f67
  have k52 : u0 52 = u0 52 := rfl
  have k53 : u0 53 = u0 53 := rfl
  have k10 : u0 43 10 = u0 43 10 := rfl
  have d0 : u0 55 0 = -1 := by exact f0.2.2.2 0 (by decide)
  have d1 : u0 55 1 = -1 := by exact f0.2.2.2 1 (by decide)
  have d2 : u0 55 2 = -1 := by exact f0.2.2.2 2 (by decide)
  have d3 : u0 55 3 = -1 := by exact f0.2.2.2 3 (by decide)
  have d4 : u0 55 4 = -1 := by exact f0.2.2.2 4 (by decide)
  refine ⟨⟨n, hn, by rw [k52]; exact en, by rw [k10]; exact el, by rw [k67]; exact r67, fun j i hj hi => by rw [k53, k67]; exact rows j i hj hi, fun j hj => ROK_g (bds rfl j hj) (fun i _ => by show _ = _; rw [k67])⟩, fun u4 e55 => ?_⟩
  have e : tkeS u4 2 (nI 5) = adwS u4 (nI 5) (nI 0) := by
    unfold tkeS tkeSW
    rw [if_neg (by decide), if_neg (by decide), if_pos rfl]; rfl
  refine ⟨u4, 0, by decide, e, fun _ _ => rfl, ?_, ?_, ?_, ?_⟩
  · rw [e55]; exact d0.symm
  · rw [e55]; exact d1.symm
  · rw [e55]; exact d2.symm
  · rw [e55, show 0 + 3 = 3 from rfl, cl5 (by decide)]; exact d3.symm
end XTK
