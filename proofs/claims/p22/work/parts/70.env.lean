section XRY
/-! the strings at the law's entry -/
def wc_sx : List Nat := [83, 85, 87, 89, 91, 93, 95, 97, 99, 101, 103, 105, 107, 163, 179, 181, 183, 185]
def wc_stm (i : Nat) : Term := Term.string RX1 (wc_sx.getD i 0)
def wc_sv (i : Nat) : Term := .field (wc_stm i) "java/lang/String" "value" "[B"
def wc_se (i : Nat) : List Cond := [Cond.exactly (wc_stm i) "java/lang/String", Cond.eq (.field (wc_stm i) "java/lang/String" "coder" "B") (.int 0), Cond.arrayOf (wc_sv i) .byte, Cond.eq (.length (wc_sv i)) (.int (Int32.ofNat (wc_len.getD i 0)))] ++ (List.range (wc_len.getD i 0)).map (fun j => Cond.eq (.elem (wc_sv i) (.int (Int32.ofNat j))) (.int ((wc_byt.getD i []).getD j 0))) ++ (List.range i).map (fun k => Cond.not (Cond.eq (wc_stm k) (wc_stm i)))
theorem wc_sub {α : Type} {L M : List α} (p n : Nat) (h : (L.drop p).take n = M) : ∀ c ∈ M, c ∈ L := by
  intro c hc
  rw [← h] at hc
  exact List.mem_of_mem_drop (List.mem_of_mem_take hc)
theorem wc_sq0 : ((flatC (Jvm.Cond.and given_1 narrow_1)).drop 52).take 64 = wc_se 0 := by decide +kernel
theorem wc_sq1 : ((flatC (Jvm.Cond.and given_1 narrow_1)).drop 116).take 17 = wc_se 1 := by decide +kernel
theorem wc_sq2 : ((flatC (Jvm.Cond.and given_1 narrow_1)).drop 133).take 44 = wc_se 2 := by decide +kernel
theorem wc_sq3 : ((flatC (Jvm.Cond.and given_1 narrow_1)).drop 177).take 11 = wc_se 3 := by decide +kernel
theorem wc_sq4 : ((flatC (Jvm.Cond.and given_1 narrow_1)).drop 188).take 11 = wc_se 4 := by decide +kernel
theorem wc_sq5 : ((flatC (Jvm.Cond.and given_1 narrow_1)).drop 199).take 14 = wc_se 5 := by decide +kernel
theorem wc_sq6 : ((flatC (Jvm.Cond.and given_1 narrow_1)).drop 213).take 10 = wc_se 6 := by decide +kernel
theorem wc_sq7 : ((flatC (Jvm.Cond.and given_1 narrow_1)).drop 223).take 49 = wc_se 7 := by decide +kernel
theorem wc_sq8 : ((flatC (Jvm.Cond.and given_1 narrow_1)).drop 272).take 26 = wc_se 8 := by decide +kernel
theorem wc_sq9 : ((flatC (Jvm.Cond.and given_1 narrow_1)).drop 298).take 33 = wc_se 9 := by decide +kernel
theorem wc_sq10 : ((flatC (Jvm.Cond.and given_1 narrow_1)).drop 331).take 17 = wc_se 10 := by decide +kernel
theorem wc_sq11 : ((flatC (Jvm.Cond.and given_1 narrow_1)).drop 348).take 20 = wc_se 11 := by decide +kernel
theorem wc_sq12 : ((flatC (Jvm.Cond.and given_1 narrow_1)).drop 368).take 19 = wc_se 12 := by decide +kernel
theorem wc_sq13 : ((flatC (Jvm.Cond.and given_1 narrow_1)).drop 387).take 19 = wc_se 13 := by decide +kernel
theorem wc_sq14 : ((flatC (Jvm.Cond.and given_1 narrow_1)).drop 406).take 31 = wc_se 14 := by decide +kernel
theorem wc_sq15 : ((flatC (Jvm.Cond.and given_1 narrow_1)).drop 437).take 46 = wc_se 15 := by decide +kernel
theorem wc_sq16 : ((flatC (Jvm.Cond.and given_1 narrow_1)).drop 483).take 31 = wc_se 16 := by decide +kernel
theorem wc_sq17 : ((flatC (Jvm.Cond.and given_1 narrow_1)).drop 514).take 27 = wc_se 17 := by decide +kernel
theorem wc_se_in : ∀ i, i < 18 → ∀ c ∈ wc_se i, c ∈ flatC (Jvm.Cond.and given_1 narrow_1) := by
  intro i hi
  rcases (by omega : i = 0 ∨ i = 1 ∨ i = 2 ∨ i = 3 ∨ i = 4 ∨ i = 5 ∨ i = 6 ∨ i = 7 ∨ i = 8 ∨ i = 9 ∨ i = 10 ∨ i = 11 ∨ i = 12 ∨ i = 13 ∨ i = 14 ∨ i = 15 ∨ i = 16 ∨ i = 17) with rfl | rfl | rfl | rfl | rfl | rfl | rfl | rfl | rfl | rfl | rfl | rfl | rfl | rfl | rfl | rfl | rfl | rfl
  · exact wc_sub 52 64 wc_sq0
  · exact wc_sub 116 17 wc_sq1
  · exact wc_sub 133 44 wc_sq2
  · exact wc_sub 177 11 wc_sq3
  · exact wc_sub 188 11 wc_sq4
  · exact wc_sub 199 14 wc_sq5
  · exact wc_sub 213 10 wc_sq6
  · exact wc_sub 223 49 wc_sq7
  · exact wc_sub 272 26 wc_sq8
  · exact wc_sub 298 33 wc_sq9
  · exact wc_sub 331 17 wc_sq10
  · exact wc_sub 348 20 wc_sq11
  · exact wc_sub 368 19 wc_sq12
  · exact wc_sub 387 19 wc_sq13
  · exact wc_sub 406 31 wc_sq14
  · exact wc_sub 437 46 wc_sq15
  · exact wc_sub 483 31 wc_sq16
  · exact wc_sub 514 27 wc_sq17
theorem wc_strw : ∀ w ∈ wc_strs.map (fun q => Cond.stringRef RX1 q.1 q.2.1), w ∈ lw_tbl := wc_Sl [(2, 136), (2, 137), (2, 138), (2, 139), (2, 140), (2, 141), (2, 142), (2, 217), (2, 218), (2, 219), (2, 220), (2, 221), (2, 222), (2, 234), (2, 238), (2, 239), (3, 0), (3, 1)] (by decide +kernel)
theorem wc_strx : ∀ q ∈ wc_strs, wc_sx.getD q.2.2 0 = q.1 ∧ q.2.2 < 18 := by decide
theorem wc_lenlt : ∀ i, i < 18 → wc_len.getD i 0 < 2 ^ 31 := by decide
theorem wc_fmtL : Cond.isRef (Term.static RJ3 "SIOOBE_FORMATTER" "Ljava/util/function/BiFunction;") ∈ flatC (Jvm.Cond.and given_1 narrow_1) := by decide +kernel
theorem wc_cmpL : Cond.eq (Term.static "java/lang/String" "COMPACT_STRINGS" "Z") (.int 1) ∈ flatC (Jvm.Cond.and given_1 narrow_1) := by decide +kernel
/-- the strings, where they lie -/
theorem wc_strsAt {b : Nat} {s : State} {A : Nat → Prop} (hgv : (Jvm.Cond.and given_1 narrow_1).before #[Value.ref b] s = true) (hA : ∀ a : Nat, a < s.heap.size → ¬ A a) : ∃ adK adV : Nat → Nat, vk_S 18 wc_len wc_byt adK adV A s s.heap ∧ ∀ i : Nat, i < 18 → (wc_stm i).eval #[Value.ref b] s none [] s = some (.ref (adK i)) := by
  have hs := wc_flat hgv
  refine vk_Sof (tm := wc_stm) wc_lenlt (fun i hi => ?_) (fun i hi => ?_) (fun i hi => ?_) (fun i hi => ?_) (fun i hi j hj => ?_) (fun i j hi hj hne => ?_) hA
  · exact hs _ (wc_se_in i hi _ (by simp [wc_se]))
  · exact hs _ (wc_se_in i hi _ (by simp [wc_se]))
  · exact hs _ (wc_se_in i hi _ (by simp [wc_se, wc_sv]))
  · exact hs _ (wc_se_in i hi _ (by simp [wc_se, wc_sv]))
  · refine hs _ (wc_se_in i hi _ ?_)
    unfold wc_se
    exact List.mem_append_left _ (List.mem_append_right _ (List.mem_map.mpr ⟨j, List.mem_range.mpr hj, rfl⟩))
  · rcases Nat.lt_or_gt_of_ne hne with h | h
    · refine Or.inl (hs _ (wc_se_in j hj _ ?_))
      unfold wc_se
      exact List.mem_append_right _ (List.mem_map.mpr ⟨i, List.mem_range.mpr h, rfl⟩)
    · refine Or.inr (hs _ (wc_se_in i hi _ ?_))
      unfold wc_se
      exact List.mem_append_right _ (List.mem_map.mpr ⟨j, List.mem_range.mpr h, rfl⟩)
/-- the formatter: a reference or null -/
theorem wc_fmt {b : Nat} {s : State} (hgv : (Jvm.Cond.and given_1 narrow_1).before #[Value.ref b] s = true) : ∃ n0 a0 : Nat, (Term.static RJ3 "SIOOBE_FORMATTER" "Ljava/util/function/BiFunction;").eval #[Value.ref b] s none [] s = some (bif Nat.beq n0 1 then Value.null else Value.ref a0) := by
  have hs := wc_flat hgv
  obtain ⟨v, hv, hr⟩ := Cond.isRef_spec (show (Cond.isRef (Term.static RJ3 "SIOOBE_FORMATTER" "Ljava/util/function/BiFunction;")).holds #[Value.ref b] s none s [] = true from hs _ wc_fmtL)
  cases v with
  | null => exact ⟨1, 0, hv⟩
  | ref a => exact ⟨0, a, hv⟩
  | _ => simp [Value.isRef] at hr
def wc_gA (t0 t1 b a0 : Nat) (adK adV : Nat → Nat) : Nat → Nat := fun k => if k = 0 then t0 else if k = 1 then t1 else if k = 2 then b else if k = 100 then a0 else if 40 ≤ k then adV (k - 40) else adK (k - 3)
theorem wc_gA_K {t0 t1 b a0 : Nat} {adK adV : Nat → Nat} {i : Nat} (hi : i < 18) : wc_gA t0 t1 b a0 adK adV (3 + i) = adK i := by
  unfold wc_gA
  rw [if_neg (by omega), if_neg (by omega), if_neg (by omega), if_neg (by omega), if_neg (by omega), Nat.add_sub_cancel_left]
theorem wc_gA_V {t0 t1 b a0 : Nat} {adK adV : Nat → Nat} {i : Nat} (hi : i < 18) : wc_gA t0 t1 b a0 adK adV (40 + i) = adV i := by
  unfold wc_gA
  rw [if_neg (by omega), if_neg (by omega), if_neg (by omega), if_neg (by omega), if_pos (by omega), Nat.add_sub_cancel_left]
def wc_gL (L n0 : Nat) : Nat → Nat := fun k => if k = 0 then 6 else if k = 1 then 7 else if k = 100 then n0 else L
def wc_gF (xs : Nat → Int32) : Nat → Nat → Int32 := fun k => if k = 0 then wc_rowM else if k = 1 then wc_rowF else xs
theorem wc_rowMx : ∀ j, j < 6 → wc_rowM j = [6, 8, 40, 8, 8, 600].getD j 0 := by decide
theorem wc_rowFx : ∀ j, j < 7 → wc_rowF j = [1, 1, 2, 6, 24, 120, 720].getD j 0 := by decide
set_option maxHeartbeats 4000000 in
/-- at the law's entry: the environment, with the script as the third constant -/
theorem wc_env {b L : Nat} {xs : Nat → Int32} {s : State} (hts : ∀ w ∈ lw_tbl, w.before #[Value.ref b] s = true) (hX : va_X b L xs s s.heap) (hbl : b < s.heap.size) (hLs : L < 2147483648) (hgv : (Jvm.Cond.and given_1 narrow_1).before #[Value.ref b] s = true) : ∃ G : EG, gZ G = s.heap.size ∧ gA G 2 = b ∧ xsc G (L, xs) ∧ wc_E G s := by
  obtain ⟨c0, iS0, hKn0⟩ := u_known (C := RX0) (T := TX0) (N := 13) (n := 13) hts (fun w h => wc_Bt w (wuX0 w h)) (hts (.instantiable RX0 13) (wc_seg_in 1 _ (List.mem_of_getElem? (i := 197) (by decide +kernel : (wc_seg 1)[197]? = some (Cond.instantiable RX0 13)))))
  obtain ⟨c1, iS1, hKn1⟩ := u_known (C := RX1) (T := TX1) (N := 12) (n := 12) hts (fun w h => wc_Bt w (wuX1 w h)) (hts (.instantiable RX1 12) (wc_seg_in 1 _ (List.mem_of_getElem? (i := 146) (by decide +kernel : (wc_seg 1)[146]? = some (Cond.instantiable RX1 12)))))
  obtain ⟨c2, iS2, hKn2⟩ := u_known (C := RX2) (T := TX2) (N := 14) (n := 14) hts (fun w h => wc_Bt w (wuX2 w h)) (hts (.instantiable RX2 14) (wc_seg_in 1 _ (List.mem_of_getElem? (i := 35) (by decide +kernel : (wc_seg 1)[35]? = some (Cond.instantiable RX2 14)))))
  obtain ⟨c3, iS3, hKn3⟩ := u_known (C := RX3) (T := TX3) (N := 2) (n := 2) hts (fun w h => wc_Bt w (wuX3 w h)) (hts (.instantiable RX3 2) (wc_seg_in 1 _ (List.mem_of_getElem? (i := 104) (by decide +kernel : (wc_seg 1)[104]? = some (Cond.instantiable RX3 2)))))
  obtain ⟨c4, iS4, hKn4⟩ := u_known (C := RX4) (T := TX4) (N := 3) (n := 3) hts (fun w h => wc_Bt w (wuX4 w h)) (hts (.instantiable RX4 3) (wc_seg_in 1 _ (List.mem_of_getElem? (i := 203) (by decide +kernel : (wc_seg 1)[203]? = some (Cond.instantiable RX4 3)))))
  obtain ⟨c5, iS5, hKn5⟩ := u_known (C := RX5) (T := TX5) (N := 7) (n := 7) hts (fun w h => wc_Bt w (wuX5 w h)) (hts (.instantiable RX5 7) (wc_seg_in 1 _ (List.mem_of_getElem? (i := 26) (by decide +kernel : (wc_seg 1)[26]? = some (Cond.instantiable RX5 7)))))
  obtain ⟨c6, iS6, hKn6⟩ := u_known (C := RX6) (T := TX6) (N := 8) (n := 8) hts (fun w h => wc_Bt w (wuX6 w h)) (hts (.instantiable RX6 8) (wc_seg_in 1 _ (List.mem_of_getElem? (i := 18) (by decide +kernel : (wc_seg 1)[18]? = some (Cond.instantiable RX6 8)))))
  obtain ⟨c7, iS7, hKn7⟩ := u_known (C := RX7) (T := TX7) (N := 35) (n := 35) hts (fun w h => wc_Bt w (wuX7 w h)) (hts (.instantiable RX7 35) (wc_seg_in 5 _ (List.mem_of_getElem? (i := 11) (by decide +kernel : (wc_seg 5)[11]? = some (Cond.instantiable RX7 35)))))
  obtain ⟨y0, k0, p0, g01, g02, g03⟩ := Cond.arrayClass_spec (hts (.arrayClass .int) (wc_seg_in 1 _ (List.mem_of_getElem? (i := 103) (by decide +kernel : (wc_seg 1)[103]? = some (Cond.arrayClass .int)))))
  obtain ⟨y1, k1, p1, g11, g12, g13⟩ := Cond.arrayClass_spec (hts (.arrayClass .boolean) (wc_seg_in 5 _ (List.mem_of_getElem? (i := 122) (by decide +kernel : (wc_seg 5)[122]? = some (Cond.arrayClass .boolean)))))
  have ao2 : va_AO RX2 s := va_AO.of (hts (.arrayOver (.object RX2)) (wc_seg_in 1 _ (List.mem_of_getElem? (i := 32) (by decide +kernel : (wc_seg 1)[32]? = some (Cond.arrayOver (.object RX2))))))
  have ao3 : va_AO RX3 s := va_AO.of (hts (.arrayOver (.object RX3)) (wc_seg_in 1 _ (List.mem_of_getElem? (i := 34) (by decide +kernel : (wc_seg 1)[34]? = some (Cond.arrayOver (.object RX3))))))
  have ao5 : va_AO RX5 s := va_AO.of (hts (.arrayOver (.object RX5)) (wc_seg_in 1 _ (List.mem_of_getElem? (i := 144) (by decide +kernel : (wc_seg 1)[144]? = some (Cond.arrayOver (.object RX5))))))
  obtain ⟨p2, y2, k2, g21, -, g22, g23, g24⟩ := Cond.arrayOver_spec ao2
  obtain ⟨p3, y3, k3, g31, -, g32, g33, g34⟩ := Cond.arrayOver_spec ao3
  obtain ⟨p5, y5, k5, g51, -, g52, g53, g54⟩ := Cond.arrayOver_spec ao5
  have hA : ∀ a : Nat, a < s.heap.size → ¬ (fun q : Nat => s.heap.size ≤ q) a := fun a h => Nat.not_le.mpr h
  obtain ⟨t0, e0, T0⟩ := wc_constM hgv hA
  obtain ⟨t1, e1, T1⟩ := wc_constF hgv hA
  have Z0 := va_Zof (hts (.laysStatic "WindCabinet" "MOST_OF_A_TEXT" "[I") (wc_seg_in 2 _ (List.mem_of_getElem? (i := 212) (by decide +kernel : (wc_seg 2)[212]? = some (Cond.laysStatic "WindCabinet" "MOST_OF_A_TEXT" "[I"))))) (hts (.initialized "WindCabinet") (wc_seg_in 1 _ (List.mem_of_getElem? (i := 1) (by decide +kernel : (wc_seg 1)[1]? = some (Cond.initialized "WindCabinet"))))) e0 hA
  have Z1 := va_Zof (hts (.laysStatic "WindCabinet" "FACTORIALS" "[I") (wc_seg_in 4 _ (List.mem_of_getElem? (i := 125) (by decide +kernel : (wc_seg 4)[125]? = some (Cond.laysStatic "WindCabinet" "FACTORIALS" "[I"))))) (hts (.initialized "WindCabinet") (wc_seg_in 1 _ (List.mem_of_getElem? (i := 1) (by decide +kernel : (wc_seg 1)[1]? = some (Cond.initialized "WindCabinet"))))) e1 hA
  obtain ⟨adK, adV, S1, S2⟩ := wc_strsAt hgv hA
  obtain ⟨n0, a0, F1⟩ := wc_fmt hgv
  have Z2 := va_Zof (hts (.laysStatic "java/lang/String" "COMPACT_STRINGS" "Z") (wc_seg_in 2 _ (List.mem_of_getElem? (i := 156) (by decide +kernel : (wc_seg 2)[156]? = some (Cond.laysStatic "java/lang/String" "COMPACT_STRINGS" "Z"))))) (hts (.initialized "java/lang/String") (wc_seg_in 1 _ (List.mem_of_getElem? (i := 12) (by decide +kernel : (wc_seg 1)[12]? = some (Cond.initialized "java/lang/String"))))) (va_eqt (wc_flat hgv _ wc_cmpL)) hA
  have Z3 := va_Zof (hts (.laysStatic RJ3 "SIOOBE_FORMATTER" "Ljava/util/function/BiFunction;") (wc_seg_in 2 _ (List.mem_of_getElem? (i := 172) (by decide +kernel : (wc_seg 2)[172]? = some (Cond.laysStatic RJ3 "SIOOBE_FORMATTER" "Ljava/util/function/BiFunction;"))))) (hts (.initialized RJ3) (wc_seg_in 1 _ (List.mem_of_getElem? (i := 14) (by decide +kernel : (wc_seg 1)[14]? = some (Cond.initialized RJ3))))) F1 hA
  refine ⟨((fun k => match k with
    | 1 => c1
    | 2 => c2
    | 3 => c3
    | 4 => c4
    | 5 => c5
    | 6 => c6
    | 7 => c7
    | _ => c0, fun k => match k with
    | 1 => iS1
    | 2 => iS2
    | 3 => iS3
    | 4 => iS4
    | 5 => iS5
    | 6 => iS6
    | 7 => iS7
    | _ => iS0), (fun k => match k with
    | 0 => y0
    | 1 => y1
    | 2 => y2
    | 3 => y3
    | _ => y5), s.heap.size, wc_gA t0 t1 b a0 adK adV, wc_gL L n0, wc_gF xs), rfl, rfl, ?_, ⟨?_, ?_⟩, ?_, ?_, Z0, Z1, ao2, ao3, ao5, ⟨fun i hi => ?_, fun i j hi hj e => ?_⟩, Z2, ?_, va_Nw.of rfl (hts (.fieldLinkNest RX1 153 RX6 "MOST_OF_A_TEXT" "[I" RX6) (wc_seg_in 2 _ (List.mem_of_getElem? (i := 211) (by decide +kernel : (wc_seg 2)[211]? = some (Cond.fieldLinkNest RX1 153 RX6 "MOST_OF_A_TEXT" "[I" RX6))))), fun q hq => ?_⟩
  · intro c hc
    match c, hc with
    | 0, _ => exact ⟨rfl, wc_rowMx⟩
    | 1, _ => exact ⟨rfl, wc_rowFx⟩
    | 2, _ => exact ⟨rfl, fun j _ => rfl⟩
  · intro k q hq
    match k, hq with
    | 0, hq => cases hq; exact hKn0
    | 1, hq => cases hq; exact hKn1
    | 2, hq => cases hq; exact hKn2
    | 3, hq => cases hq; exact hKn3
    | 4, hq => cases hq; exact hKn4
    | 5, hq => cases hq; exact hKn5
    | 6, hq => cases hq; exact hKn6
    | 7, hq => cases hq; exact hKn7
    | k + 8, hq => simp [vwCl] at hq
  · intro k q hq
    match k, hq with
    | 0, hq => cases hq; exact ⟨fun n z => ⟨(fun k h => by cases h), k0, g02, p0, g03⟩, g01⟩
    | 1, hq => cases hq; exact ⟨fun n z => ⟨(fun k h => by cases h), k1, g12, p1, g13⟩, g11⟩
    | 2, hq => cases hq; exact ⟨fun n z => ⟨(fun k h => by cases h), k2, g22, p2, g23⟩, k2, p2, g22, g23, g21, g24⟩
    | 3, hq => cases hq; exact ⟨fun n z => ⟨(fun k h => by cases h), k3, g32, p3, g33⟩, k3, p3, g32, g33, g31, g34⟩
    | 4, hq => cases hq; exact ⟨fun n z => ⟨(fun k h => by cases h), k5, g52, p5, g53⟩, k5, p5, g52, g53, g51, g54⟩
    | k + 5, hq => simp [wc_tys] at hq
  · intro q hq
    obtain ⟨a, j, x, h, rfl⟩ := wc_nests_form q hq
    exact va_Nw.of rfl (hts _ (wc_nests_in _ hq))
  · intro k hk
    match k, hk with
    | 0, _ => exact T0
    | 1, _ => exact T1
    | 2, _ =>
      obtain ⟨scr, h1, h2, h3, h4, h5⟩ := hX
      exact ⟨scr, h1, h2, h3, Nat.le_of_eq h4.symm, by rw [h4]; rfl, h5, Nat.not_le.mpr hbl⟩

  · show va_O _ (wc_gA t0 t1 b a0 adK adV (3 + i)) _ _ _ ∧ va_OF _ _ _ _ (wc_gA t0 t1 b a0 adK adV (3 + i)) _ _ _ ∧ va_OF _ _ _ (.ref (wc_gA t0 t1 b a0 adK adV (40 + i))) (wc_gA t0 t1 b a0 adK adV (3 + i)) _ _ _ ∧ va_T _ (wc_gA t0 t1 b a0 adK adV (40 + i)) _ _ _ _ _
    rw [wc_gA_K hi, wc_gA_V hi]
    exact S1.1 i hi
  · have e : wc_gA t0 t1 b a0 adK adV (3 + i) = wc_gA t0 t1 b a0 adK adV (3 + j) := e
    rw [wc_gA_K hi, wc_gA_K hj] at e
    exact S1.2 i j hi hj e
  · exact Z3
  · obtain ⟨x1, x2⟩ := wc_strx q hq
    have h1 : (Cond.stringRef RX1 q.1 q.2.1).before #[Value.ref b] s = true := hts _ (wc_strw _ (List.mem_map.mpr ⟨q, hq, rfl⟩))
    have h2 := S2 q.2.2 x2
    unfold wc_stm at h2
    rw [x1] at h2
    show vk_R RX1 q.1 q.2.1 (wc_gA t0 t1 b a0 adK adV (3 + q.2.2)) s
    rw [wc_gA_K x2]
    exact vk_R.of h1 h2

set_option maxHeartbeats 4000000 in
theorem whole_start {p : Program} {e : Env} {s : State} {m : MethodId} {below : List Frame} {meth : Method} {c : Code} (l : Launch) (hflags : l.flags = flags0) {b L : Nat} {xs : Nat → Int32} (hL : L ≤ 4096) (C0 : lw_At p s m meth c b L xs) : W p l e room_1 s m #[Value.ref b] below meth c s.heap [] 0 0 (lw_Z below #[Value.ref b] s) (entryFrame m ([Value.ref b] : List Value).toArray 4) := by
  obtain ⟨hx, hb, hr, hml, hown, hts, hX, hbl, hlocks, hgv⟩ := id C0
  obtain ⟨G, gz, ga, hsc, hE⟩ := wc_env hts hX hbl (by omega) hgv
  have K : wc_C p s m #[Value.ref b] meth c G RL cL_law 4 0 := ⟨hx, hb, hml, hown, fun w hw => hts w (wc_Bt w hw), hE, by rw [gz]; rfl, hlocks⟩
  exact law_start K hr ga hsc hL
end XRY
