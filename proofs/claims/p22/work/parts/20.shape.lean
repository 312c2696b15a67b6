/-! THE SHAPE of the world: cells 0 .. 63 of the class, 64 .. 71 of the reference; images behind them, 41 cells each -/
def KB (f : Nat → Option Nat) : List KD := [kO 6 [some (eR 1), some (eR 42), some (eR 43), some (eR 56), some (eR 60), some (eR 61), some (eR 62), some (eR 63)], kO 5 [some (eR 2), none, none, none, some (eR 3), some (eR 4), some (eR 5)], kI 0 600, kI 0 6, kQ 2 2 (fun j => if j < 2 then some (6 + 8 * j) else none), kQ 3 10 (fun j => if j < 10 then some (22 + 2 * j) else none), kO 2 [none, some (eR 7), some (eR 8), some (eR 9), some (eR 10), some (eR 11), some (eR 12), some (eR 13), none, none, none, none, none, none], kI 0 6, kI 0 6, kI 0 6, kI 0 6, kI 0 72, kI 0 6, kI 0 3, kO 2 [none, some (eR 15), some (eR 16), some (eR 17), some (eR 18), some (eR 19), some (eR 20), some (eR 21), none, none, none, none, none, none], kI 0 6, kI 0 6, kI 0 6, kI 0 6, kI 0 72, kI 0 6, kI 0 3, kO 3 [none, some (eR 23)], kI 0 200, kO 3 [none, some (eR 25)], kI 0 200, kO 3 [none, some (eR 27)], kI 0 200, kO 3 [none, some (eR 29)], kI 0 200, kO 3 [none, some (eR 31)], kI 0 200, kO 3 [none, some (eR 33)], kI 0 200, kO 3 [none, some (eR 35)], kI 0 200] ++ [kO 3 [none, some (eR 37)], kI 0 200, kO 3 [none, some (eR 39)], kI 0 200, kO 3 [none, some (eR 41)], kI 0 200, kQ 4 3 f, kO 1 [some (eR 44), some (eR 52), none, none, some (eR 54), some (eR 55), none, none, none, none, none, none], kO 2 [none, some (eR 45), some (eR 46), some (eR 47), some (eR 48), some (eR 49), some (eR 50), some (eR 51), none, none, none, none, none, none], kI 0 6, kI 0 6, kI 0 6, kI 0 6, kI 0 72, kI 0 6, kI 0 3, kO 3 [none, some (eR 53)], kI 0 200, kI 0 600, kI 0 5, kO 0 [some (eR 57), none, none, none, some (eR 58), some (eR 59), none, none, none, none, none, none, none], kO 4 [none, none, none], kI 0 6, kI 0 3, kO 4 [none, none, none], kI 0 40, kI 0 216, kI 0 1000, kO 7 [some (eR 65), some (eR 66), none, none, none, none, none, none, none, none, some (eR 67), none, none, none, none, none, none, none, none, none, none, none, none, none, none, none, none, some (eR 68), some (eR 69), none, none, some (eR 70), some (eR 71), none, none], kI 0 5768, kI 1 3, kI 0 201, kI 0 3, kI 0 6, kI 0 1791, kI 1 1000]
def KT (B : Nat) : List KD := [kO 5 [some (eR (B + 1)), none, none, none, some (eR (B + 2)), some (eR (B + 3)), some (eR (B + 4))], kI 0 600, kI 0 6, kQ 2 2 (fun j => if j < 2 then some (B + 5 + 8 * j) else none), kQ 3 10 (fun j => if j < 10 then some (B + 21 + 2 * j) else none), kO 2 [none, some (eR (B + 5 + 1)), some (eR (B + 5 + 2)), some (eR (B + 5 + 3)), some (eR (B + 5 + 4)), some (eR (B + 5 + 5)), some (eR (B + 5 + 6)), some (eR (B + 5 + 7)), none, none, none, none, none, none], kI 0 6, kI 0 6, kI 0 6, kI 0 6, kI 0 72, kI 0 6, kI 0 3, kO 2 [none, some (eR (B + 13 + 1)), some (eR (B + 13 + 2)), some (eR (B + 13 + 3)), some (eR (B + 13 + 4)), some (eR (B + 13 + 5)), some (eR (B + 13 + 6)), some (eR (B + 13 + 7)), none, none, none, none, none, none], kI 0 6, kI 0 6, kI 0 6, kI 0 6, kI 0 72, kI 0 6, kI 0 3] ++ [kO 3 [none, some (eR (B + 21 + 1))], kI 0 200, kO 3 [none, some (eR (B + 23 + 1))], kI 0 200, kO 3 [none, some (eR (B + 25 + 1))], kI 0 200, kO 3 [none, some (eR (B + 27 + 1))], kI 0 200, kO 3 [none, some (eR (B + 29 + 1))], kI 0 200, kO 3 [none, some (eR (B + 31 + 1))], kI 0 200, kO 3 [none, some (eR (B + 33 + 1))], kI 0 200, kO 3 [none, some (eR (B + 35 + 1))], kI 0 200, kO 3 [none, some (eR (B + 37 + 1))], kI 0 200, kO 3 [none, some (eR (B + 39 + 1))], kI 0 200]
def SH (K : List KD) : Prop := ∃ f t, K = KB f ++ t
section XSH
variable {sc : Nat × (Nat → Int32)} {K : List KD} {s : SG} {i x : Int32} {r q B : Nat}
theorem K0 (h : SH K) : K[0]? = some (kO 6 [some (eR 1), some (eR 42), some (eR 43), some (eR 56), some (eR 60), some (eR 61), some (eR 62), some (eR 63)]) := by
  obtain ⟨f, t, rfl⟩ := h
  rfl
theorem K1 (h : SH K) : K[1]? = some (kO 5 [some (eR 2), none, none, none, some (eR 3), some (eR 4), some (eR 5)]) := by
  obtain ⟨f, t, rfl⟩ := h
  rfl
theorem K2 (h : SH K) : K[2]? = some (kI 0 600) := by
  obtain ⟨f, t, rfl⟩ := h
  rfl
theorem K3 (h : SH K) : K[3]? = some (kI 0 6) := by
  obtain ⟨f, t, rfl⟩ := h
  rfl
theorem K4 (h : SH K) : K[4]? = some (kQ 2 2 (fun j => if j < 2 then some (6 + 8 * j) else none)) := by
  obtain ⟨f, t, rfl⟩ := h
  rfl
theorem K5 (h : SH K) : K[5]? = some (kQ 3 10 (fun j => if j < 10 then some (22 + 2 * j) else none)) := by
  obtain ⟨f, t, rfl⟩ := h
  rfl
theorem K6 (h : SH K) : K[6]? = some (kO 2 [none, some (eR 7), some (eR 8), some (eR 9), some (eR 10), some (eR 11), some (eR 12), some (eR 13), none, none, none, none, none, none]) := by
  obtain ⟨f, t, rfl⟩ := h
  rfl
theorem K7 (h : SH K) : K[7]? = some (kI 0 6) := by
  obtain ⟨f, t, rfl⟩ := h
  rfl
theorem K8 (h : SH K) : K[8]? = some (kI 0 6) := by
  obtain ⟨f, t, rfl⟩ := h
  rfl
theorem K9 (h : SH K) : K[9]? = some (kI 0 6) := by
  obtain ⟨f, t, rfl⟩ := h
  rfl
theorem K10 (h : SH K) : K[10]? = some (kI 0 6) := by
  obtain ⟨f, t, rfl⟩ := h
  rfl
theorem K11 (h : SH K) : K[11]? = some (kI 0 72) := by
  obtain ⟨f, t, rfl⟩ := h
  rfl
theorem K12 (h : SH K) : K[12]? = some (kI 0 6) := by
  obtain ⟨f, t, rfl⟩ := h
  rfl
theorem K13 (h : SH K) : K[13]? = some (kI 0 3) := by
  obtain ⟨f, t, rfl⟩ := h
  rfl
theorem K14 (h : SH K) : K[14]? = some (kO 2 [none, some (eR 15), some (eR 16), some (eR 17), some (eR 18), some (eR 19), some (eR 20), some (eR 21), none, none, none, none, none, none]) := by
  obtain ⟨f, t, rfl⟩ := h
  rfl
theorem K15 (h : SH K) : K[15]? = some (kI 0 6) := by
  obtain ⟨f, t, rfl⟩ := h
  rfl
theorem K16 (h : SH K) : K[16]? = some (kI 0 6) := by
  obtain ⟨f, t, rfl⟩ := h
  rfl
theorem K17 (h : SH K) : K[17]? = some (kI 0 6) := by
  obtain ⟨f, t, rfl⟩ := h
  rfl
theorem K18 (h : SH K) : K[18]? = some (kI 0 6) := by
  obtain ⟨f, t, rfl⟩ := h
  rfl
theorem K19 (h : SH K) : K[19]? = some (kI 0 72) := by
  obtain ⟨f, t, rfl⟩ := h
  rfl
theorem K20 (h : SH K) : K[20]? = some (kI 0 6) := by
  obtain ⟨f, t, rfl⟩ := h
  rfl
theorem K21 (h : SH K) : K[21]? = some (kI 0 3) := by
  obtain ⟨f, t, rfl⟩ := h
  rfl
theorem K22 (h : SH K) : K[22]? = some (kO 3 [none, some (eR 23)]) := by
  obtain ⟨f, t, rfl⟩ := h
  rfl
theorem K23 (h : SH K) : K[23]? = some (kI 0 200) := by
  obtain ⟨f, t, rfl⟩ := h
  rfl
theorem K24 (h : SH K) : K[24]? = some (kO 3 [none, some (eR 25)]) := by
  obtain ⟨f, t, rfl⟩ := h
  rfl
theorem K25 (h : SH K) : K[25]? = some (kI 0 200) := by
  obtain ⟨f, t, rfl⟩ := h
  rfl
theorem K26 (h : SH K) : K[26]? = some (kO 3 [none, some (eR 27)]) := by
  obtain ⟨f, t, rfl⟩ := h
  rfl
theorem K27 (h : SH K) : K[27]? = some (kI 0 200) := by
  obtain ⟨f, t, rfl⟩ := h
  rfl
theorem K28 (h : SH K) : K[28]? = some (kO 3 [none, some (eR 29)]) := by
  obtain ⟨f, t, rfl⟩ := h
  rfl
theorem K29 (h : SH K) : K[29]? = some (kI 0 200) := by
  obtain ⟨f, t, rfl⟩ := h
  rfl
theorem K30 (h : SH K) : K[30]? = some (kO 3 [none, some (eR 31)]) := by
  obtain ⟨f, t, rfl⟩ := h
  rfl
theorem K31 (h : SH K) : K[31]? = some (kI 0 200) := by
  obtain ⟨f, t, rfl⟩ := h
  rfl
theorem K32 (h : SH K) : K[32]? = some (kO 3 [none, some (eR 33)]) := by
  obtain ⟨f, t, rfl⟩ := h
  rfl
theorem K33 (h : SH K) : K[33]? = some (kI 0 200) := by
  obtain ⟨f, t, rfl⟩ := h
  rfl
theorem K34 (h : SH K) : K[34]? = some (kO 3 [none, some (eR 35)]) := by
  obtain ⟨f, t, rfl⟩ := h
  rfl
theorem K35 (h : SH K) : K[35]? = some (kI 0 200) := by
  obtain ⟨f, t, rfl⟩ := h
  rfl
theorem K36 (h : SH K) : K[36]? = some (kO 3 [none, some (eR 37)]) := by
  obtain ⟨f, t, rfl⟩ := h
  rfl
theorem K37 (h : SH K) : K[37]? = some (kI 0 200) := by
  obtain ⟨f, t, rfl⟩ := h
  rfl
theorem K38 (h : SH K) : K[38]? = some (kO 3 [none, some (eR 39)]) := by
  obtain ⟨f, t, rfl⟩ := h
  rfl
theorem K39 (h : SH K) : K[39]? = some (kI 0 200) := by
  obtain ⟨f, t, rfl⟩ := h
  rfl
theorem K40 (h : SH K) : K[40]? = some (kO 3 [none, some (eR 41)]) := by
  obtain ⟨f, t, rfl⟩ := h
  rfl
theorem K41 (h : SH K) : K[41]? = some (kI 0 200) := by
  obtain ⟨f, t, rfl⟩ := h
  rfl
theorem K42 (h : SH K) : ∃ f, K[42]? = some (kQ 4 3 f) := by
  obtain ⟨f, t, rfl⟩ := h
  exact ⟨f, rfl⟩
theorem K43 (h : SH K) : K[43]? = some (kO 1 [some (eR 44), some (eR 52), none, none, some (eR 54), some (eR 55), none, none, none, none, none, none]) := by
  obtain ⟨f, t, rfl⟩ := h
  rfl
theorem K44 (h : SH K) : K[44]? = some (kO 2 [none, some (eR 45), some (eR 46), some (eR 47), some (eR 48), some (eR 49), some (eR 50), some (eR 51), none, none, none, none, none, none]) := by
  obtain ⟨f, t, rfl⟩ := h
  rfl
theorem K45 (h : SH K) : K[45]? = some (kI 0 6) := by
  obtain ⟨f, t, rfl⟩ := h
  rfl
theorem K46 (h : SH K) : K[46]? = some (kI 0 6) := by
  obtain ⟨f, t, rfl⟩ := h
  rfl
theorem K47 (h : SH K) : K[47]? = some (kI 0 6) := by
  obtain ⟨f, t, rfl⟩ := h
  rfl
theorem K48 (h : SH K) : K[48]? = some (kI 0 6) := by
  obtain ⟨f, t, rfl⟩ := h
  rfl
theorem K49 (h : SH K) : K[49]? = some (kI 0 72) := by
  obtain ⟨f, t, rfl⟩ := h
  rfl
theorem K50 (h : SH K) : K[50]? = some (kI 0 6) := by
  obtain ⟨f, t, rfl⟩ := h
  rfl
theorem K51 (h : SH K) : K[51]? = some (kI 0 3) := by
  obtain ⟨f, t, rfl⟩ := h
  rfl
theorem K52 (h : SH K) : K[52]? = some (kO 3 [none, some (eR 53)]) := by
  obtain ⟨f, t, rfl⟩ := h
  rfl
theorem K53 (h : SH K) : K[53]? = some (kI 0 200) := by
  obtain ⟨f, t, rfl⟩ := h
  rfl
theorem K54 (h : SH K) : K[54]? = some (kI 0 600) := by
  obtain ⟨f, t, rfl⟩ := h
  rfl
theorem K55 (h : SH K) : K[55]? = some (kI 0 5) := by
  obtain ⟨f, t, rfl⟩ := h
  rfl
theorem K56 (h : SH K) : K[56]? = some (kO 0 [some (eR 57), none, none, none, some (eR 58), some (eR 59), none, none, none, none, none, none, none]) := by
  obtain ⟨f, t, rfl⟩ := h
  rfl
theorem K57 (h : SH K) : K[57]? = some (kO 4 [none, none, none]) := by
  obtain ⟨f, t, rfl⟩ := h
  rfl
theorem K58 (h : SH K) : K[58]? = some (kI 0 6) := by
  obtain ⟨f, t, rfl⟩ := h
  rfl
theorem K59 (h : SH K) : K[59]? = some (kI 0 3) := by
  obtain ⟨f, t, rfl⟩ := h
  rfl
theorem K60 (h : SH K) : K[60]? = some (kO 4 [none, none, none]) := by
  obtain ⟨f, t, rfl⟩ := h
  rfl
theorem K61 (h : SH K) : K[61]? = some (kI 0 40) := by
  obtain ⟨f, t, rfl⟩ := h
  rfl
theorem K62 (h : SH K) : K[62]? = some (kI 0 216) := by
  obtain ⟨f, t, rfl⟩ := h
  rfl
theorem K63 (h : SH K) : K[63]? = some (kI 0 1000) := by
  obtain ⟨f, t, rfl⟩ := h
  rfl
theorem K64 (h : SH K) : K[64]? = some (kO 7 [some (eR 65), some (eR 66), none, none, none, none, none, none, none, none, some (eR 67), none, none, none, none, none, none, none, none, none, none, none, none, none, none, none, none, some (eR 68), some (eR 69), none, none, some (eR 70), some (eR 71), none, none]) := by
  obtain ⟨f, t, rfl⟩ := h
  rfl
theorem K65 (h : SH K) : K[65]? = some (kI 0 5768) := by
  obtain ⟨f, t, rfl⟩ := h
  rfl
theorem K66 (h : SH K) : K[66]? = some (kI 1 3) := by
  obtain ⟨f, t, rfl⟩ := h
  rfl
theorem K67 (h : SH K) : K[67]? = some (kI 0 201) := by
  obtain ⟨f, t, rfl⟩ := h
  rfl
theorem K68 (h : SH K) : K[68]? = some (kI 0 3) := by
  obtain ⟨f, t, rfl⟩ := h
  rfl
theorem K69 (h : SH K) : K[69]? = some (kI 0 6) := by
  obtain ⟨f, t, rfl⟩ := h
  rfl
theorem K70 (h : SH K) : K[70]? = some (kI 0 1791) := by
  obtain ⟨f, t, rfl⟩ := h
  rfl
theorem K71 (h : SH K) : K[71]? = some (kI 1 1000) := by
  obtain ⟨f, t, rfl⟩ := h
  rfl
theorem c0_v (h : SH K) : xrv (wl K s) 6 (.inr (.inr (.inl (some 0)))) = true := xrv_wl (K0 h)
theorem c0_g0 (h : SH K) : xga (wl K s) 6 0 (.inr (.inr (.inl (some 0)))) = some (some (1)) := xga_wl (K0 h) rfl
theorem c0_g1 (h : SH K) : xga (wl K s) 6 1 (.inr (.inr (.inl (some 0)))) = some (some (42)) := xga_wl (K0 h) rfl
theorem c0_g2 (h : SH K) : xga (wl K s) 6 2 (.inr (.inr (.inl (some 0)))) = some (some (43)) := xga_wl (K0 h) rfl
theorem c0_g3 (h : SH K) : xga (wl K s) 6 3 (.inr (.inr (.inl (some 0)))) = some (some (56)) := xga_wl (K0 h) rfl
theorem c0_g4 (h : SH K) : xga (wl K s) 6 4 (.inr (.inr (.inl (some 0)))) = some (some (60)) := xga_wl (K0 h) rfl
theorem c0_g5 (h : SH K) : xga (wl K s) 6 5 (.inr (.inr (.inl (some 0)))) = some (some (61)) := xga_wl (K0 h) rfl
theorem c0_g6 (h : SH K) : xga (wl K s) 6 6 (.inr (.inr (.inl (some 0)))) = some (some (62)) := xga_wl (K0 h) rfl
theorem c0_g7 (h : SH K) : xga (wl K s) 6 7 (.inr (.inr (.inl (some 0)))) = some (some (63)) := xga_wl (K0 h) rfl
theorem c1_v (h : SH K) : xrv (wl K s) 5 (.inr (.inr (.inl (some 1)))) = true := xrv_wl (K1 h)
theorem c1_g0 (h : SH K) : xga (wl K s) 5 0 (.inr (.inr (.inl (some 1)))) = some (some (2)) := xga_wl (K1 h) rfl
theorem c1_g1 (h : SH K) : xgi (wl K s) 5 1 (.inr (.inr (.inl (some 1)))) = some (s 1 1) := xgi_wl (K1 h) rfl
theorem c1_p1 (h : SH K) : xp (wl K s) 5 1 (.inl x) (.inr (.inr (.inl (some 1)))) = some (wl K (up s 1 1 x)) := xp_wl (K1 h) rfl
theorem c1_g2 (h : SH K) : xgi (wl K s) 5 2 (.inr (.inr (.inl (some 1)))) = some (s 1 2) := xgi_wl (K1 h) rfl
theorem c1_p2 (h : SH K) : xp (wl K s) 5 2 (.inl x) (.inr (.inr (.inl (some 1)))) = some (wl K (up s 1 2 x)) := xp_wl (K1 h) rfl
theorem c1_g3 (h : SH K) : xgi (wl K s) 5 3 (.inr (.inr (.inl (some 1)))) = some (s 1 3) := xgi_wl (K1 h) rfl
theorem c1_p3 (h : SH K) : xp (wl K s) 5 3 (.inl x) (.inr (.inr (.inl (some 1)))) = some (wl K (up s 1 3 x)) := xp_wl (K1 h) rfl
theorem c1_g4 (h : SH K) : xga (wl K s) 5 4 (.inr (.inr (.inl (some 1)))) = some (some (3)) := xga_wl (K1 h) rfl
theorem c1_g5 (h : SH K) : xga (wl K s) 5 5 (.inr (.inr (.inl (some 1)))) = some (some (4)) := xga_wl (K1 h) rfl
theorem c1_g6 (h : SH K) : xga (wl K s) 5 6 (.inr (.inr (.inl (some 1)))) = some (some (5)) := xga_wl (K1 h) rfl
theorem c43_v (h : SH K) : xrv (wl K s) 1 (.inr (.inr (.inl (some 43)))) = true := xrv_wl (K43 h)
theorem c43_g0 (h : SH K) : xga (wl K s) 1 0 (.inr (.inr (.inl (some 43)))) = some (some (44)) := xga_wl (K43 h) rfl
theorem c43_g1 (h : SH K) : xga (wl K s) 1 1 (.inr (.inr (.inl (some 43)))) = some (some (52)) := xga_wl (K43 h) rfl
theorem c43_g2 (h : SH K) : xgi (wl K s) 1 2 (.inr (.inr (.inl (some 43)))) = some (s 43 2) := xgi_wl (K43 h) rfl
theorem c43_p2 (h : SH K) : xp (wl K s) 1 2 (.inl x) (.inr (.inr (.inl (some 43)))) = some (wl K (up s 43 2 x)) := xp_wl (K43 h) rfl
theorem c43_g3 (h : SH K) : xgi (wl K s) 1 3 (.inr (.inr (.inl (some 43)))) = some (s 43 3) := xgi_wl (K43 h) rfl
theorem c43_p3 (h : SH K) : xp (wl K s) 1 3 (.inl x) (.inr (.inr (.inl (some 43)))) = some (wl K (up s 43 3 x)) := xp_wl (K43 h) rfl
theorem c43_g4 (h : SH K) : xga (wl K s) 1 4 (.inr (.inr (.inl (some 43)))) = some (some (54)) := xga_wl (K43 h) rfl
theorem c43_g5 (h : SH K) : xga (wl K s) 1 5 (.inr (.inr (.inl (some 43)))) = some (some (55)) := xga_wl (K43 h) rfl
theorem c43_g6 (h : SH K) : xgi (wl K s) 1 6 (.inr (.inr (.inl (some 43)))) = some (s 43 6) := xgi_wl (K43 h) rfl
theorem c43_p6 (h : SH K) : xp (wl K s) 1 6 (.inl x) (.inr (.inr (.inl (some 43)))) = some (wl K (up s 43 6 x)) := xp_wl (K43 h) rfl
theorem c43_g7 (h : SH K) : xgi (wl K s) 1 7 (.inr (.inr (.inl (some 43)))) = some (s 43 7) := xgi_wl (K43 h) rfl
theorem c43_p7 (h : SH K) : xp (wl K s) 1 7 (.inl x) (.inr (.inr (.inl (some 43)))) = some (wl K (up s 43 7 x)) := xp_wl (K43 h) rfl
theorem c43_g8 (h : SH K) : xgi (wl K s) 1 8 (.inr (.inr (.inl (some 43)))) = some (s 43 8) := xgi_wl (K43 h) rfl
theorem c43_p8 (h : SH K) : xp (wl K s) 1 8 (.inl x) (.inr (.inr (.inl (some 43)))) = some (wl K (up s 43 8 x)) := xp_wl (K43 h) rfl
theorem c43_g9 (h : SH K) : xgi (wl K s) 1 9 (.inr (.inr (.inl (some 43)))) = some (s 43 9) := xgi_wl (K43 h) rfl
theorem c43_p9 (h : SH K) : xp (wl K s) 1 9 (.inl x) (.inr (.inr (.inl (some 43)))) = some (wl K (up s 43 9 x)) := xp_wl (K43 h) rfl
theorem c43_g10 (h : SH K) : xgi (wl K s) 1 10 (.inr (.inr (.inl (some 43)))) = some (s 43 10) := xgi_wl (K43 h) rfl
theorem c43_p10 (h : SH K) : xp (wl K s) 1 10 (.inl x) (.inr (.inr (.inl (some 43)))) = some (wl K (up s 43 10 x)) := xp_wl (K43 h) rfl
theorem c43_g11 (h : SH K) : xgi (wl K s) 1 11 (.inr (.inr (.inl (some 43)))) = some (s 43 11) := xgi_wl (K43 h) rfl
theorem c43_p11 (h : SH K) : xp (wl K s) 1 11 (.inl x) (.inr (.inr (.inl (some 43)))) = some (wl K (up s 43 11 x)) := xp_wl (K43 h) rfl
theorem c56_v (h : SH K) : xrv (wl K s) 0 (.inr (.inr (.inl (some 56)))) = true := xrv_wl (K56 h)
theorem c56_g0 (h : SH K) : xga (wl K s) 0 0 (.inr (.inr (.inl (some 56)))) = some (some (57)) := xga_wl (K56 h) rfl
theorem c56_g1 (h : SH K) : xgi (wl K s) 0 1 (.inr (.inr (.inl (some 56)))) = some (s 56 1) := xgi_wl (K56 h) rfl
theorem c56_p1 (h : SH K) : xp (wl K s) 0 1 (.inl x) (.inr (.inr (.inl (some 56)))) = some (wl K (up s 56 1 x)) := xp_wl (K56 h) rfl
theorem c56_g2 (h : SH K) : xgi (wl K s) 0 2 (.inr (.inr (.inl (some 56)))) = some (s 56 2) := xgi_wl (K56 h) rfl
theorem c56_p2 (h : SH K) : xp (wl K s) 0 2 (.inl x) (.inr (.inr (.inl (some 56)))) = some (wl K (up s 56 2 x)) := xp_wl (K56 h) rfl
theorem c56_g3 (h : SH K) : xgi (wl K s) 0 3 (.inr (.inr (.inl (some 56)))) = some (s 56 3) := xgi_wl (K56 h) rfl
theorem c56_p3 (h : SH K) : xp (wl K s) 0 3 (.inl x) (.inr (.inr (.inl (some 56)))) = some (wl K (up s 56 3 x)) := xp_wl (K56 h) rfl
theorem c56_g4 (h : SH K) : xga (wl K s) 0 4 (.inr (.inr (.inl (some 56)))) = some (some (58)) := xga_wl (K56 h) rfl
theorem c56_g5 (h : SH K) : xga (wl K s) 0 5 (.inr (.inr (.inl (some 56)))) = some (some (59)) := xga_wl (K56 h) rfl
theorem c56_g6 (h : SH K) : xgi (wl K s) 0 6 (.inr (.inr (.inl (some 56)))) = some (s 56 6) := xgi_wl (K56 h) rfl
theorem c56_p6 (h : SH K) : xp (wl K s) 0 6 (.inl x) (.inr (.inr (.inl (some 56)))) = some (wl K (up s 56 6 x)) := xp_wl (K56 h) rfl
theorem c56_g7 (h : SH K) : xgi (wl K s) 0 7 (.inr (.inr (.inl (some 56)))) = some (s 56 7) := xgi_wl (K56 h) rfl
theorem c56_p7 (h : SH K) : xp (wl K s) 0 7 (.inl x) (.inr (.inr (.inl (some 56)))) = some (wl K (up s 56 7 x)) := xp_wl (K56 h) rfl
theorem c56_g8 (h : SH K) : xgi (wl K s) 0 8 (.inr (.inr (.inl (some 56)))) = some (s 56 8) := xgi_wl (K56 h) rfl
theorem c56_p8 (h : SH K) : xp (wl K s) 0 8 (.inl x) (.inr (.inr (.inl (some 56)))) = some (wl K (up s 56 8 x)) := xp_wl (K56 h) rfl
theorem c56_g9 (h : SH K) : xgi (wl K s) 0 9 (.inr (.inr (.inl (some 56)))) = some (s 56 9) := xgi_wl (K56 h) rfl
theorem c56_p9 (h : SH K) : xp (wl K s) 0 9 (.inl x) (.inr (.inr (.inl (some 56)))) = some (wl K (up s 56 9 x)) := xp_wl (K56 h) rfl
theorem c56_g10 (h : SH K) : xgi (wl K s) 0 10 (.inr (.inr (.inl (some 56)))) = some (s 56 10) := xgi_wl (K56 h) rfl
theorem c56_p10 (h : SH K) : xp (wl K s) 0 10 (.inl x) (.inr (.inr (.inl (some 56)))) = some (wl K (up s 56 10 x)) := xp_wl (K56 h) rfl
theorem c56_g11 (h : SH K) : xgi (wl K s) 0 11 (.inr (.inr (.inl (some 56)))) = some (s 56 11) := xgi_wl (K56 h) rfl
theorem c56_p11 (h : SH K) : xp (wl K s) 0 11 (.inl x) (.inr (.inr (.inl (some 56)))) = some (wl K (up s 56 11 x)) := xp_wl (K56 h) rfl
theorem c56_g12 (h : SH K) : xgi (wl K s) 0 12 (.inr (.inr (.inl (some 56)))) = some (s 56 12) := xgi_wl (K56 h) rfl
theorem c56_p12 (h : SH K) : xp (wl K s) 0 12 (.inl x) (.inr (.inr (.inl (some 56)))) = some (wl K (up s 56 12 x)) := xp_wl (K56 h) rfl
theorem c57_v (h : SH K) : xrv (wl K s) 4 (.inr (.inr (.inl (some 57)))) = true := xrv_wl (K57 h)
theorem c57_g0 (h : SH K) : xgi (wl K s) 4 0 (.inr (.inr (.inl (some 57)))) = some (s 57 0) := xgi_wl (K57 h) rfl
theorem c57_p0 (h : SH K) : xp (wl K s) 4 0 (.inl x) (.inr (.inr (.inl (some 57)))) = some (wl K (up s 57 0 x)) := xp_wl (K57 h) rfl
theorem c57_g1 (h : SH K) : xgi (wl K s) 4 1 (.inr (.inr (.inl (some 57)))) = some (s 57 1) := xgi_wl (K57 h) rfl
theorem c57_p1 (h : SH K) : xp (wl K s) 4 1 (.inl x) (.inr (.inr (.inl (some 57)))) = some (wl K (up s 57 1 x)) := xp_wl (K57 h) rfl
theorem c57_g2 (h : SH K) : xgi (wl K s) 4 2 (.inr (.inr (.inl (some 57)))) = some (s 57 2) := xgi_wl (K57 h) rfl
theorem c57_p2 (h : SH K) : xp (wl K s) 4 2 (.inl x) (.inr (.inr (.inl (some 57)))) = some (wl K (up s 57 2 x)) := xp_wl (K57 h) rfl
theorem c60_v (h : SH K) : xrv (wl K s) 4 (.inr (.inr (.inl (some 60)))) = true := xrv_wl (K60 h)
theorem c60_g0 (h : SH K) : xgi (wl K s) 4 0 (.inr (.inr (.inl (some 60)))) = some (s 60 0) := xgi_wl (K60 h) rfl
theorem c60_p0 (h : SH K) : xp (wl K s) 4 0 (.inl x) (.inr (.inr (.inl (some 60)))) = some (wl K (up s 60 0 x)) := xp_wl (K60 h) rfl
theorem c60_g1 (h : SH K) : xgi (wl K s) 4 1 (.inr (.inr (.inl (some 60)))) = some (s 60 1) := xgi_wl (K60 h) rfl
theorem c60_p1 (h : SH K) : xp (wl K s) 4 1 (.inl x) (.inr (.inr (.inl (some 60)))) = some (wl K (up s 60 1 x)) := xp_wl (K60 h) rfl
theorem c60_g2 (h : SH K) : xgi (wl K s) 4 2 (.inr (.inr (.inl (some 60)))) = some (s 60 2) := xgi_wl (K60 h) rfl
theorem c60_p2 (h : SH K) : xp (wl K s) 4 2 (.inl x) (.inr (.inr (.inl (some 60)))) = some (wl K (up s 60 2 x)) := xp_wl (K60 h) rfl
theorem c64_v (h : SH K) : xrv (wl K s) 7 (.inr (.inr (.inl (some 64)))) = true := xrv_wl (K64 h)
theorem c64_g0 (h : SH K) : xga (wl K s) 7 0 (.inr (.inr (.inl (some 64)))) = some (some (65)) := xga_wl (K64 h) rfl
theorem c64_g1 (h : SH K) : xga (wl K s) 7 1 (.inr (.inr (.inl (some 64)))) = some (some (66)) := xga_wl (K64 h) rfl
theorem c64_g2 (h : SH K) : xgi (wl K s) 7 2 (.inr (.inr (.inl (some 64)))) = some (s 64 2) := xgi_wl (K64 h) rfl
theorem c64_p2 (h : SH K) : xp (wl K s) 7 2 (.inl x) (.inr (.inr (.inl (some 64)))) = some (wl K (up s 64 2 x)) := xp_wl (K64 h) rfl
theorem c64_g3 (h : SH K) : xgi (wl K s) 7 3 (.inr (.inr (.inl (some 64)))) = some (s 64 3) := xgi_wl (K64 h) rfl
theorem c64_p3 (h : SH K) : xp (wl K s) 7 3 (.inl x) (.inr (.inr (.inl (some 64)))) = some (wl K (up s 64 3 x)) := xp_wl (K64 h) rfl
theorem c64_g4 (h : SH K) : xgi (wl K s) 7 4 (.inr (.inr (.inl (some 64)))) = some (s 64 4) := xgi_wl (K64 h) rfl
theorem c64_p4 (h : SH K) : xp (wl K s) 7 4 (.inl x) (.inr (.inr (.inl (some 64)))) = some (wl K (up s 64 4 x)) := xp_wl (K64 h) rfl
theorem c64_g5 (h : SH K) : xgi (wl K s) 7 5 (.inr (.inr (.inl (some 64)))) = some (s 64 5) := xgi_wl (K64 h) rfl
theorem c64_p5 (h : SH K) : xp (wl K s) 7 5 (.inl x) (.inr (.inr (.inl (some 64)))) = some (wl K (up s 64 5 x)) := xp_wl (K64 h) rfl
theorem c64_g6 (h : SH K) : xgi (wl K s) 7 6 (.inr (.inr (.inl (some 64)))) = some (s 64 6) := xgi_wl (K64 h) rfl
theorem c64_p6 (h : SH K) : xp (wl K s) 7 6 (.inl x) (.inr (.inr (.inl (some 64)))) = some (wl K (up s 64 6 x)) := xp_wl (K64 h) rfl
theorem c64_g7 (h : SH K) : xgi (wl K s) 7 7 (.inr (.inr (.inl (some 64)))) = some (s 64 7) := xgi_wl (K64 h) rfl
theorem c64_p7 (h : SH K) : xp (wl K s) 7 7 (.inl x) (.inr (.inr (.inl (some 64)))) = some (wl K (up s 64 7 x)) := xp_wl (K64 h) rfl
theorem c64_g8 (h : SH K) : xgi (wl K s) 7 8 (.inr (.inr (.inl (some 64)))) = some (s 64 8) := xgi_wl (K64 h) rfl
theorem c64_p8 (h : SH K) : xp (wl K s) 7 8 (.inl x) (.inr (.inr (.inl (some 64)))) = some (wl K (up s 64 8 x)) := xp_wl (K64 h) rfl
theorem c64_g9 (h : SH K) : xgi (wl K s) 7 9 (.inr (.inr (.inl (some 64)))) = some (s 64 9) := xgi_wl (K64 h) rfl
theorem c64_p9 (h : SH K) : xp (wl K s) 7 9 (.inl x) (.inr (.inr (.inl (some 64)))) = some (wl K (up s 64 9 x)) := xp_wl (K64 h) rfl
theorem c64_g10 (h : SH K) : xga (wl K s) 7 10 (.inr (.inr (.inl (some 64)))) = some (some (67)) := xga_wl (K64 h) rfl
theorem c64_g11 (h : SH K) : xgi (wl K s) 7 11 (.inr (.inr (.inl (some 64)))) = some (s 64 11) := xgi_wl (K64 h) rfl
theorem c64_p11 (h : SH K) : xp (wl K s) 7 11 (.inl x) (.inr (.inr (.inl (some 64)))) = some (wl K (up s 64 11 x)) := xp_wl (K64 h) rfl
theorem c64_g12 (h : SH K) : xgi (wl K s) 7 12 (.inr (.inr (.inl (some 64)))) = some (s 64 12) := xgi_wl (K64 h) rfl
theorem c64_p12 (h : SH K) : xp (wl K s) 7 12 (.inl x) (.inr (.inr (.inl (some 64)))) = some (wl K (up s 64 12 x)) := xp_wl (K64 h) rfl
theorem c64_g13 (h : SH K) : xgi (wl K s) 7 13 (.inr (.inr (.inl (some 64)))) = some (s 64 13) := xgi_wl (K64 h) rfl
theorem c64_p13 (h : SH K) : xp (wl K s) 7 13 (.inl x) (.inr (.inr (.inl (some 64)))) = some (wl K (up s 64 13 x)) := xp_wl (K64 h) rfl
theorem c64_g14 (h : SH K) : xgi (wl K s) 7 14 (.inr (.inr (.inl (some 64)))) = some (s 64 14) := xgi_wl (K64 h) rfl
theorem c64_p14 (h : SH K) : xp (wl K s) 7 14 (.inl x) (.inr (.inr (.inl (some 64)))) = some (wl K (up s 64 14 x)) := xp_wl (K64 h) rfl
theorem c64_g15 (h : SH K) : xgi (wl K s) 7 15 (.inr (.inr (.inl (some 64)))) = some (s 64 15) := xgi_wl (K64 h) rfl
theorem c64_p15 (h : SH K) : xp (wl K s) 7 15 (.inl x) (.inr (.inr (.inl (some 64)))) = some (wl K (up s 64 15 x)) := xp_wl (K64 h) rfl
theorem c64_g16 (h : SH K) : xgi (wl K s) 7 16 (.inr (.inr (.inl (some 64)))) = some (s 64 16) := xgi_wl (K64 h) rfl
theorem c64_p16 (h : SH K) : xp (wl K s) 7 16 (.inl x) (.inr (.inr (.inl (some 64)))) = some (wl K (up s 64 16 x)) := xp_wl (K64 h) rfl
theorem c64_g17 (h : SH K) : xgi (wl K s) 7 17 (.inr (.inr (.inl (some 64)))) = some (s 64 17) := xgi_wl (K64 h) rfl
theorem c64_p17 (h : SH K) : xp (wl K s) 7 17 (.inl x) (.inr (.inr (.inl (some 64)))) = some (wl K (up s 64 17 x)) := xp_wl (K64 h) rfl
theorem c64_g18 (h : SH K) : xgi (wl K s) 7 18 (.inr (.inr (.inl (some 64)))) = some (s 64 18) := xgi_wl (K64 h) rfl
theorem c64_p18 (h : SH K) : xp (wl K s) 7 18 (.inl x) (.inr (.inr (.inl (some 64)))) = some (wl K (up s 64 18 x)) := xp_wl (K64 h) rfl
theorem c64_g19 (h : SH K) : xgi (wl K s) 7 19 (.inr (.inr (.inl (some 64)))) = some (s 64 19) := xgi_wl (K64 h) rfl
theorem c64_p19 (h : SH K) : xp (wl K s) 7 19 (.inl x) (.inr (.inr (.inl (some 64)))) = some (wl K (up s 64 19 x)) := xp_wl (K64 h) rfl
theorem c64_g20 (h : SH K) : xgi (wl K s) 7 20 (.inr (.inr (.inl (some 64)))) = some (s 64 20) := xgi_wl (K64 h) rfl
theorem c64_p20 (h : SH K) : xp (wl K s) 7 20 (.inl x) (.inr (.inr (.inl (some 64)))) = some (wl K (up s 64 20 x)) := xp_wl (K64 h) rfl
theorem c64_g21 (h : SH K) : xgi (wl K s) 7 21 (.inr (.inr (.inl (some 64)))) = some (s 64 21) := xgi_wl (K64 h) rfl
theorem c64_p21 (h : SH K) : xp (wl K s) 7 21 (.inl x) (.inr (.inr (.inl (some 64)))) = some (wl K (up s 64 21 x)) := xp_wl (K64 h) rfl
theorem c64_g22 (h : SH K) : xgi (wl K s) 7 22 (.inr (.inr (.inl (some 64)))) = some (s 64 22) := xgi_wl (K64 h) rfl
theorem c64_p22 (h : SH K) : xp (wl K s) 7 22 (.inl x) (.inr (.inr (.inl (some 64)))) = some (wl K (up s 64 22 x)) := xp_wl (K64 h) rfl
theorem c64_g23 (h : SH K) : xgi (wl K s) 7 23 (.inr (.inr (.inl (some 64)))) = some (s 64 23) := xgi_wl (K64 h) rfl
theorem c64_p23 (h : SH K) : xp (wl K s) 7 23 (.inl x) (.inr (.inr (.inl (some 64)))) = some (wl K (up s 64 23 x)) := xp_wl (K64 h) rfl
theorem c64_g24 (h : SH K) : xgi (wl K s) 7 24 (.inr (.inr (.inl (some 64)))) = some (s 64 24) := xgi_wl (K64 h) rfl
theorem c64_p24 (h : SH K) : xp (wl K s) 7 24 (.inl x) (.inr (.inr (.inl (some 64)))) = some (wl K (up s 64 24 x)) := xp_wl (K64 h) rfl
theorem c64_g25 (h : SH K) : xgi (wl K s) 7 25 (.inr (.inr (.inl (some 64)))) = some (s 64 25) := xgi_wl (K64 h) rfl
theorem c64_p25 (h : SH K) : xp (wl K s) 7 25 (.inl x) (.inr (.inr (.inl (some 64)))) = some (wl K (up s 64 25 x)) := xp_wl (K64 h) rfl
theorem c64_g26 (h : SH K) : xgi (wl K s) 7 26 (.inr (.inr (.inl (some 64)))) = some (s 64 26) := xgi_wl (K64 h) rfl
theorem c64_p26 (h : SH K) : xp (wl K s) 7 26 (.inl x) (.inr (.inr (.inl (some 64)))) = some (wl K (up s 64 26 x)) := xp_wl (K64 h) rfl
theorem c64_g27 (h : SH K) : xga (wl K s) 7 27 (.inr (.inr (.inl (some 64)))) = some (some (68)) := xga_wl (K64 h) rfl
theorem c64_g28 (h : SH K) : xga (wl K s) 7 28 (.inr (.inr (.inl (some 64)))) = some (some (69)) := xga_wl (K64 h) rfl
theorem c64_g29 (h : SH K) : xgi (wl K s) 7 29 (.inr (.inr (.inl (some 64)))) = some (s 64 29) := xgi_wl (K64 h) rfl
theorem c64_p29 (h : SH K) : xp (wl K s) 7 29 (.inl x) (.inr (.inr (.inl (some 64)))) = some (wl K (up s 64 29 x)) := xp_wl (K64 h) rfl
theorem c64_g30 (h : SH K) : xgi (wl K s) 7 30 (.inr (.inr (.inl (some 64)))) = some (s 64 30) := xgi_wl (K64 h) rfl
theorem c64_p30 (h : SH K) : xp (wl K s) 7 30 (.inl x) (.inr (.inr (.inl (some 64)))) = some (wl K (up s 64 30 x)) := xp_wl (K64 h) rfl
theorem c64_g31 (h : SH K) : xga (wl K s) 7 31 (.inr (.inr (.inl (some 64)))) = some (some (70)) := xga_wl (K64 h) rfl
theorem c64_g32 (h : SH K) : xga (wl K s) 7 32 (.inr (.inr (.inl (some 64)))) = some (some (71)) := xga_wl (K64 h) rfl
theorem c64_g33 (h : SH K) : xgi (wl K s) 7 33 (.inr (.inr (.inl (some 64)))) = some (s 64 33) := xgi_wl (K64 h) rfl
theorem c64_p33 (h : SH K) : xp (wl K s) 7 33 (.inl x) (.inr (.inr (.inl (some 64)))) = some (wl K (up s 64 33 x)) := xp_wl (K64 h) rfl
theorem c64_g34 (h : SH K) : xgi (wl K s) 7 34 (.inr (.inr (.inl (some 64)))) = some (s 64 34) := xgi_wl (K64 h) rfl
theorem c64_p34 (h : SH K) : xp (wl K s) 7 34 (.inl x) (.inr (.inr (.inl (some 64)))) = some (wl K (up s 64 34 x)) := xp_wl (K64 h) rfl
theorem c2_n (h : SH K) : xnn sc (wl K s) (.inr (.inr (.inl (some 2)))) = some 600 := xnn_wl (K2 h) rfl
theorem c2_d (h : SH K) (hi : xvb i 600 = true) : xdi sc (wl K s) i (.inr (.inr (.inl (some 2)))) = some (s 2 i.toNatClampNeg) := xdi_wl (K2 h) hi
theorem c2_t (h : SH K) (hi : xvb i 600 = true) : xti (wl K s) i x (.inr (.inr (.inl (some 2)))) = some (wl K (up s 2 i.toNatClampNeg x)) := xti_wl (K2 h) hi
theorem c3_n (h : SH K) : xnn sc (wl K s) (.inr (.inr (.inl (some 3)))) = some 6 := xnn_wl (K3 h) rfl
theorem c3_d (h : SH K) (hi : xvb i 6 = true) : xdi sc (wl K s) i (.inr (.inr (.inl (some 3)))) = some (s 3 i.toNatClampNeg) := xdi_wl (K3 h) hi
theorem c3_t (h : SH K) (hi : xvb i 6 = true) : xti (wl K s) i x (.inr (.inr (.inl (some 3)))) = some (wl K (up s 3 i.toNatClampNeg x)) := xti_wl (K3 h) hi
theorem c54_n (h : SH K) : xnn sc (wl K s) (.inr (.inr (.inl (some 54)))) = some 600 := xnn_wl (K54 h) rfl
theorem c54_d (h : SH K) (hi : xvb i 600 = true) : xdi sc (wl K s) i (.inr (.inr (.inl (some 54)))) = some (s 54 i.toNatClampNeg) := xdi_wl (K54 h) hi
theorem c54_t (h : SH K) (hi : xvb i 600 = true) : xti (wl K s) i x (.inr (.inr (.inl (some 54)))) = some (wl K (up s 54 i.toNatClampNeg x)) := xti_wl (K54 h) hi
theorem c55_n (h : SH K) : xnn sc (wl K s) (.inr (.inr (.inl (some 55)))) = some 5 := xnn_wl (K55 h) rfl
theorem c55_d (h : SH K) (hi : xvb i 5 = true) : xdi sc (wl K s) i (.inr (.inr (.inl (some 55)))) = some (s 55 i.toNatClampNeg) := xdi_wl (K55 h) hi
theorem c55_t (h : SH K) (hi : xvb i 5 = true) : xti (wl K s) i x (.inr (.inr (.inl (some 55)))) = some (wl K (up s 55 i.toNatClampNeg x)) := xti_wl (K55 h) hi
theorem c58_n (h : SH K) : xnn sc (wl K s) (.inr (.inr (.inl (some 58)))) = some 6 := xnn_wl (K58 h) rfl
theorem c58_d (h : SH K) (hi : xvb i 6 = true) : xdi sc (wl K s) i (.inr (.inr (.inl (some 58)))) = some (s 58 i.toNatClampNeg) := xdi_wl (K58 h) hi
theorem c58_t (h : SH K) (hi : xvb i 6 = true) : xti (wl K s) i x (.inr (.inr (.inl (some 58)))) = some (wl K (up s 58 i.toNatClampNeg x)) := xti_wl (K58 h) hi
theorem c59_n (h : SH K) : xnn sc (wl K s) (.inr (.inr (.inl (some 59)))) = some 3 := xnn_wl (K59 h) rfl
theorem c59_d (h : SH K) (hi : xvb i 3 = true) : xdi sc (wl K s) i (.inr (.inr (.inl (some 59)))) = some (s 59 i.toNatClampNeg) := xdi_wl (K59 h) hi
theorem c59_t (h : SH K) (hi : xvb i 3 = true) : xti (wl K s) i x (.inr (.inr (.inl (some 59)))) = some (wl K (up s 59 i.toNatClampNeg x)) := xti_wl (K59 h) hi
theorem c61_n (h : SH K) : xnn sc (wl K s) (.inr (.inr (.inl (some 61)))) = some 40 := xnn_wl (K61 h) rfl
theorem c61_d (h : SH K) (hi : xvb i 40 = true) : xdi sc (wl K s) i (.inr (.inr (.inl (some 61)))) = some (s 61 i.toNatClampNeg) := xdi_wl (K61 h) hi
theorem c61_t (h : SH K) (hi : xvb i 40 = true) : xti (wl K s) i x (.inr (.inr (.inl (some 61)))) = some (wl K (up s 61 i.toNatClampNeg x)) := xti_wl (K61 h) hi
theorem c62_n (h : SH K) : xnn sc (wl K s) (.inr (.inr (.inl (some 62)))) = some 216 := xnn_wl (K62 h) rfl
theorem c62_d (h : SH K) (hi : xvb i 216 = true) : xdi sc (wl K s) i (.inr (.inr (.inl (some 62)))) = some (s 62 i.toNatClampNeg) := xdi_wl (K62 h) hi
theorem c62_t (h : SH K) (hi : xvb i 216 = true) : xti (wl K s) i x (.inr (.inr (.inl (some 62)))) = some (wl K (up s 62 i.toNatClampNeg x)) := xti_wl (K62 h) hi
theorem c63_n (h : SH K) : xnn sc (wl K s) (.inr (.inr (.inl (some 63)))) = some 1000 := xnn_wl (K63 h) rfl
theorem c63_d (h : SH K) (hi : xvb i 1000 = true) : xdi sc (wl K s) i (.inr (.inr (.inl (some 63)))) = some (s 63 i.toNatClampNeg) := xdi_wl (K63 h) hi
theorem c63_t (h : SH K) (hi : xvb i 1000 = true) : xti (wl K s) i x (.inr (.inr (.inl (some 63)))) = some (wl K (up s 63 i.toNatClampNeg x)) := xti_wl (K63 h) hi
theorem c65_n (h : SH K) : xnn sc (wl K s) (.inr (.inr (.inl (some 65)))) = some 5768 := xnn_wl (K65 h) rfl
theorem c65_d (h : SH K) (hi : xvb i 5768 = true) : xdi sc (wl K s) i (.inr (.inr (.inl (some 65)))) = some (s 65 i.toNatClampNeg) := xdi_wl (K65 h) hi
theorem c65_t (h : SH K) (hi : xvb i 5768 = true) : xti (wl K s) i x (.inr (.inr (.inl (some 65)))) = some (wl K (up s 65 i.toNatClampNeg x)) := xti_wl (K65 h) hi
theorem c66_n (h : SH K) : xnn sc (wl K s) (.inr (.inr (.inl (some 66)))) = some 3 := xnn_wl (K66 h) rfl
theorem c66_d (h : SH K) (hi : xvb i 3 = true) : xdb (wl K s) i (.inr (.inr (.inl (some 66)))) = some (s 66 i.toNatClampNeg) := xdb_wl (K66 h) hi
theorem c66_t (h : SH K) (hi : xvb i 3 = true) : xtb (wl K s) i x (.inr (.inr (.inl (some 66)))) = some (wl K (up s 66 i.toNatClampNeg (vp_nar .boolean x))) := xtb_wl (K66 h) hi
theorem c67_n (h : SH K) : xnn sc (wl K s) (.inr (.inr (.inl (some 67)))) = some 201 := xnn_wl (K67 h) rfl
theorem c67_d (h : SH K) (hi : xvb i 201 = true) : xdi sc (wl K s) i (.inr (.inr (.inl (some 67)))) = some (s 67 i.toNatClampNeg) := xdi_wl (K67 h) hi
theorem c67_t (h : SH K) (hi : xvb i 201 = true) : xti (wl K s) i x (.inr (.inr (.inl (some 67)))) = some (wl K (up s 67 i.toNatClampNeg x)) := xti_wl (K67 h) hi
theorem c68_n (h : SH K) : xnn sc (wl K s) (.inr (.inr (.inl (some 68)))) = some 3 := xnn_wl (K68 h) rfl
theorem c68_d (h : SH K) (hi : xvb i 3 = true) : xdi sc (wl K s) i (.inr (.inr (.inl (some 68)))) = some (s 68 i.toNatClampNeg) := xdi_wl (K68 h) hi
theorem c68_t (h : SH K) (hi : xvb i 3 = true) : xti (wl K s) i x (.inr (.inr (.inl (some 68)))) = some (wl K (up s 68 i.toNatClampNeg x)) := xti_wl (K68 h) hi
theorem c69_n (h : SH K) : xnn sc (wl K s) (.inr (.inr (.inl (some 69)))) = some 6 := xnn_wl (K69 h) rfl
theorem c69_d (h : SH K) (hi : xvb i 6 = true) : xdi sc (wl K s) i (.inr (.inr (.inl (some 69)))) = some (s 69 i.toNatClampNeg) := xdi_wl (K69 h) hi
theorem c69_t (h : SH K) (hi : xvb i 6 = true) : xti (wl K s) i x (.inr (.inr (.inl (some 69)))) = some (wl K (up s 69 i.toNatClampNeg x)) := xti_wl (K69 h) hi
theorem c70_n (h : SH K) : xnn sc (wl K s) (.inr (.inr (.inl (some 70)))) = some 1791 := xnn_wl (K70 h) rfl
theorem c70_d (h : SH K) (hi : xvb i 1791 = true) : xdi sc (wl K s) i (.inr (.inr (.inl (some 70)))) = some (s 70 i.toNatClampNeg) := xdi_wl (K70 h) hi
theorem c70_t (h : SH K) (hi : xvb i 1791 = true) : xti (wl K s) i x (.inr (.inr (.inl (some 70)))) = some (wl K (up s 70 i.toNatClampNeg x)) := xti_wl (K70 h) hi
theorem c71_n (h : SH K) : xnn sc (wl K s) (.inr (.inr (.inl (some 71)))) = some 1000 := xnn_wl (K71 h) rfl
theorem c71_d (h : SH K) (hi : xvb i 1000 = true) : xdb (wl K s) i (.inr (.inr (.inl (some 71)))) = some (s 71 i.toNatClampNeg) := xdb_wl (K71 h) hi
theorem c71_t (h : SH K) (hi : xvb i 1000 = true) : xtb (wl K s) i x (.inr (.inr (.inl (some 71)))) = some (wl K (up s 71 i.toNatClampNeg (vp_nar .boolean x))) := xtb_wl (K71 h) hi
def RP (K : List KD) (r : Nat) : Prop := K[r]? = some (kO 2 [none, some (eR (r + 1)), some (eR (r + 2)), some (eR (r + 3)), some (eR (r + 4)), some (eR (r + 5)), some (eR (r + 6)), some (eR (r + 7)), none, none, none, none, none, none]) ∧ K[r + 1]? = some (kI 0 6) ∧ K[r + 2]? = some (kI 0 6) ∧ K[r + 3]? = some (kI 0 6) ∧ K[r + 4]? = some (kI 0 6) ∧ K[r + 5]? = some (kI 0 72) ∧ K[r + 6]? = some (kI 0 6) ∧ K[r + 7]? = some (kI 0 3)
theorem cR_v (h : RP K r) : xrv (wl K s) 2 (.inr (.inr (.inl (some (r))))) = true := xrv_wl (h.1)
theorem cR_g0 (h : RP K r) : xgi (wl K s) 2 0 (.inr (.inr (.inl (some (r))))) = some (s (r) 0) := xgi_wl (h.1) rfl
theorem cR_p0 (h : RP K r) : xp (wl K s) 2 0 (.inl x) (.inr (.inr (.inl (some (r))))) = some (wl K (up s (r) 0 x)) := xp_wl (h.1) rfl
theorem cR_g1 (h : RP K r) : xga (wl K s) 2 1 (.inr (.inr (.inl (some (r))))) = some (some (r + 1)) := xga_wl (h.1) rfl
theorem cR_g2 (h : RP K r) : xga (wl K s) 2 2 (.inr (.inr (.inl (some (r))))) = some (some (r + 2)) := xga_wl (h.1) rfl
theorem cR_g3 (h : RP K r) : xga (wl K s) 2 3 (.inr (.inr (.inl (some (r))))) = some (some (r + 3)) := xga_wl (h.1) rfl
theorem cR_g4 (h : RP K r) : xga (wl K s) 2 4 (.inr (.inr (.inl (some (r))))) = some (some (r + 4)) := xga_wl (h.1) rfl
theorem cR_g5 (h : RP K r) : xga (wl K s) 2 5 (.inr (.inr (.inl (some (r))))) = some (some (r + 5)) := xga_wl (h.1) rfl
theorem cR_g6 (h : RP K r) : xga (wl K s) 2 6 (.inr (.inr (.inl (some (r))))) = some (some (r + 6)) := xga_wl (h.1) rfl
theorem cR_g7 (h : RP K r) : xga (wl K s) 2 7 (.inr (.inr (.inl (some (r))))) = some (some (r + 7)) := xga_wl (h.1) rfl
theorem cR_g8 (h : RP K r) : xgi (wl K s) 2 8 (.inr (.inr (.inl (some (r))))) = some (s (r) 8) := xgi_wl (h.1) rfl
theorem cR_p8 (h : RP K r) : xp (wl K s) 2 8 (.inl x) (.inr (.inr (.inl (some (r))))) = some (wl K (up s (r) 8 x)) := xp_wl (h.1) rfl
theorem cR_g9 (h : RP K r) : xgi (wl K s) 2 9 (.inr (.inr (.inl (some (r))))) = some (s (r) 9) := xgi_wl (h.1) rfl
theorem cR_p9 (h : RP K r) : xp (wl K s) 2 9 (.inl x) (.inr (.inr (.inl (some (r))))) = some (wl K (up s (r) 9 x)) := xp_wl (h.1) rfl
theorem cR_g10 (h : RP K r) : xgi (wl K s) 2 10 (.inr (.inr (.inl (some (r))))) = some (s (r) 10) := xgi_wl (h.1) rfl
theorem cR_p10 (h : RP K r) : xp (wl K s) 2 10 (.inl x) (.inr (.inr (.inl (some (r))))) = some (wl K (up s (r) 10 x)) := xp_wl (h.1) rfl
theorem cR_g11 (h : RP K r) : xgi (wl K s) 2 11 (.inr (.inr (.inl (some (r))))) = some (s (r) 11) := xgi_wl (h.1) rfl
theorem cR_p11 (h : RP K r) : xp (wl K s) 2 11 (.inl x) (.inr (.inr (.inl (some (r))))) = some (wl K (up s (r) 11 x)) := xp_wl (h.1) rfl
theorem cR_g12 (h : RP K r) : xgi (wl K s) 2 12 (.inr (.inr (.inl (some (r))))) = some (s (r) 12) := xgi_wl (h.1) rfl
theorem cR_p12 (h : RP K r) : xp (wl K s) 2 12 (.inl x) (.inr (.inr (.inl (some (r))))) = some (wl K (up s (r) 12 x)) := xp_wl (h.1) rfl
theorem cR_g13 (h : RP K r) : xgi (wl K s) 2 13 (.inr (.inr (.inl (some (r))))) = some (s (r) 13) := xgi_wl (h.1) rfl
theorem cR_p13 (h : RP K r) : xp (wl K s) 2 13 (.inl x) (.inr (.inr (.inl (some (r))))) = some (wl K (up s (r) 13 x)) := xp_wl (h.1) rfl
theorem cR1_n (h : RP K r) : xnn sc (wl K s) (.inr (.inr (.inl (some (r + 1))))) = some 6 := xnn_wl (h.2.1) rfl
theorem cR1_d (h : RP K r) (hi : xvb i 6 = true) : xdi sc (wl K s) i (.inr (.inr (.inl (some (r + 1))))) = some (s (r + 1) i.toNatClampNeg) := xdi_wl (h.2.1) hi
theorem cR1_t (h : RP K r) (hi : xvb i 6 = true) : xti (wl K s) i x (.inr (.inr (.inl (some (r + 1))))) = some (wl K (up s (r + 1) i.toNatClampNeg x)) := xti_wl (h.2.1) hi
theorem cR2_n (h : RP K r) : xnn sc (wl K s) (.inr (.inr (.inl (some (r + 2))))) = some 6 := xnn_wl (h.2.2.1) rfl
theorem cR2_d (h : RP K r) (hi : xvb i 6 = true) : xdi sc (wl K s) i (.inr (.inr (.inl (some (r + 2))))) = some (s (r + 2) i.toNatClampNeg) := xdi_wl (h.2.2.1) hi
theorem cR2_t (h : RP K r) (hi : xvb i 6 = true) : xti (wl K s) i x (.inr (.inr (.inl (some (r + 2))))) = some (wl K (up s (r + 2) i.toNatClampNeg x)) := xti_wl (h.2.2.1) hi
theorem cR3_n (h : RP K r) : xnn sc (wl K s) (.inr (.inr (.inl (some (r + 3))))) = some 6 := xnn_wl (h.2.2.2.1) rfl
theorem cR3_d (h : RP K r) (hi : xvb i 6 = true) : xdi sc (wl K s) i (.inr (.inr (.inl (some (r + 3))))) = some (s (r + 3) i.toNatClampNeg) := xdi_wl (h.2.2.2.1) hi
theorem cR3_t (h : RP K r) (hi : xvb i 6 = true) : xti (wl K s) i x (.inr (.inr (.inl (some (r + 3))))) = some (wl K (up s (r + 3) i.toNatClampNeg x)) := xti_wl (h.2.2.2.1) hi
theorem cR4_n (h : RP K r) : xnn sc (wl K s) (.inr (.inr (.inl (some (r + 4))))) = some 6 := xnn_wl (h.2.2.2.2.1) rfl
theorem cR4_d (h : RP K r) (hi : xvb i 6 = true) : xdi sc (wl K s) i (.inr (.inr (.inl (some (r + 4))))) = some (s (r + 4) i.toNatClampNeg) := xdi_wl (h.2.2.2.2.1) hi
theorem cR4_t (h : RP K r) (hi : xvb i 6 = true) : xti (wl K s) i x (.inr (.inr (.inl (some (r + 4))))) = some (wl K (up s (r + 4) i.toNatClampNeg x)) := xti_wl (h.2.2.2.2.1) hi
theorem cR5_n (h : RP K r) : xnn sc (wl K s) (.inr (.inr (.inl (some (r + 5))))) = some 72 := xnn_wl (h.2.2.2.2.2.1) rfl
theorem cR5_d (h : RP K r) (hi : xvb i 72 = true) : xdi sc (wl K s) i (.inr (.inr (.inl (some (r + 5))))) = some (s (r + 5) i.toNatClampNeg) := xdi_wl (h.2.2.2.2.2.1) hi
theorem cR5_t (h : RP K r) (hi : xvb i 72 = true) : xti (wl K s) i x (.inr (.inr (.inl (some (r + 5))))) = some (wl K (up s (r + 5) i.toNatClampNeg x)) := xti_wl (h.2.2.2.2.2.1) hi
theorem cR6_n (h : RP K r) : xnn sc (wl K s) (.inr (.inr (.inl (some (r + 6))))) = some 6 := xnn_wl (h.2.2.2.2.2.2.1) rfl
theorem cR6_d (h : RP K r) (hi : xvb i 6 = true) : xdi sc (wl K s) i (.inr (.inr (.inl (some (r + 6))))) = some (s (r + 6) i.toNatClampNeg) := xdi_wl (h.2.2.2.2.2.2.1) hi
theorem cR6_t (h : RP K r) (hi : xvb i 6 = true) : xti (wl K s) i x (.inr (.inr (.inl (some (r + 6))))) = some (wl K (up s (r + 6) i.toNatClampNeg x)) := xti_wl (h.2.2.2.2.2.2.1) hi
theorem cR7_n (h : RP K r) : xnn sc (wl K s) (.inr (.inr (.inl (some (r + 7))))) = some 3 := xnn_wl (h.2.2.2.2.2.2.2) rfl
theorem cR7_d (h : RP K r) (hi : xvb i 3 = true) : xdi sc (wl K s) i (.inr (.inr (.inl (some (r + 7))))) = some (s (r + 7) i.toNatClampNeg) := xdi_wl (h.2.2.2.2.2.2.2) hi
theorem cR7_t (h : RP K r) (hi : xvb i 3 = true) : xti (wl K s) i x (.inr (.inr (.inl (some (r + 7))))) = some (wl K (up s (r + 7) i.toNatClampNeg x)) := xti_wl (h.2.2.2.2.2.2.2) hi
def RW (K : List KD) (q : Nat) : Prop := K[q]? = some (kO 3 [none, some (eR (q + 1))]) ∧ K[q + 1]? = some (kI 0 200)
theorem cW_v (h : RW K q) : xrv (wl K s) 3 (.inr (.inr (.inl (some (q))))) = true := xrv_wl (h.1)
theorem cW_g0 (h : RW K q) : xgi (wl K s) 3 0 (.inr (.inr (.inl (some (q))))) = some (s (q) 0) := xgi_wl (h.1) rfl
theorem cW_p0 (h : RW K q) : xp (wl K s) 3 0 (.inl x) (.inr (.inr (.inl (some (q))))) = some (wl K (up s (q) 0 x)) := xp_wl (h.1) rfl
theorem cW_g1 (h : RW K q) : xga (wl K s) 3 1 (.inr (.inr (.inl (some (q))))) = some (some (q + 1)) := xga_wl (h.1) rfl
theorem cW1_n (h : RW K q) : xnn sc (wl K s) (.inr (.inr (.inl (some (q + 1))))) = some 200 := xnn_wl (h.2) rfl
theorem cW1_d (h : RW K q) (hi : xvb i 200 = true) : xdi sc (wl K s) i (.inr (.inr (.inl (some (q + 1))))) = some (s (q + 1) i.toNatClampNeg) := xdi_wl (h.2) hi
theorem cW1_t (h : RW K q) (hi : xvb i 200 = true) : xti (wl K s) i x (.inr (.inr (.inl (some (q + 1))))) = some (wl K (up s (q + 1) i.toNatClampNeg x)) := xti_wl (h.2) hi
def TD (K : List KD) (B : Nat) : Prop := ∀ j : Nat, j < 41 → K[B + j]? = (KT B)[j]?
theorem cT_v (h : TD K B) : xrv (wl K s) 5 (.inr (.inr (.inl (some (B))))) = true := xrv_wl (h 0 (by decide))
theorem cT_g0 (h : TD K B) : xga (wl K s) 5 0 (.inr (.inr (.inl (some (B))))) = some (some (B + 1)) := xga_wl (h 0 (by decide)) rfl
theorem cT_g1 (h : TD K B) : xgi (wl K s) 5 1 (.inr (.inr (.inl (some (B))))) = some (s (B) 1) := xgi_wl (h 0 (by decide)) rfl
theorem cT_p1 (h : TD K B) : xp (wl K s) 5 1 (.inl x) (.inr (.inr (.inl (some (B))))) = some (wl K (up s (B) 1 x)) := xp_wl (h 0 (by decide)) rfl
theorem cT_g2 (h : TD K B) : xgi (wl K s) 5 2 (.inr (.inr (.inl (some (B))))) = some (s (B) 2) := xgi_wl (h 0 (by decide)) rfl
theorem cT_p2 (h : TD K B) : xp (wl K s) 5 2 (.inl x) (.inr (.inr (.inl (some (B))))) = some (wl K (up s (B) 2 x)) := xp_wl (h 0 (by decide)) rfl
theorem cT_g3 (h : TD K B) : xgi (wl K s) 5 3 (.inr (.inr (.inl (some (B))))) = some (s (B) 3) := xgi_wl (h 0 (by decide)) rfl
theorem cT_p3 (h : TD K B) : xp (wl K s) 5 3 (.inl x) (.inr (.inr (.inl (some (B))))) = some (wl K (up s (B) 3 x)) := xp_wl (h 0 (by decide)) rfl
theorem cT_g4 (h : TD K B) : xga (wl K s) 5 4 (.inr (.inr (.inl (some (B))))) = some (some (B + 2)) := xga_wl (h 0 (by decide)) rfl
theorem cT_g5 (h : TD K B) : xga (wl K s) 5 5 (.inr (.inr (.inl (some (B))))) = some (some (B + 3)) := xga_wl (h 0 (by decide)) rfl
theorem cT_g6 (h : TD K B) : xga (wl K s) 5 6 (.inr (.inr (.inl (some (B))))) = some (some (B + 4)) := xga_wl (h 0 (by decide)) rfl
theorem cT1_n (h : TD K B) : xnn sc (wl K s) (.inr (.inr (.inl (some (B + 1))))) = some 600 := xnn_wl (h 1 (by decide)) rfl
theorem cT1_d (h : TD K B) (hi : xvb i 600 = true) : xdi sc (wl K s) i (.inr (.inr (.inl (some (B + 1))))) = some (s (B + 1) i.toNatClampNeg) := xdi_wl (h 1 (by decide)) hi
theorem cT1_t (h : TD K B) (hi : xvb i 600 = true) : xti (wl K s) i x (.inr (.inr (.inl (some (B + 1))))) = some (wl K (up s (B + 1) i.toNatClampNeg x)) := xti_wl (h 1 (by decide)) hi
theorem cT2_n (h : TD K B) : xnn sc (wl K s) (.inr (.inr (.inl (some (B + 2))))) = some 6 := xnn_wl (h 2 (by decide)) rfl
theorem cT2_d (h : TD K B) (hi : xvb i 6 = true) : xdi sc (wl K s) i (.inr (.inr (.inl (some (B + 2))))) = some (s (B + 2) i.toNatClampNeg) := xdi_wl (h 2 (by decide)) hi
theorem cT2_t (h : TD K B) (hi : xvb i 6 = true) : xti (wl K s) i x (.inr (.inr (.inl (some (B + 2))))) = some (wl K (up s (B + 2) i.toNatClampNeg x)) := xti_wl (h 2 (by decide)) hi
theorem cT3_n (h : TD K B) : xnn sc (wl K s) (.inr (.inr (.inl (some (B + 3))))) = some 2 := xnq_wl (h 3 (by decide)) rfl
theorem cT3_d (h : TD K B) (hi : xvb i 2 = true) : xdq (wl K s) i (.inr (.inr (.inl (some (B + 3))))) = some (if i.toNatClampNeg < 2 then some (B + 5 + 8 * i.toNatClampNeg) else none) := xdq_wl (h 3 (by decide)) rfl hi
theorem cT4_n (h : TD K B) : xnn sc (wl K s) (.inr (.inr (.inl (some (B + 4))))) = some 10 := xnq_wl (h 4 (by decide)) rfl
theorem cT4_d (h : TD K B) (hi : xvb i 10 = true) : xdq (wl K s) i (.inr (.inr (.inl (some (B + 4))))) = some (if i.toNatClampNeg < 10 then some (B + 21 + 2 * i.toNatClampNeg) else none) := xdq_wl (h 4 (by decide)) rfl hi
theorem cT_r5 (h : TD K B) : RP K (B + 5) := ⟨h 5 (by decide), h 6 (by decide), h 7 (by decide), h 8 (by decide), h 9 (by decide), h 10 (by decide), h 11 (by decide), h 12 (by decide)⟩
theorem cT_r13 (h : TD K B) : RP K (B + 13) := ⟨h 13 (by decide), h 14 (by decide), h 15 (by decide), h 16 (by decide), h 17 (by decide), h 18 (by decide), h 19 (by decide), h 20 (by decide)⟩
theorem cT_w0 (h : TD K B) : RW K (B + 21) := ⟨h 21 (by decide), h 22 (by decide)⟩
theorem cT_w1 (h : TD K B) : RW K (B + 23) := ⟨h 23 (by decide), h 24 (by decide)⟩
theorem cT_w2 (h : TD K B) : RW K (B + 25) := ⟨h 25 (by decide), h 26 (by decide)⟩
theorem cT_w3 (h : TD K B) : RW K (B + 27) := ⟨h 27 (by decide), h 28 (by decide)⟩
theorem cT_w4 (h : TD K B) : RW K (B + 29) := ⟨h 29 (by decide), h 30 (by decide)⟩
theorem cT_w5 (h : TD K B) : RW K (B + 31) := ⟨h 31 (by decide), h 32 (by decide)⟩
theorem cT_w6 (h : TD K B) : RW K (B + 33) := ⟨h 33 (by decide), h 34 (by decide)⟩
theorem cT_w7 (h : TD K B) : RW K (B + 35) := ⟨h 35 (by decide), h 36 (by decide)⟩
theorem cT_w8 (h : TD K B) : RW K (B + 37) := ⟨h 37 (by decide), h 38 (by decide)⟩
theorem cT_w9 (h : TD K B) : RW K (B + 39) := ⟨h 39 (by decide), h 40 (by decide)⟩
theorem cS_t (h : SH K) : TD K 1 := by
  obtain ⟨f, t, rfl⟩ := h
  intro j hj
  rcases (by omega : j = 0 ∨ j = 1 ∨ j = 2 ∨ j = 3 ∨ j = 4 ∨ j = 5 ∨ j = 6 ∨ j = 7 ∨ j = 8 ∨ j = 9 ∨ j = 10 ∨ j = 11 ∨ j = 12 ∨ j = 13 ∨ j = 14 ∨ j = 15 ∨ j = 16 ∨ j = 17 ∨ j = 18 ∨ j = 19 ∨ j = 20 ∨ j = 21 ∨ j = 22 ∨ j = 23 ∨ j = 24 ∨ j = 25 ∨ j = 26 ∨ j = 27 ∨ j = 28 ∨ j = 29 ∨ j = 30 ∨ j = 31 ∨ j = 32 ∨ j = 33 ∨ j = 34 ∨ j = 35 ∨ j = 36 ∨ j = 37 ∨ j = 38 ∨ j = 39 ∨ j = 40) with rfl | rfl | rfl | rfl | rfl | rfl | rfl | rfl | rfl | rfl | rfl | rfl | rfl | rfl | rfl | rfl | rfl | rfl | rfl | rfl | rfl | rfl | rfl | rfl | rfl | rfl | rfl | rfl | rfl | rfl | rfl | rfl | rfl | rfl | rfl | rfl | rfl | rfl | rfl | rfl | rfl <;> rfl
theorem cS_r (h : SH K) : RP K 44 := ⟨K44 h, K45 h, K46 h, K47 h, K48 h, K49 h, K50 h, K51 h⟩
theorem cS_w (h : SH K) : RW K 52 := ⟨K52 h, K53 h⟩
end XSH
