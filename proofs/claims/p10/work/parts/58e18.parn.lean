section XTU
variable {sc : Nat × (Nat → Int32)} {d : Nat} {K : List KD} {r q t a B m : Nat} {w : EW}
/-! what is told, on both sides the same -/
def RK : Nat → SG → SG → Prop
  | 0 => RPS
  | 1 => RWS 5 8
  | 2 => RWS 5 40
  | 3 => RWS 2 8
  | 4 => RWS 4 8
  | _ => BGS
def SZK : Nat → Nat
  | 0 => 118
  | 1 => 41
  | 2 => 201
  | 3 => 17
  | 4 => 33
  | _ => 6
def PLK (k j : Nat) : Nat := match k with
  | 0 => 610 + 118 * j
  | 1 => 846 + 41 * j
  | 2 => 928 + 201 * j
  | 3 => 1330 + 17 * j
  | 4 => 1364 + 33 * j
  | _ => 1430 + 6 * j
def CPK (k j : Nat) : Nat := match k with
  | 0 => 5 + 8 * j
  | k + 1 => 21 + 2 * (k * 2 + j)
def CK (k : Nat) : Nat := match k with
  | 0 => 44
  | _ => 52
theorem text_k {f : Nat → Int32} {L k : Nat} {y1 y2 : Int32} {t c0 : SG} (hk : k < 6) (e1 : y1 = nI k) (e2 : t 64 2 = nI L) (hL : L ≤ 600) (ty : TY y2 k t) (eb : ∀ j, j < L → t 65 (10 + j) = f j) (pos : ∀ j, j < L → 0 ≤ f j) (t7 : t 65 7 = 0) (t8 : t 65 8 = -1) (ef : ∀ j, j < L → c0 54 j = f j) : pc (Rtext_74 (Rtext_R xF).1 (Rtext_R xF).2 t y1 y2) (fun p => PE t k (SZK k) (PLK k) y2 (RK k) (redL y1 600 (sonS c0 L) 1) p) := by
  rcases (by omega : k = 0 ∨ k = 1 ∨ k = 2 ∨ k = 3 ∨ k = 4 ∨ k = 5) with rfl | rfl | rfl | rfl | rfl | rfl <;> subst e1
  · exact text74v (k := 0) (S := 118) (P := fun j => 610 + 118 * j) (R := RPS) (I := R0) (Ln := RrepublicLine) ⟨rfl, by omega, by decide, by omega, fun j hj => ⟨place0, by (try dsimp only); omega, by (try dsimp only); omega⟩⟩ (fun _ _ => R0_SR) (fun _ p i => republicLine_ok p i) (fun _ _ _ => rfl) (fun u h _ => h rfl) (fun a e u v sm ct => lin_0 sm ct) (fun _ _ _ h => h) (fun u v h => INI_rps h) e2 hL ty eb pos t7 t8 ef
  · exact text74v (k := 1) (S := 41) (P := fun j => 846 + 41 * j) (R := RWS 5 8) (I := C8) (Ln := RorderLine) ⟨rfl, by omega, by decide, by omega, fun j hj => ⟨place1, by (try dsimp only); omega, by (try dsimp only); omega⟩⟩ (fun _ _ => C8_SR) (fun _ p i => orderLine_ok p i) (fun _ _ _ => rfl) (fun u _ h => k0 (h (by decide)) 0 8 (by omega)) (fun a e u v sm ct => lin_1 sm ct) (fun c => absurd c (by decide)) (fun u v h => INI_rws h) e2 hL ty eb pos t7 t8 ef
  · refine text74v (k := 2) (S := 201) (P := fun j => 928 + 201 * j) (R := RWS 5 40) (I := Y0) (Ln := RyearLine) ⟨rfl, by omega, by decide, by omega, fun j hj => ⟨place2, by (try dsimp only); omega, by (try dsimp only); omega⟩⟩ (fun _ _ => Y0_SR) (fun _ p i => yearLine_ok p i) (fun _ _ _ => rfl) (fun u _ h => ?_) (fun a e u v sm ct => lin_2 sm ct) (fun c => absurd c (by decide)) (fun u v h => INI_rws h) e2 hL ty eb pos t7 t8 ef
    have z := h (by decide)
    exact ⟨k0 z 0 40 (by omega), fun _ j hj => ⟨fun _ => k0 z _ 3 (by omega), fun _ => k0 z _ 2 (by omega)⟩⟩
  · exact text74v (k := 3) (S := 17) (P := fun j => 1330 + 17 * j) (R := RWS 2 8) (I := C8) (Ln := RleakLine) ⟨rfl, by omega, by decide, by omega, fun j hj => ⟨place3, by (try dsimp only); omega, by (try dsimp only); omega⟩⟩ (fun _ _ => C8_SR) (fun _ p i => leakLine_ok p i) (fun _ _ _ => rfl) (fun u _ h => k0 (h (by decide)) 0 8 (by omega)) (fun a e u v sm ct => lin_3 sm ct) (fun c => absurd c (by decide)) (fun u v h => INI_rws h) e2 hL ty eb pos t7 t8 ef
  · refine text74v (k := 4) (S := 33) (P := fun j => 1364 + 33 * j) (R := RWS 4 8) (I := S0) (Ln := RsummerLine) ⟨rfl, by omega, by decide, by omega, fun j hj => ⟨place4, by (try dsimp only); omega, by (try dsimp only); omega⟩⟩ (fun _ _ => S0_SR) (fun _ p i => summerLine_ok p i) (fun _ _ _ => rfl) (fun u _ h => ?_) (fun a e u v sm ct => lin_4 sm ct) (fun c => absurd c (by decide)) (fun u v h => INI_rws h) e2 hL ty eb pos t7 t8 ef
    have z := h (by decide)
    exact ⟨k0 z 0 8 (by omega), fun _ j hj => ⟨k0 z _ 3 (by omega), k0 z _ 9 (by omega), k0 z _ 9 (by omega), k0 z _ 9 (by omega)⟩⟩
  · exact text74v (k := 5) (S := 6) (P := fun j => 1430 + 6 * j) (R := BGS) (I := fun _ => True) (Ln := RbargainLine) ⟨rfl, by omega, by decide, by omega, fun j hj => ⟨place5, by (try dsimp only); omega, by (try dsimp only); omega⟩⟩ (fun _ _ _ _ => trivial) (fun _ p _ => ok_w (bargainLine_ok p) (fun _ h => ⟨h, trivial⟩)) (fun _ _ _ => rfl) (fun _ _ _ => trivial) (fun a e u v sm ct => lin_5 sm ct) (fun c => absurd c (by decide)) (fun u v h => INI_bgs (by decide) h) e2 hL ty eb pos t7 t8 ef
/-! a told republic, rows, shares: the class's places G, the reference's g -/
def REQ (G : Nat → Nat → Int32) (g : Nat → Int32) : Prop := ∃ n V, (n ≤ 6 ∧ V < 64) ∧ (G 0 0 = nI n ∧ g 0 = nI n) ∧ (∀ i, i < 5 → G 0 (9 + i) = g (1 + i) ∧ NB (g (1 + i)) 99) ∧ (∀ k, k < 3 → G 7 k = g (6 + k) ∧ NB (g (6 + k)) 5) ∧
  ((∀ m c, m < n → c < 4 → G (1 + c) m = g (10 + 18 * m + c)) ∧ ∀ m c, m < 6 → c < 4 → NB (g (10 + 18 * m + c)) 27) ∧
  (G 0 8 = nI V ∧ ∀ m, m < 6 → g (14 + 18 * m) = if V.testBit m then 1 else 0) ∧
  (∀ m, m < 6 → G 6 m = g (15 + 18 * m) ∧ NB (g (15 + 18 * m)) 63) ∧ ∀ m i, m < 6 → i < 12 → G 5 (12 * m + i) = g (16 + 18 * m + i) ∧ NB (g (16 + 18 * m + i)) 9
def WEQ (c N : Nat) (G : Nat → Nat → Int32) (g : Nat → Int32) : Prop := ∃ n, n ≤ N ∧ G 0 0 = nI n ∧ g 0 = nI n ∧ (∀ j i, j < n → i < c → G 1 (5 * j + i) = g (1 + c * j + i)) ∧ (c = 5 → ∀ j, j < n → ROK N (fun i => g (1 + 5 * j + i)))
def BEQ (G : Nat → Nat → Int32) (g : Nat → Int32) : Prop := ∀ m, m < 6 → G 1 (5 * m) = g m
def KEQ : Nat → (Nat → Nat → Int32) → (Nat → Int32) → Prop
  | 0 => REQ
  | 1 => WEQ 5 8
  | 2 => WEQ 5 40
  | 3 => WEQ 2 8
  | 4 => WEQ 4 8
  | _ => BEQ
def KDD : Nat → Nat → Nat → Prop
  | 0 => fun e j => e < 8 ∧ rD e j
  | _ => fun e j => e < 2 ∧ wD e j
section CG
variable {G G2 : Nat → Nat → Int32} {g g2 : Nat → Int32}
theorem REQ_g (e1 : ∀ e j, e < 8 → rD e j → G2 e j = G e j) (e2 : ∀ j, j < 118 → g2 j = g j) (h : REQ G g) : REQ G2 g2 := by
  obtain ⟨n, V, h1, ⟨h2, h3⟩, h4, h5, ⟨h6, h7⟩, ⟨h8, h9⟩, h10, h11⟩ := h
  refine ⟨n, V, h1, ⟨(e1 0 0 (by omega) (Or.inl ⟨rfl, Or.inl rfl⟩)).trans h2, (e2 0 (by omega)).trans h3⟩, fun i hi => ?_, fun k hk => ?_, ⟨fun m c hm hc => ?_, fun m c hm hc => ?_⟩, ⟨?_, fun m hm => ?_⟩, fun m hm => ?_, fun m i hm hi => ?_⟩
  · rw [e1 0 (9 + i) (by omega) (Or.inl ⟨rfl, Or.inr ⟨by omega, by omega⟩⟩), e2 (1 + i) (by omega)]; exact h4 i hi
  · rw [e1 7 k (by omega) (Or.inr (Or.inr (Or.inr ⟨rfl, hk⟩))), e2 (6 + k) (by omega)]; exact h5 k hk
  · rw [e1 (1 + c) m (by omega) (Or.inr (Or.inl ⟨by omega, by omega⟩)), e2 _ (by omega)]; exact h6 m c hm hc
  · rw [e2 _ (by omega)]; exact h7 m c hm hc
  · rw [e1 0 8 (by omega) (Or.inl ⟨rfl, Or.inr ⟨by omega, by omega⟩⟩)]; exact h8
  · rw [e2 _ (by omega)]; exact h9 m hm
  · rw [e1 6 m (by omega) (Or.inr (Or.inl ⟨by omega, by omega⟩)), e2 _ (by omega)]; exact h10 m hm
  · rw [e1 5 _ (by omega) (Or.inr (Or.inr (Or.inl ⟨rfl, by omega⟩))), e2 _ (by omega)]; exact h11 m i hm hi
theorem WEQ_g {c N S : Nat} (hc : c ≤ 5) (hN : N ≤ 40) (hS : S = 1 + c * N) (e1 : ∀ e j, e < 2 → wD e j → G2 e j = G e j) (e2 : ∀ j, j < S → g2 j = g j) (h : WEQ c N G g) : WEQ c N G2 g2 := by
  obtain ⟨n, h1, h2, h3, h4, h5⟩ := h
  refine ⟨n, h1, (e1 0 0 (by omega) (Or.inl ⟨rfl, rfl⟩)).trans h2, (e2 0 (by omega)).trans h3, fun j i hj hi => ?_, fun c5 j hj => by subst c5; exact ROK_g (h5 rfl j hj) (fun i hi => e2 (1 + 5 * j + i) (by omega))⟩
  have l : c * (j + 1) ≤ c * N := Nat.mul_le_mul_left c (by omega)
  rw [Nat.mul_add, Nat.mul_one] at l
  rw [e1 1 (5 * j + i) (by omega) (Or.inr ⟨rfl, by omega⟩), e2 _ (by omega)]; exact h4 j i hj hi
theorem BEQ_g (e1 : ∀ e j, e < 2 → wD e j → G2 e j = G e j) (e2 : ∀ j, j < 6 → g2 j = g j) (h : BEQ G g) : BEQ G2 g2 := by
  intro m hm
  rw [e1 1 (5 * m) (by omega) (Or.inr ⟨rfl, by omega⟩), e2 m hm]; exact h m hm
theorem KEQ_g {k : Nat} (hk : k < 6) (e1 : ∀ e j, KDD k e j → G2 e j = G e j) (e2 : ∀ j, j < SZK k → g2 j = g j) (h : KEQ k G g) : KEQ k G2 g2 := by
  rcases (by omega : k = 0 ∨ k = 1 ∨ k = 2 ∨ k = 3 ∨ k = 4 ∨ k = 5) with rfl | rfl | rfl | rfl | rfl | rfl
  · exact REQ_g (fun e j a b => e1 e j ⟨a, b⟩) e2 h
  · exact WEQ_g (S := 41) (by omega) (by omega) (by omega) (fun e j a b => e1 e j ⟨a, b⟩) e2 h
  · exact WEQ_g (S := 201) (by omega) (by omega) (by omega) (fun e j a b => e1 e j ⟨a, b⟩) e2 h
  · exact WEQ_g (S := 17) (by omega) (by omega) (by omega) (fun e j a b => e1 e j ⟨a, b⟩) e2 h
  · exact WEQ_g (S := 33) (by omega) (by omega) (by omega) (fun e j a b => e1 e j ⟨a, b⟩) e2 h
  · exact BEQ_g (fun e j a b => e1 e j ⟨a, b⟩) e2 h
end CG
theorem KEQ_R {k : Nat} {u v : SG} (hk : k < 6) (h : RK k u v) : KEQ k (fun e j => u (CK k + e) j) (v 67) := by
  rcases (by omega : k = 0 ∨ k = 1 ∨ k = 2 ∨ k = 3 ∨ k = 4 ∨ k = 5) with rfl | rfl | rfl | rfl | rfl | rfl
  · obtain ⟨n, V, T, h1, ⟨h2, _, h3⟩, h4, h5, ⟨h6, h7⟩, h8, h10, h11, _⟩ := h
    exact ⟨n, V, ⟨h1.1, h1.2.1⟩, ⟨h2, h3⟩, h4, h5, ⟨fun m c hm hc => by
      have := h6 m c hm hc
      show u (44 + (1 + c)) m = _
      rw [show 44 + (1 + c) = 45 + c by omega]; exact this, h7⟩, h8, h10, h11⟩
  · obtain ⟨n, h1, h2, _, h3, h4⟩ := h; exact ⟨n, h1, h2, h3, h4⟩
  · obtain ⟨n, h1, h2, _, h3, h4⟩ := h; exact ⟨n, h1, h2, h3, h4⟩
  · obtain ⟨n, h1, h2, _, h3, h4⟩ := h; exact ⟨n, h1, h2, h3, h4⟩
  · obtain ⟨n, h1, h2, _, h3, h4⟩ := h; exact ⟨n, h1, h2, h3, h4⟩
  · exact h.2
/-- all that is told, the class's places G, the reference's g -/
def SIMf (G : Nat → Nat → Int32) (g : Nat → Int32) : Prop := (G 0 1 = g 6 ∧ G 0 2 = g 7 ∧ G 0 3 = g 8) ∧ (∀ j, j < 600 → G 1 j = g (10 + j) ∧ 0 ≤ g (10 + j)) ∧ (∀ k, k < 6 → G 2 k = g k) ∧ ∀ k i n, k < 6 → i < 2 → g k = nI n → n ≤ 2 → i < n → KEQ k (fun e j => G (CPK k i + e) j) (fun j => g (PLK k i + j))
def SIM1 (s : SG) (B o : Nat) : Prop := SIMf (fun c j => s (B + c) j) (fun j => s 65 (o + j))
theorem PLK_0 {j : Nat} : PLK 0 j = 610 + 118 * j := rfl
theorem SZK_0 : SZK 0 = 118 := rfl
theorem PLK_1 {j : Nat} : PLK 1 j = 846 + 41 * j := rfl
theorem SZK_1 : SZK 1 = 41 := rfl
theorem PLK_2 {j : Nat} : PLK 2 j = 928 + 201 * j := rfl
theorem SZK_2 : SZK 2 = 201 := rfl
theorem PLK_3 {j : Nat} : PLK 3 j = 1330 + 17 * j := rfl
theorem SZK_3 : SZK 3 = 17 := rfl
theorem PLK_4 {j : Nat} : PLK 4 j = 1364 + 33 * j := rfl
theorem SZK_4 : SZK 4 = 33 := rfl
theorem PLK_5 {j : Nat} : PLK 5 j = 1430 + 6 * j := rfl
theorem SZK_5 : SZK 5 = 6 := rfl
theorem PLK_in {k i : Nat} (hk : k < 6) (hi : i < 2) : 610 ≤ PLK k i ∧ PLK k i + SZK k ≤ 1442 := by
  rcases (by omega : k = 0 ∨ k = 1 ∨ k = 2 ∨ k = 3 ∨ k = 4 ∨ k = 5) with rfl | rfl | rfl | rfl | rfl | rfl <;> (simp only [PLK_0, SZK_0, PLK_1, SZK_1, PLK_2, SZK_2, PLK_3, SZK_3, PLK_4, SZK_4, PLK_5, SZK_5]; omega)
theorem PLK_dis : ∀ k, k < 6 → ∀ k2, k2 < 6 → ∀ i, i < 2 → ∀ i2, i2 < 2 → ¬ (k = k2 ∧ i = i2) → PLK k i + SZK k ≤ PLK k2 i2 ∨ PLK k2 i2 + SZK k2 ≤ PLK k i := by 
  intro k hk k2 hk2 i hi i2 hi2 h
  rcases (by omega : k = 0 ∨ k = 1 ∨ k = 2 ∨ k = 3 ∨ k = 4 ∨ k = 5) with rfl | rfl | rfl | rfl | rfl | rfl <;> rcases (by omega : k2 = 0 ∨ k2 = 1 ∨ k2 = 2 ∨ k2 = 3 ∨ k2 = 4 ∨ k2 = 5) with rfl | rfl | rfl | rfl | rfl | rfl <;> (simp only [PLK_0, SZK_0, PLK_1, SZK_1, PLK_2, SZK_2, PLK_3, SZK_3, PLK_4, SZK_4, PLK_5, SZK_5]; omega)
theorem CPK_tD {k i e j : Nat} (hk : k < 6) (hi : i < 2) (h : KDD k e j) : tD (CPK k i + e) j := by
  cases k with
  | zero => exact Or.inr (Or.inr (Or.inr (Or.inl ⟨i, e, hi, h.1, rfl, h.2⟩)))
  | succ k => exact Or.inr (Or.inr (Or.inr (Or.inr ⟨k * 2 + i, e, by omega, h.1, rfl, h.2⟩)))
theorem SIMf_g {G G2 : Nat → Nat → Int32} {g g2 : Nat → Int32} (e1 : ∀ c j, tD c j → G2 c j = G c j) (e2 : ∀ j, j < 1442 → g2 j = g j) (h : SIMf G g) : SIMf G2 g2 := by
  obtain ⟨⟨h1, h2, h3⟩, h4, h5, h6⟩ := h
  refine ⟨⟨?_, ?_, ?_⟩, fun j hj => ?_, fun k hk => ?_, fun k i n hk hi en hn hin => ?_⟩
  · rw [e1 0 1 (Or.inl ⟨rfl, by omega, by omega⟩), e2 6 (by omega)]; exact h1
  · rw [e1 0 2 (Or.inl ⟨rfl, by omega, by omega⟩), e2 7 (by omega)]; exact h2
  · rw [e1 0 3 (Or.inl ⟨rfl, by omega, by omega⟩), e2 8 (by omega)]; exact h3
  · rw [e1 1 j (Or.inr (Or.inl ⟨rfl, hj⟩)), e2 _ (by omega)]; exact h4 j hj
  · rw [e1 2 k (Or.inr (Or.inr (Or.inl ⟨rfl, hk⟩))), e2 _ (by omega)]; exact h5 k hk
  · rw [e2 k (by omega)] at en
    have pl := PLK_in hk hi
    exact KEQ_g hk (fun e j hd => e1 _ j (CPK_tD hk hi hd)) (fun j hj => e2 _ (by omega)) (h6 k i n hk hi en hn hin)
theorem SIM_loc : wLoc SIM1 := by
  intro s t B B2 o o2 hc hj h
  exact SIMf_g (G := fun c j => s (B + c) j) (g := fun j => s 65 (o + j)) hc hj h
/-! where the class keeps a text -/
theorem kep_k {i : Nat} (hi : i < 2) : kepO (nI i) = some (6 + 8 * i) := by
  rcases (by omega : i = 0 ∨ i = 1) with rfl | rfl <;> rfl
theorem rkp_k {k i : Nat} (hk : k < 5) (hi : i < 2) : rkpO ((nI (k + 1) - 1) * 2 + nI i) = some (22 + 2 * (k * 2 + i)) := by
  have e : (nI (k + 1) - 1) * 2 + nI i = nI (k * 2 + i) := by
    rw [show nI (k + 1) - 1 = nI k from nI_subn (a := k + 1) (b := 1) (by omega), show (2 : Int32) = nI 2 from rfl, nI_mulx, nI_add]
  rw [e]
  unfold rkpO
  rw [if_neg (nI_pos (by omega)), if_neg (show ¬ (10 : Int32) ≤ nI (k * 2 + i) from nI_ge (b := 10) (by omega) (by decide)), nI_clamp (by omega), if_pos (by omega)]
theorem kee1_a {s : SG} {k i e j : Nat} (hk : k < 6) (hi : i < 2) (h : KDD k e j) : kee1 s (nI k) (nI i) (1 + CPK k i + e) j = s (CK k + e) j := by
  unfold kee1
  cases k with
  | zero =>
    rw [if_pos (show nI 0 = 0 from rfl), kep_k hi]
    show cprS s (6 + 8 * i) 44 (1 + (5 + 8 * i) + e) j = s (44 + e) j
    rw [show 1 + (5 + 8 * i) + e = 6 + 8 * i + e by omega]
    exact cprS_e (by omega) h.2
  | succ k =>
    rw [if_neg (show ¬ nI (k + 1) = 0 from fun q => absurd (nI_inj (b := 0) (by omega) (by decide) q) (by omega)), rkp_k (by omega) hi]
    show cpwS s (22 + 2 * (k * 2 + i)) 52 (1 + (21 + 2 * (k * 2 + i)) + e) j = s (52 + e) j
    rw [show 1 + (21 + 2 * (k * 2 + i)) + e = 22 + 2 * (k * 2 + i) + e by omega]
    exact cpwS_e (by omega) h.2
theorem CPK_dis {k k2 i i2 e e2 : Nat} (hk : k < 6) (hk2 : k2 < 6) (hi : i < 2) (hi2 : i2 < 2) (n : ¬ (k = k2 ∧ i = i2)) (he : e < (if k = 0 then 8 else 2)) (he2 : e2 < (if k2 = 0 then 8 else 2)) : CPK k i + e ≠ CPK k2 i2 + e2 := by
  cases k with
  | zero =>
    rw [if_pos rfl] at he
    cases k2 with
    | zero => rw [if_pos rfl] at he2; unfold CPK; (try dsimp only); omega
    | succ k2 => rw [if_neg (by omega)] at he2; unfold CPK; (try dsimp only); omega
  | succ k =>
    rw [if_neg (by omega)] at he
    cases k2 with
    | zero => rw [if_pos rfl] at he2; unfold CPK; (try dsimp only); omega
    | succ k2 => rw [if_neg (by omega)] at he2; unfold CPK; (try dsimp only); omega
theorem kee1_b {s : SG} {k i c : Nat} (hk : k < 6) (hi : i < 2) (h : ∀ e, e < (if k = 0 then 8 else 2) → c ≠ 1 + CPK k i + e) : kee1 s (nI k) (nI i) c = s c := by
  unfold kee1
  cases k with
  | zero =>
    rw [if_pos (show nI 0 = 0 from rfl), kep_k hi]
    rw [if_pos rfl] at h
    show cprS s (6 + 8 * i) 44 c = s c
    refine cprS_n ?_
    by_cases g : c < 6 + 8 * i
    · exact Or.inl g
    · refine Or.inr (Decidable.byContradiction (fun g2 => ?_))
      refine h (c - (6 + 8 * i)) (by omega) ?_
      show c = 1 + (5 + 8 * i) + (c - (6 + 8 * i))
      omega
  | succ k =>
    rw [if_neg (show ¬ nI (k + 1) = 0 from fun q => absurd (nI_inj (b := 0) (by omega) (by decide) q) (by omega)), rkp_k (by omega) hi]
    rw [if_neg (by omega)] at h
    show cpwS s (22 + 2 * (k * 2 + i)) 52 c = s c
    refine cpwS_n ?_
    by_cases g : c < 22 + 2 * (k * 2 + i)
    · exact Or.inl g
    · refine Or.inr (Decidable.byContradiction (fun g2 => ?_))
      refine h (c - (22 + 2 * (k * 2 + i))) (by omega) ?_
      show c = 1 + (21 + 2 * (k * 2 + i)) + (c - (22 + 2 * (k * 2 + i)))
      omega
end XTU
