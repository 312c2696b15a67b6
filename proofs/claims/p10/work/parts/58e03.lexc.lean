section XTC
variable {sc : Nat × (Nat → Int32)} {d : Nat} {K : List KD} {r q t a B m : Nat} {w : EW}
/-! words, on both sides -/
/-- k bytes from j on -/
def tkl (f : Nat → Int32) : Nat → Nat → List Int32
  | 0, _ => []
  | n + 1, j => f j :: tkl f n (j + 1)
theorem tkl_len {f : Nat → Int32} : ∀ (n j : Nat), (tkl f n j).length = n := by
  intro n
  induction n with
  | zero => intro j; rfl
  | succ n ih => intro j; rw [tkl, List.length_cons, ih]
theorem tkl_c {f g : Nat → Int32} {i : Nat} : ∀ (n j : Nat), (∀ k, k < n → f (j + k) = g (i + j + k)) → tkl f n j = tkl g n (i + j) := by
  intro n
  induction n with
  | zero => intro j _; rfl
  | succ n ih =>
    intro j h
    have h0 := h 0 (by omega)
    rw [Nat.add_zero, Nat.add_zero] at h0
    rw [tkl, tkl, h0, ih (j + 1) (fun k hk => by rw [show j + 1 + k = j + (k + 1) by omega, h (k + 1) (by omega), show i + (j + 1) + k = i + j + (k + 1) by omega]), show i + (j + 1) = i + j + 1 by omega]
theorem tkl_i {f g : Nat → Int32} : ∀ (n j i : Nat), tkl f n j = tkl g n i → ∀ k, k < n → f (j + k) = g (i + k) := by
  intro n
  induction n with
  | zero => intro j i _ k hk; omega
  | succ n ih =>
    intro j i h k hk
    rw [tkl, tkl] at h
    obtain ⟨h1, h2⟩ := List.cons.inj h
    cases k with
    | zero => exact h1
    | succ k =>
      have := ih (j + 1) (i + 1) h2 k (by omega)
      rw [show j + (k + 1) = j + 1 + k by omega, show i + (k + 1) = i + 1 + k by omega]; exact this
theorem tkl_e {f g : Nat → Int32} : ∀ (n j i : Nat), (∀ k, k < n → f (j + k) = g (i + k)) → tkl f n j = tkl g n i := by
  intro n
  induction n with
  | zero => intro j i _; rfl
  | succ n ih =>
    intro j i h
    have h0 := h 0 (by omega)
    rw [Nat.add_zero, Nat.add_zero] at h0
    rw [tkl, tkl, h0, ih (j + 1) (i + 1) (fun k hk => by rw [show j + 1 + k = j + (k + 1) by omega, h (k + 1) (by omega), show i + 1 + k = i + (k + 1) by omega])]
theorem tkl_l : ∀ (l : List Int32), tkl (fun i => l.getD i 0) l.length 0 = l := by
  intro l
  induction l with
  | nil => rfl
  | cons b t ih =>
    have e : tkl (fun i => (b :: t).getD i 0) t.length 1 = tkl (fun i => t.getD i 0) t.length 0 := tkl_e _ _ _ (fun k hk => by show (b :: t).getD (1 + k) 0 = t.getD (0 + k) 0; rw [Nat.add_comm 1 k, Nat.zero_add]; rfl)
    rw [List.length_cons, tkl, e, ih]; rfl
/-! the class's words -/
def goW (s : SG) (z : Nat) : List (Nat × Nat) → Int32 → Int32
  | [], _ => -1
  | q :: t, y => if istI s z q.1 q.2 = 0 then goW s z t (y + 1) else y
def WBf (z : Nat) : Nat → Nat → Nat → List (Nat × Nat)
  | 0, _, _ => []
  | n + 1, j, a => if j = sl z then (a, j) :: WBf z n (j + 1) (j + 1) else if chZ z j = 32 then (a, j) :: WBf z n (j + 1) (j + 1) else WBf z n (j + 1) a
theorem choL_go {s : SG} {z : Nat} : ∀ (n j a : Nat) (y : Int32), choL s z n j a y = if s 43 7 = 1 then goW s z (WBf z n j a) y else -1 := by
  intro n
  induction n with
  | zero =>
    intro j a y
    rw [choL, WBf, goW]
    split <;> rfl
  | succ n ih =>
    intro j a y
    rw [choL, WBf]
    by_cases c : s 43 7 = 1
    · rw [if_pos c, if_pos c]
      split
      · rw [goW]
        split
        · rw [ih, if_pos c]
        · rfl
      · split
        · rw [goW]
          split
          · rw [ih, if_pos c]
          · rfl
        · rw [ih, if_pos c]
    · rw [if_neg c, if_neg c]
def ixW (l : List Int32) : List (List Int32) → Int32 → Int32
  | [], _ => -1
  | g :: t, y => if g = l then y else ixW l t (y + 1)
def Ws (z : Nat) : List (List Int32) := (WBf z (sl z + 1) 0 0).map (fun q => tkl (chZ z) (q.2 - q.1) q.1)
theorem istL_e {f : Nat → Int32} {s : SG} {z a a0 L : Nat} (h8 : s 43 8 = nI a0) (hL : L ≤ 600) (hb : ∀ j, j < L → tok s j = f j) : ∀ (n j : Nat), a ≤ j → a0 + (j - a) + n ≤ L → (istL s z a n j = 0 ↔ ¬ tkl (chZ z) n j = tkl f n (a0 + (j - a))) := by
  intro n
  induction n with
  | zero =>
    intro j _ _
    rw [istL]
    exact ⟨fun h => absurd h (by decide), fun h => absurd rfl h⟩
  | succ n ih =>
    intro j hj hl
    have e : cl 600 (s 54) (s 43 8 + nI j - nI a) = f (a0 + (j - a)) := by
      rw [h8, nI_add, nI_subn (by omega), show a0 + j - a = a0 + (j - a) by omega]
      exact hb _ (by omega)
    have i := ih (j + 1) (by omega) (by omega)
    rw [show a0 + (j + 1 - a) = a0 + (j - a) + 1 by omega] at i
    rw [istL, e, tkl, tkl]
    by_cases c : chZ z j = f (a0 + (j - a))
    · rw [if_pos c, i]
      exact ⟨fun h k => h (List.cons.inj k).2, fun h k => h (by rw [c, k])⟩
    · rw [if_neg c]
      exact ⟨fun _ k => c (List.cons.inj k).1, fun _ => rfl⟩
theorem istI_e {f : Nat → Int32} {s : SG} {z a b a0 e0 L : Nat} (h8 : s 43 8 = nI a0) (h9 : s 43 9 = nI e0) (hL : L ≤ 600) (hb : ∀ j, j < L → tok s j = f j) (ha : a ≤ b) (hbz : b ≤ 60) (ha0 : a0 ≤ e0) (he : e0 ≤ L) : (istI s z a b = 0 ↔ ¬ tkl (chZ z) (b - a) a = tkl f (e0 - a0) a0) := by
  unfold istI
  rw [h8, h9, nI_subn ha, nI_subn ha0]
  by_cases c : b - a = e0 - a0
  · rw [if_pos (by rw [c]), istL_e h8 hL hb (b - a) a (Nat.le_refl a) (by omega), Nat.sub_self, Nat.add_zero, c]
  · rw [if_neg (fun h => c (nI_inj (by omega) (by omega) h))]
    refine ⟨fun _ h => c ?_, fun _ => rfl⟩
    have := congrArg List.length h
    rw [tkl_len, tkl_len] at this; exact this
theorem WBf_in {z : Nat} : ∀ (n j a : Nat), a ≤ j → j + n ≤ 61 → ∀ q ∈ WBf z n j a, q.1 ≤ q.2 ∧ q.2 ≤ 60 := by
  intro n
  induction n with
  | zero => intro j a _ _ q hq; rw [WBf] at hq; cases hq
  | succ n ih =>
    intro j a ha hj q hq
    rw [WBf] at hq
    split at hq
    · rcases List.mem_cons.mp hq with rfl | hq
      · exact ⟨ha, by show j ≤ 60; omega⟩
      · exact ih _ _ (Nat.le_refl _) (by omega) q hq
    · split at hq
      · rcases List.mem_cons.mp hq with rfl | hq
        · exact ⟨ha, by show j ≤ 60; omega⟩
        · exact ih _ _ (Nat.le_refl _) (by omega) q hq
      · exact ih _ _ (by omega) (by omega) q hq
/-- the word that the class finds -/
theorem choI_e {f : Nat → Int32} {s : SG} {z a0 e0 L : Nat} (hz : z < 18) (h7 : s 43 7 = 1) (h8 : s 43 8 = nI a0) (h9 : s 43 9 = nI e0) (hL : L ≤ 600) (hb : ∀ j, j < L → tok s j = f j) (ha0 : a0 ≤ e0) (he : e0 ≤ L) : choI s z = ixW (tkl f (e0 - a0) a0) (Ws z) 0 := by
  unfold choI Ws
  rw [choL_go, if_pos h7]
  have hs := sl_le z hz
  have hi := WBf_in (z := z) (sl z + 1) 0 0 (Nat.le_refl 0) (by omega)
  generalize WBf z (sl z + 1) 0 0 = l at hi
  generalize (0 : Int32) = y
  induction l generalizing y with
  | nil => rfl
  | cons q t ih =>
    have h1 := hi q List.mem_cons_self
    have i := istI_e (z := z) h8 h9 hL hb h1.1 h1.2 ha0 he
    rw [goW, List.map_cons, ixW, ih (fun p hp => hi p (List.mem_cons_of_mem _ hp))]
    by_cases c : tkl (chZ z) (q.2 - q.1) q.1 = tkl f (e0 - a0) a0
    · rw [if_pos c, if_neg (fun h => (i.1 h) c)]
    · rw [if_neg c, if_pos (i.2 c)]
theorem choI_n {s : SG} {z : Nat} (h7 : ¬ s 43 7 = 1) : choI s z = -1 := by
  unfold choI
  rw [choL_go, if_neg h7]
theorem ixW_n {l : List Int32} : ∀ (ws : List (List Int32)) (y : Int32), (∀ g ∈ ws, g ≠ l) → ixW l ws y = -1 := by
  intro ws
  induction ws with
  | nil => intro y _; rfl
  | cons g t ih =>
    intro y h
    rw [ixW, if_neg (h g List.mem_cons_self)]
    exact ih _ (fun p hp => h p (List.mem_cons_of_mem _ hp))
/-! the reference's words -/
def WL : List (List Int32) := [[109, 105, 110, 105, 115, 116, 101, 114], [119, 97, 110, 116], [118, 101, 116, 111], [102, 101, 117, 100], [111, 102, 102, 105, 99, 101], [113, 117, 111, 116, 97], [115, 112, 105, 116, 101], [99, 108, 111, 117, 100], [103, 114, 111, 117, 110, 100], [104, 101, 97, 116], [114, 97, 105, 110], [119, 105, 110, 100], [115, 117, 110], [115, 112, 114, 105, 110, 103], [115, 117, 109, 109, 101, 114], [97, 117, 116, 117, 109, 110], [119, 105, 110, 116, 101, 114], [110, 111], [97, 98, 111, 118, 101], [98, 101, 108, 111, 119], [105, 110], [115, 117, 109], [97, 102, 116, 101, 114], [109, 111, 118, 101], [115, 101, 97, 115, 111, 110], [100, 105, 115, 109, 105, 115, 115], [114, 101, 99, 97, 108, 108], [112, 97, 115, 115], [115, 97, 105, 100], [121, 101, 115], [119, 97, 115], [115, 104, 97, 114, 101]]
theorem letter_nI {x : Int32} (h : ¬ isl_I x = 0) : ∃ v, x = nI (96 + v) ∧ 1 ≤ v ∧ v ≤ 26 := by
  unfold isl_I at h
  by_cases c1 : x < 97
  · rw [if_pos c1] at h; exact absurd rfl h
  · by_cases c2 : 122 < x
    · rw [if_neg c1, if_pos c2] at h; exact absurd rfl h
    · have q1 := Int32.not_lt.mp c1
      have q2 := Int32.not_lt.mp c2
      rw [Int32.le_iff_toInt_le] at q1 q2
      have e1 : (97 : Int32).toInt = 97 := by decide
      have e2 : (122 : Int32).toInt = 122 := by decide
      rw [e1] at q1; rw [e2] at q2
      have hx : ¬ x < 0 := by
        rw [Int32.not_lt, Int32.le_iff_toInt_le]
        have : (0 : Int32).toInt = 0 := by decide
        omega
      have e := Int32.cast_toNatClampNeg x (Int32.not_lt.mp hx)
      refine ⟨x.toNatClampNeg - 96, ?_, by omega, by omega⟩
      rw [show 96 + (x.toNatClampNeg - 96) = x.toNatClampNeg by omega]
      exact (Int32.ofNat_toNatClampNeg x (Int32.not_lt.mp hx)).symm
def vN (f : Nat → Int32) (a : Nat) : Nat → Nat
  | 0 => 0
  | n + 1 => 32 * vN f a n + ((f (a + n)).toNatClampNeg - 96)
theorem vN_lt {f : Nat → Int32} {a : Nat} : ∀ n, (∀ i, i < n → ¬ isl_I (f (a + i)) = 0) → vN f a n < 32 ^ n := by
  intro n
  induction n with
  | zero => intro _; rw [vN]; decide
  | succ n ih =>
    intro h
    have i := ih (fun i hi => h i (by omega))
    obtain ⟨v, ev, h1, h2⟩ := letter_nI (h n (by omega))
    rw [vN, ev, nI_clamp (by omega), Nat.pow_succ]
    omega
theorem vN_inj {f g : Nat → Int32} {a b : Nat} : ∀ n m, (∀ i, i < n → ¬ isl_I (f (a + i)) = 0) → (∀ i, i < m → ¬ isl_I (g (b + i)) = 0) → vN f a n = vN g b m → n = m ∧ ∀ i, i < n → f (a + i) = g (b + i) := by
  intro n
  induction n with
  | zero =>
    intro m _ hg e
    cases m with
    | zero => exact ⟨rfl, fun i hi => by omega⟩
    | succ m =>
      obtain ⟨v, ev, h1, h2⟩ := letter_nI (hg m (by omega))
      rw [vN, vN, ev, nI_clamp (by omega)] at e
      omega
  | succ n ih =>
    intro m hf hg e
    obtain ⟨v, ev, h1, h2⟩ := letter_nI (hf n (by omega))
    cases m with
    | zero =>
      rw [vN, vN, ev, nI_clamp (by omega)] at e
      omega
    | succ m =>
      obtain ⟨v2, ev2, h3, h4⟩ := letter_nI (hg m (by omega))
      rw [vN, vN, ev, nI_clamp (by omega), ev2, nI_clamp (by omega)] at e
      obtain ⟨i1, i2⟩ := ih m (fun i hi => hf i (by omega)) (fun i hi => hg i (by omega)) (by omega)
      subst i1
      refine ⟨rfl, fun i hi => ?_⟩
      by_cases q : i = n
      · subst q; rw [ev, ev2, show v = v2 by omega]
      · exact i2 i (by omega)
theorem toInt64_nI {x : Nat} (h : x < 1000) : Int32.toInt64 (nI x) = Int64.ofNat x := by
  apply Int64.toInt_inj.mp
  rw [Int32.toInt_toInt64, nI_toInt (by omega), Int64.toInt_ofNat_of_lt (by omega)]
theorem enF_v {f : Nat → Int32} {a : Nat} : ∀ n, (∀ i, i < n → ¬ isl_I (f (a + i)) = 0) → enF f n a 0 = Int64.ofNat (vN f a n) := by
  intro n
  induction n with
  | zero => intro _; rfl
  | succ n ih =>
    intro h
    obtain ⟨v, ev, h1, h2⟩ := letter_nI (h n (by omega))
    rw [enF_s, ih (fun i hi => h i (by omega)), vN, ev, nI_clamp (by omega), toInt64_nI (by omega), show 96 + v - 96 = v by omega, Int64.ofNat_add, Int64.ofNat_add, Int64.ofNat_mul, show (32 : Int64) = Int64.ofNat 32 from rfl, show (96 : Int64) = Int64.ofNat 96 from rfl, Int64.add_comm (Int64.ofNat 96) (Int64.ofNat v), ← Int64.add_assoc, Int64.add_sub_cancel]
theorem lg0 (x y : Int64) : lg_cmp x y = 0 ↔ x = y := by
  unfold lg_cmp
  constructor
  · intro h
    by_cases c1 : x > y
    · rw [if_pos c1] at h; exact absurd h (by decide)
    · by_cases c2 : x = y
      · exact c2
      · rw [if_neg c1, if_neg c2] at h; exact absurd h (by decide)
  · intro h
    subst h
    by_cases c1 : x > x
    · exact absurd c1 (Int64.lt_irrefl)
    · rw [if_neg c1, if_pos rfl]
theorem vN_63 {f : Nat → Int32} {a k : Nat} (hk : k ≤ 8) (hf : ∀ i, i < k → ¬ isl_I (f (a + i)) = 0) : vN f a k < 2 ^ 63 :=
  Nat.lt_of_lt_of_le (vN_lt k hf) (Nat.le_trans (Nat.pow_le_pow_right (by decide) hk) (by decide))
theorem vN_e {f g : Nat → Int32} {a b : Nat} : ∀ n, (∀ i, i < n → f (a + i) = g (b + i)) → vN f a n = vN g b n := by
  intro n
  induction n with
  | zero => intro _; rfl
  | succ n ih => intro h; rw [vN, vN, ih (fun i hi => h i (by omega)), h n (by omega)]
theorem ofNat63 {x y : Nat} (hx : x < 2 ^ 63) (hy : y < 2 ^ 63) (e : Int64.ofNat x = Int64.ofNat y) : x = y := by
  have e2 := congrArg Int64.toInt e
  rw [Int64.toInt_ofNat_of_lt hx, Int64.toInt_ofNat_of_lt hy] at e2
  exact Int.ofNat.inj e2
theorem wq {f : Nat → Int32} {a k : Nat} {C : Int64} (l : List Int32) (hk : k ≤ 8) (hf : ∀ i, i < k → ¬ isl_I (f (a + i)) = 0) (hl : ∀ i, i < l.length → ¬ isl_I (l.getD i 0) = 0) (h8 : l.length ≤ 8) (hC : C = enF (fun i => l.getD i 0) l.length 0 0) : (lg_cmp (enF f k a 0) C = 0) = (tkl f k a = l) := by
  generalize hg : (fun i => l.getD i 0) = g at hC
  have hl2 : ∀ i, i < l.length → ¬ isl_I (g (0 + i)) = 0 := fun i hi => by rw [Nat.zero_add, ← hg]; exact hl i hi
  have b1 := vN_63 hk hf
  have b2 := vN_63 h8 hl2
  have tl : tkl g l.length 0 = l := by rw [← hg]; exact tkl_l l
  rw [hC, enF_v k hf, enF_v l.length hl2]
  refine propext ((lg0 _ _).trans ⟨fun e => ?_, fun e => ?_⟩)
  · obtain ⟨i1, i2⟩ := vN_inj (f := f) (g := g) (a := a) (b := 0) k l.length hf hl2 (ofNat63 b1 b2 e)
    refine Eq.trans ?_ tl
    rw [← i1]
    exact tkl_e _ _ _ i2
  · have hlen : k = l.length := by
      have := congrArg List.length e
      rw [tkl_len] at this; exact this
    have e3 : tkl f k a = tkl g k 0 := by rw [e, hlen]; exact tl.symm
    rw [vN_e k (tkl_i _ _ _ e3), hlen]
def codT (l : List Int32) : Int32 := if l = [109, 105, 110, 105, 115, 116, 101, 114] then 1 else if l = [119, 97, 110, 116] then 2 else if l = [118, 101, 116, 111] then 3 else if l = [102, 101, 117, 100] then 4 else if l = [111, 102, 102, 105, 99, 101] then 5 else if l = [113, 117, 111, 116, 97] then 6 else if l = [115, 112, 105, 116, 101] then 7 else if l = [99, 108, 111, 117, 100] then 8 else if l = [103, 114, 111, 117, 110, 100] then 9 else if l = [104, 101, 97, 116] then 10 else if l = [114, 97, 105, 110] then 11 else if l = [119, 105, 110, 100] then 12 else if l = [115, 117, 110] then 13 else if l = [115, 112, 114, 105, 110, 103] then 14 else if l = [115, 117, 109, 109, 101, 114] then 15 else if l = [97, 117, 116, 117, 109, 110] then 16 else if l = [119, 105, 110, 116, 101, 114] then 17 else if l = [110, 111] then 18 else if l = [97, 98, 111, 118, 101] then 19 else if l = [98, 101, 108, 111, 119] then 20 else if l = [105, 110] then 21 else if l = [115, 117, 109] then 22 else if l = [97, 102, 116, 101, 114] then 23 else if l = [109, 111, 118, 101] then 24 else if l = [115, 101, 97, 115, 111, 110] then 25 else if l = [100, 105, 115, 109, 105, 115, 115] then 26 else if l = [114, 101, 99, 97, 108, 108] then 27 else if l = [112, 97, 115, 115] then 28 else if l = [115, 97, 105, 100] then 29 else if l = [121, 101, 115] then 30 else if l = [119, 97, 115] then 31 else if l = [115, 104, 97, 114, 101] then 32 else 99
theorem wordOf_e {f : Nat → Int32} {a k : Nat} (hk : k ≤ 8) (hf : ∀ i, i < k → ¬ isl_I (f (a + i)) = 0) : RwordOf (enF f k a 0) = codT (tkl f k a) := by
  have w1 := wq (C := Reight (13) (9) (14) (9) (19) (20) (5) (18)) [109, 105, 110, 105, 115, 116, 101, 114] hk hf (by decide) (by decide) (by decide +kernel)
  have w2 := wq (C := Rfour (23) (1) (14) (20)) [119, 97, 110, 116] hk hf (by decide) (by decide) (by decide +kernel)
  have w3 := wq (C := Rfour (22) (5) (20) (15)) [118, 101, 116, 111] hk hf (by decide) (by decide) (by decide +kernel)
  have w4 := wq (C := Rfour (6) (5) (21) (4)) [102, 101, 117, 100] hk hf (by decide) (by decide) (by decide +kernel)
  have w5 := wq (C := Reight (0) (0) (15) (6) (6) (9) (3) (5)) [111, 102, 102, 105, 99, 101] hk hf (by decide) (by decide) (by decide +kernel)
  have w6 := wq (C := Reight (0) (0) (0) (17) (21) (15) (20) (1)) [113, 117, 111, 116, 97] hk hf (by decide) (by decide) (by decide +kernel)
  have w7 := wq (C := Reight (0) (0) (0) (19) (16) (9) (20) (5)) [115, 112, 105, 116, 101] hk hf (by decide) (by decide) (by decide +kernel)
  have w8 := wq (C := Reight (0) (0) (0) (3) (12) (15) (21) (4)) [99, 108, 111, 117, 100] hk hf (by decide) (by decide) (by decide +kernel)
  have w9 := wq (C := Reight (0) (0) (7) (18) (15) (21) (14) (4)) [103, 114, 111, 117, 110, 100] hk hf (by decide) (by decide) (by decide +kernel)
  have w10 := wq (C := Rfour (8) (5) (1) (20)) [104, 101, 97, 116] hk hf (by decide) (by decide) (by decide +kernel)
  have w11 := wq (C := Rfour (18) (1) (9) (14)) [114, 97, 105, 110] hk hf (by decide) (by decide) (by decide +kernel)
  have w12 := wq (C := Rfour (23) (9) (14) (4)) [119, 105, 110, 100] hk hf (by decide) (by decide) (by decide +kernel)
  have w13 := wq (C := Rfour (0) (19) (21) (14)) [115, 117, 110] hk hf (by decide) (by decide) (by decide +kernel)
  have w14 := wq (C := Reight (0) (0) (19) (16) (18) (9) (14) (7)) [115, 112, 114, 105, 110, 103] hk hf (by decide) (by decide) (by decide +kernel)
  have w15 := wq (C := Reight (0) (0) (19) (21) (13) (13) (5) (18)) [115, 117, 109, 109, 101, 114] hk hf (by decide) (by decide) (by decide +kernel)
  have w16 := wq (C := Reight (0) (0) (1) (21) (20) (21) (13) (14)) [97, 117, 116, 117, 109, 110] hk hf (by decide) (by decide) (by decide +kernel)
  have w17 := wq (C := Reight (0) (0) (23) (9) (14) (20) (5) (18)) [119, 105, 110, 116, 101, 114] hk hf (by decide) (by decide) (by decide +kernel)
  have w18 := wq (C := Rfour (0) (0) (14) (15)) [110, 111] hk hf (by decide) (by decide) (by decide +kernel)
  have w19 := wq (C := Reight (0) (0) (0) (1) (2) (15) (22) (5)) [97, 98, 111, 118, 101] hk hf (by decide) (by decide) (by decide +kernel)
  have w20 := wq (C := Reight (0) (0) (0) (2) (5) (12) (15) (23)) [98, 101, 108, 111, 119] hk hf (by decide) (by decide) (by decide +kernel)
  have w21 := wq (C := Rfour (0) (0) (9) (14)) [105, 110] hk hf (by decide) (by decide) (by decide +kernel)
  have w22 := wq (C := Rfour (0) (19) (21) (13)) [115, 117, 109] hk hf (by decide) (by decide) (by decide +kernel)
  have w23 := wq (C := Reight (0) (0) (0) (1) (6) (20) (5) (18)) [97, 102, 116, 101, 114] hk hf (by decide) (by decide) (by decide +kernel)
  have w24 := wq (C := Rfour (13) (15) (22) (5)) [109, 111, 118, 101] hk hf (by decide) (by decide) (by decide +kernel)
  have w25 := wq (C := Reight (0) (0) (19) (5) (1) (19) (15) (14)) [115, 101, 97, 115, 111, 110] hk hf (by decide) (by decide) (by decide +kernel)
  have w26 := wq (C := Reight (0) (4) (9) (19) (13) (9) (19) (19)) [100, 105, 115, 109, 105, 115, 115] hk hf (by decide) (by decide) (by decide +kernel)
  have w27 := wq (C := Reight (0) (0) (18) (5) (3) (1) (12) (12)) [114, 101, 99, 97, 108, 108] hk hf (by decide) (by decide) (by decide +kernel)
  have w28 := wq (C := Rfour (16) (1) (19) (19)) [112, 97, 115, 115] hk hf (by decide) (by decide) (by decide +kernel)
  have w29 := wq (C := Rfour (19) (1) (9) (4)) [115, 97, 105, 100] hk hf (by decide) (by decide) (by decide +kernel)
  have w30 := wq (C := Rfour (0) (25) (5) (19)) [121, 101, 115] hk hf (by decide) (by decide) (by decide +kernel)
  have w31 := wq (C := Rfour (0) (23) (1) (19)) [119, 97, 115] hk hf (by decide) (by decide) (by decide +kernel)
  have w32 := wq (C := Reight (0) (0) (0) (19) (8) (1) (18) (5)) [115, 104, 97, 114, 101] hk hf (by decide) (by decide) (by decide +kernel)
  unfold RwordOf RkindOrSeason RotherWord codT
  simp only [w1, w2, w3, w4, w5, w6, w7, w8, w9, w10, w11, w12, w13, w14, w15, w16, w17, w18, w19, w20, w21, w22, w23, w24, w25, w26, w27, w28, w29, w30, w31, w32]
theorem WL_8 : ∀ l ∈ WL, l.length ≤ 8 := by decide
theorem codT_n {l : List Int32} (h : l ∉ WL) : codT l = 99 := by
  have n : ∀ g ∈ WL, ¬ l = g := fun g hg e => h (e ▸ hg)
  unfold codT
  rw [if_neg (n [109, 105, 110, 105, 115, 116, 101, 114] (by decide))]
  rw [if_neg (n [119, 97, 110, 116] (by decide))]
  rw [if_neg (n [118, 101, 116, 111] (by decide))]
  rw [if_neg (n [102, 101, 117, 100] (by decide))]
  rw [if_neg (n [111, 102, 102, 105, 99, 101] (by decide))]
  rw [if_neg (n [113, 117, 111, 116, 97] (by decide))]
  rw [if_neg (n [115, 112, 105, 116, 101] (by decide))]
  rw [if_neg (n [99, 108, 111, 117, 100] (by decide))]
  rw [if_neg (n [103, 114, 111, 117, 110, 100] (by decide))]
  rw [if_neg (n [104, 101, 97, 116] (by decide))]
  rw [if_neg (n [114, 97, 105, 110] (by decide))]
  rw [if_neg (n [119, 105, 110, 100] (by decide))]
  rw [if_neg (n [115, 117, 110] (by decide))]
  rw [if_neg (n [115, 112, 114, 105, 110, 103] (by decide))]
  rw [if_neg (n [115, 117, 109, 109, 101, 114] (by decide))]
  rw [if_neg (n [97, 117, 116, 117, 109, 110] (by decide))]
  rw [if_neg (n [119, 105, 110, 116, 101, 114] (by decide))]
  rw [if_neg (n [110, 111] (by decide))]
  rw [if_neg (n [97, 98, 111, 118, 101] (by decide))]
  rw [if_neg (n [98, 101, 108, 111, 119] (by decide))]
  rw [if_neg (n [105, 110] (by decide))]
  rw [if_neg (n [115, 117, 109] (by decide))]
  rw [if_neg (n [97, 102, 116, 101, 114] (by decide))]
  rw [if_neg (n [109, 111, 118, 101] (by decide))]
  rw [if_neg (n [115, 101, 97, 115, 111, 110] (by decide))]
  rw [if_neg (n [100, 105, 115, 109, 105, 115, 115] (by decide))]
  rw [if_neg (n [114, 101, 99, 97, 108, 108] (by decide))]
  rw [if_neg (n [112, 97, 115, 115] (by decide))]
  rw [if_neg (n [115, 97, 105, 100] (by decide))]
  rw [if_neg (n [121, 101, 115] (by decide))]
  rw [if_neg (n [119, 97, 115] (by decide))]
  rw [if_neg (n [115, 104, 97, 114, 101] (by decide))]
theorem codT_c : ∀ c, c < 32 → codT (WL.getD c []) = nI (c + 1) := by decide +kernel
def ZS : List Nat := [0, 1, 2, 3, 4, 5, 13, 14, 15, 16, 17]
theorem Ws_in : ∀ z ∈ ZS, ∀ g ∈ Ws z, g ∈ WL := by decide +kernel
/-- which place among its words the class gives the reference's word c + 1 -/
def tb (z c : Nat) : Int32 := ixW (WL.getD c []) (Ws z) 0
end XTC
