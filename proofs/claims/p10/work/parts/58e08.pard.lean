section XTH
variable {sc : Nat × (Nat → Int32)} {d : Nat} {K : List KD} {r q t a B m : Nat} {w : EW}
/-! a line, step by step: what holds if the reference answers -/
def pc {α : Type} (o : Option α) (P : α → Prop) : Prop := ∀ a, o = some a → P a
theorem pc_ok {α : Type} {o : Option α} {P : α → Prop} (h : ok o P) : pc o P := by
  obtain ⟨a, ha, hp⟩ := h
  intro b hb
  rw [ha] at hb; cases hb; exact hp
theorem pc_b {α β : Type} {o : Option α} {f : α → Option β} {Q : α → Prop} {P : β → Prop} (h : pc o Q) (k : ∀ a, Q a → pc (f a) P) : pc (o.bind f) P := by
  intro b hb
  cases o with
  | none => cases hb
  | some a => exact k a (h a rfl) b hb
theorem pc_s {α : Type} {a : α} {P : α → Prop} (h : P a) : pc (some a) P := by
  intro b hb
  cases hb; exact h
theorem pc_i {α : Type} {c : Prop} [Decidable c] {a b : Option α} {P : α → Prop} (h1 : c → pc a P) (h2 : ¬ c → pc b P) : pc (if c then a else b) P := by
  by_cases e : c
  · rw [if_pos e]; exact h1 e
  · rw [if_neg e]; exact h2 e
theorem pc_w {α : Type} {o : Option α} {Q P : α → Prop} (h : pc o Q) (k : ∀ a, Q a → P a) : pc o P := fun a ha => k a (h a ha)
theorem pc_rd {s : SG} {k n : Nat} {x : Int32} {β : Type} {f : Int32 → Option β} {P : β → Prop} (h : ∀ y, pc (f y) P) : pc ((rdI s k n x).bind f) P :=
  pc_b (Q := fun _ => True) (fun _ _ => trivial) (fun y _ => h y)
theorem pc_rdv {s : SG} {k n e : Nat} {x : Int32} {β : Type} {f : Int32 → Option β} {P : β → Prop} (hx : x = nI e) (he : e < n) (hn : n < 2 ^ 31) (h : pc (f (s k e)) P) : pc ((rdI s k n x).bind f) P := by
  rw [rd_nI hx he hn]; exact h
theorem pc_wrv {s : SG} {k n e : Nat} {x v : Int32} {β : Type} {f : SG → Option β} {P : β → Prop} (hx : x = nI e) (he : e < n) (hn : n < 2 ^ 31) (h : pc (f (up s k e v)) P) : pc ((wrI s k n x v).bind f) P := by
  rw [wr_nI hx he hn]; exact h
theorem pc_wr {s : SG} {k n : Nat} {x v : Int32} {β : Type} {f : SG → Option β} {P : β → Prop} (h : ∀ j, pc (f (up s k j v)) P) : pc ((wrI s k n x v).bind f) P := by
  refine pc_b (Q := fun s2 => ∃ j, s2 = up s k j v) (fun s2 hs => ?_) (fun s2 hs => ?_)
  · unfold wrI at hs
    cases hx : xvb x n with
    | false => rw [hx] at hs; cases hs
    | true => rw [hx] at hs; cases hs; exact ⟨_, rfl⟩
  · obtain ⟨j, rfl⟩ := hs; exact h j
/-- the reference has met a fault of grammar where the class's u stands, and does nothing more -/
def WE (u w : SG) : Prop := ¬ w 64 8 = 0 ∧ w 65 7 = 1 ∧ w 65 8 = u 43 8
theorem WE_of {u v w : SG} (h : WR u v w) : WE u w := ⟨by rw [h.1]; decide, h.2.1, h.2.2.1⟩
theorem we_67 {u v : SG} {j : Nat} {x : Int32} (h : WE u v) : WE u (up v 67 j x) := ⟨by rw [up_n (by decide)]; exact h.1, by rw [up_n (by decide)]; exact h.2.1, by rw [up_n (by decide)]; exact h.2.2⟩
theorem we_649 {u v : SG} {x : Int32} (h : WE u v) : WE u (up v 64 9 x) := ⟨by rw [up_bn (by decide)]; exact h.1, by rw [up_n (by decide)]; exact h.2.1, by rw [up_n (by decide)]; exact h.2.2⟩
section WX
variable {u v : SG} {β : Type} {P : β → Prop}
theorem we_num {x y : Int32} {k : Int32 × SG → Option β} (h : WE u v) (g : ∀ z, pc (k (z, v)) P) : pc ((Rnumbered v x y).bind k) P := by
  rw [wr_num h.1]; exact g x
theorem we_tak {x y : Int32} {k : Int32 × SG → Option β} (h : WE u v) (g : ∀ z, pc (k (z, v)) P) : pc ((Rtakes v x y).bind k) P := by
  rw [wr_tak h.1]; exact g 0
theorem we_kin {k : Int32 × SG → Option β} (h : WE u v) (g : ∀ z, pc (k (z, v)) P) : pc ((RkindTold v).bind k) P := by
  unfold RkindTold
  rw [wr_tak h.1]; exact g _
theorem we_sea {k : Int32 × SG → Option β} (h : WE u v) (g : ∀ z, pc (k (z, v)) P) : pc ((RseasonTold v).bind k) P := by
  unfold RseasonTold
  rw [wr_tak h.1]; exact g _
theorem we_sem {k : SG → Option β} (h : WE u v) (g : pc (k v) P) : pc ((RendsLine v).bind k) P := by
  rw [wr_sem h.1]; exact g
theorem we_als {x y : Int32} {k : SG → Option β} (h : WE u v) (g : pc (k v) P) : pc ((Ralso v x y).bind k) P := by
  rw [wr_also h.1]; exact g
theorem we_min {k : Int32 × SG → Option β} (h : WE u v) (g : ∀ z w, WE u w → pc (k (z, w)) P) : pc ((RministerTold v).bind k) P := by
  unfold RministerTold
  rw [wr_num h.1]
  show pc ((if (0 : Int32) ≤ v 64 9 then RministerTold_24 v 0 (v 64 9) else RministerTold_24 v 0 0).bind k) P
  unfold RministerTold_24
  split
  · exact g _ _ (we_649 h)
  · exact g _ _ (we_649 h)
theorem we_add {x1 x2 x3 x4 x5 x6 : Int32} {k : SG → Option β} (h : WE u v) (g : ∀ w, WE u w → pc (k w) P) : pc ((Radds v x1 x2 x3 x4 x5 x6).bind k) P := by
  refine pc_b (Q := fun w => WE u w) ?_ (fun w hw => g w hw)
  unfold Radds
  refine pc_rd (fun y => pc_i (fun _ => pc_rd (fun y2 => ?_)) (fun _ => pc_s h))
  exact pc_wr (fun j1 => pc_wr (fun j2 => pc_wr (fun j3 => pc_wr (fun j4 => pc_wr (fun j5 => pc_rd (fun y3 => pc_wr (fun j6 => pc_s (we_67 (we_67 (we_67 (we_67 (we_67 (we_67 h))))))))))))) 
theorem we_wri {x y : Int32} {n : Nat} {k : SG → Option β} (h : WE u v) (g : ∀ w, WE u w → pc (k w) P) : pc ((wrI v 67 n x y).bind k) P :=
  pc_wr (fun _ => g _ (we_67 h))
end WX
/-- the end of a line: it goes on, with Q, or there is a fault of grammar -/
def LE (Q : SG → SG → Prop) (rp : Int32 × SG) (w : SG) : Prop := (rp.1 = 1 ∧ Q rp.2 w) ∨ (rp.1 = 0 ∧ ¬ w 64 8 = 0 ∧ w 65 7 = 1 ∧ rp.2 43 2 = 1 ∧ rp.2 43 3 = w 65 8)
theorem LE_w {Q : SG → SG → Prop} {u w : SG} (h : WE u w) : LE Q (refP u) w := by
  have e2 : (refP u).2 43 2 = 1 := by
    show notS u 1 (u 43 8) 43 2 = 1
    unfold notS
    split
    · rw [up_bn (by decide), up_a]
    · rw [if_pos rfl, up_bn (by decide), up_a]
  have e3 : (refP u).2 43 3 = u 43 8 := by
    show notS u 1 (u 43 8) 43 3 = u 43 8
    unfold notS
    split
    · rw [up_a]
    · rw [if_pos rfl, up_a]
  exact Or.inr ⟨rfl, h.1, h.2.1, e2, by rw [e3, h.2.2]⟩
section LX
variable {f : Nat → Int32} {L a e part : Nat} {u v : SG} {so line : Int32} {l : List Int32} {Q : SG → SG → Prop}
/-- a number, then the rest -/
theorem LX_num {lo hi : Nat} {g : Int32} {k : Int32 × SG → Option SG} (h : SM f L a e u v) (hp : part < 5) (hlo : leaO g = nI lo) (hhi : mosO g = nI hi) (n102 : ¬ g = 102) (hh : hi ≤ 99) (hl : lo ≤ hi) (n59 : ¬ g = 59) (n105 : ¬ g = 105) (he : ¬ isEI (choZ g) = 0)
    (g1 : ∀ (u2 : SG) (p : Int32 × SG) (a2 e2 : Nat) (x : Int32), a < a2 → SM f L a2 e2 u2 p.2 → FRc u u2 → u2 55 = upd (u 55) part x → FRr v p.2 → (p.2 65 7 = 0 → v 65 7 = 0 ∧ x = p.1) → NB p.1 hi → pc (k p) (fun w => LE Q (rlC so line l u2 (part + 1)) w))
    (g2 : ∀ z w, WE u w → pc (k (z, w)) (fun w => WE u w)) : pc ((Rnumbered v (nI lo) (nI hi)).bind k) (fun w => LE Q (rlC so line (g :: l) u part) w) := by
  refine pc_b (pc_ok (rea_s h hp hlo hhi n102 hh hl)) (fun p hno => ?_)
  rw [rlC, rpa_n n59 n105 he]
  rcases hno with ⟨r1, a2, e2, x, ha, sm, frc, f55, frr, hx, nb⟩ | ⟨r1, r2, wr⟩
  · rw [if_neg (by rw [r1]; decide)]
    exact g1 _ p a2 e2 x ha sm frc f55 frr hx nb
  · rw [if_pos r1, r2]
    exact fun w hw => LE_w (g2 p.1 p.2 (WE_of wr) w hw)
/-- a word of a list, then the rest -/
theorem LX_wor {z lo hi : Nat} {g : Int32} {k : Int32 × SG → Option SG} (h : SM f L a e u v) (hp : part < 5) (hz : z ∈ ZS) (ok_ : zOK z lo hi = true) (hh : hi ≤ 32) (h1 : 1 ≤ lo) (hlo : lo ≤ hi) (hg : ∀ s : SG, rpaP s g (nI part) = cwP s z part)
    (g1 : ∀ (u2 w2 : SG) (a2 e2 j : Nat), a < a2 → j ≤ hi - lo → SM f L a2 e2 u2 w2 → FRc u u2 → u2 55 = upd (u 55) part (nI j) → FRr v w2 → w2 65 = v 65 → pc (k (nI (lo + j), w2)) (fun w => LE Q (rlC so line l u2 (part + 1)) w))
    (g2 : ∀ z w, WE u w → pc (k (z, w)) (fun w => WE u w)) : pc ((Rtakes v (nI lo) (nI hi)).bind k) (fun w => LE Q (rlC so line (g :: l) u part) w) := by
  refine pc_b (pc_ok (wor_s h hp hz ok_ hh h1 hlo)) (fun p hno => ?_)
  rw [rlC, hg]
  rcases hno with ⟨r1, a2, e2, j, ha, hj, sm, frc, f55, frr, e65, ep⟩ | ⟨r1, r2, r3, wr⟩
  · rw [if_neg (by rw [r1]; decide)]
    have := g1 _ p.2 a2 e2 j ha hj sm frc f55 frr e65
    rw [← ep] at this; exact this
  · rw [if_pos r1, r2]
    exact fun w hw => LE_w (g2 p.1 p.2 (WE_of wr) w hw)
/-- the end of a line, then nothing -/
theorem LX_sem {k : SG → Option SG} (h : SM f L a e u v)
    (g1 : ∀ (u2 w2 : SG) (a2 e2 : Nat), a < a2 → SM f L a2 e2 u2 w2 → FRc u u2 → u2 55 = u 55 → FRr v w2 → w2 65 = v 65 → pc (k w2) (fun w => LE Q (rlC so line l u2 (part + 1)) w))
    (g2 : ∀ w, WE u w → pc (k w) (fun w => WE u w)) : pc ((RendsLine v).bind k) (fun w => LE Q (rlC so line (59 :: l) u part) w) := by
  refine pc_b (pc_ok (sem_s h)) (fun p hno => ?_)
  rw [rlC, rpa_s]
  rcases hno with ⟨r1, a2, e2, ha, sm, frc, f55, frr, e65⟩ | ⟨r1, r2, wr⟩
  · rw [if_neg (by rw [r1]; decide)]
    exact g1 _ p a2 e2 ha sm frc f55 frr e65
  · rw [if_pos r1, r2]
    exact fun w hw => LE_w (g2 p (WE_of wr) w hw)
end LX
end XTH
