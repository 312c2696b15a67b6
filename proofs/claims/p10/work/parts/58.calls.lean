section XRP
variable {sc : Nat × (Nat → Int32)} {d : Nat} {K : List KD} {r q t a B m : Nat} {w : EW}
/-! the law: what every call leaves standing -/
def cq (K : List KD) (s : SG) (o : XR) : Prop := ∃ v s2, o = some (some (.inl v), wl K s2) ∧ ∀ c, (c < 42 ∨ 64 ≤ c) → s2 c = s c
def rq (K : List KD) (s : SG) (o : XR) : Prop := ∃ v s2, o = some (some (.inl v), wl K s2) ∧ RI s2 ∧ s2 66 = s 66 ∧ ∀ c, (c < 64 ∨ 72 ≤ c) → s2 c = s c
theorem cq_s {K : List KD} {s : SG} {o : XR} {v : Int32} (h : o = some (some (.inl v), wl K s)) : cq K s o := ⟨v, s, h, fun _ _ => rfl⟩
theorem cq_w {K : List KD} {s s2 : SG} {o : XR} {v : Int32} (h : o = some (some (.inl v), wl K s2)) (f : ∀ c, (c < 42 ∨ 64 ≤ c) → s2 c = s c) : cq K s o := ⟨v, s2, h, f⟩
theorem rq_a {K : List KD} {s : SG} {o : XR} {p : Option (Int32 × SG)} (h : o = oP K p) (k : ok p (fun p => RI p.2 ∧ QA s p.2)) : rq K s o := by
  obtain ⟨a, rfl, r, q⟩ := k
  exact ⟨a.1, a.2, h, r, q.2.1, q.2.2⟩
theorem rq_i {K : List KD} {s : SG} {o : XR} {p : Option (Int32 × SG)} (h : o = oP K p) (r : RI s) (k : ok p (fun p => QI s p.2)) : rq K s o :=
  rq_a h (ok_w k fun _ q => ⟨QI_RI q r, QA_QI q⟩)
theorem rq_v {K : List KD} {s : SG} {o : XR} {p : Option Int32} (h : o = oV p (wl K s)) (r : RI s) (k : ok p (fun _ => True)) : rq K s o := by
  obtain ⟨a, rfl, _⟩ := k
  exact ⟨a, s, h, r, rfl, fun _ _ => rfl⟩
section LW
variable {sc : Nat × (Nat → Int32)} {d : Nat} {K : List KD}
theorem LC_republic {s : SG} {x y : Int32} (h : SH K) (tv : TV s) : cq K s (xN sc (d + 11) 84 [.inr (.inr (.inl (some 0))), .inl x, .inl y] (wl K s)) := by
  rcases repO_c (x := x) h tv with e1 | ⟨r, e1, hr, br, zr⟩
  · skip
    exact cq_s (c_repI_a (d := d + 8) (h := h) (e1 := e1))
  · skip
    exact cq_s (c_repI_b (d := d + 8) (hr := hr) (h := h) (e1 := e1))
theorem LC_minister {s : SG} {x y z : Int32} (h : SH K) (tv : TV s) : cq K s (xN sc (d + 11) 85 [.inr (.inr (.inl (some 0))), .inl x, .inl y, .inl z] (wl K s)) := by
  rcases repO_c (x := x) h tv with e1 | ⟨r, e1, hr, br, zr⟩
  · skip
    exact cq_s (c_mniI_a (d := d + 8) (h := h) (e1 := e1))
  · skip
    exact cq_s (c_mniI_b (d := d + 8) (hr := hr) (h := h) (e1 := e1))
theorem LC_order {s : SG} {x k v : Int32} (h : SH K) (tv : TV s) : cq K s (xN sc (d + 11) 86 [.inr (.inr (.inl (some 0))), .inl x, .inl k, .inl v] (wl K s)) := by
  rcases rowO_c (so := 1) (x := x) h tv with e1 | ⟨q, e1, hq, bq, zq⟩
  · skip
    exact cq_s (c_ordI_a (d := d + 8) (h := h) (e1 := e1))
  · skip
    exact cq_s (c_ordI_b (d := d + 7) (hq := hq) (h := h) (e1 := e1))
theorem LC_deed {s : SG} {x k v : Int32} (h : SH K) (tv : TV s) : cq K s (xN sc (d + 11) 87 [.inr (.inr (.inl (some 0))), .inl x, .inl k, .inl v] (wl K s)) := by
  rcases rowO_c (so := 2) (x := x) h tv with e1 | ⟨q, e1, hq, bq, zq⟩
  · skip
    exact cq_s (c_deeI_a (d := d + 8) (h := h) (e1 := e1))
  · skip
    exact cq_s (c_deeI_b (d := d + 7) (hq := hq) (h := h) (e1 := e1))
theorem LC_leak {s : SG} {x k v : Int32} (h : SH K) (tv : TV s) : cq K s (xN sc (d + 11) 88 [.inr (.inr (.inl (some 0))), .inl x, .inl k, .inl v] (wl K s)) := by
  rcases rowO_c (so := 3) (x := x) h tv with e1 | ⟨q, e1, hq, bq, zq⟩
  · skip
    exact cq_s (c_leaI_a (d := d + 8) (h := h) (e1 := e1))
  · skip
    exact cq_s (c_leaI_b (d := d + 7) (hq := hq) (h := h) (e1 := e1))
theorem LC_was {s : SG} {x k v : Int32} (h : SH K) (tv : TV s) : cq K s (xN sc (d + 11) 89 [.inr (.inr (.inl (some 0))), .inl x, .inl k, .inl v] (wl K s)) := by
  rcases rowO_c (so := 4) (x := x) h tv with e1 | ⟨q, e1, hq, bq, zq⟩
  · skip
    exact cq_s (c_wasI_a (d := d + 8) (h := h) (e1 := e1))
  · skip
    exact cq_s (c_wasI_b (d := d + 7) (hq := hq) (h := h) (e1 := e1))
theorem LC_off {s : SG} {x y se u v z : Int32} (h : SH K) (tv : TV s) : cq K s (xN sc (d + 11) 92 [.inr (.inr (.inl (some 0))), .inl x, .inl y, .inl se, .inl u, .inl v, .inl z] (wl K s)) := by
  rcases movF_c (a := x) (who := y) (se := se) (day := (dayI u v z)) h tv with e1 | ⟨r, e1, hr, br, zr⟩
  · skip
    exact cq_s (c_offI_a (d := d + 7) (h := h) (tv := tv) (e1 := e1))
  · skip
    exact cq_s (c_offI_b (d := d + 7) (hr := hr) (h := h) (tv := tv) (e1 := e1))
theorem LC_vote {s : SG} {x y se u v z g : Int32} (h : SH K) (tv : TV s) : cq K s (xN sc (d + 11) 93 [.inr (.inr (.inl (some 0))), .inl x, .inl y, .inl se, .inl u, .inl v, .inl z, .inl g] (wl K s)) := by
  rcases movF_c (a := x) (who := y) (se := se) (day := (dayI u v z)) h tv with e1 | ⟨r, e1, hr, br, zr⟩
  · skip
    exact cq_s (c_votq_a (d := d + 7) (h := h) (tv := tv) (e1 := e1))
  · skip
    exact cq_s (c_votq_b (d := d + 7) (hr := hr) (h := h) (tv := tv) (e1 := e1) (zr := zr))
theorem LC_broken {s : SG} {x se u v z g : Int32} (h : SH K) (tv : TV s) : cq K s (xN sc (d + 11) 94 [.inr (.inr (.inl (some 0))), .inl x, .inl se, .inl u, .inl v, .inl z, .inl g] (wl K s)) := by
  rcases rowO_c (so := 1) (x := x) h tv with e1 | ⟨q, e1, hq, bq, zq⟩
  · skip
    exact cq_s (c_bkeI_a (d := d + 8) (h := h) (e1 := e1))
  · skip
    exact cq_s (c_bkeI_b (d := d + 6) (hq := hq) (h := h) (e1 := e1) (zq := zq))
theorem LC_stop {s : SG} {x y z : Int32} (h : SH K) (tv : TV s) : cq K s (xN sc (d + 11) 97 [.inr (.inr (.inl (some 0))), .inl x, .inl y, .inl z] (wl K s)) := by
  rcases repO_c (x := x) h tv with e1 | ⟨r, e1, hr, br, zr⟩
  · skip
    exact cq_s (c_stoP_a (d := d + 8) (h := h) (e1 := e1))
  · skip
    rcases rowO_c (so := 1) (x := y) h tv with e2 | ⟨q, e2, hq, bq, zq⟩
    · skip
      exact cq_s (c_stoP_b (d := d + 8) (hr := hr) (h := h) (e1 := e1) (e2 := e2))
    · skip
      rcases rowO_c (so := 2) (x := z) h tv with e3 | ⟨t, e3, ht, bt, zt⟩
      · skip
        exact cq_s (c_stoP_c (d := d + 8) (hr := hr) (hq := hq) (h := h) (e1 := e1) (e2 := e2) (e3 := e3))
      · skip
        exact cq_w (c_stoP_d (d := d + 3) (hr := hr) (hq := hq) (ht := ht) (h := h) (br := br) (bq := bq) (bt := bt) (e1 := e1) (e2 := e2) (e3 := e3) (zr := zr) (zq := zq) (zt := zt)) (fun c hc => stoPd_lo hc)
theorem LC_state {s : SG} {x y z n v : Int32} (h : SH K) (tv : TV s) : cq K s (xN sc (d + 11) 98 [.inr (.inr (.inl (some 0))), .inl x, .inl y, .inl z, .inl n, .inl v] (wl K s)) := by
  rcases repO_c (x := x) h tv with e1 | ⟨r, e1, hr, br, zr⟩
  · skip
    exact cq_s (c_state_a (d := d + 8) (h := h) (e1 := e1))
  · skip
    rcases rowO_c (so := 1) (x := y) h tv with e2 | ⟨q, e2, hq, bq, zq⟩
    · skip
      exact cq_s (c_state_b (d := d + 8) (hr := hr) (h := h) (e1 := e1) (e2 := e2))
    · skip
      rcases rowO_c (so := 2) (x := z) h tv with e3 | ⟨t, e3, ht, bt, zt⟩
      · skip
        exact cq_s (c_state_c (d := d + 8) (hr := hr) (hq := hq) (h := h) (e1 := e1) (e2 := e2) (e3 := e3))
      · skip
        by_cases p1 : n < 0
        · skip
          exact cq_s (c_state_d (d := d + 8) (hr := hr) (hq := hq) (ht := ht) (h := h) (e1 := e1) (e2 := e2) (e3 := e3) (p1 := p1))
        by_cases p2 : n ≤ s t 0
        · obtain ⟨m, hm0, rfl⟩ := nat_of (n := 41) p1 (Int32.lt_of_le_of_lt p2 (by rw [zt.1]; exact nI_lt2 (by have := zt.2; omega) (by decide))) (by decide)
          have hm : m ≤ 1000 := by omega
          exact cq_w (c_state_f (d := d + 3) (hr := hr) (hq := hq) (ht := ht) (h := h) (br := br) (bq := bq) (bt := bt) (e1 := e1) (e2 := e2) (e3 := e3) (zr := zr) (zq := zq) (hm := hm) (p1 := p1) (p2 := p2)) (fun c hc => staP_lo hc)
        · skip
          exact cq_s (c_state_e (d := d + 8) (hr := hr) (hq := hq) (ht := ht) (h := h) (e1 := e1) (e2 := e2) (e3 := e3) (p1 := p1) (p2 := p2))
theorem LC_drawn {s : SG} {x y n v : Int32} (h : SH K) (tv : TV s) : cq K s (xN sc (d + 11) 100 [.inr (.inr (.inl (some 0))), .inl x, .inl y, .inl n, .inl v] (wl K s)) := by
  rcases repO_c (x := x) h tv with e1 | ⟨r, e1, hr, br, zr⟩
  · skip
    exact cq_s (c_drawn_a (d := d + 8) (h := h) (e1 := e1))
  · skip
    by_cases p1 : n < 0
    · skip
      exact cq_s (c_drawn_b (d := d + 8) (hr := hr) (h := h) (e1 := e1) (p1 := p1))
    by_cases p2 : n ≤ 60
    · obtain ⟨m, hm0, rfl⟩ := nat_of (n := 61) p1 (Int32.lt_of_le_of_lt p2 (by decide)) (by decide)
      have hm : m ≤ 1000 := by omega
      exact cq_w (c_drawn_d (d := d + 3) (hr := hr) (h := h) (br := br) (e1 := e1) (zr := zr) (hm := hm) (p1 := p1) (p2 := p2)) (fun c hc => drwP_lo hc)
    · skip
      exact cq_s (c_drawn_c (d := d + 8) (hr := hr) (h := h) (e1 := e1) (p1 := p1) (p2 := p2))
theorem LC_agreed {s : SG} {x y who se v : Int32} (h : SH K) (tv : TV s) : cq K s (xN sc (d + 11) 101 [.inr (.inr (.inl (some 0))), .inl x, .inl y, .inl who, .inl se, .inl v] (wl K s)) := by
  rcases movF_c (a := x) (who := who) (se := se) (day := 0) h tv with e1 | ⟨r, e1, hr, br, zr⟩
  · skip
    exact cq_s (c_agreed_a (d := d + 7) (h := h) (tv := tv) (e1 := e1))
  · skip
    rcases rowO_c (so := 1) (x := y) h tv with e2 | ⟨q, e2, hq, bq, zq⟩
    · skip
      exact cq_w (c_agreed_b (d := d + 5) (hr := hr) (h := h) (br := br) (tv := tv) (e1 := e1) (e2 := e2) (zr := zr)) (fun c hc => agdb_lo hc)
    · skip
      exact cq_w (c_agreed_c (d := d + 4) (hr := hr) (hq := hq) (h := h) (br := br) (bq := bq) (tv := tv) (e1 := e1) (e2 := e2) (zr := zr) (zq := zq)) (fun c hc => agdc_lo hc)
theorem LC_power {s : SG} {x y g : Int32} (h : SH K) (tv : TV s) : cq K s (xN sc (d + 11) 106 [.inr (.inr (.inl (some 0))), .inl x, .inl y, .inl g] (wl K s)) := by
  rcases repO_c (x := x) h tv with e1 | ⟨r, e1, hr, br, zr⟩
  · skip
    exact cq_s (c_powI_a (d := d + 8) (h := h) (e1 := e1))
  · skip
    exact cq_s (c_powI_b (d := d + 7) (hr := hr) (h := h) (e1 := e1) (zr := zr))
theorem LC_coalition {s : SG} {x v : Int32} (h : SH K) (tv : TV s) : cq K s (xN sc (d + 11) 108 [.inr (.inr (.inl (some 0))), .inl x, .inl v] (wl K s)) := by
  rcases repO_c (x := x) h tv with e1 | ⟨r, e1, hr, br, zr⟩
  · skip
    exact cq_s (c_coaI_a (d := d + 8) (h := h) (e1 := e1))
  · skip
    exact cq_s (c_coaI_b (d := d + 6) (hr := hr) (h := h) (e1 := e1) (zr := zr))
theorem LC_bribe {s : SG} {x who se u v z g : Int32} (h : SH K) (tv : TV s) : cq K s (xN sc (d + 11) 112 [.inr (.inr (.inl (some 0))), .inl x, .inl who, .inl se, .inl u, .inl v, .inl z, .inl g] (wl K s)) := by
  rcases movF_c (a := x) (who := who) (se := se) (day := (dayI u v z)) h tv with e1 | ⟨r, e1, hr, br, zr⟩
  · skip
    exact cq_s (c_brbI_a (d := d + 7) (h := h) (tv := tv) (e1 := e1))
  · skip
    exact cq_s (c_brbI_b (d := d + 7) (hr := hr) (h := h) (tv := tv) (e1 := e1) (zr := zr))
theorem LC_lobby {s : SG} {x who se u v z k : Int32} (h : SH K) (tv : TV s) : cq K s (xN sc (d + 11) 114 [.inr (.inr (.inl (some 0))), .inl x, .inl who, .inl se, .inl u, .inl v, .inl z, .inl k] (wl K s)) := by
  rcases movF_c (a := x) (who := who) (se := se) (day := (dayI u v z)) h tv with e1 | ⟨r, e1, hr, br, zr⟩
  · skip
    exact cq_s (c_lobby_a (d := d + 7) (h := h) (tv := tv) (e1 := e1))
  · skip
    exact cq_s (c_lobby_b (d := d + 5) (hr := hr) (h := h) (tv := tv) (e1 := e1) (zr := zr))
theorem LC_bargain {s : SG} {x y v : Int32} (h : SH K) (tv : TV s) : cq K s (xN sc (d + 11) 118 [.inr (.inr (.inl (some 0))), .inl x, .inl y, .inl v] (wl K s)) := by
  rcases repO_c (x := x) h tv with e1 | ⟨r, e1, hr, br, zr⟩
  · skip
    exact cq_s (c_bgnI_a (d := d + 8) (h := h) (e1 := e1))
  · skip
    rcases rowO_c (so := 5) (x := y) h tv with e2 | ⟨q, e2, hq, bq, zq⟩
    · skip
      exact cq_s (c_bgnI_b (d := d + 8) (hr := hr) (h := h) (e1 := e1) (e2 := e2))
    · skip
      exact cq_s (c_bgnI_c (d := d + 6) (hr := hr) (hq := hq) (h := h) (e1 := e1) (e2 := e2) (zr := zr))
theorem LC_nature {s : SG} {x y v : Int32} (h : SH K) (tv : TV s) : cq K s (xN sc (d + 11) 121 [.inr (.inr (.inl (some 0))), .inl x, .inl y, .inl v] (wl K s)) := by
  rcases repO_c (x := x) h tv with e1 | ⟨r, e1, hr, br, zr⟩
  · skip
    exact cq_s (c_natP_a (d := d + 8) (h := h) (e1 := e1))
  · skip
    rcases rowO_c (so := 4) (x := y) h tv with e2 | ⟨q, e2, hq, bq, zq⟩
    · skip
      exact cq_s (c_natP_b (d := d + 8) (hr := hr) (h := h) (e1 := e1) (e2 := e2))
    · skip
      exact cq_w (c_natP_c (d := d + 6) (hr := hr) (hq := hq) (h := h) (br := br) (bq := bq) (e1 := e1) (e2 := e2) (zq := zq)) (fun c hc => natPc_lo hc)
theorem LC_seats {s : SG} {x y v : Int32} (h : SH K) (tv : TV s) : cq K s (xN sc (d + 11) 124 [.inr (.inr (.inl (some 0))), .inl x, .inl y, .inl v] (wl K s)) := by
  rcases repO_c (x := x) h tv with e1 | ⟨r, e1, hr, br, zr⟩
  · skip
    exact cq_s (c_seats_a (d := d + 8) (h := h) (e1 := e1))
  · skip
    rcases rowO_c (so := 4) (x := y) h tv with e2 | ⟨q, e2, hq, bq, zq⟩
    · skip
      exact cq_s (c_seats_b (d := d + 8) (hr := hr) (h := h) (e1 := e1) (e2 := e2))
    · skip
      obtain ⟨m, hm0, ef⟩ := ffi_nat0 (s := s) (r := r) (q := q)
      have hm : m ≤ 1000 := by omega
      exact cq_w (c_seats_c (d := d + 5) (hr := hr) (hq := hq) (h := h) (br := br) (bq := bq) (e1 := e1) (e2 := e2) (zq := zq) (ef := ef) (hm := hm)) (fun c hc => seaP_lo hc)
theorem LC_reshuffle {s : SG} {x g : Int32} (h : SH K) (tv : TV s) : cq K s (xN sc (d + 11) 129 [.inr (.inr (.inl (some 0))), .inl x, .inl g] (wl K s)) := by
  rcases repO_c (x := x) h tv with e1 | ⟨r, e1, hr, br, zr⟩
  · skip
    exact cq_s (c_resI_a (d := d + 8) (h := h) (e1 := e1))
  · skip
    exact cq_s (c_resI_b (d := d + 6) (hr := hr) (h := h) (e1 := e1) (zr := zr))
theorem LC_fits {s : SG} {x y who se v : Int32} (h : SH K) (tv : TV s) : cq K s (xN sc (d + 11) 131 [.inr (.inr (.inl (some 0))), .inl x, .inl y, .inl who, .inl se, .inl v] (wl K s)) := by
  rcases movF_c (a := x) (who := who) (se := se) (day := 0) h tv with e1 | ⟨r, e1, hr, br, zr⟩
  · skip
    exact cq_s (c_fitI_a (d := d + 7) (h := h) (tv := tv) (e1 := e1))
  · skip
    rcases rowO_c (so := 3) (x := y) h tv with e2 | ⟨q, e2, hq, bq, zq⟩
    · skip
      exact cq_s (c_fitI_b (d := d + 7) (hr := hr) (h := h) (tv := tv) (e1 := e1) (e2 := e2))
    · skip
      exact cq_s (c_fitI_c (d := d + 4) (hr := hr) (hq := hq) (h := h) (tv := tv) (e1 := e1) (e2 := e2) (zr := zr) (zq := zq))
end LW
end XRP
