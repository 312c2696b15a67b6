section XEN
/-! bytes and what they say, side by side -/
def xeq0 (op : Nat) (l : List UInt8) (k : List UInt8 → Bool) : Bool := match l with
  | b :: r => Nat.beq b.toNat op && k r
  | [] => false
def xeq1 (op x : Nat) (l : List UInt8) (k : List UInt8 → Bool) : Bool := match l with
  | b :: c :: r => Nat.beq b.toNat op && (Nat.beq c.toNat x && k r)
  | _ => false
def xeqs1 (op : Nat) (x : Int) (l : List UInt8) (k : List UInt8 → Bool) : Bool := match l with
  | b :: c :: r => Nat.beq b.toNat op && (decide (Reader.signed 8 c.toNat = x) && k r)
  | _ => false
def xeq2 (op x : Nat) (l : List UInt8) (k : List UInt8 → Bool) : Bool := match l with
  | b :: c :: e :: r => Nat.beq b.toNat op && (Nat.beq (c.toNat * 256 + e.toNat) x && k r)
  | _ => false
def xeqs2 (op : Nat) (x : Int) (l : List UInt8) (k : List UInt8 → Bool) : Bool := match l with
  | b :: c :: e :: r => Nat.beq b.toNat op && (decide (Reader.signed 16 (c.toNat * 256 + e.toNat) = x) && k r)
  | _ => false
def xeq11 (op x : Nat) (y : Int) (l : List UInt8) (k : List UInt8 → Bool) : Bool := match l with
  | b :: c :: e :: r => Nat.beq b.toNat op && (Nat.beq c.toNat x && (decide (Reader.signed 8 e.toNat = y) && k r))
  | _ => false
def xecN : Jvm.ClassFile.Cond → Nat
  | .eq => 0
  | .ne => 1
  | .lt => 2
  | .ge => 3
  | .gt => 4
  | .le => 5
def xehrd : Instr → Bool
  | .aload_n _ | .iload_n _ | .istore_n _ | .iconst _ | .getfield _ | .putfield _ | .invokevirtual _ | .invokestatic _ | .iload _ | .istore _ | .aload _ | .bipush _ | .sipush _ | .goto _ | .ifCond _ _ | .if_icmp _ _ | .iinc _ _ | .ireturn | .return_ | .iadd | .isub | .imul | .iand | .iaload | .iastore | .pop | .dup => false
  | _ => true
def xechkK (I : Instr) (l : List UInt8) (k : List UInt8 → Bool) : Bool := match I with
  | .aload_n n => xeq0 (42 + n.val) l k
  | .iload_n n => xeq0 (26 + n.val) l k
  | .istore_n n => xeq0 (59 + n.val) l k
  | .iconst i => (Nat.ble 2 (i + 3).toNat && Nat.ble (i + 3).toNat 8) && xeq0 (i + 3).toNat l k
  | .getfield x => xeq2 180 x l k
  | .putfield x => xeq2 181 x l k
  | .invokevirtual x => xeq2 182 x l k
  | .invokestatic x => xeq2 184 x l k
  | .iload x => xeq1 21 x l k
  | .aload x => xeq1 25 x l k
  | .istore x => xeq1 54 x l k
  | .bipush x => xeqs1 16 x l k
  | .sipush x => xeqs2 17 x l k
  | .goto x => xeqs2 167 x l k
  | .ifCond c x => xeqs2 (153 + xecN c) x l k
  | .if_icmp c x => xeqs2 (159 + xecN c) x l k
  | .iinc x y => xeq11 132 x y l k
  | .ireturn => xeq0 172 l k
  | .return_ => xeq0 177 l k
  | .iadd => xeq0 96 l k
  | .isub => xeq0 100 l k
  | .imul => xeq0 104 l k
  | .iand => xeq0 126 l k
  | .iaload => xeq0 46 l k
  | .iastore => xeq0 79 l k
  | .pop => xeq0 87 l k
  | .dup => xeq0 89 l k
  | _ => false
variable {α : Type} {code : ByteArray} {p : Nat} {b c e : UInt8} {l r : List UInt8} {k : List UInt8 → Bool}
theorem xedrp_1 (hl : code.data.toList.drop p = b :: r) : (∃ h : p < code.size, code[p]'h = b) ∧ code.data.toList.drop (p + 1) = r := by
  have hp : p < code.data.toList.length := by
    refine Decidable.byContradiction (fun g => ?_)
    rw [List.drop_eq_nil_of_le (by omega)] at hl
    cases hl
  rw [List.drop_eq_getElem_cons hp] at hl
  obtain ⟨h1, h2⟩ := List.cons.inj hl
  refine ⟨⟨by rw [Array.length_toList] at hp; exact hp, ?_⟩, h2⟩
  rw [← h1]; rfl
theorem xeu1_e (h : p < code.size) : (Reader.u1 : Decoder Nat) code p = .ok ((code[p]'h).toNat, p + 1) := by
  have e : (Reader.u1 : Decoder Nat) code p = (if h : p < code.size then (do set (p + 1); Pure.pure (code[p]'h).toNat : Decoder Nat) else throw (HasTruncated.truncated p)) code p := rfl
  rw [e, dif_pos h]; rfl
theorem xeu1_b (hl : code.data.toList.drop p = b :: r) : (Reader.u1 : Decoder Nat) code p = .ok (b.toNat, p + 1) := by
  obtain ⟨⟨h, e⟩, _⟩ := xedrp_1 hl
  rw [xeu1_e h, e]
theorem xerun_b {β : Type} {m : Decoder β} {F : β → Decoder α} {v : β} {p2 : Nat} (e : m code p = .ok (v, p2)) : (m >>= F) code p = F v code p2 := by
  show Except.bind (m code p) _ = _
  rw [e]; rfl
theorem xes1_b (hl : code.data.toList.drop p = b :: r) : (Reader.s1 : Decoder Int) code p = .ok (Reader.signed 8 b.toNat, p + 1) := by
  show Except.bind ((Reader.u1 : Decoder Nat) code p) _ = _
  rw [xeu1_b hl]; rfl
theorem xeu2_b (hl : code.data.toList.drop p = b :: c :: r) : (Reader.u2 : Decoder Nat) code p = .ok (b.toNat * 256 + c.toNat, p + 2) := by
  show Except.bind ((Reader.u1 : Decoder Nat) code p) _ = _
  rw [xeu1_b hl]
  show Except.bind ((Reader.u1 : Decoder Nat) code (p + 1)) _ = _
  rw [xeu1_b (xedrp_1 hl).2]; rfl
theorem xes2_b (hl : code.data.toList.drop p = b :: c :: r) : (Reader.s2 : Decoder Int) code p = .ok (Reader.signed 16 (b.toNat * 256 + c.toNat), p + 2) := by
  show Except.bind ((Reader.u2 : Decoder Nat) code p) _ = _
  rw [xeu2_b hl]; rfl
theorem xedec_b {I : Instr} {n : Nat} (e : (Decoder.instr p) code p = .ok (I, p + n)) : decode code p = .ok (I, n) := by
  show Except.bind ((Decoder.instr p) code p) _ = _
  rw [e]
  show Except.ok (I, p + n - p) = _
  rw [Nat.add_sub_cancel_left]
/-- the reader at an operation -/
def xeOPF (p op : Nat) (m : Decoder Instr) : Prop := ∃ F : Nat → Decoder Instr, Decoder.instr p = (Reader.u1 >>= F) ∧ F op = m
theorem xeopf_r {op : Nat} {m : Decoder Instr} (h : xeOPF p op m) (hl : code.data.toList.drop p = b :: r) (hb : Nat.beq b.toNat op = true) : (Decoder.instr p) code p = m code (p + 1) := by
  obtain ⟨F, h1, h2⟩ := h
  rw [h1, xerun_b (xeu1_b hl), Nat.eq_of_beq_eq_true hb, h2]
theorem xeq0_ok {I : Instr} {op : Nat} (h : xeq0 op l k = true) (hl : code.data.toList.drop p = l) (hF : xeOPF p op (Pure.pure I)) : decode code p = .ok (I, 1) ∧ k (code.data.toList.drop (p + 1)) = true := by
  unfold xeq0 at h
  split at h
  · obtain ⟨h1, h2⟩ := (Bool.and_eq_true _ _).mp h
    refine ⟨xedec_b ((xeopf_r hF hl h1).trans rfl), by rw [(xedrp_1 hl).2]; exact h2⟩
  · cases h
theorem xeq1_ok {I : Nat → Instr} {op x : Nat} (h : xeq1 op x l k = true) (hl : code.data.toList.drop p = l) (hF : xeOPF p op (Reader.u1 >>= fun x => Pure.pure (I x))) : decode code p = .ok (I x, 2) ∧ k (code.data.toList.drop (p + 2)) = true := by
  unfold xeq1 at h
  split at h
  · obtain ⟨h1, h2⟩ := (Bool.and_eq_true _ _).mp h
    obtain ⟨h2, h3⟩ := (Bool.and_eq_true _ _).mp h2
    have l1 := (xedrp_1 hl).2
    refine ⟨xedec_b ((xeopf_r hF hl h1).trans ((xerun_b (xeu1_b l1)).trans ?_)), by rw [(xedrp_1 l1).2]; exact h3⟩
    rw [Nat.eq_of_beq_eq_true h2]; rfl
  · cases h
theorem xeqs1_ok {I : Int → Instr} {op : Nat} {x : Int} (h : xeqs1 op x l k = true) (hl : code.data.toList.drop p = l) (hF : xeOPF p op (Reader.s1 >>= fun x => Pure.pure (I x))) : decode code p = .ok (I x, 2) ∧ k (code.data.toList.drop (p + 2)) = true := by
  unfold xeqs1 at h
  split at h
  · obtain ⟨h1, h2⟩ := (Bool.and_eq_true _ _).mp h
    obtain ⟨h2, h3⟩ := (Bool.and_eq_true _ _).mp h2
    have l1 := (xedrp_1 hl).2
    refine ⟨xedec_b ((xeopf_r hF hl h1).trans ((xerun_b (xes1_b l1)).trans ?_)), by rw [(xedrp_1 l1).2]; exact h3⟩
    rw [of_decide_eq_true h2]; rfl
  · cases h
theorem xeq2_ok {I : Nat → Instr} {op x : Nat} (h : xeq2 op x l k = true) (hl : code.data.toList.drop p = l) (hF : xeOPF p op (Reader.u2 >>= fun x => Pure.pure (I x))) : decode code p = .ok (I x, 3) ∧ k (code.data.toList.drop (p + 3)) = true := by
  unfold xeq2 at h
  split at h
  · obtain ⟨h1, h2⟩ := (Bool.and_eq_true _ _).mp h
    obtain ⟨h2, h3⟩ := (Bool.and_eq_true _ _).mp h2
    have l1 := (xedrp_1 hl).2
    have l2 := (xedrp_1 l1).2
    refine ⟨xedec_b ((xeopf_r hF hl h1).trans ((xerun_b (xeu2_b l1)).trans ?_)), by rw [(xedrp_1 l2).2]; exact h3⟩
    rw [Nat.eq_of_beq_eq_true h2]; rfl
  · cases h
theorem xeqs2_ok {I : Int → Instr} {op : Nat} {x : Int} (h : xeqs2 op x l k = true) (hl : code.data.toList.drop p = l) (hF : xeOPF p op (Reader.s2 >>= fun x => Pure.pure (I x))) : decode code p = .ok (I x, 3) ∧ k (code.data.toList.drop (p + 3)) = true := by
  unfold xeqs2 at h
  split at h
  · obtain ⟨h1, h2⟩ := (Bool.and_eq_true _ _).mp h
    obtain ⟨h2, h3⟩ := (Bool.and_eq_true _ _).mp h2
    have l1 := (xedrp_1 hl).2
    have l2 := (xedrp_1 l1).2
    refine ⟨xedec_b ((xeopf_r hF hl h1).trans ((xerun_b (xes2_b l1)).trans ?_)), by rw [(xedrp_1 l2).2]; exact h3⟩
    rw [of_decide_eq_true h2]; rfl
  · cases h
theorem xeq11_ok {I : Nat → Int → Instr} {op x : Nat} {y : Int} (h : xeq11 op x y l k = true) (hl : code.data.toList.drop p = l) (hF : xeOPF p op (Reader.u1 >>= fun x => Reader.s1 >>= fun y => Pure.pure (I x y))) : decode code p = .ok (I x y, 3) ∧ k (code.data.toList.drop (p + 3)) = true := by
  unfold xeq11 at h
  split at h
  · obtain ⟨h1, h2⟩ := (Bool.and_eq_true _ _).mp h
    obtain ⟨h2, h3⟩ := (Bool.and_eq_true _ _).mp h2
    obtain ⟨h3, h4⟩ := (Bool.and_eq_true _ _).mp h3
    have l1 := (xedrp_1 hl).2
    have l2 := (xedrp_1 l1).2
    refine ⟨xedec_b ((xeopf_r hF hl h1).trans ((xerun_b (xeu1_b l1)).trans ((xerun_b (xes1_b l2)).trans ?_))), by rw [(xedrp_1 l2).2]; exact h4⟩
    rw [Nat.eq_of_beq_eq_true h2, of_decide_eq_true h3]; rfl
  · cases h
theorem xeico_ok {i : Int} (h : xechkK (.iconst i) l k = true) (hl : code.data.toList.drop p = l) : decode code p = .ok (.iconst i, 1) ∧ k (code.data.toList.drop (p + 1)) = true := by
  obtain ⟨h1, h2⟩ := (Bool.and_eq_true _ _).mp (show ((Nat.ble 2 (i + 3).toNat && Nat.ble (i + 3).toNat 8) && xeq0 (i + 3).toNat l k) = true from h)
  obtain ⟨h3, h4⟩ := (Bool.and_eq_true _ _).mp h1
  have a := Nat.le_of_ble_eq_true h3
  have b := Nat.le_of_ble_eq_true h4
  rcases (by omega : i = -1 ∨ i = 0 ∨ i = 1 ∨ i = 2 ∨ i = 3 ∨ i = 4 ∨ i = 5) with rfl | rfl | rfl | rfl | rfl | rfl | rfl
  · exact xeq0_ok (op := 2) h2 hl ⟨_, rfl, rfl⟩
  · exact xeq0_ok (op := 3) h2 hl ⟨_, rfl, rfl⟩
  · exact xeq0_ok (op := 4) h2 hl ⟨_, rfl, rfl⟩
  · exact xeq0_ok (op := 5) h2 hl ⟨_, rfl, rfl⟩
  · exact xeq0_ok (op := 6) h2 hl ⟨_, rfl, rfl⟩
  · exact xeq0_ok (op := 7) h2 hl ⟨_, rfl, rfl⟩
  · exact xeq0_ok (op := 8) h2 hl ⟨_, rfl, rfl⟩
theorem xechk_ok (I : Instr) (h : xechkK I l k = true) (hl : code.data.toList.drop p = l) : decode code p = .ok (I, xln I) ∧ k (code.data.toList.drop (p + xln I)) = true := by
  cases I with
  | aload_n n =>
    match n, h with
    | 0, h => exact xeq0_ok (op := 42) h hl ⟨_, rfl, rfl⟩
    | 1, h => exact xeq0_ok (op := 43) h hl ⟨_, rfl, rfl⟩
    | 2, h => exact xeq0_ok (op := 44) h hl ⟨_, rfl, rfl⟩
    | 3, h => exact xeq0_ok (op := 45) h hl ⟨_, rfl, rfl⟩
  | iload_n n =>
    match n, h with
    | 0, h => exact xeq0_ok (op := 26) h hl ⟨_, rfl, rfl⟩
    | 1, h => exact xeq0_ok (op := 27) h hl ⟨_, rfl, rfl⟩
    | 2, h => exact xeq0_ok (op := 28) h hl ⟨_, rfl, rfl⟩
    | 3, h => exact xeq0_ok (op := 29) h hl ⟨_, rfl, rfl⟩
  | istore_n n =>
    match n, h with
    | 0, h => exact xeq0_ok (op := 59) h hl ⟨_, rfl, rfl⟩
    | 1, h => exact xeq0_ok (op := 60) h hl ⟨_, rfl, rfl⟩
    | 2, h => exact xeq0_ok (op := 61) h hl ⟨_, rfl, rfl⟩
    | 3, h => exact xeq0_ok (op := 62) h hl ⟨_, rfl, rfl⟩
  | iconst i => exact xeico_ok h hl
  | getfield x => exact xeq2_ok (I := .getfield) (op := 180) h hl ⟨_, rfl, rfl⟩
  | putfield x => exact xeq2_ok (I := .putfield) (op := 181) h hl ⟨_, rfl, rfl⟩
  | invokevirtual x => exact xeq2_ok (I := .invokevirtual) (op := 182) h hl ⟨_, rfl, rfl⟩
  | invokestatic x => exact xeq2_ok (I := .invokestatic) (op := 184) h hl ⟨_, rfl, rfl⟩
  | iload x => exact xeq1_ok (I := .iload) (op := 21) h hl ⟨_, rfl, rfl⟩
  | aload x => exact xeq1_ok (I := .aload) (op := 25) h hl ⟨_, rfl, rfl⟩
  | istore x => exact xeq1_ok (I := .istore) (op := 54) h hl ⟨_, rfl, rfl⟩
  | bipush x => exact xeqs1_ok (I := .bipush) (op := 16) h hl ⟨_, rfl, rfl⟩
  | sipush x => exact xeqs2_ok (I := .sipush) (op := 17) h hl ⟨_, rfl, rfl⟩
  | goto x => exact xeqs2_ok (I := .goto) (op := 167) h hl ⟨_, rfl, rfl⟩
  | ifCond c x =>
    cases c with
    | eq => exact xeqs2_ok (I := .ifCond .eq) (op := 153) h hl ⟨_, rfl, rfl⟩
    | ne => exact xeqs2_ok (I := .ifCond .ne) (op := 154) h hl ⟨_, rfl, rfl⟩
    | lt => exact xeqs2_ok (I := .ifCond .lt) (op := 155) h hl ⟨_, rfl, rfl⟩
    | ge => exact xeqs2_ok (I := .ifCond .ge) (op := 156) h hl ⟨_, rfl, rfl⟩
    | gt => exact xeqs2_ok (I := .ifCond .gt) (op := 157) h hl ⟨_, rfl, rfl⟩
    | le => exact xeqs2_ok (I := .ifCond .le) (op := 158) h hl ⟨_, rfl, rfl⟩
  | if_icmp c x =>
    cases c with
    | eq => exact xeqs2_ok (I := .if_icmp .eq) (op := 159) h hl ⟨_, rfl, rfl⟩
    | ne => exact xeqs2_ok (I := .if_icmp .ne) (op := 160) h hl ⟨_, rfl, rfl⟩
    | lt => exact xeqs2_ok (I := .if_icmp .lt) (op := 161) h hl ⟨_, rfl, rfl⟩
    | ge => exact xeqs2_ok (I := .if_icmp .ge) (op := 162) h hl ⟨_, rfl, rfl⟩
    | gt => exact xeqs2_ok (I := .if_icmp .gt) (op := 163) h hl ⟨_, rfl, rfl⟩
    | le => exact xeqs2_ok (I := .if_icmp .le) (op := 164) h hl ⟨_, rfl, rfl⟩
  | iinc x y => exact xeq11_ok (I := .iinc) (op := 132) h hl ⟨_, rfl, rfl⟩
  | ireturn => exact xeq0_ok (op := 172) h hl ⟨_, rfl, rfl⟩
  | return_ => exact xeq0_ok (op := 177) h hl ⟨_, rfl, rfl⟩
  | iadd => exact xeq0_ok (op := 96) h hl ⟨_, rfl, rfl⟩
  | isub => exact xeq0_ok (op := 100) h hl ⟨_, rfl, rfl⟩
  | imul => exact xeq0_ok (op := 104) h hl ⟨_, rfl, rfl⟩
  | iand => exact xeq0_ok (op := 126) h hl ⟨_, rfl, rfl⟩
  | iaload => exact xeq0_ok (op := 46) h hl ⟨_, rfl, rfl⟩
  | iastore => exact xeq0_ok (op := 79) h hl ⟨_, rfl, rfl⟩
  | pop => exact xeq0_ok (op := 87) h hl ⟨_, rfl, rfl⟩
  | dup => exact xeq0_ok (op := 89) h hl ⟨_, rfl, rfl⟩
  | _ => exact absurd (show false = true from h) (by decide)
def xenxp : XC → Nat
  | [] => 0
  | q :: _ => q.1
/-- all instructions of a row, against the bytes, in one walk; the rare ones are left to decode -/
def xexdf : XC → Nat → List UInt8 → Bool
  | [], _, _ => true
  | q :: C, p, l => Nat.beq q.1 p && cond (xehrd q.2) (cond (Nat.ble q.1 (xenxp C)) (xexdf C (xenxp C) (l.drop (xenxp C - q.1))) (List.isEmpty C)) (xechkK q.2 l (xexdf C (q.1 + xln q.2)))
theorem xexdf_ok {cc : ByteArray} : ∀ (C : XC) (p : Nat) (l : List UInt8), xexdf C p l = true → cc.data.toList.drop p = l → ∀ q ∈ C, xehrd q.2 = false → decode cc q.1 = .ok (q.2, xln q.2) := by
  intro C
  induction C with
  | nil => intro p l _ _ q hq; cases hq
  | cons a C ih =>
    intro p l h hl q hq hh
    rw [xexdf] at h
    obtain ⟨h1, h2⟩ := (Bool.and_eq_true _ _).mp h
    have e := Nat.eq_of_beq_eq_true h1
    subst e
    cases g : xehrd a.2 with
    | true =>
      rw [g, cond_true] at h2
      rcases List.mem_cons.mp hq with e | hq
      · rw [e, g] at hh; cases hh
      · cases g2 : Nat.ble a.1 (xenxp C) with
        | true =>
          rw [g2, cond_true] at h2
          refine ih _ _ h2 ?_ q hq hh
          rw [← hl, List.drop_drop]
          congr 1
          have := Nat.le_of_ble_eq_true g2
          omega
        | false =>
          rw [g2, cond_false] at h2
          cases C with
          | nil => cases hq
          | cons _ _ => cases h2
    | false =>
      rw [g, cond_false] at h2
      obtain ⟨h3, h4⟩ := xechk_ok a.2 h2 hl
      rcases List.mem_cons.mp hq with e | hq
      · rw [e]; exact h3
      · exact ih _ _ h4 rfl q hq hh
theorem xexdk_f {cc : ByteArray} {C : XC} (h : xexdf C 0 cc.data.toList = true) (h2 : xdk cc (C.filter fun q => xehrd q.2) = true) : xdk cc C = true := by
  unfold xdk at *
  rw [List.all_eq_true] at *
  intro q hq
  cases g : xehrd q.2 with
  | true => exact h2 q (List.mem_filter.mpr ⟨hq, g⟩)
  | false =>
    rw [xexdf_ok C 0 _ h rfl q hq g]
    show (decide (q.2 = q.2) && (xsw q.2 || Nat.beq (xln q.2) (xln q.2))) = true
    rw [decide_eq_true rfl, Nat.beq_refl, Bool.or_true]; rfl
end XEN
set_option maxRecDepth 100000 in
theorem oTX0_init : okT (0, 0, 0, true, kX0_init_0) := ⟨by decide +kernel, rfl, rfl, fun _ => rfl, xexdk_f (cc := cX0_init) (by decide +kernel) (by decide +kernel)⟩
set_option maxRecDepth 100000 in
theorem oTX0_open : okT (1, 0, 0, false, kX0_open_0) := ⟨by decide +kernel, rfl, rfl, fun h => absurd h (by decide), xexdk_f (cc := cX0_open) (by decide +kernel) (by decide +kernel)⟩
set_option maxRecDepth 100000 in
theorem oTX0_run : okT (2, 0, 1, false, kX0_run_0) := ⟨by decide +kernel, rfl, rfl, fun h => absurd h (by decide), xexdk_f (cc := cX0_run) (by decide +kernel) (by decide +kernel)⟩
set_option maxRecDepth 100000 in
theorem oTX0_happens : okT (3, 0, 4, false, kX0_happens_0) := ⟨by decide +kernel, rfl, rfl, fun h => absurd h (by decide), xexdk_f (cc := cX0_happens) (by decide +kernel) (by decide +kernel)⟩
set_option maxRecDepth 100000 in
theorem oTX0_takesOffice : okT (4, 0, 4, false, kX0_takesOffice_0) := ⟨by decide +kernel, rfl, rfl, fun h => absurd h (by decide), xexdk_f (cc := cX0_takesOffice) (by decide +kernel) (by decide +kernel)⟩
set_option maxRecDepth 100000 in
theorem oTX0_isDismissed : okT (5, 0, 4, false, kX0_isDismissed_0) := ⟨by decide +kernel, rfl, rfl, fun h => absurd h (by decide), xexdk_f (cc := cX0_isDismissed) (by decide +kernel) (by decide +kernel)⟩
set_option maxRecDepth 100000 in
theorem oTX0_isRecalled : okT (6, 0, 4, false, kX0_isRecalled_0) := ⟨by decide +kernel, rfl, rfl, fun h => absurd h (by decide), xexdk_f (cc := cX0_isRecalled) (by decide +kernel) (by decide +kernel)⟩
set_option maxRecDepth 100000 in
theorem oTX0_decide : okT (7, 0, 0, false, kX0_decide_0) := ⟨by decide +kernel, rfl, rfl, fun h => absurd h (by decide), xexdk_f (cc := cX0_decide) (by decide +kernel) (by decide +kernel)⟩
set_option maxRecDepth 100000 in
theorem oTX0_bear : okT (8, 0, 0, false, kX0_bear_0) := ⟨by decide +kernel, rfl, rfl, fun h => absurd h (by decide), xexdk_f (cc := cX0_bear) (by decide +kernel) (by decide +kernel)⟩
set_option maxRecDepth 100000 in
theorem oTX0_committee : okT (9, 0, 0, false, kX0_committee_0) := ⟨by decide +kernel, rfl, rfl, fun h => absurd h (by decide), xexdk_f (cc := cX0_committee) (by decide +kernel) (by decide +kernel)⟩
set_option maxRecDepth 100000 in
theorem oTX0_record : okT (10, 0, 0, false, kX0_record_0) := ⟨by decide +kernel, rfl, rfl, fun h => absurd h (by decide), xexdk_f (cc := cX0_record) (by decide +kernel) (by decide +kernel)⟩
set_option maxRecDepth 100000 in
theorem oTX0_draw : okT (11, 0, 0, false, kX0_draw_0) := ⟨by decide +kernel, rfl, rfl, fun h => absurd h (by decide), xexdk_f (cc := cX0_draw) (by decide +kernel) (by decide +kernel)⟩
set_option maxRecDepth 100000 in
theorem oTX0_drawMotion : okT (12, 0, 0, false, kX0_drawMotion_0) := ⟨by decide +kernel, rfl, rfl, fun h => absurd h (by decide), xexdk_f (cc := cX0_drawMotion) (by decide +kernel) (by decide +kernel)⟩
set_option maxRecDepth 100000 in
theorem oTX0_oneThere : okT (13, 0, 1, false, kX0_oneThere_0) := ⟨by decide +kernel, rfl, rfl, fun h => absurd h (by decide), xexdk_f (cc := cX0_oneThere) (by decide +kernel) (by decide +kernel)⟩
set_option maxRecDepth 100000 in
theorem oTX0_drawBelow : okT (14, 0, 1, false, kX0_drawBelow_0) := ⟨by decide +kernel, rfl, rfl, fun h => absurd h (by decide), xexdk_f (cc := cX0_drawBelow) (by decide +kernel) (by decide +kernel)⟩
set_option maxRecDepth 100000 in
theorem oTX1_init : okT (15, 1, 0, true, kX1_init_0) := ⟨by decide +kernel, rfl, rfl, fun _ => rfl, xexdk_f (cc := cX1_init) (by decide +kernel) (by decide +kernel)⟩
set_option maxRecDepth 100000 in
theorem oTX1_read : okT (16, 1, 0, false, kX1_read_0) := ⟨by decide +kernel, rfl, rfl, fun h => absurd h (by decide), xexdk_f (cc := cX1_read) (by decide +kernel) (by decide +kernel)⟩
set_option maxRecDepth 100000 in
theorem oTX1_startOn : okT (17, 1, 0, false, kX1_startOn_0) := ⟨by decide +kernel, rfl, rfl, fun h => absurd h (by decide), xexdk_f (cc := cX1_startOn) (by decide +kernel) (by decide +kernel)⟩
set_option maxRecDepth 100000 in
theorem oTX1_note : okT (18, 1, 0, false, kX1_note_0) := ⟨by decide +kernel, rfl, rfl, fun h => absurd h (by decide), xexdk_f (cc := cX1_note) (by decide +kernel) (by decide +kernel)⟩
set_option maxRecDepth 100000 in
theorem oTX1_refuse : okT (19, 1, 4, false, kX1_refuse_0) := ⟨by decide +kernel, rfl, rfl, fun h => absurd h (by decide), xexdk_f (cc := cX1_refuse) (by decide +kernel) (by decide +kernel)⟩
set_option maxRecDepth 100000 in
theorem oTX1_wordsOf : okT (20, 1, 3, false, kX1_wordsOf_0) := ⟨by decide +kernel, rfl, Or.inl ⟨_, rfl⟩, fun h => absurd h (by decide), xexdk_f (cc := cX1_wordsOf) (by decide +kernel) (by decide +kernel)⟩
set_option maxRecDepth 100000 in
theorem oTX1_formsOf : okT (21, 1, 3, false, kX1_formsOf_0) := ⟨by decide +kernel, rfl, Or.inl ⟨_, rfl⟩, fun h => absurd h (by decide), xexdk_f (cc := cX1_formsOf) (by decide +kernel) (by decide +kernel)⟩
set_option maxRecDepth 100000 in
theorem oTX1_readLine : okT (22, 1, 4, false, kX1_readLine_0) := ⟨by decide +kernel, rfl, rfl, fun h => absurd h (by decide), xexdk_f (cc := cX1_readLine) (by decide +kernel) (by decide +kernel)⟩
set_option maxRecDepth 100000 in
theorem oTX1_countLine : okT (23, 1, 0, false, kX1_countLine_0) := ⟨by decide +kernel, rfl, rfl, fun h => absurd h (by decide), xexdk_f (cc := cX1_countLine) (by decide +kernel) (by decide +kernel)⟩
set_option maxRecDepth 100000 in
theorem oTX1_readPart : okT (24, 1, 4, false, kX1_readPart_0) := ⟨by decide +kernel, rfl, rfl, fun h => absurd h (by decide), xexdk_f (cc := cX1_readPart) (by decide +kernel) (by decide +kernel)⟩
set_option maxRecDepth 100000 in
theorem oTX1_choicesOf : okT (25, 1, 3, false, kX1_choicesOf_0) := ⟨by decide +kernel, rfl, Or.inl ⟨_, rfl⟩, fun h => absurd h (by decide), xexdk_f (cc := cX1_choicesOf) (by decide +kernel) (by decide +kernel)⟩
set_option maxRecDepth 100000 in
theorem oTX1_readSemicolon : okT (26, 1, 4, false, kX1_readSemicolon_0) := ⟨by decide +kernel, rfl, rfl, fun h => absurd h (by decide), xexdk_f (cc := cX1_readSemicolon) (by decide +kernel) (by decide +kernel)⟩
set_option maxRecDepth 100000 in
theorem oTX1_readNumber : okT (27, 1, 4, false, kX1_readNumber_0) := ⟨by decide +kernel, rfl, rfl, fun h => absurd h (by decide), xexdk_f (cc := cX1_readNumber) (by decide +kernel) (by decide +kernel)⟩
set_option maxRecDepth 100000 in
theorem oTX1_leastOf : okT (28, 1, 1, false, kX1_leastOf_0) := ⟨by decide +kernel, rfl, rfl, fun h => absurd h (by decide), xexdk_f (cc := cX1_leastOf) (by decide +kernel) (by decide +kernel)⟩
set_option maxRecDepth 100000 in
theorem oTX1_mostOf : okT (29, 1, 1, false, kX1_mostOf_0) := ⟨by decide +kernel, rfl, rfl, fun h => absurd h (by decide), xexdk_f (cc := cX1_mostOf) (by decide +kernel) (by decide +kernel)⟩
set_option maxRecDepth 100000 in
theorem oTX1_take : okT (30, 1, 0, false, kX1_take_0) := ⟨by decide +kernel, rfl, rfl, fun h => absurd h (by decide), xexdk_f (cc := cX1_take) (by decide +kernel) (by decide +kernel)⟩
set_option maxRecDepth 100000 in
theorem oTX1_takeToldOf : okT (31, 1, 0, false, kX1_takeToldOf_0) := ⟨by decide +kernel, rfl, rfl, fun h => absurd h (by decide), xexdk_f (cc := cX1_takeToldOf) (by decide +kernel) (by decide +kernel)⟩
set_option maxRecDepth 100000 in
theorem oTX1_takeOrder : okT (32, 1, 0, false, kX1_takeOrder_0) := ⟨by decide +kernel, rfl, rfl, fun h => absurd h (by decide), xexdk_f (cc := cX1_takeOrder) (by decide +kernel) (by decide +kernel)⟩
set_option maxRecDepth 100000 in
theorem oTX1_chosen : okT (33, 1, 1, false, kX1_chosen_0) := ⟨by decide +kernel, rfl, rfl, fun h => absurd h (by decide), xexdk_f (cc := cX1_chosen) (by decide +kernel) (by decide +kernel)⟩
set_option maxRecDepth 100000 in
theorem oTX1_isToken : okT (34, 1, 4, false, kX1_isToken_0) := ⟨by decide +kernel, rfl, rfl, fun h => absurd h (by decide), xexdk_f (cc := cX1_isToken) (by decide +kernel) (by decide +kernel)⟩
set_option maxRecDepth 100000 in
theorem oTX1_startOf : okT (35, 1, 1, false, kX1_startOf_0) := ⟨by decide +kernel, rfl, rfl, fun h => absurd h (by decide), xexdk_f (cc := cX1_startOf) (by decide +kernel) (by decide +kernel)⟩
set_option maxRecDepth 100000 in
theorem oTX1_advance : okT (36, 1, 0, false, kX1_advance_0) := ⟨by decide +kernel, rfl, rfl, fun h => absurd h (by decide), xexdk_f (cc := cX1_advance) (by decide +kernel) (by decide +kernel)⟩
set_option maxRecDepth 100000 in
theorem oTX1_isBlank : okT (37, 1, 4, false, kX1_isBlank_0) := ⟨by decide +kernel, rfl, rfl, fun h => absurd h (by decide), xexdk_f (cc := cX1_isBlank) (by decide +kernel) (by decide +kernel)⟩
set_option maxRecDepth 100000 in
theorem oTX1_isLetter : okT (38, 1, 4, false, kX1_isLetter_0) := ⟨by decide +kernel, rfl, rfl, fun h => absurd h (by decide), xexdk_f (cc := cX1_isLetter) (by decide +kernel) (by decide +kernel)⟩
set_option maxRecDepth 100000 in
theorem oTX1_isDigit : okT (39, 1, 4, false, kX1_isDigit_0) := ⟨by decide +kernel, rfl, rfl, fun h => absurd h (by decide), xexdk_f (cc := cX1_isDigit) (by decide +kernel) (by decide +kernel)⟩
set_option maxRecDepth 100000 in
theorem oTX2_init : okT (40, 2, 0, true, kX2_init_0) := ⟨by decide +kernel, rfl, rfl, fun _ => rfl, xexdk_f (cc := cX2_init) (by decide +kernel) (by decide +kernel)⟩
set_option maxRecDepth 100000 in
theorem oTX2_clear : okT (41, 2, 0, false, kX2_clear_0) := ⟨by decide +kernel, rfl, rfl, fun h => absurd h (by decide), xexdk_f (cc := cX2_clear) (by decide +kernel) (by decide +kernel)⟩
set_option maxRecDepth 100000 in
theorem oTX2_copyRepublic : okT (42, 2, 0, false, kX2_copyRepublic_0) := ⟨by decide +kernel, rfl, rfl, fun h => absurd h (by decide), xexdk_f (cc := cX2_copyRepublic) (by decide +kernel) (by decide +kernel)⟩
set_option maxRecDepth 100000 in
theorem oTX2_takeLine : okT (43, 2, 0, false, kX2_takeLine_0) := ⟨by decide +kernel, rfl, rfl, fun h => absurd h (by decide), xexdk_f (cc := cX2_takeLine) (by decide +kernel) (by decide +kernel)⟩
set_option maxRecDepth 100000 in
theorem oTX2_addMinister : okT (44, 2, 0, false, kX2_addMinister_0) := ⟨by decide +kernel, rfl, rfl, fun h => absurd h (by decide), xexdk_f (cc := cX2_addMinister) (by decide +kernel) (by decide +kernel)⟩
set_option maxRecDepth 100000 in
theorem oTX2_setNumber : okT (45, 2, 0, false, kX2_setNumber_0) := ⟨by decide +kernel, rfl, rfl, fun h => absurd h (by decide), xexdk_f (cc := cX2_setNumber) (by decide +kernel) (by decide +kernel)⟩
set_option maxRecDepth 100000 in
theorem oTX2_isMinister : okT (46, 2, 4, false, kX2_isMinister_0) := ⟨by decide +kernel, rfl, rfl, fun h => absurd h (by decide), xexdk_f (cc := cX2_isMinister) (by decide +kernel) (by decide +kernel)⟩
set_option maxRecDepth 100000 in
theorem oTX2_everybody : okT (47, 2, 1, false, kX2_everybody_0) := ⟨by decide +kernel, rfl, rfl, fun h => absurd h (by decide), xexdk_f (cc := cX2_everybody) (by decide +kernel) (by decide +kernel)⟩
set_option maxRecDepth 100000 in
theorem oTX2_want : okT (48, 2, 1, false, kX2_want_0) := ⟨by decide +kernel, rfl, rfl, fun h => absurd h (by decide), xexdk_f (cc := cX2_want) (by decide +kernel) (by decide +kernel)⟩
set_option maxRecDepth 100000 in
theorem oTX2_distance : okT (49, 2, 1, false, kX2_distance_0) := ⟨by decide +kernel, rfl, rfl, fun h => absurd h (by decide), xexdk_f (cc := cX2_distance) (by decide +kernel) (by decide +kernel)⟩
set_option maxRecDepth 100000 in
theorem oTX2_patience : okT (50, 2, 1, false, kX2_patience_0) := ⟨by decide +kernel, rfl, rfl, fun h => absurd h (by decide), xexdk_f (cc := cX2_patience) (by decide +kernel) (by decide +kernel)⟩
set_option maxRecDepth 100000 in
theorem oTX2_agreeing : okT (51, 2, 1, false, kX2_agreeing_0) := ⟨by decide +kernel, rfl, rfl, fun h => absurd h (by decide), xexdk_f (cc := cX2_agreeing) (by decide +kernel) (by decide +kernel)⟩
set_option maxRecDepth 100000 in
theorem oTX2_votesOf : okT (52, 2, 1, false, kX2_votesOf_0) := ⟨by decide +kernel, rfl, rfl, fun h => absurd h (by decide), xexdk_f (cc := cX2_votesOf) (by decide +kernel) (by decide +kernel)⟩
set_option maxRecDepth 100000 in
theorem oTX2_isPassed : okT (53, 2, 4, false, kX2_isPassed_0) := ⟨by decide +kernel, rfl, rfl, fun h => absurd h (by decide), xexdk_f (cc := cX2_isPassed) (by decide +kernel) (by decide +kernel)⟩
set_option maxRecDepth 100000 in
theorem oTX2_areSeats : okT (54, 2, 4, false, kX2_areSeats_0) := ⟨by decide +kernel, rfl, rfl, fun h => absurd h (by decide), xexdk_f (cc := cX2_areSeats) (by decide +kernel) (by decide +kernel)⟩
set_option maxRecDepth 100000 in
theorem oTX2_proposal : okT (55, 2, 1, false, kX2_proposal_0) := ⟨by decide +kernel, rfl, rfl, fun h => absurd h (by decide), xexdk_f (cc := cX2_proposal) (by decide +kernel) (by decide +kernel)⟩
set_option maxRecDepth 100000 in
theorem oTX3_init : okT (56, 3, 0, true, kX3_init_0) := ⟨by decide +kernel, rfl, rfl, fun _ => rfl, xexdk_f (cc := cX3_init) (by decide +kernel) (by decide +kernel)⟩
set_option maxRecDepth 100000 in
theorem oTX3_clear : okT (57, 3, 0, false, kX3_clear_0) := ⟨by decide +kernel, rfl, rfl, fun h => absurd h (by decide), xexdk_f (cc := cX3_clear) (by decide +kernel) (by decide +kernel)⟩
set_option maxRecDepth 100000 in
theorem oTX3_copyRows : okT (58, 3, 0, false, kX3_copyRows_0) := ⟨by decide +kernel, rfl, rfl, fun h => absurd h (by decide), xexdk_f (cc := cX3_copyRows) (by decide +kernel) (by decide +kernel)⟩
set_option maxRecDepth 100000 in
theorem oTX3_part : okT (59, 3, 1, false, kX3_part_0) := ⟨by decide +kernel, rfl, rfl, fun h => absurd h (by decide), xexdk_f (cc := cX3_part) (by decide +kernel) (by decide +kernel)⟩
set_option maxRecDepth 100000 in
theorem oTX3_set : okT (60, 3, 0, false, kX3_set_0) := ⟨by decide +kernel, rfl, rfl, fun h => absurd h (by decide), xexdk_f (cc := cX3_set) (by decide +kernel) (by decide +kernel)⟩
set_option maxRecDepth 100000 in
theorem oTX3_dayFrom : okT (61, 3, 1, false, kX3_dayFrom_0) := ⟨by decide +kernel, rfl, rfl, fun h => absurd h (by decide), xexdk_f (cc := cX3_dayFrom) (by decide +kernel) (by decide +kernel)⟩
set_option maxRecDepth 100000 in
theorem oTX3_add : okT (62, 3, 0, false, kX3_add_0) := ⟨by decide +kernel, rfl, rfl, fun h => absurd h (by decide), xexdk_f (cc := cX3_add) (by decide +kernel) (by decide +kernel)⟩
set_option maxRecDepth 100000 in
theorem oTX4_init : okT (63, 4, 0, true, kX4_init_0) := ⟨by decide +kernel, rfl, rfl, fun _ => rfl, xexdk_f (cc := cX4_init) (by decide +kernel) (by decide +kernel)⟩
set_option maxRecDepth 100000 in
theorem oTX4_settle : okT (64, 4, 0, false, kX4_settle_0) := ⟨by decide +kernel, rfl, rfl, fun h => absurd h (by decide), xexdk_f (cc := cX4_settle) (by decide +kernel) (by decide +kernel)⟩
set_option maxRecDepth 100000 in
theorem oTX4_can : okT (65, 4, 4, false, kX4_can_0) := ⟨by decide +kernel, rfl, rfl, fun h => absurd h (by decide), xexdk_f (cc := cX4_can) (by decide +kernel) (by decide +kernel)⟩
set_option maxRecDepth 100000 in
theorem oTX4_bring : okT (66, 4, 0, false, kX4_bring_0) := ⟨by decide +kernel, rfl, rfl, fun h => absurd h (by decide), xexdk_f (cc := cX4_bring) (by decide +kernel) (by decide +kernel)⟩
set_option maxRecDepth 100000 in
theorem oTX5_init : okT (67, 5, 0, true, kX5_init_0) := ⟨by decide +kernel, rfl, rfl, fun _ => rfl, xexdk_f (cc := cX5_init) (by decide +kernel) (by decide +kernel)⟩
set_option maxRecDepth 100000 in
theorem oTX5_republicKept : okT (68, 5, 3, false, kX5_republicKept_0) := ⟨by decide +kernel, rfl, Or.inl ⟨_, rfl⟩, fun h => absurd h (by decide), xexdk_f (cc := cX5_republicKept) (by decide +kernel) (by decide +kernel)⟩
set_option maxRecDepth 100000 in
theorem oTX5_rowsKept : okT (69, 5, 3, false, kX5_rowsKept_0) := ⟨by decide +kernel, rfl, Or.inl ⟨_, rfl⟩, fun h => absurd h (by decide), xexdk_f (cc := cX5_rowsKept) (by decide +kernel) (by decide +kernel)⟩
set_option maxRecDepth 100000 in
theorem oTX5_copyTold : okT (70, 5, 0, false, kX5_copyTold_0) := ⟨by decide +kernel, rfl, rfl, fun h => absurd h (by decide), xexdk_f (cc := cX5_copyTold) (by decide +kernel) (by decide +kernel)⟩
set_option maxRecDepth 100000 in
theorem oTX6_init : okT (71, 6, 0, true, kX6_init_0) := ⟨by decide +kernel, rfl, rfl, fun _ => rfl, xexdk_f (cc := cX6_init) (by decide +kernel) (by decide +kernel)⟩
set_option maxRecDepth 100000 in
theorem oTX6_feed : okT (72, 6, 1, false, kX6_feed_0) := ⟨by decide +kernel, rfl, rfl, fun h => absurd h (by decide), xexdk_f (cc := cX6_feed) (by decide +kernel) (by decide +kernel)⟩
set_option maxRecDepth 100000 in
theorem oTX6_feedNumber : okT (73, 6, 0, false, kX6_feedNumber_0) := ⟨by decide +kernel, rfl, rfl, fun h => absurd h (by decide), xexdk_f (cc := cX6_feedNumber) (by decide +kernel) (by decide +kernel)⟩
set_option maxRecDepth 100000 in
theorem oTX6_end : okT (74, 6, 1, false, kX6_end_0) := ⟨by decide +kernel, rfl, rfl, fun h => absurd h (by decide), xexdk_f (cc := cX6_end) (by decide +kernel) (by decide +kernel)⟩
set_option maxRecDepth 100000 in
theorem oTX6_text : okT (75, 6, 1, false, kX6_text_0) := ⟨by decide +kernel, rfl, rfl, fun h => absurd h (by decide), xexdk_f (cc := cX6_text) (by decide +kernel) (by decide +kernel)⟩
set_option maxRecDepth 100000 in
theorem oTX6_placeFor : okT (76, 6, 1, false, kX6_placeFor_0) := ⟨by decide +kernel, rfl, rfl, fun h => absurd h (by decide), xexdk_f (cc := cX6_placeFor) (by decide +kernel) (by decide +kernel)⟩
set_option maxRecDepth 100000 in
theorem oTX6_keep : okT (77, 6, 0, false, kX6_keep_0) := ⟨by decide +kernel, rfl, rfl, fun h => absurd h (by decide), xexdk_f (cc := cX6_keep) (by decide +kernel) (by decide +kernel)⟩
set_option maxRecDepth 100000 in
theorem oTX6_fault : okT (78, 6, 1, false, kX6_fault_0) := ⟨by decide +kernel, rfl, rfl, fun h => absurd h (by decide), xexdk_f (cc := cX6_fault) (by decide +kernel) (by decide +kernel)⟩
set_option maxRecDepth 100000 in
theorem oTX6_count : okT (79, 6, 1, false, kX6_count_0) := ⟨by decide +kernel, rfl, rfl, fun h => absurd h (by decide), xexdk_f (cc := cX6_count) (by decide +kernel) (by decide +kernel)⟩
set_option maxRecDepth 100000 in
theorem oTX6_image : okT (80, 6, 4, false, kX6_image_0) := ⟨by decide +kernel, rfl, rfl, fun h => absurd h (by decide), xexdk_f (cc := cX6_image) (by decide +kernel) (by decide +kernel)⟩
set_option maxRecDepth 100000 in
theorem oTX6_again : okT (81, 6, 4, false, kX6_again_0) := ⟨by decide +kernel, rfl, rfl, fun h => absurd h (by decide), xexdk_f (cc := cX6_again) (by decide +kernel) (by decide +kernel)⟩
set_option maxRecDepth 100000 in
theorem oTX6_republicAt : okT (82, 6, 3, false, kX6_republicAt_0) := ⟨by decide +kernel, rfl, Or.inl ⟨_, rfl⟩, fun h => absurd h (by decide), xexdk_f (cc := cX6_republicAt) (by decide +kernel) (by decide +kernel)⟩
set_option maxRecDepth 100000 in
theorem oTX6_rowsAt : okT (83, 6, 3, false, kX6_rowsAt_0) := ⟨by decide +kernel, rfl, Or.inl ⟨_, rfl⟩, fun h => absurd h (by decide), xexdk_f (cc := cX6_rowsAt) (by decide +kernel) (by decide +kernel)⟩
set_option maxRecDepth 100000 in
theorem oTX6_republic : okT (84, 6, 1, false, kX6_republic_0) := ⟨by decide +kernel, rfl, rfl, fun h => absurd h (by decide), xexdk_f (cc := cX6_republic) (by decide +kernel) (by decide +kernel)⟩
set_option maxRecDepth 100000 in
theorem oTX6_minister : okT (85, 6, 1, false, kX6_minister_0) := ⟨by decide +kernel, rfl, rfl, fun h => absurd h (by decide), xexdk_f (cc := cX6_minister) (by decide +kernel) (by decide +kernel)⟩
set_option maxRecDepth 100000 in
theorem oTX6_order : okT (86, 6, 1, false, kX6_order_0) := ⟨by decide +kernel, rfl, rfl, fun h => absurd h (by decide), xexdk_f (cc := cX6_order) (by decide +kernel) (by decide +kernel)⟩
set_option maxRecDepth 100000 in
theorem oTX6_deed : okT (87, 6, 1, false, kX6_deed_0) := ⟨by decide +kernel, rfl, rfl, fun h => absurd h (by decide), xexdk_f (cc := cX6_deed) (by decide +kernel) (by decide +kernel)⟩
set_option maxRecDepth 100000 in
theorem oTX6_leak : okT (88, 6, 1, false, kX6_leak_0) := ⟨by decide +kernel, rfl, rfl, fun h => absurd h (by decide), xexdk_f (cc := cX6_leak) (by decide +kernel) (by decide +kernel)⟩
set_option maxRecDepth 100000 in
theorem oTX6_was : okT (89, 6, 1, false, kX6_was_0) := ⟨by decide +kernel, rfl, rfl, fun h => absurd h (by decide), xexdk_f (cc := cX6_was) (by decide +kernel) (by decide +kernel)⟩
set_option maxRecDepth 100000 in
theorem oTX6_rowTold : okT (90, 6, 1, false, kX6_rowTold_0) := ⟨by decide +kernel, rfl, rfl, fun h => absurd h (by decide), xexdk_f (cc := cX6_rowTold) (by decide +kernel) (by decide +kernel)⟩
set_option maxRecDepth 100000 in
theorem oTX6_movedIn : okT (91, 6, 3, false, kX6_movedIn_0) := ⟨by decide +kernel, rfl, Or.inl ⟨_, rfl⟩, fun h => absurd h (by decide), xexdk_f (cc := cX6_movedIn) (by decide +kernel) (by decide +kernel)⟩
set_option maxRecDepth 100000 in
theorem oTX6_off : okT (92, 6, 1, false, kX6_off_0) := ⟨by decide +kernel, rfl, rfl, fun h => absurd h (by decide), xexdk_f (cc := cX6_off) (by decide +kernel) (by decide +kernel)⟩
set_option maxRecDepth 100000 in
theorem oTX6_vote : okT (93, 6, 1, false, kX6_vote_0) := ⟨by decide +kernel, rfl, rfl, fun h => absurd h (by decide), xexdk_f (cc := cX6_vote) (by decide +kernel) (by decide +kernel)⟩
set_option maxRecDepth 100000 in
theorem oTX6_broken : okT (94, 6, 1, false, kX6_broken_0) := ⟨by decide +kernel, rfl, rfl, fun h => absurd h (by decide), xexdk_f (cc := cX6_broken) (by decide +kernel) (by decide +kernel)⟩
set_option maxRecDepth 100000 in
theorem oTX6_firstBroken : okT (95, 6, 1, false, kX6_firstBroken_0) := ⟨by decide +kernel, rfl, rfl, fun h => absurd h (by decide), xexdk_f (cc := cX6_firstBroken) (by decide +kernel) (by decide +kernel)⟩
set_option maxRecDepth 100000 in
theorem oTX6_isBroken : okT (96, 6, 4, false, kX6_isBroken_0) := ⟨by decide +kernel, rfl, rfl, fun h => absurd h (by decide), xexdk_f (cc := cX6_isBroken) (by decide +kernel) (by decide +kernel)⟩
set_option maxRecDepth 100000 in
theorem oTX6_stop : okT (97, 6, 1, false, kX6_stop_0) := ⟨by decide +kernel, rfl, rfl, fun h => absurd h (by decide), xexdk_f (cc := cX6_stop) (by decide +kernel) (by decide +kernel)⟩
set_option maxRecDepth 100000 in
theorem oTX6_state : okT (98, 6, 1, false, kX6_state_0) := ⟨by decide +kernel, rfl, rfl, fun h => absurd h (by decide), xexdk_f (cc := cX6_state) (by decide +kernel) (by decide +kernel)⟩
set_option maxRecDepth 100000 in
theorem oTX6_stateTold : okT (99, 6, 1, false, kX6_stateTold_0) := ⟨by decide +kernel, rfl, rfl, fun h => absurd h (by decide), xexdk_f (cc := cX6_stateTold) (by decide +kernel) (by decide +kernel)⟩
set_option maxRecDepth 100000 in
theorem oTX6_drawn : okT (100, 6, 1, false, kX6_drawn_0) := ⟨by decide +kernel, rfl, rfl, fun h => absurd h (by decide), xexdk_f (cc := cX6_drawn) (by decide +kernel) (by decide +kernel)⟩
set_option maxRecDepth 100000 in
theorem oTX6_agreed : okT (101, 6, 1, false, kX6_agreed_0) := ⟨by decide +kernel, rfl, rfl, fun h => absurd h (by decide), xexdk_f (cc := cX6_agreed) (by decide +kernel) (by decide +kernel)⟩
set_option maxRecDepth 100000 in
theorem oTX6_isAgreed : okT (102, 6, 4, false, kX6_isAgreed_0) := ⟨by decide +kernel, rfl, rfl, fun h => absurd h (by decide), xexdk_f (cc := cX6_isAgreed) (by decide +kernel) (by decide +kernel)⟩
set_option maxRecDepth 100000 in
theorem oTX6_manyAgreed : okT (103, 6, 1, false, kX6_manyAgreed_0) := ⟨by decide +kernel, rfl, rfl, fun h => absurd h (by decide), xexdk_f (cc := cX6_manyAgreed) (by decide +kernel) (by decide +kernel)⟩
set_option maxRecDepth 100000 in
theorem oTX6_bestAgreed : okT (104, 6, 1, false, kX6_bestAgreed_0) := ⟨by decide +kernel, rfl, rfl, fun h => absurd h (by decide), xexdk_f (cc := cX6_bestAgreed) (by decide +kernel) (by decide +kernel)⟩
set_option maxRecDepth 100000 in
theorem oTX6_rank : okT (105, 6, 1, false, kX6_rank_0) := ⟨by decide +kernel, rfl, rfl, fun h => absurd h (by decide), xexdk_f (cc := cX6_rank) (by decide +kernel) (by decide +kernel)⟩
set_option maxRecDepth 100000 in
theorem oTX6_power : okT (106, 6, 1, false, kX6_power_0) := ⟨by decide +kernel, rfl, rfl, fun h => absurd h (by decide), xexdk_f (cc := cX6_power) (by decide +kernel) (by decide +kernel)⟩
set_option maxRecDepth 100000 in
theorem oTX6_rowsDecided : okT (107, 6, 1, false, kX6_rowsDecided_0) := ⟨by decide +kernel, rfl, rfl, fun h => absurd h (by decide), xexdk_f (cc := cX6_rowsDecided) (by decide +kernel) (by decide +kernel)⟩
set_option maxRecDepth 100000 in
theorem oTX6_coalition : okT (108, 6, 1, false, kX6_coalition_0) := ⟨by decide +kernel, rfl, rfl, fun h => absurd h (by decide), xexdk_f (cc := cX6_coalition) (by decide +kernel) (by decide +kernel)⟩
set_option maxRecDepth 100000 in
theorem oTX6_keyMinisters : okT (109, 6, 1, false, kX6_keyMinisters_0) := ⟨by decide +kernel, rfl, rfl, fun h => absurd h (by decide), xexdk_f (cc := cX6_keyMinisters) (by decide +kernel) (by decide +kernel)⟩
set_option maxRecDepth 100000 in
theorem oTX6_leastCoalition : okT (110, 6, 1, false, kX6_leastCoalition_0) := ⟨by decide +kernel, rfl, rfl, fun h => absurd h (by decide), xexdk_f (cc := cX6_leastCoalition) (by decide +kernel) (by decide +kernel)⟩
set_option maxRecDepth 100000 in
theorem oTX6_isLeastCoalition : okT (111, 6, 4, false, kX6_isLeastCoalition_0) := ⟨by decide +kernel, rfl, rfl, fun h => absurd h (by decide), xexdk_f (cc := cX6_isLeastCoalition) (by decide +kernel) (by decide +kernel)⟩
set_option maxRecDepth 100000 in
theorem oTX6_bribe : okT (112, 6, 1, false, kX6_bribe_0) := ⟨by decide +kernel, rfl, rfl, fun h => absurd h (by decide), xexdk_f (cc := cX6_bribe) (by decide +kernel) (by decide +kernel)⟩
set_option maxRecDepth 100000 in
theorem oTX6_bribeOf : okT (113, 6, 1, false, kX6_bribeOf_0) := ⟨by decide +kernel, rfl, rfl, fun h => absurd h (by decide), xexdk_f (cc := cX6_bribeOf) (by decide +kernel) (by decide +kernel)⟩
set_option maxRecDepth 100000 in
theorem oTX6_lobby : okT (114, 6, 1, false, kX6_lobby_0) := ⟨by decide +kernel, rfl, rfl, fun h => absurd h (by decide), xexdk_f (cc := cX6_lobby) (by decide +kernel) (by decide +kernel)⟩
set_option maxRecDepth 100000 in
theorem oTX6_isRest : okT (115, 6, 4, false, kX6_isRest_0) := ⟨by decide +kernel, rfl, rfl, fun h => absurd h (by decide), xexdk_f (cc := cX6_isRest) (by decide +kernel) (by decide +kernel)⟩
set_option maxRecDepth 100000 in
theorem oTX6_gain : okT (116, 6, 1, false, kX6_gain_0) := ⟨by decide +kernel, rfl, rfl, fun h => absurd h (by decide), xexdk_f (cc := cX6_gain) (by decide +kernel) (by decide +kernel)⟩
set_option maxRecDepth 100000 in
theorem oTX6_boughtBy : okT (117, 6, 1, false, kX6_boughtBy_0) := ⟨by decide +kernel, rfl, rfl, fun h => absurd h (by decide), xexdk_f (cc := cX6_boughtBy) (by decide +kernel) (by decide +kernel)⟩
set_option maxRecDepth 100000 in
theorem oTX6_bargain : okT (118, 6, 1, false, kX6_bargain_0) := ⟨by decide +kernel, rfl, rfl, fun h => absurd h (by decide), xexdk_f (cc := cX6_bargain) (by decide +kernel) (by decide +kernel)⟩
set_option maxRecDepth 100000 in
theorem oTX6_leavers : okT (119, 6, 1, false, kX6_leavers_0) := ⟨by decide +kernel, rfl, rfl, fun h => absurd h (by decide), xexdk_f (cc := cX6_leavers) (by decide +kernel) (by decide +kernel)⟩
set_option maxRecDepth 100000 in
theorem oTX6_sharesOf : okT (120, 6, 1, false, kX6_sharesOf_0) := ⟨by decide +kernel, rfl, rfl, fun h => absurd h (by decide), xexdk_f (cc := cX6_sharesOf) (by decide +kernel) (by decide +kernel)⟩
set_option maxRecDepth 100000 in
theorem oTX6_nature : okT (121, 6, 1, false, kX6_nature_0) := ⟨by decide +kernel, rfl, rfl, fun h => absurd h (by decide), xexdk_f (cc := cX6_nature) (by decide +kernel) (by decide +kernel)⟩
set_option maxRecDepth 100000 in
theorem oTX6_firstWrong : okT (122, 6, 1, false, kX6_firstWrong_0) := ⟨by decide +kernel, rfl, rfl, fun h => absurd h (by decide), xexdk_f (cc := cX6_firstWrong) (by decide +kernel) (by decide +kernel)⟩
set_option maxRecDepth 100000 in
theorem oTX6_mend : okT (123, 6, 1, false, kX6_mend_0) := ⟨by decide +kernel, rfl, rfl, fun h => absurd h (by decide), xexdk_f (cc := cX6_mend) (by decide +kernel) (by decide +kernel)⟩
set_option maxRecDepth 100000 in
theorem oTX6_seats : okT (124, 6, 1, false, kX6_seats_0) := ⟨by decide +kernel, rfl, rfl, fun h => absurd h (by decide), xexdk_f (cc := cX6_seats) (by decide +kernel) (by decide +kernel)⟩
set_option maxRecDepth 100000 in
theorem oTX6_findFitting : okT (125, 6, 1, false, kX6_findFitting_0) := ⟨by decide +kernel, rfl, rfl, fun h => absurd h (by decide), xexdk_f (cc := cX6_findFitting) (by decide +kernel) (by decide +kernel)⟩
set_option maxRecDepth 100000 in
theorem oTX6_isFit : okT (126, 6, 4, false, kX6_isFit_0) := ⟨by decide +kernel, rfl, rfl, fun h => absurd h (by decide), xexdk_f (cc := cX6_isFit) (by decide +kernel) (by decide +kernel)⟩
set_option maxRecDepth 100000 in
theorem oTX6_tellingSeason : okT (127, 6, 1, false, kX6_tellingSeason_0) := ⟨by decide +kernel, rfl, rfl, fun h => absurd h (by decide), xexdk_f (cc := cX6_tellingSeason) (by decide +kernel) (by decide +kernel)⟩
set_option maxRecDepth 100000 in
theorem oTX6_unlikeProposals : okT (128, 6, 1, false, kX6_unlikeProposals_0) := ⟨by decide +kernel, rfl, rfl, fun h => absurd h (by decide), xexdk_f (cc := cX6_unlikeProposals) (by decide +kernel) (by decide +kernel)⟩
set_option maxRecDepth 100000 in
theorem oTX6_reshuffle : okT (129, 6, 1, false, kX6_reshuffle_0) := ⟨by decide +kernel, rfl, rfl, fun h => absurd h (by decide), xexdk_f (cc := cX6_reshuffle) (by decide +kernel) (by decide +kernel)⟩
set_option maxRecDepth 100000 in
theorem oTX6_wetSeasons : okT (130, 6, 1, false, kX6_wetSeasons_0) := ⟨by decide +kernel, rfl, rfl, fun h => absurd h (by decide), xexdk_f (cc := cX6_wetSeasons) (by decide +kernel) (by decide +kernel)⟩
set_option maxRecDepth 100000 in
theorem oTX6_fits : okT (131, 6, 1, false, kX6_fits_0) := ⟨by decide +kernel, rfl, rfl, fun h => absurd h (by decide), xexdk_f (cc := cX6_fits) (by decide +kernel) (by decide +kernel)⟩
set_option maxRecDepth 100000 in
theorem oTX6_areThere : okT (132, 6, 4, false, kX6_areThere_0) := ⟨by decide +kernel, rfl, rfl, fun h => absurd h (by decide), xexdk_f (cc := cX6_areThere) (by decide +kernel) (by decide +kernel)⟩
set_option maxRecDepth 100000 in
theorem oTX6_unfit : okT (133, 6, 1, false, kX6_unfit_0) := ⟨by decide +kernel, rfl, rfl, fun h => absurd h (by decide), xexdk_f (cc := cX6_unfit) (by decide +kernel) (by decide +kernel)⟩
set_option maxRecDepth 100000 in
theorem oTX6_manyFitting : okT (134, 6, 1, false, kX6_manyFitting_0) := ⟨by decide +kernel, rfl, rfl, fun h => absurd h (by decide), xexdk_f (cc := cX6_manyFitting) (by decide +kernel) (by decide +kernel)⟩
set_option maxRecDepth 100000 in
theorem oTX6_likelyRain : okT (135, 6, 1, false, kX6_likelyRain_0) := ⟨by decide +kernel, rfl, rfl, fun h => absurd h (by decide), xexdk_f (cc := cX6_likelyRain) (by decide +kernel) (by decide +kernel)⟩
set_option maxRecDepth 100000 in
theorem oTX6_extreme : okT (136, 6, 1, false, kX6_extreme_0) := ⟨by decide +kernel, rfl, rfl, fun h => absurd h (by decide), xexdk_f (cc := cX6_extreme) (by decide +kernel) (by decide +kernel)⟩
set_option maxRecDepth 100000 in
theorem oTX6_lies : okT (137, 6, 1, false, kX6_lies_0) := ⟨by decide +kernel, rfl, rfl, fun h => absurd h (by decide), xexdk_f (cc := cX6_lies) (by decide +kernel) (by decide +kernel)⟩
set_option maxRecDepth 100000 in
theorem oTX6_isSeason : okT (138, 6, 4, false, kX6_isSeason_0) := ⟨by decide +kernel, rfl, rfl, fun h => absurd h (by decide), xexdk_f (cc := cX6_isSeason) (by decide +kernel) (by decide +kernel)⟩
set_option maxRecDepth 100000 in
theorem oTX6_isAmount : okT (139, 6, 4, false, kX6_isAmount_0) := ⟨by decide +kernel, rfl, rfl, fun h => absurd h (by decide), xexdk_f (cc := cX6_isAmount) (by decide +kernel) (by decide +kernel)⟩
set_option maxRecDepth 100000 in
theorem oTX6_dayOf : okT (140, 6, 1, false, kX6_dayOf_0) := ⟨by decide +kernel, rfl, rfl, fun h => absurd h (by decide), xexdk_f (cc := cX6_dayOf) (by decide +kernel) (by decide +kernel)⟩
set_option maxRecDepth 100000 in
theorem oTX6_numberOf : okT (141, 6, 1, false, kX6_numberOf_0) := ⟨by decide +kernel, rfl, rfl, fun h => absurd h (by decide), xexdk_f (cc := cX6_numberOf) (by decide +kernel) (by decide +kernel)⟩
set_option maxRecDepth 100000 in
theorem oTX6_amount : okT (142, 6, 1, false, kX6_amount_0) := ⟨by decide +kernel, rfl, rfl, fun h => absurd h (by decide), xexdk_f (cc := cX6_amount) (by decide +kernel) (by decide +kernel)⟩
set_option maxRecDepth 100000 in
theorem oTX6_has : okT (143, 6, 4, false, kX6_has_0) := ⟨by decide +kernel, rfl, rfl, fun h => absurd h (by decide), xexdk_f (cc := cX6_has) (by decide +kernel) (by decide +kernel)⟩
set_option maxRecDepth 100000 in
theorem oTX6_cell : okT (144, 6, 1, false, kX6_cell_0) := ⟨by decide +kernel, rfl, rfl, fun h => absurd h (by decide), xexdk_f (cc := cX6_cell) (by decide +kernel) (by decide +kernel)⟩
set_option maxRecDepth 100000 in
theorem oTX6_put : okT (145, 6, 0, false, kX6_put_0) := ⟨by decide +kernel, rfl, rfl, fun h => absurd h (by decide), xexdk_f (cc := cX6_put) (by decide +kernel) (by decide +kernel)⟩
set_option maxRecDepth 100000 in
theorem oTX6_copy : okT (146, 6, 0, false, kX6_copy_0) := ⟨by decide +kernel, rfl, rfl, fun h => absurd h (by decide), xexdk_f (cc := cX6_copy) (by decide +kernel) (by decide +kernel)⟩
set_option maxRecDepth 100000 in
theorem oTX6_fraction : okT (147, 6, 1, false, kX6_fraction_0) := ⟨by decide +kernel, rfl, rfl, fun h => absurd h (by decide), xexdk_f (cc := cX6_fraction) (by decide +kernel) (by decide +kernel)⟩
set_option maxRecDepth 100000 in
theorem oTX6_commonDivisor : okT (148, 6, 1, false, kX6_commonDivisor_0) := ⟨by decide +kernel, rfl, rfl, fun h => absurd h (by decide), xexdk_f (cc := cX6_commonDivisor) (by decide +kernel) (by decide +kernel)⟩
set_option maxRecDepth 100000 in
theorem oTX7_init : okT (149, 7, 0, true, kX7_init_0) := ⟨by decide +kernel, rfl, rfl, fun _ => rfl, xexdk_f (cc := cX7_init) (by decide +kernel) (by decide +kernel)⟩
set_option maxRecDepth 100000 in
theorem oTX7_isIn : okT (150, 7, 4, false, kX7_isIn_0) := ⟨by decide +kernel, rfl, rfl, fun h => absurd h (by decide), xexdk_f (cc := cX7_isIn) (by decide +kernel) (by decide +kernel)⟩
set_option maxRecDepth 100000 in
theorem oTX7_feed : okT (151, 7, 1, false, kX7_feed_0) := ⟨by decide +kernel, rfl, rfl, fun h => absurd h (by decide), xexdk_f (cc := cX7_feed) (by decide +kernel) (by decide +kernel)⟩
set_option maxRecDepth 100000 in
theorem oTX7_end : okT (152, 7, 1, false, kX7_end_0) := ⟨by decide +kernel, rfl, rfl, fun h => absurd h (by decide), xexdk_f (cc := cX7_end) (by decide +kernel) (by decide +kernel)⟩
set_option maxRecDepth 100000 in
theorem oTX7_byteAt : okT (153, 7, 1, false, kX7_byteAt_0) := ⟨by decide +kernel, rfl, rfl, fun h => absurd h (by decide), xexdk_f (cc := cX7_byteAt) (by decide +kernel) (by decide +kernel)⟩
set_option maxRecDepth 100000 in
theorem oTX7_isLetter : okT (154, 7, 4, false, kX7_isLetter_0) := ⟨by decide +kernel, rfl, rfl, fun h => absurd h (by decide), xexdk_f (cc := cX7_isLetter) (by decide +kernel) (by decide +kernel)⟩
set_option maxRecDepth 100000 in
theorem oTX7_isDigit : okT (155, 7, 4, false, kX7_isDigit_0) := ⟨by decide +kernel, rfl, rfl, fun h => absurd h (by decide), xexdk_f (cc := cX7_isDigit) (by decide +kernel) (by decide +kernel)⟩
set_option maxRecDepth 100000 in
theorem oTX7_four : okT (156, 7, 2, false, kX7_four_0) := ⟨by decide +kernel, rfl, rfl, fun h => absurd h (by decide), xexdk_f (cc := cX7_four) (by decide +kernel) (by decide +kernel)⟩
set_option maxRecDepth 100000 in
theorem oTX7_eight : okT (157, 7, 2, false, kX7_eight_0) := ⟨by decide +kernel, rfl, rfl, fun h => absurd h (by decide), xexdk_f (cc := cX7_eight) (by decide +kernel) (by decide +kernel)⟩
set_option maxRecDepth 100000 in
theorem oTX7_wordOf : okT (158, 7, 1, false, kX7_wordOf_0) := ⟨by decide +kernel, rfl, rfl, fun h => absurd h (by decide), xexdk_f (cc := cX7_wordOf) (by decide +kernel) (by decide +kernel)⟩
set_option maxRecDepth 100000 in
theorem oTX7_kindOrSeason : okT (159, 7, 1, false, kX7_kindOrSeason_0) := ⟨by decide +kernel, rfl, rfl, fun h => absurd h (by decide), xexdk_f (cc := cX7_kindOrSeason) (by decide +kernel) (by decide +kernel)⟩
set_option maxRecDepth 100000 in
theorem oTX7_otherWord : okT (160, 7, 1, false, kX7_otherWord_0) := ⟨by decide +kernel, rfl, rfl, fun h => absurd h (by decide), xexdk_f (cc := cX7_otherWord) (by decide +kernel) (by decide +kernel)⟩
set_option maxRecDepth 100000 in
theorem oTX7_advance : okT (161, 7, 0, false, kX7_advance_0) := ⟨by decide +kernel, rfl, rfl, fun h => absurd h (by decide), xexdk_f (cc := cX7_advance) (by decide +kernel) (by decide +kernel)⟩
set_option maxRecDepth 100000 in
theorem oTX7_ends : okT (162, 7, 0, false, kX7_ends_0) := ⟨by decide +kernel, rfl, rfl, fun h => absurd h (by decide), xexdk_f (cc := cX7_ends) (by decide +kernel) (by decide +kernel)⟩
set_option maxRecDepth 100000 in
theorem oTX7_also : okT (163, 7, 0, false, kX7_also_0) := ⟨by decide +kernel, rfl, rfl, fun h => absurd h (by decide), xexdk_f (cc := cX7_also) (by decide +kernel) (by decide +kernel)⟩
set_option maxRecDepth 100000 in
theorem oTX7_numbered : okT (164, 7, 1, false, kX7_numbered_0) := ⟨by decide +kernel, rfl, rfl, fun h => absurd h (by decide), xexdk_f (cc := cX7_numbered) (by decide +kernel) (by decide +kernel)⟩
set_option maxRecDepth 100000 in
theorem oTX7_takes : okT (165, 7, 1, false, kX7_takes_0) := ⟨by decide +kernel, rfl, rfl, fun h => absurd h (by decide), xexdk_f (cc := cX7_takes) (by decide +kernel) (by decide +kernel)⟩
set_option maxRecDepth 100000 in
theorem oTX7_endsLine : okT (166, 7, 0, false, kX7_endsLine_0) := ⟨by decide +kernel, rfl, rfl, fun h => absurd h (by decide), xexdk_f (cc := cX7_endsLine) (by decide +kernel) (by decide +kernel)⟩
set_option maxRecDepth 100000 in
theorem oTX7_kindTold : okT (167, 7, 1, false, kX7_kindTold_0) := ⟨by decide +kernel, rfl, rfl, fun h => absurd h (by decide), xexdk_f (cc := cX7_kindTold) (by decide +kernel) (by decide +kernel)⟩
set_option maxRecDepth 100000 in
theorem oTX7_seasonTold : okT (168, 7, 1, false, kX7_seasonTold_0) := ⟨by decide +kernel, rfl, rfl, fun h => absurd h (by decide), xexdk_f (cc := cX7_seasonTold) (by decide +kernel) (by decide +kernel)⟩
set_option maxRecDepth 100000 in
theorem oTX7_ministerTold : okT (169, 7, 1, false, kX7_ministerTold_0) := ⟨by decide +kernel, rfl, rfl, fun h => absurd h (by decide), xexdk_f (cc := cX7_ministerTold) (by decide +kernel) (by decide +kernel)⟩
set_option maxRecDepth 100000 in
theorem oTX7_ministerLine : okT (170, 7, 0, false, kX7_ministerLine_0) := ⟨by decide +kernel, rfl, rfl, fun h => absurd h (by decide), xexdk_f (cc := cX7_ministerLine) (by decide +kernel) (by decide +kernel)⟩
set_option maxRecDepth 100000 in
theorem oTX7_wantLine : okT (171, 7, 0, false, kX7_wantLine_0) := ⟨by decide +kernel, rfl, rfl, fun h => absurd h (by decide), xexdk_f (cc := cX7_wantLine) (by decide +kernel) (by decide +kernel)⟩
set_option maxRecDepth 100000 in
theorem oTX7_feudLine : okT (172, 7, 0, false, kX7_feudLine_0) := ⟨by decide +kernel, rfl, rfl, fun h => absurd h (by decide), xexdk_f (cc := cX7_feudLine) (by decide +kernel) (by decide +kernel)⟩
set_option maxRecDepth 100000 in
theorem oTX7_republicLine : okT (173, 7, 0, false, kX7_republicLine_0) := ⟨by decide +kernel, rfl, rfl, fun h => absurd h (by decide), xexdk_f (cc := cX7_republicLine) (by decide +kernel) (by decide +kernel)⟩
set_option maxRecDepth 100000 in
theorem oTX7_adds : okT (174, 7, 0, false, kX7_adds_0) := ⟨by decide +kernel, rfl, rfl, fun h => absurd h (by decide), xexdk_f (cc := cX7_adds) (by decide +kernel) (by decide +kernel)⟩
set_option maxRecDepth 100000 in
theorem oTX7_noLine : okT (175, 7, 0, false, kX7_noLine_0) := ⟨by decide +kernel, rfl, rfl, fun h => absurd h (by decide), xexdk_f (cc := cX7_noLine) (by decide +kernel) (by decide +kernel)⟩
set_option maxRecDepth 100000 in
theorem oTX7_orderLine : okT (176, 7, 0, false, kX7_orderLine_0) := ⟨by decide +kernel, rfl, rfl, fun h => absurd h (by decide), xexdk_f (cc := cX7_orderLine) (by decide +kernel) (by decide +kernel)⟩
set_option maxRecDepth 100000 in
theorem oTX7_yearLine : okT (177, 7, 0, false, kX7_yearLine_0) := ⟨by decide +kernel, rfl, rfl, fun h => absurd h (by decide), xexdk_f (cc := cX7_yearLine) (by decide +kernel) (by decide +kernel)⟩
set_option maxRecDepth 100000 in
theorem oTX7_leakLine : okT (178, 7, 0, false, kX7_leakLine_0) := ⟨by decide +kernel, rfl, rfl, fun h => absurd h (by decide), xexdk_f (cc := cX7_leakLine) (by decide +kernel) (by decide +kernel)⟩
set_option maxRecDepth 100000 in
theorem oTX7_summerLine : okT (179, 7, 0, false, kX7_summerLine_0) := ⟨by decide +kernel, rfl, rfl, fun h => absurd h (by decide), xexdk_f (cc := cX7_summerLine) (by decide +kernel) (by decide +kernel)⟩
set_option maxRecDepth 100000 in
theorem oTX7_bargainLine : okT (180, 7, 0, false, kX7_bargainLine_0) := ⟨by decide +kernel, rfl, rfl, fun h => absurd h (by decide), xexdk_f (cc := cX7_bargainLine) (by decide +kernel) (by decide +kernel)⟩
set_option maxRecDepth 100000 in
theorem oTX7_placeOf : okT (181, 7, 1, false, kX7_placeOf_0) := ⟨by decide +kernel, rfl, rfl, fun h => absurd h (by decide), xexdk_f (cc := cX7_placeOf) (by decide +kernel) (by decide +kernel)⟩
set_option maxRecDepth 100000 in
theorem oTX7_sizeOf : okT (182, 7, 1, false, kX7_sizeOf_0) := ⟨by decide +kernel, rfl, rfl, fun h => absurd h (by decide), xexdk_f (cc := cX7_sizeOf) (by decide +kernel) (by decide +kernel)⟩
set_option maxRecDepth 100000 in
theorem oTX7_isOf : okT (183, 7, 4, false, kX7_isOf_0) := ⟨by decide +kernel, rfl, rfl, fun h => absurd h (by decide), xexdk_f (cc := cX7_isOf) (by decide +kernel) (by decide +kernel)⟩
set_option maxRecDepth 100000 in
theorem oTX7_clears : okT (184, 7, 0, false, kX7_clears_0) := ⟨by decide +kernel, rfl, rfl, fun h => absurd h (by decide), xexdk_f (cc := cX7_clears) (by decide +kernel) (by decide +kernel)⟩
set_option maxRecDepth 100000 in
theorem oTX7_text : okT (185, 7, 1, false, kX7_text_0) := ⟨by decide +kernel, rfl, rfl, fun h => absurd h (by decide), xexdk_f (cc := cX7_text) (by decide +kernel) (by decide +kernel)⟩
set_option maxRecDepth 100000 in
theorem oTX7_fault : okT (186, 7, 1, false, kX7_fault_0) := ⟨by decide +kernel, rfl, rfl, fun h => absurd h (by decide), xexdk_f (cc := cX7_fault) (by decide +kernel) (by decide +kernel)⟩
set_option maxRecDepth 100000 in
theorem oTX7_isRepublic : okT (187, 7, 4, false, kX7_isRepublic_0) := ⟨by decide +kernel, rfl, rfl, fun h => absurd h (by decide), xexdk_f (cc := cX7_isRepublic) (by decide +kernel) (by decide +kernel)⟩
set_option maxRecDepth 100000 in
theorem oTX7_of : okT (188, 7, 1, false, kX7_of_0) := ⟨by decide +kernel, rfl, rfl, fun h => absurd h (by decide), xexdk_f (cc := cX7_of) (by decide +kernel) (by decide +kernel)⟩
set_option maxRecDepth 100000 in
theorem oTX7_ministers : okT (189, 7, 1, false, kX7_ministers_0) := ⟨by decide +kernel, rfl, rfl, fun h => absurd h (by decide), xexdk_f (cc := cX7_ministers) (by decide +kernel) (by decide +kernel)⟩
set_option maxRecDepth 100000 in
theorem oTX7_isMinister : okT (190, 7, 4, false, kX7_isMinister_0) := ⟨by decide +kernel, rfl, rfl, fun h => absurd h (by decide), xexdk_f (cc := cX7_isMinister) (by decide +kernel) (by decide +kernel)⟩
set_option maxRecDepth 100000 in
theorem oTX7_ofMinister : okT (191, 7, 1, false, kX7_ofMinister_0) := ⟨by decide +kernel, rfl, rfl, fun h => absurd h (by decide), xexdk_f (cc := cX7_ofMinister) (by decide +kernel) (by decide +kernel)⟩
set_option maxRecDepth 100000 in
theorem oTX7_wants : okT (192, 7, 1, false, kX7_wants_0) := ⟨by decide +kernel, rfl, rfl, fun h => absurd h (by decide), xexdk_f (cc := cX7_wants) (by decide +kernel) (by decide +kernel)⟩
set_option maxRecDepth 100000 in
theorem oTX7_republic : okT (193, 7, 1, false, kX7_republic_0) := ⟨by decide +kernel, rfl, rfl, fun h => absurd h (by decide), xexdk_f (cc := cX7_republic) (by decide +kernel) (by decide +kernel)⟩
set_option maxRecDepth 100000 in
theorem oTX7_minister : okT (194, 7, 1, false, kX7_minister_0) := ⟨by decide +kernel, rfl, rfl, fun h => absurd h (by decide), xexdk_f (cc := cX7_minister) (by decide +kernel) (by decide +kernel)⟩
set_option maxRecDepth 100000 in
theorem oTX7_amountOf : okT (195, 7, 1, false, kX7_amountOf_0) := ⟨by decide +kernel, rfl, rfl, fun h => absurd h (by decide), xexdk_f (cc := cX7_amountOf) (by decide +kernel) (by decide +kernel)⟩
set_option maxRecDepth 100000 in
theorem oTX7_talksOf : okT (196, 7, 0, false, kX7_talksOf_0) := ⟨by decide +kernel, rfl, rfl, fun h => absurd h (by decide), xexdk_f (cc := cX7_talksOf) (by decide +kernel) (by decide +kernel)⟩
set_option maxRecDepth 100000 in
theorem oTX7_size : okT (197, 7, 1, false, kX7_size_0) := ⟨by decide +kernel, rfl, rfl, fun h => absurd h (by decide), xexdk_f (cc := cX7_size) (by decide +kernel) (by decide +kernel)⟩
set_option maxRecDepth 100000 in
theorem oTX7_offOf : okT (198, 7, 1, false, kX7_offOf_0) := ⟨by decide +kernel, rfl, rfl, fun h => absurd h (by decide), xexdk_f (cc := cX7_offOf) (by decide +kernel) (by decide +kernel)⟩
set_option maxRecDepth 100000 in
theorem oTX7_yields : okT (199, 7, 1, false, kX7_yields_0) := ⟨by decide +kernel, rfl, rfl, fun h => absurd h (by decide), xexdk_f (cc := cX7_yields) (by decide +kernel) (by decide +kernel)⟩
set_option maxRecDepth 100000 in
theorem oTX7_agrees : okT (200, 7, 4, false, kX7_agrees_0) := ⟨by decide +kernel, rfl, rfl, fun h => absurd h (by decide), xexdk_f (cc := cX7_agrees) (by decide +kernel) (by decide +kernel)⟩
set_option maxRecDepth 100000 in
theorem oTX7_agreeing : okT (201, 7, 1, false, kX7_agreeing_0) := ⟨by decide +kernel, rfl, rfl, fun h => absurd h (by decide), xexdk_f (cc := cX7_agreeing) (by decide +kernel) (by decide +kernel)⟩
set_option maxRecDepth 100000 in
theorem oTX7_votesOf : okT (202, 7, 1, false, kX7_votesOf_0) := ⟨by decide +kernel, rfl, rfl, fun h => absurd h (by decide), xexdk_f (cc := cX7_votesOf) (by decide +kernel) (by decide +kernel)⟩
set_option maxRecDepth 100000 in
theorem oTX7_vetoes : okT (203, 7, 1, false, kX7_vetoes_0) := ⟨by decide +kernel, rfl, rfl, fun h => absurd h (by decide), xexdk_f (cc := cX7_vetoes) (by decide +kernel) (by decide +kernel)⟩
set_option maxRecDepth 100000 in
theorem oTX7_isPassed : okT (204, 7, 4, false, kX7_isPassed_0) := ⟨by decide +kernel, rfl, rfl, fun h => absurd h (by decide), xexdk_f (cc := cX7_isPassed) (by decide +kernel) (by decide +kernel)⟩
set_option maxRecDepth 100000 in
theorem oTX7_areAmounts : okT (205, 7, 4, false, kX7_areAmounts_0) := ⟨by decide +kernel, rfl, rfl, fun h => absurd h (by decide), xexdk_f (cc := cX7_areAmounts) (by decide +kernel) (by decide +kernel)⟩
set_option maxRecDepth 100000 in
theorem oTX7_isMotion : okT (206, 7, 4, false, kX7_isMotion_0) := ⟨by decide +kernel, rfl, rfl, fun h => absurd h (by decide), xexdk_f (cc := cX7_isMotion) (by decide +kernel) (by decide +kernel)⟩
set_option maxRecDepth 100000 in
theorem oTX7_off : okT (207, 7, 1, false, kX7_off_0) := ⟨by decide +kernel, rfl, rfl, fun h => absurd h (by decide), xexdk_f (cc := cX7_off) (by decide +kernel) (by decide +kernel)⟩
set_option maxRecDepth 100000 in
theorem oTX7_vote : okT (208, 7, 1, false, kX7_vote_0) := ⟨by decide +kernel, rfl, rfl, fun h => absurd h (by decide), xexdk_f (cc := cX7_vote) (by decide +kernel) (by decide +kernel)⟩
set_option maxRecDepth 100000 in
theorem oTX7_areOrders : okT (209, 7, 4, false, kX7_areOrders_0) := ⟨by decide +kernel, rfl, rfl, fun h => absurd h (by decide), xexdk_f (cc := cX7_areOrders) (by decide +kernel) (by decide +kernel)⟩
set_option maxRecDepth 100000 in
theorem oTX7_orderOf : okT (210, 7, 1, false, kX7_orderOf_0) := ⟨by decide +kernel, rfl, rfl, fun h => absurd h (by decide), xexdk_f (cc := cX7_orderOf) (by decide +kernel) (by decide +kernel)⟩
set_option maxRecDepth 100000 in
theorem oTX7_order : okT (211, 7, 1, false, kX7_order_0) := ⟨by decide +kernel, rfl, rfl, fun h => absurd h (by decide), xexdk_f (cc := cX7_order) (by decide +kernel) (by decide +kernel)⟩
set_option maxRecDepth 100000 in
theorem oTX7_amount : okT (212, 7, 1, false, kX7_amount_0) := ⟨by decide +kernel, rfl, rfl, fun h => absurd h (by decide), xexdk_f (cc := cX7_amount) (by decide +kernel) (by decide +kernel)⟩
set_option maxRecDepth 100000 in
theorem oTX7_isBroken : okT (213, 7, 4, false, kX7_isBroken_0) := ⟨by decide +kernel, rfl, rfl, fun h => absurd h (by decide), xexdk_f (cc := cX7_isBroken) (by decide +kernel) (by decide +kernel)⟩
set_option maxRecDepth 100000 in
theorem oTX7_firstBroken : okT (214, 7, 1, false, kX7_firstBroken_0) := ⟨by decide +kernel, rfl, rfl, fun h => absurd h (by decide), xexdk_f (cc := cX7_firstBroken) (by decide +kernel) (by decide +kernel)⟩
set_option maxRecDepth 100000 in
theorem oTX7_broken : okT (215, 7, 1, false, kX7_broken_0) := ⟨by decide +kernel, rfl, rfl, fun h => absurd h (by decide), xexdk_f (cc := cX7_broken) (by decide +kernel) (by decide +kernel)⟩
set_option maxRecDepth 100000 in
theorem oTX7_begins : okT (216, 7, 0, false, kX7_begins_0) := ⟨by decide +kernel, rfl, rfl, fun h => absurd h (by decide), xexdk_f (cc := cX7_begins) (by decide +kernel) (by decide +kernel)⟩
set_option maxRecDepth 100000 in
theorem oTX7_canNature : okT (217, 7, 4, false, kX7_canNature_0) := ⟨by decide +kernel, rfl, rfl, fun h => absurd h (by decide), xexdk_f (cc := cX7_canNature) (by decide +kernel) (by decide +kernel)⟩
set_option maxRecDepth 100000 in
theorem oTX7_goes : okT (218, 7, 0, false, kX7_goes_0) := ⟨by decide +kernel, rfl, rfl, fun h => absurd h (by decide), xexdk_f (cc := cX7_goes) (by decide +kernel) (by decide +kernel)⟩
set_option maxRecDepth 100000 in
theorem oTX7_committee : okT (219, 7, 0, false, kX7_committee_0) := ⟨by decide +kernel, rfl, rfl, fun h => absurd h (by decide), xexdk_f (cc := cX7_committee) (by decide +kernel) (by decide +kernel)⟩
set_option maxRecDepth 100000 in
theorem oTX7_angers : okT (220, 7, 0, false, kX7_angers_0) := ⟨by decide +kernel, rfl, rfl, fun h => absurd h (by decide), xexdk_f (cc := cX7_angers) (by decide +kernel) (by decide +kernel)⟩
set_option maxRecDepth 100000 in
theorem oTX7_moves : okT (221, 7, 0, false, kX7_moves_0) := ⟨by decide +kernel, rfl, rfl, fun h => absurd h (by decide), xexdk_f (cc := cX7_moves) (by decide +kernel) (by decide +kernel)⟩
set_option maxRecDepth 100000 in
theorem oTX7_deeds : okT (222, 7, 1, false, kX7_deeds_0) := ⟨by decide +kernel, rfl, rfl, fun h => absurd h (by decide), xexdk_f (cc := cX7_deeds) (by decide +kernel) (by decide +kernel)⟩
set_option maxRecDepth 100000 in
theorem oTX7_deedOf : okT (223, 7, 1, false, kX7_deedOf_0) := ⟨by decide +kernel, rfl, rfl, fun h => absurd h (by decide), xexdk_f (cc := cX7_deedOf) (by decide +kernel) (by decide +kernel)⟩
set_option maxRecDepth 100000 in
theorem oTX7_deed : okT (224, 7, 1, false, kX7_deed_0) := ⟨by decide +kernel, rfl, rfl, fun h => absurd h (by decide), xexdk_f (cc := cX7_deed) (by decide +kernel) (by decide +kernel)⟩
set_option maxRecDepth 100000 in
theorem oTX7_isThere : okT (225, 7, 4, false, kX7_isThere_0) := ⟨by decide +kernel, rfl, rfl, fun h => absurd h (by decide), xexdk_f (cc := cX7_isThere) (by decide +kernel) (by decide +kernel)⟩
set_option maxRecDepth 100000 in
theorem oTX7_can : okT (226, 7, 4, false, kX7_can_0) := ⟨by decide +kernel, rfl, rfl, fun h => absurd h (by decide), xexdk_f (cc := cX7_can) (by decide +kernel) (by decide +kernel)⟩
set_option maxRecDepth 100000 in
theorem oTX7_does : okT (227, 7, 0, false, kX7_does_0) := ⟨by decide +kernel, rfl, rfl, fun h => absurd h (by decide), xexdk_f (cc := cX7_does) (by decide +kernel) (by decide +kernel)⟩
set_option maxRecDepth 100000 in
theorem oTX7_areTold : okT (228, 7, 4, false, kX7_areTold_0) := ⟨by decide +kernel, rfl, rfl, fun h => absurd h (by decide), xexdk_f (cc := cX7_areTold) (by decide +kernel) (by decide +kernel)⟩
set_option maxRecDepth 100000 in
theorem oTX7_runs : okT (229, 7, 0, false, kX7_runs_0) := ⟨by decide +kernel, rfl, rfl, fun h => absurd h (by decide), xexdk_f (cc := cX7_runs) (by decide +kernel) (by decide +kernel)⟩
set_option maxRecDepth 100000 in
theorem oTX7_stop : okT (230, 7, 1, false, kX7_stop_0) := ⟨by decide +kernel, rfl, rfl, fun h => absurd h (by decide), xexdk_f (cc := cX7_stop) (by decide +kernel) (by decide +kernel)⟩
set_option maxRecDepth 100000 in
theorem oTX7_state : okT (231, 7, 1, false, kX7_state_0) := ⟨by decide +kernel, rfl, rfl, fun h => absurd h (by decide), xexdk_f (cc := cX7_state) (by decide +kernel) (by decide +kernel)⟩
set_option maxRecDepth 100000 in
theorem oTX7_isAgreed : okT (232, 7, 4, false, kX7_isAgreed_0) := ⟨by decide +kernel, rfl, rfl, fun h => absurd h (by decide), xexdk_f (cc := cX7_isAgreed) (by decide +kernel) (by decide +kernel)⟩
set_option maxRecDepth 100000 in
theorem oTX7_rank : okT (233, 7, 1, false, kX7_rank_0) := ⟨by decide +kernel, rfl, rfl, fun h => absurd h (by decide), xexdk_f (cc := cX7_rank) (by decide +kernel) (by decide +kernel)⟩
set_option maxRecDepth 100000 in
theorem oTX7_agreed : okT (234, 7, 1, false, kX7_agreed_0) := ⟨by decide +kernel, rfl, rfl, fun h => absurd h (by decide), xexdk_f (cc := cX7_agreed) (by decide +kernel) (by decide +kernel)⟩
set_option maxRecDepth 100000 in
theorem oTX7_common : okT (235, 7, 1, false, kX7_common_0) := ⟨by decide +kernel, rfl, rfl, fun h => absurd h (by decide), xexdk_f (cc := cX7_common) (by decide +kernel) (by decide +kernel)⟩
set_option maxRecDepth 100000 in
theorem oTX7_part : okT (236, 7, 1, false, kX7_part_0) := ⟨by decide +kernel, rfl, rfl, fun h => absurd h (by decide), xexdk_f (cc := cX7_part) (by decide +kernel) (by decide +kernel)⟩
set_option maxRecDepth 100000 in
theorem oTX7_factorial : okT (237, 7, 1, false, kX7_factorial_0) := ⟨by decide +kernel, rfl, rfl, fun h => absurd h (by decide), xexdk_f (cc := cX7_factorial) (by decide +kernel) (by decide +kernel)⟩
set_option maxRecDepth 100000 in
theorem oTX7_bits : okT (238, 7, 1, false, kX7_bits_0) := ⟨by decide +kernel, rfl, rfl, fun h => absurd h (by decide), xexdk_f (cc := cX7_bits) (by decide +kernel) (by decide +kernel)⟩
set_option maxRecDepth 100000 in
theorem oTX7_everybody : okT (239, 7, 1, false, kX7_everybody_0) := ⟨by decide +kernel, rfl, rfl, fun h => absurd h (by decide), xexdk_f (cc := cX7_everybody) (by decide +kernel) (by decide +kernel)⟩
set_option maxRecDepth 100000 in
theorem oTX7_isEnough : okT (240, 7, 4, false, kX7_isEnough_0) := ⟨by decide +kernel, rfl, rfl, fun h => absurd h (by decide), xexdk_f (cc := cX7_isEnough) (by decide +kernel) (by decide +kernel)⟩
set_option maxRecDepth 100000 in
theorem oTX7_power : okT (241, 7, 1, false, kX7_power_0) := ⟨by decide +kernel, rfl, rfl, fun h => absurd h (by decide), xexdk_f (cc := cX7_power) (by decide +kernel) (by decide +kernel)⟩
set_option maxRecDepth 100000 in
theorem oTX7_key : okT (242, 7, 1, false, kX7_key_0) := ⟨by decide +kernel, rfl, rfl, fun h => absurd h (by decide), xexdk_f (cc := cX7_key) (by decide +kernel) (by decide +kernel)⟩
set_option maxRecDepth 100000 in
theorem oTX7_isLeast : okT (243, 7, 4, false, kX7_isLeast_0) := ⟨by decide +kernel, rfl, rfl, fun h => absurd h (by decide), xexdk_f (cc := cX7_isLeast) (by decide +kernel) (by decide +kernel)⟩
set_option maxRecDepth 100000 in
theorem oTX7_coalition : okT (244, 7, 1, false, kX7_coalition_0) := ⟨by decide +kernel, rfl, rfl, fun h => absurd h (by decide), xexdk_f (cc := cX7_coalition) (by decide +kernel) (by decide +kernel)⟩
set_option maxRecDepth 100000 in
theorem oTX7_costOf : okT (245, 7, 1, false, kX7_costOf_0) := ⟨by decide +kernel, rfl, rfl, fun h => absurd h (by decide), xexdk_f (cc := cX7_costOf) (by decide +kernel) (by decide +kernel)⟩
set_option maxRecDepth 100000 in
theorem oTX7_bribe : okT (246, 7, 1, false, kX7_bribe_0) := ⟨by decide +kernel, rfl, rfl, fun h => absurd h (by decide), xexdk_f (cc := cX7_bribe) (by decide +kernel) (by decide +kernel)⟩
set_option maxRecDepth 100000 in
theorem oTX7_priceOf : okT (247, 7, 1, false, kX7_priceOf_0) := ⟨by decide +kernel, rfl, rfl, fun h => absurd h (by decide), xexdk_f (cc := cX7_priceOf) (by decide +kernel) (by decide +kernel)⟩
set_option maxRecDepth 100000 in
theorem oTX7_gainOf : okT (248, 7, 1, false, kX7_gainOf_0) := ⟨by decide +kernel, rfl, rfl, fun h => absurd h (by decide), xexdk_f (cc := cX7_gainOf) (by decide +kernel) (by decide +kernel)⟩
set_option maxRecDepth 100000 in
theorem oTX7_isRest : okT (249, 7, 4, false, kX7_isRest_0) := ⟨by decide +kernel, rfl, rfl, fun h => absurd h (by decide), xexdk_f (cc := cX7_isRest) (by decide +kernel) (by decide +kernel)⟩
set_option maxRecDepth 100000 in
theorem oTX7_lobby : okT (250, 7, 1, false, kX7_lobby_0) := ⟨by decide +kernel, rfl, rfl, fun h => absurd h (by decide), xexdk_f (cc := cX7_lobby) (by decide +kernel) (by decide +kernel)⟩
set_option maxRecDepth 100000 in
theorem oTX7_bargain : okT (251, 7, 1, false, kX7_bargain_0) := ⟨by decide +kernel, rfl, rfl, fun h => absurd h (by decide), xexdk_f (cc := cX7_bargain) (by decide +kernel) (by decide +kernel)⟩
set_option maxRecDepth 100000 in
theorem oTX7_isSummer : okT (252, 7, 4, false, kX7_isSummer_0) := ⟨by decide +kernel, rfl, rfl, fun h => absurd h (by decide), xexdk_f (cc := cX7_isSummer) (by decide +kernel) (by decide +kernel)⟩
set_option maxRecDepth 100000 in
theorem oTX7_summerDays : okT (253, 7, 1, false, kX7_summerDays_0) := ⟨by decide +kernel, rfl, rfl, fun h => absurd h (by decide), xexdk_f (cc := cX7_summerDays) (by decide +kernel) (by decide +kernel)⟩
set_option maxRecDepth 100000 in
theorem oTX7_dayOf : okT (254, 7, 1, false, kX7_dayOf_0) := ⟨by decide +kernel, rfl, rfl, fun h => absurd h (by decide), xexdk_f (cc := cX7_dayOf) (by decide +kernel) (by decide +kernel)⟩
set_option maxRecDepth 100000 in
theorem oTX7_numberOf : okT (255, 7, 1, false, kX7_numberOf_0) := ⟨by decide +kernel, rfl, rfl, fun h => absurd h (by decide), xexdk_f (cc := cX7_numberOf) (by decide +kernel) (by decide +kernel)⟩
set_option maxRecDepth 100000 in
theorem oTX7_was : okT (256, 7, 1, false, kX7_was_0) := ⟨by decide +kernel, rfl, rfl, fun h => absurd h (by decide), xexdk_f (cc := cX7_was) (by decide +kernel) (by decide +kernel)⟩
set_option maxRecDepth 100000 in
theorem oTX7_wrongDay : okT (257, 7, 1, false, kX7_wrongDay_0) := ⟨by decide +kernel, rfl, rfl, fun h => absurd h (by decide), xexdk_f (cc := cX7_wrongDay) (by decide +kernel) (by decide +kernel)⟩
set_option maxRecDepth 100000 in
theorem oTX7_isHeatRight : okT (258, 7, 4, false, kX7_isHeatRight_0) := ⟨by decide +kernel, rfl, rfl, fun h => absurd h (by decide), xexdk_f (cc := cX7_isHeatRight) (by decide +kernel) (by decide +kernel)⟩
set_option maxRecDepth 100000 in
theorem oTX7_cloudAfter : okT (259, 7, 1, false, kX7_cloudAfter_0) := ⟨by decide +kernel, rfl, rfl, fun h => absurd h (by decide), xexdk_f (cc := cX7_cloudAfter) (by decide +kernel) (by decide +kernel)⟩
set_option maxRecDepth 100000 in
theorem oTX7_mends : okT (260, 7, 0, false, kX7_mends_0) := ⟨by decide +kernel, rfl, rfl, fun h => absurd h (by decide), xexdk_f (cc := cX7_mends) (by decide +kernel) (by decide +kernel)⟩
set_option maxRecDepth 100000 in
theorem oTX7_fallsOn : okT (261, 7, 1, false, kX7_fallsOn_0) := ⟨by decide +kernel, rfl, rfl, fun h => absurd h (by decide), xexdk_f (cc := cX7_fallsOn) (by decide +kernel) (by decide +kernel)⟩
set_option maxRecDepth 100000 in
theorem oTX7_nature : okT (262, 7, 1, false, kX7_nature_0) := ⟨by decide +kernel, rfl, rfl, fun h => absurd h (by decide), xexdk_f (cc := cX7_nature) (by decide +kernel) (by decide +kernel)⟩
set_option maxRecDepth 100000 in
theorem oTX7_areSeats : okT (263, 7, 4, false, kX7_areSeats_0) := ⟨by decide +kernel, rfl, rfl, fun h => absurd h (by decide), xexdk_f (cc := cX7_areSeats) (by decide +kernel) (by decide +kernel)⟩
set_option maxRecDepth 100000 in
theorem oTX7_proposal : okT (264, 7, 1, false, kX7_proposal_0) := ⟨by decide +kernel, rfl, rfl, fun h => absurd h (by decide), xexdk_f (cc := cX7_proposal) (by decide +kernel) (by decide +kernel)⟩
set_option maxRecDepth 100000 in
theorem oTX7_isSat : okT (265, 7, 4, false, kX7_isSat_0) := ⟨by decide +kernel, rfl, rfl, fun h => absurd h (by decide), xexdk_f (cc := cX7_isSat) (by decide +kernel) (by decide +kernel)⟩
set_option maxRecDepth 100000 in
theorem oTX7_unlike : okT (266, 7, 1, false, kX7_unlike_0) := ⟨by decide +kernel, rfl, rfl, fun h => absurd h (by decide), xexdk_f (cc := cX7_unlike) (by decide +kernel) (by decide +kernel)⟩
set_option maxRecDepth 100000 in
theorem oTX7_seats : okT (267, 7, 1, false, kX7_seats_0) := ⟨by decide +kernel, rfl, rfl, fun h => absurd h (by decide), xexdk_f (cc := cX7_seats) (by decide +kernel) (by decide +kernel)⟩
set_option maxRecDepth 100000 in
theorem oTX7_rainy : okT (268, 7, 1, false, kX7_rainy_0) := ⟨by decide +kernel, rfl, rfl, fun h => absurd h (by decide), xexdk_f (cc := cX7_rainy) (by decide +kernel) (by decide +kernel)⟩
set_option maxRecDepth 100000 in
theorem oTX7_reshuffle : okT (269, 7, 1, false, kX7_reshuffle_0) := ⟨by decide +kernel, rfl, rfl, fun h => absurd h (by decide), xexdk_f (cc := cX7_reshuffle) (by decide +kernel) (by decide +kernel)⟩
set_option maxRecDepth 100000 in
theorem oTX7_leakOf : okT (270, 7, 1, false, kX7_leakOf_0) := ⟨by decide +kernel, rfl, rfl, fun h => absurd h (by decide), xexdk_f (cc := cX7_leakOf) (by decide +kernel) (by decide +kernel)⟩
set_option maxRecDepth 100000 in
theorem oTX7_leak : okT (271, 7, 1, false, kX7_leak_0) := ⟨by decide +kernel, rfl, rfl, fun h => absurd h (by decide), xexdk_f (cc := cX7_leak) (by decide +kernel) (by decide +kernel)⟩
set_option maxRecDepth 100000 in
theorem oTX7_isFit : okT (272, 7, 4, false, kX7_isFit_0) := ⟨by decide +kernel, rfl, rfl, fun h => absurd h (by decide), xexdk_f (cc := cX7_isFit) (by decide +kernel) (by decide +kernel)⟩
set_option maxRecDepth 100000 in
theorem oTX7_fitting : okT (273, 7, 1, false, kX7_fitting_0) := ⟨by decide +kernel, rfl, rfl, fun h => absurd h (by decide), xexdk_f (cc := cX7_fitting) (by decide +kernel) (by decide +kernel)⟩
set_option maxRecDepth 100000 in
theorem oTX7_extreme : okT (274, 7, 1, false, kX7_extreme_0) := ⟨by decide +kernel, rfl, rfl, fun h => absurd h (by decide), xexdk_f (cc := cX7_extreme) (by decide +kernel) (by decide +kernel)⟩
set_option maxRecDepth 100000 in
theorem oTX7_rainyFit : okT (275, 7, 1, false, kX7_rainyFit_0) := ⟨by decide +kernel, rfl, rfl, fun h => absurd h (by decide), xexdk_f (cc := cX7_rainyFit) (by decide +kernel) (by decide +kernel)⟩
set_option maxRecDepth 100000 in
theorem oTX7_fits : okT (276, 7, 1, false, kX7_fits_0) := ⟨by decide +kernel, rfl, rfl, fun h => absurd h (by decide), xexdk_f (cc := cX7_fits) (by decide +kernel) (by decide +kernel)⟩
set_option maxRecDepth 100000 in
theorem oTX7_below : okT (277, 7, 1, false, kX7_below_0) := ⟨by decide +kernel, rfl, rfl, fun h => absurd h (by decide), xexdk_f (cc := cX7_below) (by decide +kernel) (by decide +kernel)⟩
set_option maxRecDepth 100000 in
theorem oTX7_thereAt : okT (278, 7, 1, false, kX7_thereAt_0) := ⟨by decide +kernel, rfl, rfl, fun h => absurd h (by decide), xexdk_f (cc := cX7_thereAt) (by decide +kernel) (by decide +kernel)⟩
set_option maxRecDepth 100000 in
theorem oTX7_drawn : okT (279, 7, 1, false, kX7_drawn_0) := ⟨by decide +kernel, rfl, rfl, fun h => absurd h (by decide), xexdk_f (cc := cX7_drawn) (by decide +kernel) (by decide +kernel)⟩
set_option maxRecDepth 100000 in
theorem oTX7_count : okT (280, 7, 1, false, kX7_count_0) := ⟨by decide +kernel, rfl, rfl, fun h => absurd h (by decide), xexdk_f (cc := cX7_count) (by decide +kernel) (by decide +kernel)⟩
set_option maxRecDepth 100000 in
theorem oTX7_image : okT (281, 7, 4, false, kX7_image_0) := ⟨by decide +kernel, rfl, rfl, fun h => absurd h (by decide), xexdk_f (cc := cX7_image) (by decide +kernel) (by decide +kernel)⟩
set_option maxRecDepth 100000 in
theorem oTX7_again : okT (282, 7, 4, false, kX7_again_0) := ⟨by decide +kernel, rfl, rfl, fun h => absurd h (by decide), xexdk_f (cc := cX7_again) (by decide +kernel) (by decide +kernel)⟩
set_option maxRecDepth 100000 in
theorem oTJ0_length_8abf5 : okT (283, 10, 1, false, kJ0_length_8abf5_0) := ⟨by decide +kernel, rfl, rfl, fun h => absurd h (by decide), xexdk_f (cc := cJ0_length_8abf5) (by decide +kernel) (by decide +kernel)⟩
set_option maxRecDepth 100000 in
theorem oTJ0_isEmpty_aae02 : okT (284, 10, 4, false, kJ0_isEmpty_aae02_0) := ⟨by decide +kernel, rfl, rfl, fun h => absurd h (by decide), xexdk_f (cc := cJ0_isEmpty_aae02) (by decide +kernel) (by decide +kernel)⟩
set_option maxRecDepth 100000 in
theorem oTJ0_charAt_5068e : okT (285, 10, 5, false, kJ0_charAt_5068e_0) := ⟨by decide +kernel, rfl, rfl, fun h => absurd h (by decide), xexdk_f (cc := cJ0_charAt_5068e) (by decide +kernel) (by decide +kernel)⟩
set_option maxRecDepth 100000 in
theorem oTJ0_coder_7d493 : okT (286, 10, 6, false, kJ0_coder_7d493_0) := ⟨by decide +kernel, rfl, rfl, fun h => absurd h (by decide), xexdk_f (cc := cJ0_coder_7d493) (by decide +kernel) (by decide +kernel)⟩
set_option maxRecDepth 100000 in
theorem oTJ0_isLatin1_aae02 : okT (287, 10, 4, false, kJ0_isLatin1_aae02_0) := ⟨by decide +kernel, rfl, rfl, fun h => absurd h (by decide), xexdk_f (cc := cJ0_isLatin1_aae02) (by decide +kernel) (by decide +kernel)⟩
set_option maxRecDepth 100000 in
theorem oTJ0_checkIndex_df160 : okT (288, 10, 0, false, kJ0_checkIndex_df160_0) := ⟨by decide +kernel, rfl, rfl, fun h => absurd h (by decide), xexdk_f (cc := cJ0_checkIndex_df160) (by decide +kernel) (by decide +kernel)⟩
set_option maxRecDepth 100000 in
theorem oTJ1_charAt_3b067 : okT (289, 11, 5, false, kJ1_charAt_3b067_0) := ⟨by decide +kernel, rfl, rfl, fun h => absurd h (by decide), xexdk_f (cc := cJ1_charAt_3b067) (by decide +kernel) (by decide +kernel)⟩
set_option maxRecDepth 100000 in
theorem oTJ3_checkIndex_8e157 : okT (290, 13, 1, false, kJ3_checkIndex_8e157_0) := ⟨by decide +kernel, rfl, rfl, fun h => absurd h (by decide), xexdk_f (cc := cJ3_checkIndex_8e157) (by decide +kernel) (by decide +kernel)⟩
set_option maxRecDepth 100000 in
theorem oTJ6_bitCount_0f7a4 : okT (291, 16, 1, false, kJ6_bitCount_0f7a4_0) := ⟨by decide +kernel, rfl, rfl, fun h => absurd h (by decide), xexdk_f (cc := cJ6_bitCount_0f7a4) (by decide +kernel) (by decide +kernel)⟩
set_option maxRecDepth 100000 in
theorem oTJ7_fill_53178 : okT (292, 17, 0, false, kJ7_fill_53178_0) := ⟨by decide +kernel, rfl, rfl, fun h => absurd h (by decide), xexdk_f (cc := cJ7_fill_53178) (by decide +kernel) (by decide +kernel)⟩
set_option maxRecDepth 100000 in
theorem oTL_law : okT (293, 8, 4, false, kL_law_0) := ⟨by decide +kernel, rfl, rfl, fun h => absurd h (by decide), xexdk_f (cc := cL_law) (by decide +kernel) (by decide +kernel)⟩
set_option maxRecDepth 100000 in
theorem oTT0 : xall okT TT0 := And.intro oTX0_init (And.intro oTX0_open (And.intro oTX0_run (And.intro oTX0_happens (And.intro oTX0_takesOffice (And.intro oTX0_isDismissed (And.intro oTX0_isRecalled (And.intro oTX0_decide (And.intro oTX0_bear (And.intro oTX0_committee (And.intro oTX0_record (And.intro oTX0_draw (And.intro oTX0_drawMotion (And.intro oTX0_oneThere (And.intro oTX0_drawBelow (And.intro oTX1_init (And.intro oTX1_read (And.intro oTX1_startOn (And.intro oTX1_note (And.intro oTX1_refuse (And.intro oTX1_wordsOf (And.intro oTX1_formsOf (And.intro oTX1_readLine (And.intro oTX1_countLine (And.intro oTX1_readPart (And.intro oTX1_choicesOf (And.intro oTX1_readSemicolon (And.intro oTX1_readNumber (And.intro oTX1_leastOf (And.intro oTX1_mostOf (And.intro oTX1_take (And.intro oTX1_takeToldOf (And.intro oTX1_takeOrder (And.intro oTX1_chosen (And.intro oTX1_isToken (And.intro oTX1_startOf (And.intro oTX1_advance (And.intro oTX1_isBlank (And.intro oTX1_isLetter (And.intro oTX1_isDigit (And.intro oTX2_init (And.intro oTX2_clear (And.intro oTX2_copyRepublic (And.intro oTX2_takeLine (And.intro oTX2_addMinister (And.intro oTX2_setNumber (And.intro oTX2_isMinister (And.intro oTX2_everybody (And.intro oTX2_want (And.intro oTX2_distance (trivial))))))))))))))))))))))))))))))))))))))))))))))))))
set_option maxRecDepth 100000 in
theorem oTT1 : xall okT TT1 := And.intro oTX2_patience (And.intro oTX2_agreeing (And.intro oTX2_votesOf (And.intro oTX2_isPassed (And.intro oTX2_areSeats (And.intro oTX2_proposal (And.intro oTX3_init (And.intro oTX3_clear (And.intro oTX3_copyRows (And.intro oTX3_part (And.intro oTX3_set (And.intro oTX3_dayFrom (And.intro oTX3_add (And.intro oTX4_init (And.intro oTX4_settle (And.intro oTX4_can (And.intro oTX4_bring (And.intro oTX5_init (And.intro oTX5_republicKept (And.intro oTX5_rowsKept (And.intro oTX5_copyTold (And.intro oTX6_init (And.intro oTX6_feed (And.intro oTX6_feedNumber (And.intro oTX6_end (And.intro oTX6_text (And.intro oTX6_placeFor (And.intro oTX6_keep (And.intro oTX6_fault (And.intro oTX6_count (And.intro oTX6_image (And.intro oTX6_again (And.intro oTX6_republicAt (And.intro oTX6_rowsAt (And.intro oTX6_republic (And.intro oTX6_minister (And.intro oTX6_order (And.intro oTX6_deed (And.intro oTX6_leak (And.intro oTX6_was (And.intro oTX6_rowTold (And.intro oTX6_movedIn (And.intro oTX6_off (And.intro oTX6_vote (And.intro oTX6_broken (And.intro oTX6_firstBroken (And.intro oTX6_isBroken (And.intro oTX6_stop (And.intro oTX6_state (And.intro oTX6_stateTold (trivial))))))))))))))))))))))))))))))))))))))))))))))))))
set_option maxRecDepth 100000 in
theorem oTT2 : xall okT TT2 := And.intro oTX6_drawn (And.intro oTX6_agreed (And.intro oTX6_isAgreed (And.intro oTX6_manyAgreed (And.intro oTX6_bestAgreed (And.intro oTX6_rank (And.intro oTX6_power (And.intro oTX6_rowsDecided (And.intro oTX6_coalition (And.intro oTX6_keyMinisters (And.intro oTX6_leastCoalition (And.intro oTX6_isLeastCoalition (And.intro oTX6_bribe (And.intro oTX6_bribeOf (And.intro oTX6_lobby (And.intro oTX6_isRest (And.intro oTX6_gain (And.intro oTX6_boughtBy (And.intro oTX6_bargain (And.intro oTX6_leavers (And.intro oTX6_sharesOf (And.intro oTX6_nature (And.intro oTX6_firstWrong (And.intro oTX6_mend (And.intro oTX6_seats (And.intro oTX6_findFitting (And.intro oTX6_isFit (And.intro oTX6_tellingSeason (And.intro oTX6_unlikeProposals (And.intro oTX6_reshuffle (And.intro oTX6_wetSeasons (And.intro oTX6_fits (And.intro oTX6_areThere (And.intro oTX6_unfit (And.intro oTX6_manyFitting (And.intro oTX6_likelyRain (And.intro oTX6_extreme (And.intro oTX6_lies (And.intro oTX6_isSeason (And.intro oTX6_isAmount (And.intro oTX6_dayOf (And.intro oTX6_numberOf (And.intro oTX6_amount (And.intro oTX6_has (And.intro oTX6_cell (And.intro oTX6_put (And.intro oTX6_copy (And.intro oTX6_fraction (And.intro oTX6_commonDivisor (And.intro oTX7_init (trivial))))))))))))))))))))))))))))))))))))))))))))))))))
set_option maxRecDepth 100000 in
theorem oTT3 : xall okT TT3 := And.intro oTX7_isIn (And.intro oTX7_feed (And.intro oTX7_end (And.intro oTX7_byteAt (And.intro oTX7_isLetter (And.intro oTX7_isDigit (And.intro oTX7_four (And.intro oTX7_eight (And.intro oTX7_wordOf (And.intro oTX7_kindOrSeason (And.intro oTX7_otherWord (And.intro oTX7_advance (And.intro oTX7_ends (And.intro oTX7_also (And.intro oTX7_numbered (And.intro oTX7_takes (And.intro oTX7_endsLine (And.intro oTX7_kindTold (And.intro oTX7_seasonTold (And.intro oTX7_ministerTold (And.intro oTX7_ministerLine (And.intro oTX7_wantLine (And.intro oTX7_feudLine (And.intro oTX7_republicLine (And.intro oTX7_adds (And.intro oTX7_noLine (And.intro oTX7_orderLine (And.intro oTX7_yearLine (And.intro oTX7_leakLine (And.intro oTX7_summerLine (And.intro oTX7_bargainLine (And.intro oTX7_placeOf (And.intro oTX7_sizeOf (And.intro oTX7_isOf (And.intro oTX7_clears (And.intro oTX7_text (And.intro oTX7_fault (And.intro oTX7_isRepublic (And.intro oTX7_of (And.intro oTX7_ministers (And.intro oTX7_isMinister (And.intro oTX7_ofMinister (And.intro oTX7_wants (And.intro oTX7_republic (And.intro oTX7_minister (And.intro oTX7_amountOf (And.intro oTX7_talksOf (And.intro oTX7_size (And.intro oTX7_offOf (And.intro oTX7_yields (trivial))))))))))))))))))))))))))))))))))))))))))))))))))
set_option maxRecDepth 100000 in
theorem oTT4 : xall okT TT4 := And.intro oTX7_agrees (And.intro oTX7_agreeing (And.intro oTX7_votesOf (And.intro oTX7_vetoes (And.intro oTX7_isPassed (And.intro oTX7_areAmounts (And.intro oTX7_isMotion (And.intro oTX7_off (And.intro oTX7_vote (And.intro oTX7_areOrders (And.intro oTX7_orderOf (And.intro oTX7_order (And.intro oTX7_amount (And.intro oTX7_isBroken (And.intro oTX7_firstBroken (And.intro oTX7_broken (And.intro oTX7_begins (And.intro oTX7_canNature (And.intro oTX7_goes (And.intro oTX7_committee (And.intro oTX7_angers (And.intro oTX7_moves (And.intro oTX7_deeds (And.intro oTX7_deedOf (And.intro oTX7_deed (And.intro oTX7_isThere (And.intro oTX7_can (And.intro oTX7_does (And.intro oTX7_areTold (And.intro oTX7_runs (And.intro oTX7_stop (And.intro oTX7_state (And.intro oTX7_isAgreed (And.intro oTX7_rank (And.intro oTX7_agreed (And.intro oTX7_common (And.intro oTX7_part (And.intro oTX7_factorial (And.intro oTX7_bits (And.intro oTX7_everybody (And.intro oTX7_isEnough (And.intro oTX7_power (And.intro oTX7_key (And.intro oTX7_isLeast (And.intro oTX7_coalition (And.intro oTX7_costOf (And.intro oTX7_bribe (And.intro oTX7_priceOf (And.intro oTX7_gainOf (And.intro oTX7_isRest (trivial))))))))))))))))))))))))))))))))))))))))))))))))))
set_option maxRecDepth 100000 in
theorem oTT5 : xall okT TT5 := And.intro oTX7_lobby (And.intro oTX7_bargain (And.intro oTX7_isSummer (And.intro oTX7_summerDays (And.intro oTX7_dayOf (And.intro oTX7_numberOf (And.intro oTX7_was (And.intro oTX7_wrongDay (And.intro oTX7_isHeatRight (And.intro oTX7_cloudAfter (And.intro oTX7_mends (And.intro oTX7_fallsOn (And.intro oTX7_nature (And.intro oTX7_areSeats (And.intro oTX7_proposal (And.intro oTX7_isSat (And.intro oTX7_unlike (And.intro oTX7_seats (And.intro oTX7_rainy (And.intro oTX7_reshuffle (And.intro oTX7_leakOf (And.intro oTX7_leak (And.intro oTX7_isFit (And.intro oTX7_fitting (And.intro oTX7_extreme (And.intro oTX7_rainyFit (And.intro oTX7_fits (And.intro oTX7_below (And.intro oTX7_thereAt (And.intro oTX7_drawn (And.intro oTX7_count (And.intro oTX7_image (And.intro oTX7_again (And.intro oTJ0_length_8abf5 (And.intro oTJ0_isEmpty_aae02 (And.intro oTJ0_charAt_5068e (And.intro oTJ0_coder_7d493 (And.intro oTJ0_isLatin1_aae02 (And.intro oTJ0_checkIndex_df160 (And.intro oTJ1_charAt_3b067 (And.intro oTJ3_checkIndex_8e157 (And.intro oTJ6_bitCount_0f7a4 (And.intro oTJ7_fill_53178 (And.intro oTL_law (trivial))))))))))))))))))))))))))))))))))))))))))))
theorem oTT : xall okT TT := xall_app oTT0 (xall_app oTT1 (xall_app oTT2 (xall_app oTT3 (xall_app oTT4 (oTT5)))))
