/-! A SMALL MACHINE over worlds by number: what it answers of a method's code is what the machine does (part 08). -/
abbrev XL : Type := List (Option EV)
abbrev XS : Type := List EV
abbrev XR : Type := Option (Option EV × EW)
abbrev XC : Type := List (Nat × Jvm.ClassFile.Instr)
abbrev eA (v : Option Nat ⊕ Nat) : EV := .inr (.inr v)
def xvb (i : Int32) (n : Nat) : Bool := !decide (i < 0) && decide (i.toNatClampNeg < n)
def xgi (w : EW) (ci j : Nat) : EV → Option Int32
  | .inr (.inr (.inl (some k))) => match w[k]? with
    | some (.inl (c, fs)) => bif Nat.beq c ci then (match fs[j]? with | some (.inl x) => some x | _ => none) else none
    | _ => none
  | _ => none
def xga (w : EW) (ci j : Nat) : EV → Option (Option Nat)
  | .inr (.inr (.inl (some k))) => match w[k]? with
    | some (.inl (c, fs)) => bif Nat.beq c ci then (match fs[j]? with | some (.inr (.inr (.inl u))) => some u | _ => none) else none
    | _ => none
  | _ => none
def xok (kd : Nat) (v : EV) : Bool := match v with
  | .inl x => Nat.beq kd 0 || (Nat.beq kd 1 && (x == 0 || x == 1))
  | .inr (.inl _) => false
  | .inr (.inr (.inl _)) => Nat.beq kd 2
  | .inr (.inr (.inr _)) => false
def xp (w : EW) (ci j : Nat) (v : EV) : EV → Option EW
  | .inr (.inr (.inl (some k))) => match w[k]? with
    | some (.inl (c, fs)) => bif Nat.beq c ci && Nat.blt j fs.length then some (w.set k (cO c (fs.set j v))) else none
    | _ => none
  | _ => none
def xkx (sc : Nat × (Nat → Int32)) (c : Nat) : Nat × (Nat → Int32) := match c with
  | 0 => (6, fun j => [6, 8, 40, 8, 8, 600].getD j 0)
  | 1 => (7, fun j => [1, 1, 2, 6, 24, 120, 720].getD j 0)
  | _ => sc
def xdi (sc : Nat × (Nat → Int32)) (w : EW) (i : Int32) : EV → Option Int32
  | .inr (.inr (.inl (some k))) => match w[k]? with
    | some (.inr (.inl (t, n, f))) => bif Nat.beq t 0 && xvb i n then some (f i.toNatClampNeg) else none
    | _ => none
  | .inr (.inr (.inr c)) => bif Nat.blt c 3 && xvb i (xkx sc c).1 then some ((xkx sc c).2 i.toNatClampNeg) else none
  | _ => none
def xdb (w : EW) (i : Int32) : EV → Option Int32
  | .inr (.inr (.inl (some k))) => match w[k]? with
    | some (.inr (.inl (t, n, f))) => bif Nat.beq t 1 && xvb i n then some (f i.toNatClampNeg) else none
    | _ => none
  | .inr (.inr (.inr c)) => bif Nat.ble 40 c && Nat.blt c 58 && xvb i (wc_len.getD (c - 40) 0) then some ((wc_byt.getD (c - 40) []).getD i.toNatClampNeg 0) else none
  | _ => none
def xdq (w : EW) (i : Int32) : EV → Option (Option Nat)
  | .inr (.inr (.inl (some k))) => match w[k]? with
    | some (.inr (.inr (t, n, f))) => bif Nat.ble 2 t && Nat.ble t 4 && xvb i n then some (f i.toNatClampNeg) else none
    | _ => none
  | _ => none
def xti (w : EW) (i x : Int32) : EV → Option EW
  | .inr (.inr (.inl (some k))) => match w[k]? with
    | some (.inr (.inl (t, n, f))) => bif Nat.beq t 0 && xvb i n then some (w.set k (cI 0 n (upd f i.toNatClampNeg x))) else none
    | _ => none
  | _ => none
def xtb (w : EW) (i x : Int32) : EV → Option EW
  | .inr (.inr (.inl (some k))) => match w[k]? with
    | some (.inr (.inl (t, n, f))) => bif Nat.beq t 1 && xvb i n then some (w.set k (cI 1 n (upd f i.toNatClampNeg (vp_nar .boolean x)))) else none
    | _ => none
  | _ => none
def xco_of (t : Nat) : Nat := bif Nat.beq t 4 then 5 else t
def xtq (w : EW) (i : Int32) (v : EV) : EV → Option EW
  | .inr (.inr (.inl (some k))) => match w[k]?, v with
    | some (.inr (.inr (t, n, f))), .inr (.inr (.inl (some q))) => match w[q]? with
      | some (.inl (c, _)) => bif Nat.ble 2 t && Nat.ble t 4 && xvb i n && Nat.beq c (xco_of t) then some (w.set k (cQ t n (va_up f i.toNatClampNeg (some q)))) else none
      | _ => none
    | _, _ => none
  | _ => none
def xnn (sc : Nat × (Nat → Int32)) (w : EW) : EV → Option Nat
  | .inr (.inr (.inl (some k))) => match w[k]? with
    | some (.inr (.inl (t, n, _))) => bif Nat.blt t 5 then some n else none
    | some (.inr (.inr (t, n, _))) => bif Nat.blt t 5 then some n else none
    | _ => none
  | .inr (.inr (.inr c)) => bif Nat.blt c 3 then some (xkx sc c).1 else bif Nat.ble 40 c && Nat.blt c 58 then some (wc_len.getD (c - 40) 0) else none
  | _ => none
def xrv (w : EW) (ci : Nat) : EV → Bool
  | .inr (.inr (.inl (some k))) => match w[k]? with
    | some (.inl (c, _)) => Nat.beq c ci
    | _ => false
  | _ => false
def xnj (ls : XL) : Nat → Bool
  | 0 => true
  | j + 1 => match ls[j]? with
    | some (some (.inr (.inl _))) => false
    | _ => true
def xli (ls : XL) (i : Nat) (f : Int32 → XR) : XR := match ls[i]? with
  | some (some (.inl x)) => f x
  | _ => none
def xlj (ls : XL) (i : Nat) (f : Int64 → XR) : XR := match ls[i]? with
  | some (some (.inr (.inl x))) => f x
  | _ => none
def xla (ls : XL) (i : Nat) (f : Option Nat ⊕ Nat → XR) : XR := match ls[i]? with
  | some (some (.inr (.inr x))) => f x
  | _ => none
def xls (nL : Nat) (ls : XL) (i : Nat) (v : EV) (f : XL → XR) : XR := bif Nat.blt i nL && xnj ls i then f (ls.set i (some v)) else none
def xlt (nL : Nat) (ls : XL) (i : Nat) (v : EV) (f : XL → XR) : XR := bif Nat.blt (i + 1) nL && xnj ls i then f ((ls.set i (some v)).set (i + 1) none) else none
def xc1 : EV → Bool
  | .inr (.inl _) => false
  | _ => true
def xii (st : XS) (f : Int32 → Int32 → XS → XR) : XR := match st with
  | .inl y :: .inl x :: st => f x y st
  | _ => none
def xi1 (st : XS) (f : Int32 → XS → XR) : XR := match st with
  | .inl x :: st => f x st
  | _ => none
def xjj (st : XS) (f : Int64 → Int64 → XS → XR) : XR := match st with
  | .inr (.inl y) :: .inr (.inl x) :: st => f x y st
  | _ => none
def xv1 (st : XS) (f : EV → XS → XR) : XR := match st with
  | v :: st => f v st
  | _ => none
def xst (v : EV) (f : Nat → XR) : XR := match v with
  | .inr (.inr (.inr c)) => bif Nat.ble 3 c && Nat.blt c 21 then f (c - 3) else none
  | _ => none
/-- the next instruction lies so many bytes on (of a switch: nothing is asked) -/
def xln : Jvm.ClassFile.Instr → Nat
  | .bipush _ | .ldc _ | .iload _ | .lload _ | .aload _ | .istore _ | .astore _ | .newarray _ => 2
  | .sipush _ | .ldc_w _ | .ldc2_w _ | .iinc _ _ | .goto _ | .ifCond _ _ | .if_icmp _ _ | .ifnull _ | .ifnonnull _ | .getfield _ | .putfield _ | .getstatic _ | .invokestatic _ | .invokevirtual _ | .invokespecial _ | .new _ | .anewarray _ => 3
  | _ => 1
def st1 (sc : Nat × (Nat → Int32)) (o : Nat) (ini : Bool) (nL : Nat) (I : Jvm.ClassFile.Instr) (ls : XL) (st : XS) (w : EW) (κ : XL → XS → EW → XR) : XR :=
  match I with
  | .iconst n => κ ls (.inl (Int32.ofInt n) :: st) w
  | .bipush n => κ ls (.inl (Int8.ofInt n).toInt32 :: st) w
  | .sipush n => κ ls (.inl (Int16.ofInt n).toInt32 :: st) w
  | .lconst n => κ ls (.inr (.inl (Int64.ofNat (n : Nat))) :: st) w
  | .aconst_null => κ ls (.inr (.inr (.inl none)) :: st) w
  | .ldc k => (match xk (tL o) k with
    | some (.inl v) => κ ls (.inl v :: st) w
    | some (.inr i) => κ ls (.inr (.inr (.inr (3 + i))) :: st) w
    | none => none)
  | .ldc_w k => (match xk (tL o) k with
    | some (.inl v) => κ ls (.inl v :: st) w
    | _ => none)
  | .ldc2_w k => (match xk (tJ o) k with
    | some v => κ ls (.inr (.inl v) :: st) w
    | none => none)
  | .iload i => xli ls i fun x => κ ls (.inl x :: st) w
  | .iload_n i => xli ls i fun x => κ ls (.inl x :: st) w
  | .lload i => xlj ls i fun x => κ ls (.inr (.inl x) :: st) w
  | .lload_n i => xlj ls i fun x => κ ls (.inr (.inl x) :: st) w
  | .aload i => xla ls i fun x => κ ls (.inr (.inr x) :: st) w
  | .aload_n i => xla ls i fun x => κ ls (.inr (.inr x) :: st) w
  | .istore i => xi1 st fun x st => xls nL ls i (.inl x) fun ls => κ ls st w
  | .istore_n i => xi1 st fun x st => xls nL ls i (.inl x) fun ls => κ ls st w
  | .astore i => (match st with
    | .inr (.inr v) :: st => xls nL ls i (.inr (.inr v)) fun ls => κ ls st w
    | _ => none)
  | .astore_n i => (match st with
    | .inr (.inr v) :: st => xls nL ls i (.inr (.inr v)) fun ls => κ ls st w
    | _ => none)
  | .lstore_n i => (match st with
    | .inr (.inl v) :: st => xlt nL ls i (.inr (.inl v)) fun ls => κ ls st w
    | _ => none)
  | .iinc i n => xli ls i fun x => xls nL ls i (.inl (x + Int32.ofInt n)) fun ls => κ ls st w
  | .iadd => xii st fun x y st => κ ls (.inl (x + y) :: st) w
  | .isub => xii st fun x y st => κ ls (.inl (x - y) :: st) w
  | .imul => xii st fun x y st => κ ls (.inl (x * y) :: st) w
  | .iand => xii st fun x y st => κ ls (.inl (x &&& y) :: st) w
  | .ior => xii st fun x y st => κ ls (.inl (x ||| y) :: st) w
  | .ixor => xii st fun x y st => κ ls (.inl (x ^^^ y) :: st) w
  | .ishl => xii st fun x y st => κ ls (.inl (x <<< (y &&& 31)) :: st) w
  | .ishr => xii st fun x y st => κ ls (.inl (x >>> (y &&& 31)) :: st) w
  | .iushr => xii st fun x y st => κ ls (.inl (x.toUInt32 >>> (y.toUInt32 &&& Int32.toUInt32 31)).toInt32 :: st) w
  | .idiv => xii st fun x y st => if y = 0 then none else κ ls (.inl (x / y) :: st) w
  | .irem => xii st fun x y st => if y = 0 then none else κ ls (.inl (x - x / y * y) :: st) w
  | .ineg => xi1 st fun x st => κ ls (.inl (-x) :: st) w
  | .i2l => xi1 st fun x st => κ ls (.inr (.inl x.toInt64) :: st) w
  | .i2c => xi1 st fun x st => κ ls (.inl (x.toUInt32 % 65536).toInt32 :: st) w
  | .ladd => xjj st fun x y st => κ ls (.inr (.inl (x + y)) :: st) w
  | .lsub => xjj st fun x y st => κ ls (.inr (.inl (x - y)) :: st) w
  | .lmul => xjj st fun x y st => κ ls (.inr (.inl (x * y)) :: st) w
  | .lcmp => xjj st fun x y st => κ ls (.inl (lg_cmp x y) :: st) w
  | .dup => xv1 st fun v st => bif xc1 v then κ ls (v :: v :: st) w else none
  | .pop => xv1 st fun v st => bif xc1 v then κ ls st w else none
  | .dup2 => xv1 st fun v st => xv1 st fun u st => bif xc1 v && xc1 u then κ ls (v :: u :: v :: u :: st) w else none
  | .getfield k => (match xk (tF o k) k with
    | some (ci, j, kd) => xv1 st fun v st => bif Nat.beq kd 2 then (xga w ci j v).bind fun u => κ ls (.inr (.inr (.inl u)) :: st) w else bif Nat.ble kd 1 then (xgi w ci j v).bind fun x => κ ls (.inl x :: st) w else bif Nat.beq kd 3 then xst v fun c => κ ls (.inr (.inr (.inr (40 + c))) :: st) w else bif Nat.beq kd 4 then xst v fun _ => κ ls (.inl 0 :: st) w else none
    | none => none)
  | .putfield k => (match xk (tP o k) k with
    | some (ci, j, kd, fin) => xv1 st fun v st => xv1 st fun a st => bif xok kd v && (!fin || ini) then (xp w ci j v a).bind fun w2 => κ ls st w2 else none
    | none => none)
  | .getstatic k => (match xk (tS o) k with
    | some v => κ ls (v :: st) w
    | none => none)
  | .iaload => xi1 st fun i st => xv1 st fun a st => (xdi sc w i a).bind fun x => κ ls (.inl x :: st) w
  | .baload => xi1 st fun i st => xv1 st fun a st => (xdb w i a).bind fun x => κ ls (.inl x :: st) w
  | .aaload => xi1 st fun i st => xv1 st fun a st => (xdq w i a).bind fun u => κ ls (.inr (.inr (.inl u)) :: st) w
  | .iastore => xii st fun i x st => xv1 st fun a st => (xti w i x a).bind fun w2 => κ ls st w2
  | .bastore => xii st fun i x st => xv1 st fun a st => (xtb w i x a).bind fun w2 => κ ls st w2
  | .aastore => xv1 st fun v st => xi1 st fun i st => xv1 st fun a st => (xtq w i v a).bind fun w2 => κ ls st w2
  | .arraylength => xv1 st fun a st => (xnn sc w a).bind fun n => κ ls (.inl (Int32.ofNat n) :: st) w
  | .new k => (match xk (tN o) k with
    | some (ci, fs) => κ ls (.inr (.inr (.inl (some w.length))) :: st) (w ++ [cO ci fs])
    | none => none)
  | .newarray .int => xi1 st fun n st => if n < 0 then none else bif Nat.ble n.toNatClampNeg 100000 then κ ls (.inr (.inr (.inl (some w.length))) :: st) (w ++ [cI 0 n.toNatClampNeg (fun _ => 0)]) else none
  | .newarray .boolean => xi1 st fun n st => if n < 0 then none else bif Nat.ble n.toNatClampNeg 100000 then κ ls (.inr (.inr (.inl (some w.length))) :: st) (w ++ [cI 1 n.toNatClampNeg (fun _ => 0)]) else none
  | .anewarray k => (match xk (tQ o) k with
    | some t => xi1 st fun n st => if n < 0 then none else bif Nat.ble n.toNatClampNeg 100000 then κ ls (.inr (.inr (.inl (some w.length))) :: st) (w ++ [cQ t n.toNatClampNeg (fun _ => none)]) else none
    | none => none)
  | _ => none
/-- a jump: forward within what is left of the code, else as b says -/
def xjn (p : Nat) (off : Int) (f : Nat → XR) : XR := match (p : Int) + off with
  | .ofNat t => f t
  | .negSucc _ => none
def xj (f b : Nat → XL → XS → EW → XR) (p t : Nat) (ls : XL) (st : XS) (w : EW) : XR := bif Nat.blt p t then f t ls st w else b t ls st w
def xrt (rt : Nat) (x : Int32) : Bool := Nat.beq rt 1 || (Nat.beq rt 4 && (x == 0 || x == 1)) || (Nat.beq rt 5 && x.toUInt32.toUInt16.toUInt32.toInt32 == x) || (Nat.beq rt 6 && x.toInt8.toInt32 == x)
def xcv (r : XR) (f : EW → XR) : XR := match r with
  | some (none, w) => f w
  | _ => none
def xci (r : XR) (f : Int32 → EW → XR) : XR := match r with
  | some (some (.inl x), w) => f x w
  | _ => none
def xcj (r : XR) (f : Int64 → EW → XR) : XR := match r with
  | some (some (.inr (.inl x)), w) => f x w
  | _ => none
def xco (r : XR) (f : Option Nat → EW → XR) : XR := match r with
  | some (some (.inr (.inr (.inl u))), w) => f u w
  | _ => none
def xck (r : XR) (f : Nat → EW → XR) : XR := match r with
  | some (some (.inr (.inr (.inr c))), w) => f c w
  | _ => none
/-- what comes back, by its kind: nothing, int, long, object, constant -/
def xcr (rk : Nat) (r : XR) (st : XS) (κ : XS → EW → XR) : XR :=
  bif Nat.beq rk 0 then xcv r fun w => κ st w else bif Nat.beq rk 1 then xci r fun x w => κ (.inl x :: st) w else bif Nat.beq rk 2 then xcj r fun x w => κ (.inr (.inl x) :: st) w else bif Nat.beq rk 3 then xco r fun u w => κ (.inr (.inr (.inl u)) :: st) w else xck r fun c w => κ (.inr (.inr (.inr c)) :: st) w
def xak (n : Nat) (st : XS) (f : List EV → XS → XR) : XR := bif Nat.ble n st.length && Nat.ble (wc_rest (st.drop n)) 8 then f (st.take n).reverse (st.drop n) else none
/-- a call, by its kind -/
def xcS (i : Nat → List EV → EW → XR) (q : Nat × Nat × Nat × Nat × Nat) (st : XS) (w : EW) (κ : XS → EW → XR) : XR :=
  bif Nat.ble q.1 1 then xak q.2.2.1 st fun as st => xcr q.2.2.2.1 (i q.2.1 as w) st κ
  else bif Nat.ble (wc_rest st) 8 then
    (bif Nat.beq q.1 7 then xii st fun x y st => κ (.inl (if y < x then y else x) :: st) w
    else bif Nat.beq q.1 8 then xii st fun x y st => κ (.inl (if x < y then y else x) :: st) w
    else bif Nat.beq q.1 9 then xi1 st fun x st => κ (.inl (if 0 ≤ x then x else 0 - x) :: st) w
    else bif Nat.beq q.1 10 then (match st with
      | .inl n :: .inl dp :: .inr (.inr (.inl (some k1))) :: .inl sp :: .inr (.inr (.inl (some k0))) :: st => (match w[k0]?, w[k1]? with
        | some (.inr (.inl (t0, n0, f))), some (.inr (.inl (t1, n1, g))) => if sp < 0 ∨ dp < 0 ∨ n < 0 then none else bif Nat.beq t0 0 && Nat.beq t1 0 && Nat.ble (sp.toNatClampNeg + n.toNatClampNeg) n0 && Nat.ble (dp.toNatClampNeg + n.toNatClampNeg) n1 then κ st (w.set k1 (cI 0 n1 (va_cpy f g sp.toNatClampNeg dp.toNatClampNeg n.toNatClampNeg))) else none
        | _, _ => none)
      | _ => none)
    else none)
  else none
def xcV (i : Nat → List EV → EW → XR) (q : Nat × Nat × Nat × Nat × Nat) (st : XS) (w : EW) (κ : XS → EW → XR) : XR :=
  bif Nat.beq q.1 2 then xak q.2.2.1 st fun as st => xv1 st fun a st => bif xrv w q.2.2.2.2 a then xcr q.2.2.2.1 (i q.2.1 (a :: as) w) st κ else none
  else bif Nat.beq q.1 5 then xak q.2.2.1 st fun as st => xv1 st fun a st => xst a fun c => xcr q.2.2.2.1 (i q.2.1 (.inr (.inr (.inr (3 + c))) :: as) w) st κ
  else none
def xcI (i : Nat → List EV → EW → XR) (q : Nat × Nat × Nat × Nat × Nat) (st : XS) (w : EW) (κ : XS → EW → XR) : XR :=
  xak q.2.2.1 st fun as st => match st with
    | .inr (.inr (.inl (some k))) :: st => bif Nat.beq q.1 6 then κ st w else bif Nat.beq q.1 3 || Nat.beq q.1 4 then xcr 0 (i q.2.1 (.inr (.inr (.inl (some k))) :: as) w) st κ else none
    | _ => none
def fw (sc : Nat × (Nat → Int32)) (o rt : Nat) (ini : Bool) (nL : Nat) (i : Nat → List EV → EW → XR) (b : Nat → XL → XS → EW → XR) : XC → Nat → XL → XS → EW → XR
  | [], _, _, _, _ => none
  | (p, I) :: L, pc, ls, st, w => bif Nat.beq p pc then (match I with
    | .goto off => xjn p off fun t => xj (fw sc o rt ini nL i b L) b p t ls st w
    | .ifCond .eq off => xi1 st fun x st => xjn p off fun t => if x = 0 then xj (fw sc o rt ini nL i b L) b p t ls st w else fw sc o rt ini nL i b L (p + 3) ls st w
    | .ifCond .ne off => xi1 st fun x st => xjn p off fun t => if x = 0 then fw sc o rt ini nL i b L (p + 3) ls st w else xj (fw sc o rt ini nL i b L) b p t ls st w
    | .ifCond .lt off => xi1 st fun x st => xjn p off fun t => if x < 0 then xj (fw sc o rt ini nL i b L) b p t ls st w else fw sc o rt ini nL i b L (p + 3) ls st w
    | .ifCond .ge off => xi1 st fun x st => xjn p off fun t => if 0 ≤ x then xj (fw sc o rt ini nL i b L) b p t ls st w else fw sc o rt ini nL i b L (p + 3) ls st w
    | .ifCond .gt off => xi1 st fun x st => xjn p off fun t => if 0 < x then xj (fw sc o rt ini nL i b L) b p t ls st w else fw sc o rt ini nL i b L (p + 3) ls st w
    | .ifCond .le off => xi1 st fun x st => xjn p off fun t => if x ≤ 0 then xj (fw sc o rt ini nL i b L) b p t ls st w else fw sc o rt ini nL i b L (p + 3) ls st w
    | .if_icmp .eq off => xii st fun x y st => xjn p off fun t => if x = y then xj (fw sc o rt ini nL i b L) b p t ls st w else fw sc o rt ini nL i b L (p + 3) ls st w
    | .if_icmp .ne off => xii st fun x y st => xjn p off fun t => if x = y then fw sc o rt ini nL i b L (p + 3) ls st w else xj (fw sc o rt ini nL i b L) b p t ls st w
    | .if_icmp .lt off => xii st fun x y st => xjn p off fun t => if x < y then xj (fw sc o rt ini nL i b L) b p t ls st w else fw sc o rt ini nL i b L (p + 3) ls st w
    | .if_icmp .ge off => xii st fun x y st => xjn p off fun t => if y ≤ x then xj (fw sc o rt ini nL i b L) b p t ls st w else fw sc o rt ini nL i b L (p + 3) ls st w
    | .if_icmp .gt off => xii st fun x y st => xjn p off fun t => if y < x then xj (fw sc o rt ini nL i b L) b p t ls st w else fw sc o rt ini nL i b L (p + 3) ls st w
    | .if_icmp .le off => xii st fun x y st => xjn p off fun t => if x ≤ y then xj (fw sc o rt ini nL i b L) b p t ls st w else fw sc o rt ini nL i b L (p + 3) ls st w
    | .ifnull off => (match st with
      | .inr (.inr (.inl u)) :: st => xjn p off fun t => bif u.isNone then xj (fw sc o rt ini nL i b L) b p t ls st w else fw sc o rt ini nL i b L (p + 3) ls st w
      | _ => none)
    | .ifnonnull off => (match st with
      | .inr (.inr (.inl u)) :: st => xjn p off fun t => bif u.isNone then fw sc o rt ini nL i b L (p + 3) ls st w else xj (fw sc o rt ini nL i b L) b p t ls st w
      | _ => none)
    | .tableswitch d lo hi offs => xi1 st fun x st => if x.toInt < lo ∨ hi < x.toInt then xjn p d fun t => xj (fw sc o rt ini nL i b L) b p t ls st w else (match offs[(x.toInt - lo).toNat]? with
      | some off => xjn p off fun t => xj (fw sc o rt ini nL i b L) b p t ls st w
      | none => none)
    | .lookupswitch d ps => xi1 st fun x st => bif (ps.toList.zip (ps.toList.drop 1)).all (fun (a, next) => a.1 < next.1) then xjn p (Op.lookupswitch.offset ps.toList d x.toInt) fun t => xj (fw sc o rt ini nL i b L) b p t ls st w else none
    | .ireturn => (match st with
      | [.inl x] => bif xrt rt x then some (some (.inl x), w) else none
      | _ => none)
    | .lreturn => (match st with
      | [.inr (.inl x)] => bif Nat.beq rt 2 then some (some (.inr (.inl x)), w) else none
      | _ => none)
    | .areturn => (match st with
      | [.inr (.inr x)] => bif Nat.beq rt 3 then some (some (.inr (.inr x)), w) else none
      | _ => none)
    | .return_ => (match st with
      | [] => bif Nat.beq rt 0 then some (none, w) else none
      | _ => none)
    | .invokestatic k => (match xk (tC o k) k with
      | some q => xcS i q st w fun st w => fw sc o rt ini nL i b L (p + 3) ls st w
      | none => none)
    | .invokevirtual k => (match xk (tC o k) k with
      | some q => xcV i q st w fun st w => fw sc o rt ini nL i b L (p + 3) ls st w
      | none => none)
    | .invokespecial k => (match xk (tC o k) k with
      | some q => xcI i q st w fun st w => fw sc o rt ini nL i b L (p + 3) ls st w
      | none => none)
    | I => st1 sc o ini nL I ls st w fun ls st w => fw sc o rt ini nL i b L (p + xln I) ls st w)
    else fw sc o rt ini nL i b L pc ls st w
def ex (sc : Nat × (Nat → Int32)) (o rt : Nat) (ini : Bool) (nL : Nat) (i : Nat → List EV → EW → XR) (C : XC) : Nat → Nat → XL → XS → EW → XR
  | 0 => fun _ _ _ _ => none
  | k + 1 => fw sc o rt ini nL i (ex sc o rt ini nL i C k) C
abbrev XM : Type := Nat × Nat × Bool × XC
/-- the methods of a table T, called so deep at most, so many jumps back at most in each -/
def xM (sc : Nat × (Nat → Int32)) (T : List (Nat × XM)) (F : Nat) : Nat → Nat → List EV → EW → XR
  | 0 => fun _ _ _ => none
  | d + 1 => fun y as w => match xk T y with
    | some (o, rt, ini, C) => bif Nat.ble (wc_in0 as).length (yq y).2.2.1 then ex sc o rt ini (yq y).2.2.1 (xM sc T F d) C F 0 (wc_in (yq y).2.2.1 as) [] w else none
    | none => none
