/-- one instruction, f what is left of the code -/
def fs (sc : Nat × (Nat → Int32)) (o rt : Nat) (ini : Bool) (nL : Nat) (i : Nat → List EV → EW → XR) (b f : Nat → XL → XS → EW → XR) (p : Nat) (I : Jvm.ClassFile.Instr) (pc : Nat) (ls : XL) (st : XS) (w : EW) : XR :=
  bif Nat.beq p pc then (match I with
    | .goto off => xjn p off fun t => xj f b p t ls st w
    | .ifCond .eq off => xi1 st fun x st => xjn p off fun t => if x = 0 then xj f b p t ls st w else f (p + 3) ls st w
    | .ifCond .ne off => xi1 st fun x st => xjn p off fun t => if x = 0 then f (p + 3) ls st w else xj f b p t ls st w
    | .ifCond .lt off => xi1 st fun x st => xjn p off fun t => if x < 0 then xj f b p t ls st w else f (p + 3) ls st w
    | .ifCond .ge off => xi1 st fun x st => xjn p off fun t => if 0 ≤ x then xj f b p t ls st w else f (p + 3) ls st w
    | .ifCond .gt off => xi1 st fun x st => xjn p off fun t => if 0 < x then xj f b p t ls st w else f (p + 3) ls st w
    | .ifCond .le off => xi1 st fun x st => xjn p off fun t => if x ≤ 0 then xj f b p t ls st w else f (p + 3) ls st w
    | .if_icmp .eq off => xii st fun x y st => xjn p off fun t => if x = y then xj f b p t ls st w else f (p + 3) ls st w
    | .if_icmp .ne off => xii st fun x y st => xjn p off fun t => if x = y then f (p + 3) ls st w else xj f b p t ls st w
    | .if_icmp .lt off => xii st fun x y st => xjn p off fun t => if x < y then xj f b p t ls st w else f (p + 3) ls st w
    | .if_icmp .ge off => xii st fun x y st => xjn p off fun t => if y ≤ x then xj f b p t ls st w else f (p + 3) ls st w
    | .if_icmp .gt off => xii st fun x y st => xjn p off fun t => if y < x then xj f b p t ls st w else f (p + 3) ls st w
    | .if_icmp .le off => xii st fun x y st => xjn p off fun t => if x ≤ y then xj f b p t ls st w else f (p + 3) ls st w
    | .ifnull off => (match st with
      | .inr (.inr (.inl u)) :: st => xjn p off fun t => bif u.isNone then xj f b p t ls st w else f (p + 3) ls st w
      | _ => none)
    | .ifnonnull off => (match st with
      | .inr (.inr (.inl u)) :: st => xjn p off fun t => bif u.isNone then f (p + 3) ls st w else xj f b p t ls st w
      | _ => none)
    | .tableswitch d lo hi offs => xi1 st fun x st => if x.toInt < lo ∨ hi < x.toInt then xjn p d fun t => xj f b p t ls st w else (match offs[(x.toInt - lo).toNat]? with
      | some off => xjn p off fun t => xj f b p t ls st w
      | none => none)
    | .lookupswitch d ps => xi1 st fun x st => bif (ps.toList.zip (ps.toList.drop 1)).all (fun (a, next) => a.1 < next.1) then xjn p (Op.lookupswitch.offset ps.toList d x.toInt) fun t => xj f b p t ls st w else none
    | .ireturn => (match st with
      | [.inl x] => bif xrt rt x then some (some (.inl x), w) else none
      | _ => none)
    | .lreturn => (match st with
      | [.inr (.inl x)] => bif Nat.beq rt 2 then some (some (.inr (.inl x)), w) else none
      | _ => none)
    | .areturn => (match st with
      | [.inr (.inr x)] => bif Nat.beq rt 3 then some (some (.inr (.inr x)), w) else none
      | _ => none)
    | .return_ => (match st with
      | [] => bif Nat.beq rt 0 then some (none, w) else none
      | _ => none)
    | .invokestatic k => (match xk (tC o k) k with
      | some q => xcS i q st w fun st w => f (p + 3) ls st w
      | none => none)
    | .invokevirtual k => (match xk (tC o k) k with
      | some q => xcV i q st w fun st w => f (p + 3) ls st w
      | none => none)
    | .invokespecial k => (match xk (tC o k) k with
      | some q => xcI i q st w fun st w => f (p + 3) ls st w
      | none => none)
    | I => st1 sc o ini nL I ls st w fun ls st w => f (p + xln I) ls st w)
    else f pc ls st w
/-- a block, g what lies behind it -/
def fz (sc : Nat × (Nat → Int32)) (o rt : Nat) (ini : Bool) (nL : Nat) (i : Nat → List EV → EW → XR) (b g : Nat → XL → XS → EW → XR) : XC → Nat → XL → XS → EW → XR
  | [] => g
  | q :: L => fs sc o rt ini nL i b (fz sc o rt ini nL i b g L) q.1 q.2
section XFZ
variable {sc : Nat × (Nat → Int32)} {o rt : Nat} {ini : Bool} {nL : Nat} {i : Nat → List EV → EW → XR} {b : Nat → XL → XS → EW → XR}
theorem fw_cons {p : Nat} {I : Jvm.ClassFile.Instr} {L : XC} : fw sc o rt ini nL i b ((p, I) :: L) = fs sc o rt ini nL i b (fw sc o rt ini nL i b L) p I := by
  funext pc ls st w
  conv => lhs; unfold fw
  rfl
theorem fw_app : ∀ {A L2 : XC}, fw sc o rt ini nL i b (A ++ L2) = fz sc o rt ini nL i b (fw sc o rt ini nL i b L2) A
  | [], _ => rfl
  | (p, I) :: A, L2 => by
    show fw sc o rt ini nL i b ((p, I) :: (A ++ L2)) = fs sc o rt ini nL i b (fz sc o rt ini nL i b (fw sc o rt ini nL i b L2) A) p I
    rw [fw_cons, fw_app]
end XFZ
def xdr : XC → Nat → XC
  | [], _ => []
  | (p, I) :: L, t => bif Nat.beq p t then (p, I) :: L else xdr L t
theorem fw_drop {sc : Nat × (Nat → Int32)} {o rt : Nat} {ini : Bool} {nL : Nat} {i : Nat → List EV → EW → XR} {b : Nat → XL → XS → EW → XR} {t : Nat} {ls : XL} {st : XS} {w : EW} : ∀ {L L2 : XC}, xdr L t = L2 → fw sc o rt ini nL i b L t ls st w = fw sc o rt ini nL i b L2 t ls st w
  | [], L2, h => by subst h; rfl
  | (p, I) :: L, L2, h => by
    subst h
    unfold xdr
    cases e : Nat.beq p t with
    | true => rfl
    | false =>
      simp only [cond_false]
      rw [← fw_drop (L := L) rfl]
      conv => lhs; unfold fw
      rw [e]
      rfl
/-! the same machine under a name that nothing unfolds -/
abbrev XFT : Type := Nat × (Nat → Int32) → Nat → Nat → Bool → Nat → (Nat → List EV → EW → XR) → (Nat → XL → XS → EW → XR) → XC → Nat → XL → XS → EW → XR
theorem fW_ex : ∃ f : XFT, f = fw := ⟨fw, rfl⟩
noncomputable def fW : XFT := Classical.choose fW_ex
theorem fW_eq : fW = fw := Classical.choose_spec fW_ex
theorem fW_app {sc : Nat × (Nat → Int32)} {o rt : Nat} {ini : Bool} {nL : Nat} {i : Nat → List EV → EW → XR} {b : Nat → XL → XS → EW → XR} {A L2 L : XC} {pc : Nat} {ls : XL} {st : XS} {w : EW} (h : A ++ L2 = L) : fW sc o rt ini nL i b L pc ls st w = fz sc o rt ini nL i b (fW sc o rt ini nL i b L2) A pc ls st w := by
  subst h
  rw [fW_eq, fw_app]
theorem fW_drop {sc : Nat × (Nat → Int32)} {o rt : Nat} {ini : Bool} {nL : Nat} {i : Nat → List EV → EW → XR} {b : Nat → XL → XS → EW → XR} {t : Nat} {ls : XL} {st : XS} {w : EW} {L L2 : XC} (h : xdr L t = L2) : fW sc o rt ini nL i b L t ls st w = fW sc o rt ini nL i b L2 t ls st w := by
  rw [fW_eq]
  exact fw_drop h
theorem eX_eq {sc : Nat × (Nat → Int32)} {o rt : Nat} {ini : Bool} {nL : Nat} {i : Nat → List EV → EW → XR} {C : XC} {k : Nat} : ex sc o rt ini nL i C (k + 1) = fW sc o rt ini nL i (ex sc o rt ini nL i C k) C := by
  rw [fW_eq]; rfl
