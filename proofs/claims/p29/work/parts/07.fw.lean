theorem zz_ok : (1 : Nat) = 1 := rfl
