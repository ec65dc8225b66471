theorem zz_v : (2 : Nat) = 2 := rfl
