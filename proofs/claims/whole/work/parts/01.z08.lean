theorem zz_08 : 0 = 0 := rfl
