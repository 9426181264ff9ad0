theorem zz_22 : 0 = 0 := rfl
