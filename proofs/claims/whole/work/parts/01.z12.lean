theorem zz_12 : 0 = 0 := rfl
