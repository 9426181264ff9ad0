theorem zz_16 : 0 = 0 := rfl
