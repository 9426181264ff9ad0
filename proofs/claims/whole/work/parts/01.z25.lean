theorem zz_25 : 0 = 0 := rfl
