theorem zz_17 : 0 = 0 := rfl
