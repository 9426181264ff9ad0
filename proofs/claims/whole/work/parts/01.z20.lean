theorem zz_20 : 0 = 0 := rfl
