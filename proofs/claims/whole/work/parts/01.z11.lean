theorem zz_11 : 0 = 0 := rfl
