theorem zz_02 : 0 = 0 := rfl
