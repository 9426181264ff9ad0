theorem zz_01 : 0 = 0 := rfl
