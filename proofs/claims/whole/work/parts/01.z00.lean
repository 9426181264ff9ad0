theorem zz_00 : 0 = 0 := rfl
