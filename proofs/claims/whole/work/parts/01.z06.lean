theorem zz_06 : 0 = 0 := rfl
