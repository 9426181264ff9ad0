theorem zz_13 : 0 = 0 := rfl
