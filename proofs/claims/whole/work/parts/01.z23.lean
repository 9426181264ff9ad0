theorem zz_23 : 0 = 0 := rfl
