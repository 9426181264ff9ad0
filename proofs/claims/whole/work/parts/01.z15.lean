theorem zz_15 : 0 = 0 := rfl
