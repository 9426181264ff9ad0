theorem zz_07 : 0 = 0 := rfl
