theorem zz_10 : 0 = 0 := rfl
