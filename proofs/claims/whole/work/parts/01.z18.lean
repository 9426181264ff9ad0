theorem zz_18 : 0 = 0 := rfl
