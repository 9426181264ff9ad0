theorem zz_21 : 0 = 0 := rfl
