theorem zz_14 : 0 = 0 := rfl
