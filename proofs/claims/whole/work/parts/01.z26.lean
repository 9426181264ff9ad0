theorem zz_26 : 0 = 0 := rfl
