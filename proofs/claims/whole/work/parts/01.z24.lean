theorem zz_24 : 0 = 0 := rfl
