theorem zz_09 : 0 = 0 := rfl
