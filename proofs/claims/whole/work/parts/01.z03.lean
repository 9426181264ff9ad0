theorem zz_03 : 0 = 0 := rfl
