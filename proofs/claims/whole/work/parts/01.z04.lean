theorem zz_04 : 0 = 0 := rfl
