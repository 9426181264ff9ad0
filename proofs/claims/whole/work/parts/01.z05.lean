theorem zz_05 : 0 = 0 := rfl
