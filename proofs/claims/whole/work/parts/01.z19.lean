theorem zz_19 : 0 = 0 := rfl
