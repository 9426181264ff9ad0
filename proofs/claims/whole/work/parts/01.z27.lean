theorem zz_27 : 0 = 0 := rfl
