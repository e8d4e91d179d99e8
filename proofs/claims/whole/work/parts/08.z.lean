theorem zz_t0 : 1 = 1 := rfl
