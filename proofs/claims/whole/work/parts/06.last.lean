theorem pj_tst : 1 = 1 := rfl
