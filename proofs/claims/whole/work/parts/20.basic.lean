theorem sx_probe : sx_ml 10 = 3 := mm_10
