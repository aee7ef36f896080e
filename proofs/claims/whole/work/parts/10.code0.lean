theorem bb_0 : sx_by 0 = cX0_init := rfl
theorem oo_0 : (sx_nm 0).cls = "StrawGarrison$Book" := rfl
theorem mm_0 : sx_ml 0 = 1 := rfl
theorem rr_0 : sx_rt 0 = none := rfl
theorem cc_0 : sx_ct 0 := rfl
def x0_40 : List sx_E := (.return_, 40, 41, [], .null) :: []
theorem ox0_40 : sx_oks 0 x0_40 := ⟨⟨(sx_dd bb_0 dX0_init_40), rr_0⟩, trivial⟩
def x0_37 : List sx_E := (.putfield 22, 37, 40, [0, 2, 1], .null) :: x0_40
theorem ox0_37 : sx_oks 0 x0_37 := ⟨sx_q_put (w := (RX0, TX0, 3)) (ty0 := tyX0) (sx_dd bb_0 dX0_init_37) rfl (Nat.le_of_ble_eq_true rfl) cu_0 (sx_ow3 oo_0 fl_StrawGarrison_Book_22) (by decide +kernel) tyX0_ok nmX0 (Or.inr ⟨rfl, cc_0, sx_ow0 oo_0 rfl⟩) (fun h => absurd h (by decide)) (fun h => absurd h (by decide)) (fun _ => Or.inr ⟨_, rfl⟩), ox0_40⟩
def x0_36 : List sx_E := (.iastore, 36, 37, [], .null) :: x0_37
theorem ox0_36 : sx_oks 0 x0_36 := ⟨⟨(sx_dd bb_0 dX0_init_36), rfl⟩, ox0_37⟩
def x0_34 : List sx_E := (.nop, 34, 36, [], .int ((-1000000005))) :: x0_36
theorem ox0_34 : sx_oks 0 x0_34 := ⟨sx_k_ldc (sx_dd bb_0 dX0_init_34) (sx_ow1 oo_0 kc_StrawGarrison_Book_21), ox0_36⟩
def x0_33 : List sx_E := (.nop, 33, 34, [], .int (nI 2)) :: x0_34
theorem ox0_33 : sx_oks 0 x0_33 := ⟨sx_k_iconst (sx_dd bb_0 dX0_init_33) (by decide +kernel), ox0_34⟩
def x0_32 : List sx_E := (.dup, 32, 33, [], .null) :: x0_33
theorem ox0_32 : sx_oks 0 x0_32 := ⟨⟨(sx_dd bb_0 dX0_init_32), rfl⟩, ox0_33⟩
def x0_31 : List sx_E := (.iastore, 31, 32, [], .null) :: x0_32
theorem ox0_31 : sx_oks 0 x0_31 := ⟨⟨(sx_dd bb_0 dX0_init_31), rfl⟩, ox0_32⟩
def x0_29 : List sx_E := (.nop, 29, 31, [], .int ((-1000000005))) :: x0_31
theorem ox0_29 : sx_oks 0 x0_29 := ⟨sx_k_ldc (sx_dd bb_0 dX0_init_29) (sx_ow1 oo_0 kc_StrawGarrison_Book_21), ox0_31⟩
def x0_28 : List sx_E := (.nop, 28, 29, [], .int (nI 1)) :: x0_29
theorem ox0_28 : sx_oks 0 x0_28 := ⟨sx_k_iconst (sx_dd bb_0 dX0_init_28) (by decide +kernel), ox0_29⟩
def x0_27 : List sx_E := (.dup, 27, 28, [], .null) :: x0_28
theorem ox0_27 : sx_oks 0 x0_27 := ⟨⟨(sx_dd bb_0 dX0_init_27), rfl⟩, ox0_28⟩
def x0_26 : List sx_E := (.iastore, 26, 27, [], .null) :: x0_27
theorem ox0_26 : sx_oks 0 x0_26 := ⟨⟨(sx_dd bb_0 dX0_init_26), rfl⟩, ox0_27⟩
def x0_24 : List sx_E := (.nop, 24, 26, [], .int ((-1000000005))) :: x0_26
theorem ox0_24 : sx_oks 0 x0_24 := ⟨sx_k_ldc (sx_dd bb_0 dX0_init_24) (sx_ow1 oo_0 kc_StrawGarrison_Book_21), ox0_26⟩
def x0_23 : List sx_E := (.nop, 23, 24, [], .int (nI 0)) :: x0_24
theorem ox0_23 : sx_oks 0 x0_23 := ⟨sx_k_iconst (sx_dd bb_0 dX0_init_23) (by decide +kernel), ox0_24⟩
def x0_22 : List sx_E := (.dup, 22, 23, [], .null) :: x0_23
theorem ox0_22 : sx_oks 0 x0_22 := ⟨⟨(sx_dd bb_0 dX0_init_22), rfl⟩, ox0_23⟩
def x0_20 : List sx_E := (.newarray .int, 20, 22, [0, 3], .null) :: x0_22
theorem ox0_20 : sx_oks 0 x0_20 := ⟨sx_q_newa (sx_dd bb_0 dX0_init_20) (Nat.le_of_ble_eq_true rfl) (Or.inl ⟨rfl, rfl⟩) ca_0, ox0_22⟩
def x0_19 : List sx_E := (.nop, 19, 20, [], .int (nI 3)) :: x0_20
theorem ox0_19 : sx_oks 0 x0_19 := ⟨sx_k_iconst (sx_dd bb_0 dX0_init_19) (by decide +kernel), ox0_20⟩
def x0_18 : List sx_E := (.aload 0, 18, 19, [], .null) :: x0_19
theorem ox0_18 : sx_oks 0 x0_18 := ⟨Or.inr ⟨_, (sx_dd bb_0 dX0_init_18), rfl, rfl⟩, ox0_19⟩
def x0_15 : List sx_E := (.putfield 17, 15, 18, [0, 0, 1], .null) :: x0_18
theorem ox0_15 : sx_oks 0 x0_15 := ⟨sx_q_put (w := (RX0, TX0, 3)) (ty0 := tyX0) (sx_dd bb_0 dX0_init_15) rfl (Nat.le_of_ble_eq_true rfl) cu_0 (sx_ow3 oo_0 fl_StrawGarrison_Book_17) (by decide +kernel) tyX0_ok nmX0 (Or.inr ⟨rfl, cc_0, sx_ow0 oo_0 rfl⟩) (fun h => absurd h (by decide)) (fun h => absurd h (by decide)) (fun _ => Or.inr ⟨_, rfl⟩), ox0_18⟩
def x0_12 : List sx_E := (.anewarray 15, 12, 15, [3, 14], .null) :: x0_15
theorem ox0_12 : sx_oks 0 x0_12 := ⟨sx_q_anewa (sx_dd bb_0 dX0_init_12) (Nat.le_of_ble_eq_true rfl) (Or.inl ⟨rfl, sx_ow4 oo_0 cl_StrawGarrison_Book_15_s⟩), ox0_15⟩
def x0_10 : List sx_E := (.nop, 10, 12, [], .int (nI 14)) :: x0_12
theorem ox0_10 : sx_oks 0 x0_10 := ⟨sx_k_bipush (sx_dd bb_0 dX0_init_10) (by decide +kernel), ox0_12⟩
def x0_9 : List sx_E := (.aload 0, 9, 10, [], .null) :: x0_10
theorem ox0_9 : sx_oks 0 x0_9 := ⟨Or.inr ⟨_, (sx_dd bb_0 dX0_init_9), rfl, rfl⟩, ox0_10⟩
def x0_6 : List sx_E := (.putfield 9, 6, 9, [0, 1, 0], .null) :: x0_9
theorem ox0_6 : sx_oks 0 x0_6 := ⟨sx_q_put (w := (RX0, TX0, 3)) (ty0 := tyX0) (sx_dd bb_0 dX0_init_6) rfl (Nat.le_of_ble_eq_true rfl) cu_0 (sx_ow3 oo_0 fl_StrawGarrison_Book_9) (by decide +kernel) tyX0_ok nmX0 (Or.inl rfl) (fun _ => rfl) (fun h => absurd h (by decide)) (fun h => absurd h (by decide)), ox0_9⟩
def x0_5 : List sx_E := (.nop, 5, 6, [], .int (nI 0)) :: x0_6
theorem ox0_5 : sx_oks 0 x0_5 := ⟨sx_k_iconst (sx_dd bb_0 dX0_init_5) (by decide +kernel), ox0_6⟩
def x0_4 : List sx_E := (.aload 0, 4, 5, [], .null) :: x0_5
theorem ox0_4 : sx_oks 0 x0_4 := ⟨Or.inr ⟨_, (sx_dd bb_0 dX0_init_4), rfl, rfl⟩, ox0_5⟩
def x0_1 : List sx_E := (.jsr 0, 1, 4, [], .null) :: x0_4
theorem ox0_1 : sx_oks 0 x0_1 := ⟨⟨3, (sx_dd bb_0 dX0_init_1), rfl, sx_ow5 oo_0 ob_StrawGarrison_Book_3, ob_i, ob_c⟩, ox0_4⟩
def x0_0 : List sx_E := (.aload 0, 0, 1, [], .null) :: x0_1
theorem ox0_0 : sx_oks 0 x0_0 := ⟨Or.inr ⟨_, (sx_dd bb_0 dX0_init_0), rfl, rfl⟩, ox0_1⟩
theorem m0 : sx_mok 0 x0_0 := ⟨ox0_0, by decide +kernel⟩
theorem bb_1 : sx_by 1 = cX0_become := rfl
theorem oo_1 : (sx_nm 1).cls = "StrawGarrison$Book" := rfl
theorem mm_1 : sx_ml 1 = 3 := rfl
theorem rr_1 : sx_rt 1 = none := rfl
def x1_48 : List sx_E := (.return_, 48, 49, [], .null) :: []
theorem ox1_48 : sx_oks 1 x1_48 := ⟨⟨(sx_dd bb_1 dX0_become_48), rr_1⟩, trivial⟩
def x1_45 : List sx_E := (.ret 26, 45, 48, [], .null) :: x1_48
theorem ox1_45 : sx_oks 1 x1_45 := ⟨⟨(sx_dd bb_1 dX0_become_45), rfl, sx_ow5 oo_1 ac_StrawGarrison_Book_26, ac_n, ac_s, ac_i⟩, ox1_48⟩
def x1_44 : List sx_E := (.nop, 44, 45, [], .int (nI 3)) :: x1_45
theorem ox1_44 : sx_oks 1 x1_44 := ⟨sx_k_iconst (sx_dd bb_1 dX0_become_44) (by decide +kernel), ox1_45⟩
def x1_43 : List sx_E := (.nop, 43, 44, [], .int (nI 0)) :: x1_44
theorem ox1_43 : sx_oks 1 x1_43 := ⟨sx_k_iconst (sx_dd bb_1 dX0_become_43) (by decide +kernel), ox1_44⟩
def x1_40 : List sx_E := (.getfield 22, 40, 43, [0, 2, 1], .null) :: x1_43
theorem ox1_40 : sx_oks 1 x1_40 := ⟨sx_q_get (w := (RX0, TX0, 3)) (sx_dd bb_1 dX0_become_40) rfl rfl (Nat.le_of_ble_eq_true rfl) cu_0 (sx_ow3 oo_1 fl_StrawGarrison_Book_22) (by decide +kernel), ox1_43⟩
def x1_39 : List sx_E := (.aload 0, 39, 40, [], .null) :: x1_40
theorem ox1_39 : sx_oks 1 x1_39 := ⟨Or.inr ⟨_, (sx_dd bb_1 dX0_become_39), rfl, rfl⟩, ox1_40⟩
def x1_38 : List sx_E := (.nop, 38, 39, [], .int (nI 0)) :: x1_39
theorem ox1_38 : sx_oks 1 x1_38 := ⟨sx_k_iconst (sx_dd bb_1 dX0_become_38) (by decide +kernel), ox1_39⟩
def x1_35 : List sx_E := (.getfield 22, 35, 38, [0, 2, 1], .null) :: x1_38
theorem ox1_35 : sx_oks 1 x1_35 := ⟨sx_q_get (w := (RX0, TX0, 3)) (sx_dd bb_1 dX0_become_35) rfl rfl (Nat.le_of_ble_eq_true rfl) cu_0 (sx_ow3 oo_1 fl_StrawGarrison_Book_22) (by decide +kernel), ox1_38⟩
def x1_34 : List sx_E := (.aload 1, 34, 35, [], .null) :: x1_35
theorem ox1_34 : sx_oks 1 x1_34 := ⟨Or.inr ⟨_, (sx_dd bb_1 dX0_become_34), rfl, rfl⟩, ox1_35⟩
def x1_31 : List sx_E := (.goto (-21), 31, 34, [10], .null) :: x1_34
theorem ox1_31 : sx_oks 1 x1_31 := ⟨⟨(sx_dd bb_1 dX0_become_31), sx_t1 (by decide +kernel)⟩, ox1_34⟩
def x1_28 : List sx_E := (.iinc 2 (1), 28, 31, [], .int (nI 1)) :: x1_31
theorem ox1_28 : sx_oks 1 x1_28 := ⟨⟨sx_lt mm_1 (Nat.le_of_ble_eq_true rfl), (sx_dd bb_1 dX0_become_28), rfl, by decide +kernel⟩, ox1_31⟩
def x1_27 : List sx_E := (.aastore, 27, 28, [], .null) :: x1_28
theorem ox1_27 : sx_oks 1 x1_27 := ⟨⟨(sx_dd bb_1 dX0_become_27), rfl⟩, ox1_28⟩
def x1_26 : List sx_E := (.aaload, 26, 27, [], .null) :: x1_27
theorem ox1_26 : sx_oks 1 x1_26 := ⟨⟨(sx_dd bb_1 dX0_become_26), rfl⟩, ox1_27⟩
def x1_25 : List sx_E := (.iload 2, 25, 26, [], .null) :: x1_26
theorem ox1_25 : sx_oks 1 x1_25 := ⟨Or.inr ⟨_, (sx_dd bb_1 dX0_become_25), rfl, rfl⟩, ox1_26⟩
def x1_22 : List sx_E := (.getfield 17, 22, 25, [0, 0, 1], .null) :: x1_25
theorem ox1_22 : sx_oks 1 x1_22 := ⟨sx_q_get (w := (RX0, TX0, 3)) (sx_dd bb_1 dX0_become_22) rfl rfl (Nat.le_of_ble_eq_true rfl) cu_0 (sx_ow3 oo_1 fl_StrawGarrison_Book_17) (by decide +kernel), ox1_25⟩
def x1_21 : List sx_E := (.aload 1, 21, 22, [], .null) :: x1_22
theorem ox1_21 : sx_oks 1 x1_21 := ⟨Or.inr ⟨_, (sx_dd bb_1 dX0_become_21), rfl, rfl⟩, ox1_22⟩
def x1_20 : List sx_E := (.iload 2, 20, 21, [], .null) :: x1_21
theorem ox1_20 : sx_oks 1 x1_20 := ⟨Or.inr ⟨_, (sx_dd bb_1 dX0_become_20), rfl, rfl⟩, ox1_21⟩
def x1_17 : List sx_E := (.getfield 17, 17, 20, [0, 0, 1], .null) :: x1_20
theorem ox1_17 : sx_oks 1 x1_17 := ⟨sx_q_get (w := (RX0, TX0, 3)) (sx_dd bb_1 dX0_become_17) rfl rfl (Nat.le_of_ble_eq_true rfl) cu_0 (sx_ow3 oo_1 fl_StrawGarrison_Book_17) (by decide +kernel), ox1_20⟩
def x1_16 : List sx_E := (.aload 0, 16, 17, [], .null) :: x1_17
theorem ox1_16 : sx_oks 1 x1_16 := ⟨Or.inr ⟨_, (sx_dd bb_1 dX0_become_16), rfl, rfl⟩, ox1_17⟩
def x1_13 : List sx_E := (.if_icmp .ge (21), 13, 16, [34], .null) :: x1_16
theorem ox1_13 : sx_oks 1 x1_13 := ⟨⟨(sx_dd bb_1 dX0_become_13), rfl, sx_t1 (by decide +kernel)⟩, ox1_16⟩
def x1_11 : List sx_E := (.nop, 11, 13, [], .int (nI 14)) :: x1_13
theorem ox1_11 : sx_oks 1 x1_11 := ⟨sx_k_bipush (sx_dd bb_1 dX0_become_11) (by decide +kernel), ox1_13⟩
def x1_10 : List sx_E := (.iload 2, 10, 11, [], .null) :: x1_11
theorem ox1_10 : sx_oks 1 x1_10 := ⟨Or.inr ⟨_, (sx_dd bb_1 dX0_become_10), rfl, rfl⟩, ox1_11⟩
def x1_10h : List sx_E := (.monitorenter, 10, 10, [0, 1, 2], .null) :: x1_10
theorem ox1_10h : sx_oks 1 x1_10h := ⟨trivial, ox1_10⟩
def x1_9 : List sx_E := (.istore 2, 9, 10, [], .null) :: x1_10h
theorem ox1_9 : sx_oks 1 x1_9 := ⟨⟨sx_lt mm_1 (Nat.le_of_ble_eq_true rfl), Or.inr ⟨_, (sx_dd bb_1 dX0_become_9), rfl, rfl⟩⟩, ox1_10h⟩
def x1_8 : List sx_E := (.nop, 8, 9, [], .int (nI 0)) :: x1_9
theorem ox1_8 : sx_oks 1 x1_8 := ⟨sx_k_iconst (sx_dd bb_1 dX0_become_8) (by decide +kernel), ox1_9⟩
def x1_5 : List sx_E := (.putfield 9, 5, 8, [0, 1, 0], .null) :: x1_8
theorem ox1_5 : sx_oks 1 x1_5 := ⟨sx_q_put (w := (RX0, TX0, 3)) (ty0 := tyX0) (sx_dd bb_1 dX0_become_5) rfl (Nat.le_of_ble_eq_true rfl) cu_0 (sx_ow3 oo_1 fl_StrawGarrison_Book_9) (by decide +kernel) tyX0_ok nmX0 (Or.inl rfl) (fun _ => rfl) (fun h => absurd h (by decide)) (fun h => absurd h (by decide)), ox1_8⟩
def x1_2 : List sx_E := (.getfield 9, 2, 5, [0, 1, 0], .null) :: x1_5
theorem ox1_2 : sx_oks 1 x1_2 := ⟨sx_q_get (w := (RX0, TX0, 3)) (sx_dd bb_1 dX0_become_2) rfl rfl (Nat.le_of_ble_eq_true rfl) cu_0 (sx_ow3 oo_1 fl_StrawGarrison_Book_9) (by decide +kernel), ox1_5⟩
def x1_1 : List sx_E := (.aload 1, 1, 2, [], .null) :: x1_2
theorem ox1_1 : sx_oks 1 x1_1 := ⟨Or.inr ⟨_, (sx_dd bb_1 dX0_become_1), rfl, rfl⟩, ox1_2⟩
def x1_0 : List sx_E := (.aload 0, 0, 1, [], .null) :: x1_1
theorem ox1_0 : sx_oks 1 x1_0 := ⟨Or.inr ⟨_, (sx_dd bb_1 dX0_become_0), rfl, rfl⟩, ox1_1⟩
theorem m1 : sx_mok 1 x1_0 := ⟨ox1_0, by decide +kernel⟩
theorem bb_2 : sx_by 2 = cX0_rowOf := rfl
theorem oo_2 : (sx_nm 2).cls = "StrawGarrison$Book" := rfl
theorem mm_2 : sx_ml 2 = 2 := rfl
theorem rr_2 : sx_rt 2 = (some (.object "StrawGarrison$Text")) := rfl
def x2_24 : List sx_E := (.areturn, 24, 25, [], .null) :: []
theorem ox2_24 : sx_oks 2 x2_24 := ⟨⟨(sx_dd bb_2 dX0_rowOf_24), _, rr_2, Or.inl ⟨_, rfl⟩⟩, trivial⟩
def x2_23 : List sx_E := (.nop, 23, 24, [], .null) :: x2_24
theorem ox2_23 : sx_oks 2 x2_23 := ⟨sx_k_null (sx_dd bb_2 dX0_rowOf_23), ox2_24⟩
def x2_20 : List sx_E := (.goto (4), 20, 23, [24], .null) :: x2_23
theorem ox2_20 : sx_oks 2 x2_20 := ⟨⟨(sx_dd bb_2 dX0_rowOf_20), sx_t1 (by decide +kernel)⟩, ox2_23⟩
def x2_19 : List sx_E := (.aaload, 19, 20, [], .null) :: x2_20
theorem ox2_19 : sx_oks 2 x2_19 := ⟨⟨(sx_dd bb_2 dX0_rowOf_19), rfl⟩, ox2_20⟩
def x2_18 : List sx_E := (.iload 1, 18, 19, [], .null) :: x2_19
theorem ox2_18 : sx_oks 2 x2_18 := ⟨Or.inr ⟨_, (sx_dd bb_2 dX0_rowOf_18), rfl, rfl⟩, ox2_19⟩
def x2_15 : List sx_E := (.getfield 17, 15, 18, [0, 0, 1], .null) :: x2_18
theorem ox2_15 : sx_oks 2 x2_15 := ⟨sx_q_get (w := (RX0, TX0, 3)) (sx_dd bb_2 dX0_rowOf_15) rfl rfl (Nat.le_of_ble_eq_true rfl) cu_0 (sx_ow3 oo_2 fl_StrawGarrison_Book_17) (by decide +kernel), ox2_18⟩
def x2_14 : List sx_E := (.aload 0, 14, 15, [], .null) :: x2_15
theorem ox2_14 : sx_oks 2 x2_14 := ⟨Or.inr ⟨_, (sx_dd bb_2 dX0_rowOf_14), rfl, rfl⟩, ox2_15⟩
def x2_11 : List sx_E := (.ifCond .eq (12), 11, 14, [23], .null) :: x2_14
theorem ox2_11 : sx_oks 2 x2_11 := ⟨⟨(sx_dd bb_2 dX0_rowOf_11), rfl, sx_t1 (by decide +kernel)⟩, ox2_14⟩
def x2_8 : List sx_E := (.invokestatic 41, 8, 11, [106, 3, 0, 0], .null) :: x2_11
theorem ox2_8 : sx_oks 2 x2_8 := ⟨sx_q_S (sx_dd bb_2 dX0_rowOf_8) oo_2 lk_StrawGarrison_Book_41_S ft_106_h, ox2_11⟩
def x2_7 : List sx_E := (.isub, 7, 8, [], .null) :: x2_8
theorem ox2_7 : sx_oks 2 x2_7 := ⟨⟨(sx_dd bb_2 dX0_rowOf_7), rfl⟩, ox2_8⟩
def x2_6 : List sx_E := (.nop, 6, 7, [], .int (nI 1)) :: x2_7
theorem ox2_6 : sx_oks 2 x2_6 := ⟨sx_k_iconst (sx_dd bb_2 dX0_rowOf_6) (by decide +kernel), ox2_7⟩
def x2_3 : List sx_E := (.getfield 9, 3, 6, [0, 1, 0], .null) :: x2_6
theorem ox2_3 : sx_oks 2 x2_3 := ⟨sx_q_get (w := (RX0, TX0, 3)) (sx_dd bb_2 dX0_rowOf_3) rfl rfl (Nat.le_of_ble_eq_true rfl) cu_0 (sx_ow3 oo_2 fl_StrawGarrison_Book_9) (by decide +kernel), ox2_6⟩
def x2_2 : List sx_E := (.aload 0, 2, 3, [], .null) :: x2_3
theorem ox2_2 : sx_oks 2 x2_2 := ⟨Or.inr ⟨_, (sx_dd bb_2 dX0_rowOf_2), rfl, rfl⟩, ox2_3⟩
def x2_1 : List sx_E := (.nop, 1, 2, [], .int (nI 0)) :: x2_2
theorem ox2_1 : sx_oks 2 x2_1 := ⟨sx_k_iconst (sx_dd bb_2 dX0_rowOf_1) (by decide +kernel), ox2_2⟩
def x2_0 : List sx_E := (.iload 1, 0, 1, [], .null) :: x2_1
theorem ox2_0 : sx_oks 2 x2_0 := ⟨Or.inr ⟨_, (sx_dd bb_2 dX0_rowOf_0), rfl, rfl⟩, ox2_1⟩
theorem m2 : sx_mok 2 x2_0 := ⟨ox2_0, by decide +kernel⟩
theorem bb_3 : sx_by 3 = cX6_valueOf := rfl
theorem oo_3 : (sx_nm 3).cls = "StrawGarrison$Text" := rfl
theorem mm_3 : sx_ml 3 = 7 := rfl
theorem rr_3 : sx_rt 3 = (some .int) := rfl
def x3_189 : List sx_E := (.ireturn, 189, 190, [0], .null) :: []
theorem ox3_189 : sx_oks 3 x3_189 := ⟨sx_q_iret0 (sx_dd bb_3 dX6_valueOf_189) rr_3, trivial⟩
def x3_188 : List sx_E := (.nop, 188, 189, [], .int (nI 0)) :: x3_189
theorem ox3_188 : sx_oks 3 x3_188 := ⟨sx_k_iconst (sx_dd bb_3 dX6_valueOf_188) (by decide +kernel), ox3_189⟩
def x3_185 : List sx_E := (.goto (4), 185, 188, [189], .null) :: x3_188
theorem ox3_185 : sx_oks 3 x3_185 := ⟨⟨(sx_dd bb_3 dX6_valueOf_185), sx_t1 (by decide +kernel)⟩, ox3_188⟩
def x3_184 : List sx_E := (.iaload, 184, 185, [], .null) :: x3_185
theorem ox3_184 : sx_oks 3 x3_184 := ⟨⟨(sx_dd bb_3 dX6_valueOf_184), rfl⟩, ox3_185⟩
def x3_183 : List sx_E := (.nop, 183, 184, [], .int (nI 0)) :: x3_184
theorem ox3_183 : sx_oks 3 x3_183 := ⟨sx_k_iconst (sx_dd bb_3 dX6_valueOf_183) (by decide +kernel), ox3_184⟩
def x3_180 : List sx_E := (.getfield 34, 180, 183, [5, 3, 1], .null) :: x3_183
theorem ox3_180 : sx_oks 3 x3_180 := ⟨sx_q_get (w := (RX6, TX6, 4)) (sx_dd bb_3 dX6_valueOf_180) rfl rfl (Nat.le_of_ble_eq_true rfl) cu_5 (sx_ow3 oo_3 fl_StrawGarrison_Text_34) (by decide +kernel), ox3_183⟩
def x3_179 : List sx_E := (.aload 0, 179, 180, [], .null) :: x3_180
theorem ox3_179 : sx_oks 3 x3_179 := ⟨Or.inr ⟨_, (sx_dd bb_3 dX6_valueOf_179), rfl, rfl⟩, ox3_180⟩
def x3_176 : List sx_E := (.ifCond .le (12), 176, 179, [188], .null) :: x3_179
theorem ox3_176 : sx_oks 3 x3_176 := ⟨⟨(sx_dd bb_3 dX6_valueOf_176), rfl, sx_t1 (by decide +kernel)⟩, ox3_179⟩
def x3_174 : List sx_E := (.iload 4, 174, 176, [], .null) :: x3_176
theorem ox3_174 : sx_oks 3 x3_174 := ⟨Or.inl ⟨(sx_dd bb_3 dX6_valueOf_174), rfl⟩, ox3_176⟩
def x3_171 : List sx_E := (.goto (-165), 171, 174, [6], .null) :: x3_174
theorem ox3_171 : sx_oks 3 x3_171 := ⟨⟨(sx_dd bb_3 dX6_valueOf_171), sx_t1 (by decide +kernel)⟩, ox3_174⟩
def x3_168 : List sx_E := (.iinc 5 (1), 168, 171, [], .int (nI 1)) :: x3_171
theorem ox3_168 : sx_oks 3 x3_168 := ⟨⟨sx_lt mm_3 (Nat.le_of_ble_eq_true rfl), (sx_dd bb_3 dX6_valueOf_168), rfl, by decide +kernel⟩, ox3_171⟩
def x3_168h : List sx_E := (.monitorenter, 168, 168, [0, 1, 2, 3, 4, 5], .null) :: x3_168
theorem ox3_168h : sx_oks 3 x3_168h := ⟨trivial, ox3_168⟩
def x3_167 : List sx_E := (.iastore, 167, 168, [], .null) :: x3_168h
theorem ox3_167 : sx_oks 3 x3_167 := ⟨⟨(sx_dd bb_3 dX6_valueOf_167), rfl⟩, ox3_168h⟩
def x3_164 : List sx_E := (.invokestatic 37, 164, 167, [4, 3, 0, 0], .null) :: x3_167
theorem ox3_164 : sx_oks 3 x3_164 := ⟨sx_q_S (sx_dd bb_3 dX6_valueOf_164) oo_3 lk_StrawGarrison_Text_37_S ft_4_h, ox3_167⟩
def x3_163 : List sx_E := (.iaload, 163, 164, [], .null) :: x3_164
theorem ox3_163 : sx_oks 3 x3_163 := ⟨⟨(sx_dd bb_3 dX6_valueOf_163), rfl⟩, ox3_164⟩
def x3_161 : List sx_E := (.iload 4, 161, 163, [], .null) :: x3_163
theorem ox3_161 : sx_oks 3 x3_161 := ⟨Or.inl ⟨(sx_dd bb_3 dX6_valueOf_161), rfl⟩, ox3_163⟩
def x3_158 : List sx_E := (.getfield 34, 158, 161, [5, 3, 1], .null) :: x3_161
theorem ox3_158 : sx_oks 3 x3_158 := ⟨sx_q_get (w := (RX6, TX6, 4)) (sx_dd bb_3 dX6_valueOf_158) rfl rfl (Nat.le_of_ble_eq_true rfl) cu_5 (sx_ow3 oo_3 fl_StrawGarrison_Text_34) (by decide +kernel), ox3_161⟩
def x3_157 : List sx_E := (.aload 0, 157, 158, [], .null) :: x3_158
theorem ox3_157 : sx_oks 3 x3_157 := ⟨Or.inr ⟨_, (sx_dd bb_3 dX6_valueOf_157), rfl, rfl⟩, ox3_158⟩
def x3_156 : List sx_E := (.iaload, 156, 157, [], .null) :: x3_157
theorem ox3_156 : sx_oks 3 x3_156 := ⟨⟨(sx_dd bb_3 dX6_valueOf_156), rfl⟩, ox3_157⟩
def x3_155 : List sx_E := (.isub, 155, 156, [], .null) :: x3_156
theorem ox3_155 : sx_oks 3 x3_155 := ⟨⟨(sx_dd bb_3 dX6_valueOf_155), rfl⟩, ox3_156⟩
def x3_154 : List sx_E := (.nop, 154, 155, [], .int (nI 1)) :: x3_155
theorem ox3_154 : sx_oks 3 x3_154 := ⟨sx_k_iconst (sx_dd bb_3 dX6_valueOf_154) (by decide +kernel), ox3_155⟩
def x3_152 : List sx_E := (.iload 4, 152, 154, [], .null) :: x3_154
theorem ox3_152 : sx_oks 3 x3_152 := ⟨Or.inl ⟨(sx_dd bb_3 dX6_valueOf_152), rfl⟩, ox3_154⟩
def x3_149 : List sx_E := (.getfield 34, 149, 152, [5, 3, 1], .null) :: x3_152
theorem ox3_149 : sx_oks 3 x3_149 := ⟨sx_q_get (w := (RX6, TX6, 4)) (sx_dd bb_3 dX6_valueOf_149) rfl rfl (Nat.le_of_ble_eq_true rfl) cu_5 (sx_ow3 oo_3 fl_StrawGarrison_Text_34) (by decide +kernel), ox3_152⟩
def x3_148 : List sx_E := (.aload 0, 148, 149, [], .null) :: x3_149
theorem ox3_148 : sx_oks 3 x3_148 := ⟨Or.inr ⟨_, (sx_dd bb_3 dX6_valueOf_148), rfl, rfl⟩, ox3_149⟩
def x3_147 : List sx_E := (.ineg, 147, 148, [], .null) :: x3_148
theorem ox3_147 : sx_oks 3 x3_147 := ⟨⟨(sx_dd bb_3 dX6_valueOf_147), rfl⟩, ox3_148⟩
def x3_145 : List sx_E := (.iload 6, 145, 147, [], .null) :: x3_147
theorem ox3_145 : sx_oks 3 x3_145 := ⟨Or.inl ⟨(sx_dd bb_3 dX6_valueOf_145), rfl⟩, ox3_147⟩
def x3_144 : List sx_E := (.isub, 144, 145, [], .null) :: x3_145
theorem ox3_144 : sx_oks 3 x3_144 := ⟨⟨(sx_dd bb_3 dX6_valueOf_144), rfl⟩, ox3_145⟩
def x3_143 : List sx_E := (.nop, 143, 144, [], .int (nI 1)) :: x3_144
theorem ox3_143 : sx_oks 3 x3_143 := ⟨sx_k_iconst (sx_dd bb_3 dX6_valueOf_143) (by decide +kernel), ox3_144⟩
def x3_141 : List sx_E := (.iload 4, 141, 143, [], .null) :: x3_143
theorem ox3_141 : sx_oks 3 x3_141 := ⟨Or.inl ⟨(sx_dd bb_3 dX6_valueOf_141), rfl⟩, ox3_143⟩
def x3_138 : List sx_E := (.getfield 34, 138, 141, [5, 3, 1], .null) :: x3_141
theorem ox3_138 : sx_oks 3 x3_138 := ⟨sx_q_get (w := (RX6, TX6, 4)) (sx_dd bb_3 dX6_valueOf_138) rfl rfl (Nat.le_of_ble_eq_true rfl) cu_5 (sx_ow3 oo_3 fl_StrawGarrison_Text_34) (by decide +kernel), ox3_141⟩
def x3_137 : List sx_E := (.aload 0, 137, 138, [], .null) :: x3_138
theorem ox3_137 : sx_oks 3 x3_137 := ⟨Or.inr ⟨_, (sx_dd bb_3 dX6_valueOf_137), rfl, rfl⟩, ox3_138⟩
def x3_134 : List sx_E := (.iinc 4 (-1), 134, 137, [], .int ((-1))) :: x3_137
theorem ox3_134 : sx_oks 3 x3_134 := ⟨⟨sx_lt mm_3 (Nat.le_of_ble_eq_true rfl), (sx_dd bb_3 dX6_valueOf_134), rfl, by decide +kernel⟩, ox3_137⟩
def x3_131 : List sx_E := (.if_icmp .le (37), 131, 134, [168], .null) :: x3_134
theorem ox3_131 : sx_oks 3 x3_131 := ⟨⟨(sx_dd bb_3 dX6_valueOf_131), rfl, sx_t1 (by decide +kernel)⟩, ox3_134⟩
def x3_130 : List sx_E := (.nop, 130, 131, [], .int (nI 1)) :: x3_131
theorem ox3_130 : sx_oks 3 x3_130 := ⟨sx_k_iconst (sx_dd bb_3 dX6_valueOf_130) (by decide +kernel), ox3_131⟩
def x3_128 : List sx_E := (.iload 4, 128, 130, [], .null) :: x3_130
theorem ox3_128 : sx_oks 3 x3_128 := ⟨Or.inl ⟨(sx_dd bb_3 dX6_valueOf_128), rfl⟩, ox3_130⟩
def x3_125 : List sx_E := (.goto (43), 125, 128, [168], .null) :: x3_128
theorem ox3_125 : sx_oks 3 x3_125 := ⟨⟨(sx_dd bb_3 dX6_valueOf_125), sx_t1 (by decide +kernel)⟩, ox3_128⟩
def x3_124 : List sx_E := (.iastore, 124, 125, [], .null) :: x3_125
theorem ox3_124 : sx_oks 3 x3_124 := ⟨⟨(sx_dd bb_3 dX6_valueOf_124), rfl⟩, ox3_125⟩
def x3_124h : List sx_E := (.monitorenter, 124, 124, [0, 1, 2, 3, 4, 5], .null) :: x3_124
theorem ox3_124h : sx_oks 3 x3_124h := ⟨trivial, ox3_124⟩
def x3_123 : List sx_E := (.nop, 123, 124, [], .int (nI 0)) :: x3_124h
theorem ox3_123 : sx_oks 3 x3_123 := ⟨sx_k_iconst (sx_dd bb_3 dX6_valueOf_123) (by decide +kernel), ox3_124h⟩
def x3_120 : List sx_E := (.goto (4), 120, 123, [124], .null) :: x3_123
theorem ox3_120 : sx_oks 3 x3_120 := ⟨⟨(sx_dd bb_3 dX6_valueOf_120), sx_t1 (by decide +kernel)⟩, ox3_123⟩
def x3_119 : List sx_E := (.nop, 119, 120, [], .int (nI 1)) :: x3_120
theorem ox3_119 : sx_oks 3 x3_119 := ⟨sx_k_iconst (sx_dd bb_3 dX6_valueOf_119) (by decide +kernel), ox3_120⟩
def x3_116 : List sx_E := (.ifCond .ne (7), 116, 119, [123], .null) :: x3_119
theorem ox3_116 : sx_oks 3 x3_116 := ⟨⟨(sx_dd bb_3 dX6_valueOf_116), rfl, sx_t1 (by decide +kernel)⟩, ox3_119⟩
def x3_115 : List sx_E := (.iaload, 115, 116, [], .null) :: x3_116
theorem ox3_115 : sx_oks 3 x3_115 := ⟨⟨(sx_dd bb_3 dX6_valueOf_115), rfl⟩, ox3_116⟩
def x3_114 : List sx_E := (.isub, 114, 115, [], .null) :: x3_115
theorem ox3_114 : sx_oks 3 x3_114 := ⟨⟨(sx_dd bb_3 dX6_valueOf_114), rfl⟩, ox3_115⟩
def x3_113 : List sx_E := (.nop, 113, 114, [], .int (nI 1)) :: x3_114
theorem ox3_113 : sx_oks 3 x3_113 := ⟨sx_k_iconst (sx_dd bb_3 dX6_valueOf_113) (by decide +kernel), ox3_114⟩
def x3_111 : List sx_E := (.iload 4, 111, 113, [], .null) :: x3_113
theorem ox3_111 : sx_oks 3 x3_111 := ⟨Or.inl ⟨(sx_dd bb_3 dX6_valueOf_111), rfl⟩, ox3_113⟩
def x3_108 : List sx_E := (.getfield 34, 108, 111, [5, 3, 1], .null) :: x3_111
theorem ox3_108 : sx_oks 3 x3_108 := ⟨sx_q_get (w := (RX6, TX6, 4)) (sx_dd bb_3 dX6_valueOf_108) rfl rfl (Nat.le_of_ble_eq_true rfl) cu_5 (sx_ow3 oo_3 fl_StrawGarrison_Text_34) (by decide +kernel), ox3_111⟩
def x3_107 : List sx_E := (.aload 0, 107, 108, [], .null) :: x3_108
theorem ox3_107 : sx_oks 3 x3_107 := ⟨Or.inr ⟨_, (sx_dd bb_3 dX6_valueOf_107), rfl, rfl⟩, ox3_108⟩
def x3_106 : List sx_E := (.isub, 106, 107, [], .null) :: x3_107
theorem ox3_106 : sx_oks 3 x3_106 := ⟨⟨(sx_dd bb_3 dX6_valueOf_106), rfl⟩, ox3_107⟩
def x3_105 : List sx_E := (.nop, 105, 106, [], .int (nI 1)) :: x3_106
theorem ox3_105 : sx_oks 3 x3_105 := ⟨sx_k_iconst (sx_dd bb_3 dX6_valueOf_105) (by decide +kernel), ox3_106⟩
def x3_103 : List sx_E := (.iload 4, 103, 105, [], .null) :: x3_105
theorem ox3_103 : sx_oks 3 x3_103 := ⟨Or.inl ⟨(sx_dd bb_3 dX6_valueOf_103), rfl⟩, ox3_105⟩
def x3_100 : List sx_E := (.getfield 34, 100, 103, [5, 3, 1], .null) :: x3_103
theorem ox3_100 : sx_oks 3 x3_100 := ⟨sx_q_get (w := (RX6, TX6, 4)) (sx_dd bb_3 dX6_valueOf_100) rfl rfl (Nat.le_of_ble_eq_true rfl) cu_5 (sx_ow3 oo_3 fl_StrawGarrison_Text_34) (by decide +kernel), ox3_103⟩
def x3_99 : List sx_E := (.aload 0, 99, 100, [], .null) :: x3_100
theorem ox3_99 : sx_oks 3 x3_99 := ⟨Or.inr ⟨_, (sx_dd bb_3 dX6_valueOf_99), rfl, rfl⟩, ox3_100⟩
def x3_96 : List sx_E := (.ifCond .le (72), 96, 99, [168], .null) :: x3_99
theorem ox3_96 : sx_oks 3 x3_96 := ⟨⟨(sx_dd bb_3 dX6_valueOf_96), rfl, sx_t1 (by decide +kernel)⟩, ox3_99⟩
def x3_94 : List sx_E := (.iload 4, 94, 96, [], .null) :: x3_96
theorem ox3_94 : sx_oks 3 x3_94 := ⟨Or.inl ⟨(sx_dd bb_3 dX6_valueOf_94), rfl⟩, ox3_96⟩
def x3_91 : List sx_E := (.if_icmp .ne (37), 91, 94, [128], .null) :: x3_94
theorem ox3_91 : sx_oks 3 x3_91 := ⟨⟨(sx_dd bb_3 dX6_valueOf_91), rfl, sx_t1 (by decide +kernel)⟩, ox3_94⟩
def x3_89 : List sx_E := (.nop, 89, 91, [], .int ((-33))) :: x3_91
theorem ox3_89 : sx_oks 3 x3_89 := ⟨sx_k_bipush (sx_dd bb_3 dX6_valueOf_89) (by decide +kernel), ox3_91⟩
def x3_87 : List sx_E := (.iload 6, 87, 89, [], .null) :: x3_89
theorem ox3_87 : sx_oks 3 x3_87 := ⟨Or.inl ⟨(sx_dd bb_3 dX6_valueOf_87), rfl⟩, ox3_89⟩
def x3_84 : List sx_E := (.goto (84), 84, 87, [168], .null) :: x3_87
theorem ox3_84 : sx_oks 3 x3_84 := ⟨⟨(sx_dd bb_3 dX6_valueOf_84), sx_t1 (by decide +kernel)⟩, ox3_87⟩
def x3_81 : List sx_E := (.iinc 4 (1), 81, 84, [], .int (nI 1)) :: x3_84
theorem ox3_81 : sx_oks 3 x3_81 := ⟨⟨sx_lt mm_3 (Nat.le_of_ble_eq_true rfl), (sx_dd bb_3 dX6_valueOf_81), rfl, by decide +kernel⟩, ox3_84⟩
def x3_80 : List sx_E := (.iastore, 80, 81, [], .null) :: x3_81
theorem ox3_80 : sx_oks 3 x3_80 := ⟨⟨(sx_dd bb_3 dX6_valueOf_80), rfl⟩, ox3_81⟩
def x3_80h : List sx_E := (.monitorenter, 80, 80, [0, 1, 2, 3, 4, 5], .null) :: x3_80
theorem ox3_80h : sx_oks 3 x3_80h := ⟨trivial, ox3_80⟩
def x3_79 : List sx_E := (.iload 2, 79, 80, [], .null) :: x3_80h
theorem ox3_79 : sx_oks 3 x3_79 := ⟨Or.inr ⟨_, (sx_dd bb_3 dX6_valueOf_79), rfl, rfl⟩, ox3_80h⟩
def x3_76 : List sx_E := (.goto (4), 76, 79, [80], .null) :: x3_79
theorem ox3_76 : sx_oks 3 x3_76 := ⟨⟨(sx_dd bb_3 dX6_valueOf_76), sx_t1 (by decide +kernel)⟩, ox3_79⟩
def x3_75 : List sx_E := (.iload 3, 75, 76, [], .null) :: x3_76
theorem ox3_75 : sx_oks 3 x3_75 := ⟨Or.inr ⟨_, (sx_dd bb_3 dX6_valueOf_75), rfl, rfl⟩, ox3_76⟩
def x3_72 : List sx_E := (.if_icmp .ne (7), 72, 75, [79], .null) :: x3_75
theorem ox3_72 : sx_oks 3 x3_72 := ⟨⟨(sx_dd bb_3 dX6_valueOf_72), rfl, sx_t1 (by decide +kernel)⟩, ox3_75⟩
def x3_70 : List sx_E := (.nop, 70, 72, [], .int ((-3))) :: x3_72
theorem ox3_70 : sx_oks 3 x3_70 := ⟨sx_k_bipush (sx_dd bb_3 dX6_valueOf_70) (by decide +kernel), ox3_72⟩
def x3_68 : List sx_E := (.iload 6, 68, 70, [], .null) :: x3_70
theorem ox3_68 : sx_oks 3 x3_68 := ⟨Or.inl ⟨(sx_dd bb_3 dX6_valueOf_68), rfl⟩, ox3_70⟩
def x3_65 : List sx_E := (.goto (15), 65, 68, [80], .null) :: x3_68
theorem ox3_65 : sx_oks 3 x3_65 := ⟨⟨(sx_dd bb_3 dX6_valueOf_65), sx_t1 (by decide +kernel)⟩, ox3_68⟩
def x3_64 : List sx_E := (.iload 1, 64, 65, [], .null) :: x3_65
theorem ox3_64 : sx_oks 3 x3_64 := ⟨Or.inr ⟨_, (sx_dd bb_3 dX6_valueOf_64), rfl, rfl⟩, ox3_65⟩
def x3_61 : List sx_E := (.if_icmp .ne (7), 61, 64, [68], .null) :: x3_64
theorem ox3_61 : sx_oks 3 x3_61 := ⟨⟨(sx_dd bb_3 dX6_valueOf_61), rfl, sx_t1 (by decide +kernel)⟩, ox3_64⟩
def x3_60 : List sx_E := (.nop, 60, 61, [], .int ((-1))) :: x3_61
theorem ox3_60 : sx_oks 3 x3_60 := ⟨sx_k_iconst (sx_dd bb_3 dX6_valueOf_60) (by decide +kernel), ox3_61⟩
def x3_58 : List sx_E := (.iload 6, 58, 60, [], .null) :: x3_60
theorem ox3_58 : sx_oks 3 x3_58 := ⟨Or.inl ⟨(sx_dd bb_3 dX6_valueOf_58), rfl⟩, ox3_60⟩
def x3_55 : List sx_E := (.goto (25), 55, 58, [80], .null) :: x3_58
theorem ox3_55 : sx_oks 3 x3_55 := ⟨⟨(sx_dd bb_3 dX6_valueOf_55), sx_t1 (by decide +kernel)⟩, ox3_58⟩
def x3_53 : List sx_E := (.iload 6, 53, 55, [], .null) :: x3_55
theorem ox3_53 : sx_oks 3 x3_53 := ⟨Or.inl ⟨(sx_dd bb_3 dX6_valueOf_53), rfl⟩, ox3_55⟩
def x3_50 : List sx_E := (.ifCond .lt (8), 50, 53, [58], .null) :: x3_53
theorem ox3_50 : sx_oks 3 x3_50 := ⟨⟨(sx_dd bb_3 dX6_valueOf_50), rfl, sx_t1 (by decide +kernel)⟩, ox3_53⟩
def x3_48 : List sx_E := (.iload 6, 48, 50, [], .null) :: x3_50
theorem ox3_48 : sx_oks 3 x3_48 := ⟨Or.inl ⟨(sx_dd bb_3 dX6_valueOf_48), rfl⟩, ox3_50⟩
def x3_46 : List sx_E := (.iload 4, 46, 48, [], .null) :: x3_48
theorem ox3_46 : sx_oks 3 x3_46 := ⟨Or.inl ⟨(sx_dd bb_3 dX6_valueOf_46), rfl⟩, ox3_48⟩
def x3_43 : List sx_E := (.getfield 34, 43, 46, [5, 3, 1], .null) :: x3_46
theorem ox3_43 : sx_oks 3 x3_43 := ⟨sx_q_get (w := (RX6, TX6, 4)) (sx_dd bb_3 dX6_valueOf_43) rfl rfl (Nat.le_of_ble_eq_true rfl) cu_5 (sx_ow3 oo_3 fl_StrawGarrison_Text_34) (by decide +kernel), ox3_46⟩
def x3_42 : List sx_E := (.aload 0, 42, 43, [], .null) :: x3_43
theorem ox3_42 : sx_oks 3 x3_42 := ⟨Or.inr ⟨_, (sx_dd bb_3 dX6_valueOf_42), rfl, rfl⟩, ox3_43⟩
def x3_39 : List sx_E := (.if_icmp .ge (129), 39, 42, [168], .null) :: x3_42
theorem ox3_39 : sx_oks 3 x3_39 := ⟨⟨(sx_dd bb_3 dX6_valueOf_39), rfl, sx_t1 (by decide +kernel)⟩, ox3_42⟩
def x3_38 : List sx_E := (.arraylength, 38, 39, [], .null) :: x3_39
theorem ox3_38 : sx_oks 3 x3_38 := ⟨⟨(sx_dd bb_3 dX6_valueOf_38), rfl⟩, ox3_39⟩
def x3_35 : List sx_E := (.getfield 34, 35, 38, [5, 3, 1], .null) :: x3_38
theorem ox3_35 : sx_oks 3 x3_35 := ⟨sx_q_get (w := (RX6, TX6, 4)) (sx_dd bb_3 dX6_valueOf_35) rfl rfl (Nat.le_of_ble_eq_true rfl) cu_5 (sx_ow3 oo_3 fl_StrawGarrison_Text_34) (by decide +kernel), ox3_38⟩
def x3_34 : List sx_E := (.aload 0, 34, 35, [], .null) :: x3_35
theorem ox3_34 : sx_oks 3 x3_34 := ⟨Or.inr ⟨_, (sx_dd bb_3 dX6_valueOf_34), rfl, rfl⟩, ox3_35⟩
def x3_32 : List sx_E := (.iload 4, 32, 34, [], .null) :: x3_34
theorem ox3_32 : sx_oks 3 x3_32 := ⟨Or.inl ⟨(sx_dd bb_3 dX6_valueOf_32), rfl⟩, ox3_34⟩
def x3_29 : List sx_E := (.if_icmp .lt (58), 29, 32, [87], .null) :: x3_32
theorem ox3_29 : sx_oks 3 x3_29 := ⟨⟨(sx_dd bb_3 dX6_valueOf_29), rfl, sx_t1 (by decide +kernel)⟩, ox3_32⟩
def x3_27 : List sx_E := (.nop, 27, 29, [], .int ((-3))) :: x3_29
theorem ox3_27 : sx_oks 3 x3_27 := ⟨sx_k_bipush (sx_dd bb_3 dX6_valueOf_27) (by decide +kernel), ox3_29⟩
def x3_25 : List sx_E := (.iload 6, 25, 27, [], .null) :: x3_27
theorem ox3_25 : sx_oks 3 x3_25 := ⟨Or.inl ⟨(sx_dd bb_3 dX6_valueOf_25), rfl⟩, ox3_27⟩
def x3_23 : List sx_E := (.istore 6, 23, 25, [], .null) :: x3_25
theorem ox3_23 : sx_oks 3 x3_23 := ⟨⟨sx_lt mm_3 (Nat.le_of_ble_eq_true rfl), Or.inl ⟨(sx_dd bb_3 dX6_valueOf_23), rfl⟩⟩, ox3_25⟩
def x3_22 : List sx_E := (.iaload, 22, 23, [], .null) :: x3_23
theorem ox3_22 : sx_oks 3 x3_22 := ⟨⟨(sx_dd bb_3 dX6_valueOf_22), rfl⟩, ox3_23⟩
def x3_20 : List sx_E := (.iload 5, 20, 22, [], .null) :: x3_22
theorem ox3_20 : sx_oks 3 x3_20 := ⟨Or.inl ⟨(sx_dd bb_3 dX6_valueOf_20), rfl⟩, ox3_22⟩
def x3_17 : List sx_E := (.getfield 33, 17, 20, [5, 2, 1], .null) :: x3_20
theorem ox3_17 : sx_oks 3 x3_17 := ⟨sx_q_get (w := (RX6, TX6, 4)) (sx_dd bb_3 dX6_valueOf_17) rfl rfl (Nat.le_of_ble_eq_true rfl) cu_5 (sx_ow3 oo_3 fl_StrawGarrison_Text_33) (by decide +kernel), ox3_20⟩
def x3_16 : List sx_E := (.aload 0, 16, 17, [], .null) :: x3_17
theorem ox3_16 : sx_oks 3 x3_16 := ⟨Or.inr ⟨_, (sx_dd bb_3 dX6_valueOf_16), rfl, rfl⟩, ox3_17⟩
def x3_13 : List sx_E := (.if_icmp .ge (161), 13, 16, [174], .null) :: x3_16
theorem ox3_13 : sx_oks 3 x3_13 := ⟨⟨(sx_dd bb_3 dX6_valueOf_13), rfl, sx_t1 (by decide +kernel)⟩, ox3_16⟩
def x3_12 : List sx_E := (.arraylength, 12, 13, [], .null) :: x3_13
theorem ox3_12 : sx_oks 3 x3_12 := ⟨⟨(sx_dd bb_3 dX6_valueOf_12), rfl⟩, ox3_13⟩
def x3_9 : List sx_E := (.getfield 33, 9, 12, [5, 2, 1], .null) :: x3_12
theorem ox3_9 : sx_oks 3 x3_9 := ⟨sx_q_get (w := (RX6, TX6, 4)) (sx_dd bb_3 dX6_valueOf_9) rfl rfl (Nat.le_of_ble_eq_true rfl) cu_5 (sx_ow3 oo_3 fl_StrawGarrison_Text_33) (by decide +kernel), ox3_12⟩
def x3_8 : List sx_E := (.aload 0, 8, 9, [], .null) :: x3_9
theorem ox3_8 : sx_oks 3 x3_8 := ⟨Or.inr ⟨_, (sx_dd bb_3 dX6_valueOf_8), rfl, rfl⟩, ox3_9⟩
def x3_6 : List sx_E := (.iload 5, 6, 8, [], .null) :: x3_8
theorem ox3_6 : sx_oks 3 x3_6 := ⟨Or.inl ⟨(sx_dd bb_3 dX6_valueOf_6), rfl⟩, ox3_8⟩
def x3_6h : List sx_E := (.monitorenter, 6, 6, [0, 1, 2, 3, 4, 5], .null) :: x3_6
theorem ox3_6h : sx_oks 3 x3_6h := ⟨trivial, ox3_6⟩
def x3_4 : List sx_E := (.istore 5, 4, 6, [], .null) :: x3_6h
theorem ox3_4 : sx_oks 3 x3_4 := ⟨⟨sx_lt mm_3 (Nat.le_of_ble_eq_true rfl), Or.inl ⟨(sx_dd bb_3 dX6_valueOf_4), rfl⟩⟩, ox3_6h⟩
def x3_3 : List sx_E := (.nop, 3, 4, [], .int (nI 0)) :: x3_4
theorem ox3_3 : sx_oks 3 x3_3 := ⟨sx_k_iconst (sx_dd bb_3 dX6_valueOf_3) (by decide +kernel), ox3_4⟩
def x3_1 : List sx_E := (.istore 4, 1, 3, [], .null) :: x3_3
theorem ox3_1 : sx_oks 3 x3_1 := ⟨⟨sx_lt mm_3 (Nat.le_of_ble_eq_true rfl), Or.inl ⟨(sx_dd bb_3 dX6_valueOf_1), rfl⟩⟩, ox3_3⟩
def x3_0 : List sx_E := (.nop, 0, 1, [], .int (nI 0)) :: x3_1
theorem ox3_0 : sx_oks 3 x3_0 := ⟨sx_k_iconst (sx_dd bb_3 dX6_valueOf_0) (by decide +kernel), ox3_1⟩
theorem m3 : sx_mok 3 x3_0 := ⟨ox3_0, by decide +kernel⟩
theorem bb_4 : sx_by 4 = cX6_workedOut := rfl
theorem oo_4 : (sx_nm 4).cls = "StrawGarrison$Text" := rfl
theorem mm_4 : sx_ml 4 = 3 := rfl
theorem rr_4 : sx_rt 4 = (some .int) := rfl
def x4_170 : List sx_E := (.ireturn, 170, 171, [0], .null) :: []
theorem ox4_170 : sx_oks 4 x4_170 := ⟨sx_q_iret0 (sx_dd bb_4 dX6_workedOut_170) rr_4, trivial⟩
def x4_169 : List sx_E := (.nop, 169, 170, [], .int (nI 0)) :: x4_170
theorem ox4_169 : sx_oks 4 x4_169 := ⟨sx_k_iconst (sx_dd bb_4 dX6_workedOut_169) (by decide +kernel), ox4_170⟩
def x4_168 : List sx_E := (.ireturn, 168, 169, [0], .null) :: x4_169
theorem ox4_168 : sx_oks 4 x4_168 := ⟨sx_q_iret0 (sx_dd bb_4 dX6_workedOut_168) rr_4, ox4_169⟩
def x4_167 : List sx_E := (.nop, 167, 168, [], .int (nI 0)) :: x4_168
theorem ox4_167 : sx_oks 4 x4_167 := ⟨sx_k_iconst (sx_dd bb_4 dX6_workedOut_167) (by decide +kernel), ox4_168⟩
def x4_164 : List sx_E := (.goto (4), 164, 167, [168], .null) :: x4_167
theorem ox4_164 : sx_oks 4 x4_164 := ⟨⟨(sx_dd bb_4 dX6_workedOut_164), sx_t1 (by decide +kernel)⟩, ox4_167⟩
def x4_163 : List sx_E := (.nop, 163, 164, [], .int (nI 1)) :: x4_164
theorem ox4_163 : sx_oks 4 x4_163 := ⟨sx_k_iconst (sx_dd bb_4 dX6_workedOut_163) (by decide +kernel), ox4_164⟩
def x4_160 : List sx_E := (.ifCond .eq (7), 160, 163, [167], .null) :: x4_163
theorem ox4_160 : sx_oks 4 x4_160 := ⟨⟨(sx_dd bb_4 dX6_workedOut_160), rfl, sx_t1 (by decide +kernel)⟩, ox4_163⟩
def x4_159 : List sx_E := (.iload 2, 159, 160, [], .null) :: x4_160
theorem ox4_159 : sx_oks 4 x4_159 := ⟨Or.inr ⟨_, (sx_dd bb_4 dX6_workedOut_159), rfl, rfl⟩, ox4_160⟩
def x4_156 : List sx_E := (.ifCond .ne (7), 156, 159, [163], .null) :: x4_159
theorem ox4_156 : sx_oks 4 x4_156 := ⟨⟨(sx_dd bb_4 dX6_workedOut_156), rfl, sx_t1 (by decide +kernel)⟩, ox4_159⟩
def x4_155 : List sx_E := (.iload 1, 155, 156, [], .null) :: x4_156
theorem ox4_155 : sx_oks 4 x4_155 := ⟨Or.inr ⟨_, (sx_dd bb_4 dX6_workedOut_155), rfl, rfl⟩, ox4_156⟩
def x4_154 : List sx_E := (.ireturn, 154, 155, [0], .null) :: x4_155
theorem ox4_154 : sx_oks 4 x4_154 := ⟨sx_q_iret0 (sx_dd bb_4 dX6_workedOut_154) rr_4, ox4_155⟩
def x4_153 : List sx_E := (.nop, 153, 154, [], .int (nI 0)) :: x4_154
theorem ox4_153 : sx_oks 4 x4_153 := ⟨sx_k_iconst (sx_dd bb_4 dX6_workedOut_153) (by decide +kernel), ox4_154⟩
def x4_150 : List sx_E := (.goto (4), 150, 153, [154], .null) :: x4_153
theorem ox4_150 : sx_oks 4 x4_150 := ⟨⟨(sx_dd bb_4 dX6_workedOut_150), sx_t1 (by decide +kernel)⟩, ox4_153⟩
def x4_149 : List sx_E := (.nop, 149, 150, [], .int (nI 1)) :: x4_150
theorem ox4_149 : sx_oks 4 x4_149 := ⟨sx_k_iconst (sx_dd bb_4 dX6_workedOut_149) (by decide +kernel), ox4_150⟩
def x4_146 : List sx_E := (.ifCond .eq (7), 146, 149, [153], .null) :: x4_149
theorem ox4_146 : sx_oks 4 x4_146 := ⟨⟨(sx_dd bb_4 dX6_workedOut_146), rfl, sx_t1 (by decide +kernel)⟩, ox4_149⟩
def x4_145 : List sx_E := (.iload 2, 145, 146, [], .null) :: x4_146
theorem ox4_145 : sx_oks 4 x4_145 := ⟨Or.inr ⟨_, (sx_dd bb_4 dX6_workedOut_145), rfl, rfl⟩, ox4_146⟩
def x4_142 : List sx_E := (.ifCond .eq (11), 142, 145, [153], .null) :: x4_145
theorem ox4_142 : sx_oks 4 x4_142 := ⟨⟨(sx_dd bb_4 dX6_workedOut_142), rfl, sx_t1 (by decide +kernel)⟩, ox4_145⟩
def x4_141 : List sx_E := (.iload 1, 141, 142, [], .null) :: x4_142
theorem ox4_141 : sx_oks 4 x4_141 := ⟨Or.inr ⟨_, (sx_dd bb_4 dX6_workedOut_141), rfl, rfl⟩, ox4_142⟩
def x4_140 : List sx_E := (.ireturn, 140, 141, [0], .null) :: x4_141
theorem ox4_140 : sx_oks 4 x4_140 := ⟨sx_q_iret0 (sx_dd bb_4 dX6_workedOut_140) rr_4, ox4_141⟩
def x4_139 : List sx_E := (.nop, 139, 140, [], .int (nI 0)) :: x4_140
theorem ox4_139 : sx_oks 4 x4_139 := ⟨sx_k_iconst (sx_dd bb_4 dX6_workedOut_139) (by decide +kernel), ox4_140⟩
def x4_136 : List sx_E := (.goto (4), 136, 139, [140], .null) :: x4_139
theorem ox4_136 : sx_oks 4 x4_136 := ⟨⟨(sx_dd bb_4 dX6_workedOut_136), sx_t1 (by decide +kernel)⟩, ox4_139⟩
def x4_135 : List sx_E := (.nop, 135, 136, [], .int (nI 1)) :: x4_136
theorem ox4_135 : sx_oks 4 x4_135 := ⟨sx_k_iconst (sx_dd bb_4 dX6_workedOut_135) (by decide +kernel), ox4_136⟩
def x4_132 : List sx_E := (.if_icmp .le (7), 132, 135, [139], .null) :: x4_135
theorem ox4_132 : sx_oks 4 x4_132 := ⟨⟨(sx_dd bb_4 dX6_workedOut_132), rfl, sx_t1 (by decide +kernel)⟩, ox4_135⟩
def x4_131 : List sx_E := (.iload 2, 131, 132, [], .null) :: x4_132
theorem ox4_131 : sx_oks 4 x4_131 := ⟨Or.inr ⟨_, (sx_dd bb_4 dX6_workedOut_131), rfl, rfl⟩, ox4_132⟩
def x4_130 : List sx_E := (.iload 1, 130, 131, [], .null) :: x4_131
theorem ox4_130 : sx_oks 4 x4_130 := ⟨Or.inr ⟨_, (sx_dd bb_4 dX6_workedOut_130), rfl, rfl⟩, ox4_131⟩
def x4_129 : List sx_E := (.ireturn, 129, 130, [0], .null) :: x4_130
theorem ox4_129 : sx_oks 4 x4_129 := ⟨sx_q_iret0 (sx_dd bb_4 dX6_workedOut_129) rr_4, ox4_130⟩
def x4_128 : List sx_E := (.nop, 128, 129, [], .int (nI 0)) :: x4_129
theorem ox4_128 : sx_oks 4 x4_128 := ⟨sx_k_iconst (sx_dd bb_4 dX6_workedOut_128) (by decide +kernel), ox4_129⟩
def x4_125 : List sx_E := (.goto (4), 125, 128, [129], .null) :: x4_128
theorem ox4_125 : sx_oks 4 x4_125 := ⟨⟨(sx_dd bb_4 dX6_workedOut_125), sx_t1 (by decide +kernel)⟩, ox4_128⟩
def x4_124 : List sx_E := (.nop, 124, 125, [], .int (nI 1)) :: x4_125
theorem ox4_124 : sx_oks 4 x4_124 := ⟨sx_k_iconst (sx_dd bb_4 dX6_workedOut_124) (by decide +kernel), ox4_125⟩
def x4_121 : List sx_E := (.if_icmp .ne (7), 121, 124, [128], .null) :: x4_124
theorem ox4_121 : sx_oks 4 x4_121 := ⟨⟨(sx_dd bb_4 dX6_workedOut_121), rfl, sx_t1 (by decide +kernel)⟩, ox4_124⟩
def x4_120 : List sx_E := (.iload 2, 120, 121, [], .null) :: x4_121
theorem ox4_120 : sx_oks 4 x4_120 := ⟨Or.inr ⟨_, (sx_dd bb_4 dX6_workedOut_120), rfl, rfl⟩, ox4_121⟩
def x4_119 : List sx_E := (.iload 1, 119, 120, [], .null) :: x4_120
theorem ox4_119 : sx_oks 4 x4_119 := ⟨Or.inr ⟨_, (sx_dd bb_4 dX6_workedOut_119), rfl, rfl⟩, ox4_120⟩
def x4_118 : List sx_E := (.ireturn, 118, 119, [0], .null) :: x4_119
theorem ox4_118 : sx_oks 4 x4_118 := ⟨sx_q_iret0 (sx_dd bb_4 dX6_workedOut_118) rr_4, ox4_119⟩
def x4_117 : List sx_E := (.nop, 117, 118, [], .int (nI 0)) :: x4_118
theorem ox4_117 : sx_oks 4 x4_117 := ⟨sx_k_iconst (sx_dd bb_4 dX6_workedOut_117) (by decide +kernel), ox4_118⟩
def x4_114 : List sx_E := (.goto (4), 114, 117, [118], .null) :: x4_117
theorem ox4_114 : sx_oks 4 x4_114 := ⟨⟨(sx_dd bb_4 dX6_workedOut_114), sx_t1 (by decide +kernel)⟩, ox4_117⟩
def x4_113 : List sx_E := (.nop, 113, 114, [], .int (nI 1)) :: x4_114
theorem ox4_113 : sx_oks 4 x4_113 := ⟨sx_k_iconst (sx_dd bb_4 dX6_workedOut_113) (by decide +kernel), ox4_114⟩
def x4_110 : List sx_E := (.if_icmp .ge (7), 110, 113, [117], .null) :: x4_113
theorem ox4_110 : sx_oks 4 x4_110 := ⟨⟨(sx_dd bb_4 dX6_workedOut_110), rfl, sx_t1 (by decide +kernel)⟩, ox4_113⟩
def x4_109 : List sx_E := (.iload 2, 109, 110, [], .null) :: x4_110
theorem ox4_109 : sx_oks 4 x4_109 := ⟨Or.inr ⟨_, (sx_dd bb_4 dX6_workedOut_109), rfl, rfl⟩, ox4_110⟩
def x4_108 : List sx_E := (.iload 1, 108, 109, [], .null) :: x4_109
theorem ox4_108 : sx_oks 4 x4_108 := ⟨Or.inr ⟨_, (sx_dd bb_4 dX6_workedOut_108), rfl, rfl⟩, ox4_109⟩
def x4_107 : List sx_E := (.ireturn, 107, 108, [0], .null) :: x4_108
theorem ox4_107 : sx_oks 4 x4_107 := ⟨sx_q_iret0 (sx_dd bb_4 dX6_workedOut_107) rr_4, ox4_108⟩
def x4_106 : List sx_E := (.idiv, 106, 107, [], .null) :: x4_107
theorem ox4_106 : sx_oks 4 x4_106 := ⟨⟨(sx_dd bb_4 dX6_workedOut_106), rfl⟩, ox4_107⟩
def x4_105 : List sx_E := (.iload 2, 105, 106, [], .null) :: x4_106
theorem ox4_105 : sx_oks 4 x4_105 := ⟨Or.inr ⟨_, (sx_dd bb_4 dX6_workedOut_105), rfl, rfl⟩, ox4_106⟩
def x4_104 : List sx_E := (.iload 1, 104, 105, [], .null) :: x4_105
theorem ox4_104 : sx_oks 4 x4_104 := ⟨Or.inr ⟨_, (sx_dd bb_4 dX6_workedOut_104), rfl, rfl⟩, ox4_105⟩
def x4_101 : List sx_E := (.goto (6), 101, 104, [107], .null) :: x4_104
theorem ox4_101 : sx_oks 4 x4_101 := ⟨⟨(sx_dd bb_4 dX6_workedOut_101), sx_t1 (by decide +kernel)⟩, ox4_104⟩
def x4_100 : List sx_E := (.nop, 100, 101, [], .int (nI 0)) :: x4_101
theorem ox4_100 : sx_oks 4 x4_100 := ⟨sx_k_iconst (sx_dd bb_4 dX6_workedOut_100) (by decide +kernel), ox4_101⟩
def x4_97 : List sx_E := (.ifCond .ne (7), 97, 100, [104], .null) :: x4_100
theorem ox4_97 : sx_oks 4 x4_97 := ⟨⟨(sx_dd bb_4 dX6_workedOut_97), rfl, sx_t1 (by decide +kernel)⟩, ox4_100⟩
def x4_96 : List sx_E := (.iload 2, 96, 97, [], .null) :: x4_97
theorem ox4_96 : sx_oks 4 x4_96 := ⟨Or.inr ⟨_, (sx_dd bb_4 dX6_workedOut_96), rfl, rfl⟩, ox4_97⟩
def x4_95 : List sx_E := (.ireturn, 95, 96, [0], .null) :: x4_96
theorem ox4_95 : sx_oks 4 x4_95 := ⟨sx_q_iret0 (sx_dd bb_4 dX6_workedOut_95) rr_4, ox4_96⟩
def x4_94 : List sx_E := (.imul, 94, 95, [], .null) :: x4_95
theorem ox4_94 : sx_oks 4 x4_94 := ⟨⟨(sx_dd bb_4 dX6_workedOut_94), rfl⟩, ox4_95⟩
def x4_93 : List sx_E := (.iload 2, 93, 94, [], .null) :: x4_94
theorem ox4_93 : sx_oks 4 x4_93 := ⟨Or.inr ⟨_, (sx_dd bb_4 dX6_workedOut_93), rfl, rfl⟩, ox4_94⟩
def x4_92 : List sx_E := (.iload 1, 92, 93, [], .null) :: x4_93
theorem ox4_92 : sx_oks 4 x4_92 := ⟨Or.inr ⟨_, (sx_dd bb_4 dX6_workedOut_92), rfl, rfl⟩, ox4_93⟩
def x4_91 : List sx_E := (.ireturn, 91, 92, [0], .null) :: x4_92
theorem ox4_91 : sx_oks 4 x4_91 := ⟨sx_q_iret0 (sx_dd bb_4 dX6_workedOut_91) rr_4, ox4_92⟩
def x4_90 : List sx_E := (.isub, 90, 91, [], .null) :: x4_91
theorem ox4_90 : sx_oks 4 x4_90 := ⟨⟨(sx_dd bb_4 dX6_workedOut_90), rfl⟩, ox4_91⟩
def x4_89 : List sx_E := (.iload 2, 89, 90, [], .null) :: x4_90
theorem ox4_89 : sx_oks 4 x4_89 := ⟨Or.inr ⟨_, (sx_dd bb_4 dX6_workedOut_89), rfl, rfl⟩, ox4_90⟩
def x4_88 : List sx_E := (.iload 1, 88, 89, [], .null) :: x4_89
theorem ox4_88 : sx_oks 4 x4_88 := ⟨Or.inr ⟨_, (sx_dd bb_4 dX6_workedOut_88), rfl, rfl⟩, ox4_89⟩
def x4_87 : List sx_E := (.ireturn, 87, 88, [0], .null) :: x4_88
theorem ox4_87 : sx_oks 4 x4_87 := ⟨sx_q_iret0 (sx_dd bb_4 dX6_workedOut_87) rr_4, ox4_88⟩
def x4_86 : List sx_E := (.iadd, 86, 87, [], .null) :: x4_87
theorem ox4_86 : sx_oks 4 x4_86 := ⟨⟨(sx_dd bb_4 dX6_workedOut_86), rfl⟩, ox4_87⟩
def x4_85 : List sx_E := (.iload 2, 85, 86, [], .null) :: x4_86
theorem ox4_85 : sx_oks 4 x4_85 := ⟨Or.inr ⟨_, (sx_dd bb_4 dX6_workedOut_85), rfl, rfl⟩, ox4_86⟩
def x4_84 : List sx_E := (.iload 1, 84, 85, [], .null) :: x4_85
theorem ox4_84 : sx_oks 4 x4_84 := ⟨Or.inr ⟨_, (sx_dd bb_4 dX6_workedOut_84), rfl, rfl⟩, ox4_85⟩
def x4_1 : List sx_E := (.lookupswitch 168 #[(38, 140), (42, 91), (43, 83), (45, 87), (47, 95), (60, 107), (61, 118), (62, 129), (124, 154)], 1, 84, [169, 38, 141, 42, 92, 43, 84, 45, 88, 47, 96, 60, 108, 61, 119, 62, 130, 124, 155], .null) :: x4_84
theorem ox4_1 : sx_oks 4 x4_1 := ⟨⟨⟨_, (sx_dd bb_4 dX6_workedOut_1)⟩, by decide +kernel, sx_t3 (by decide +kernel) (by decide +kernel)⟩, ox4_84⟩
def x4_0 : List sx_E := (.iload 0, 0, 1, [], .null) :: x4_1
theorem ox4_0 : sx_oks 4 x4_0 := ⟨Or.inr ⟨_, (sx_dd bb_4 dX6_workedOut_0), rfl, rfl⟩, ox4_1⟩
theorem m4 : sx_mok 4 x4_0 := ⟨ox4_0, by decide +kernel⟩
theorem bb_5 : sx_by 5 = cX1_init := rfl
theorem oo_5 : (sx_nm 5).cls = "StrawGarrison$Border" := rfl
theorem mm_5 : sx_ml 5 = 1 := rfl
theorem rr_5 : sx_rt 5 = none := rfl
theorem cc_5 : sx_ct 5 := rfl
def x5_116 : List sx_E := (.return_, 116, 117, [], .null) :: []
theorem ox5_116 : sx_oks 5 x5_116 := ⟨⟨(sx_dd bb_5 dX1_init_116), rr_5⟩, trivial⟩
def x5_113 : List sx_E := (.putfield 46, 113, 116, [1, 0, 1], .null) :: x5_116
theorem ox5_113 : sx_oks 5 x5_113 := ⟨sx_q_put (w := (RX1, TX1, 11)) (ty0 := tyX1) (sx_dd bb_5 dX1_init_113) rfl (Nat.le_of_ble_eq_true rfl) cu_1 (sx_ow3 oo_5 fl_StrawGarrison_Border_46) (by decide +kernel) tyX1_ok nmX1 (Or.inr ⟨rfl, cc_5, sx_ow0 oo_5 rfl⟩) (fun h => absurd h (by decide)) (fun h => absurd h (by decide)) (fun _ => Or.inl ⟨_, rfl⟩), ox5_116⟩
def x5_110 : List sx_E := (.invokespecial 45, 110, 113, [0, 1, 2, 17], .null) :: x5_113
theorem ox5_110 : sx_oks 5 x5_110 := ⟨sx_q_I (sx_dd bb_5 dX1_init_110) oo_5 lk_StrawGarrison_Border_45_I ft_0_h, ox5_113⟩
def x5_109 : List sx_E := (.dup, 109, 110, [], .null) :: x5_110
theorem ox5_109 : sx_oks 5 x5_109 := ⟨⟨(sx_dd bb_5 dX1_init_109), rfl⟩, ox5_110⟩
def x5_106 : List sx_E := (.new 43, 106, 109, [0, 3], .null) :: x5_109
theorem ox5_106 : sx_oks 5 x5_106 := ⟨sx_q_new (w := (RX0, TX0, 3)) (ty0 := tyX0) (sx_dd bb_5 dX1_init_106) rfl rfl cu_0 tyX0_ok (sx_ow4 oo_5 cl_StrawGarrison_Border_43) ci_0 cn_0 (by decide +kernel), ox5_109⟩
def x5_105 : List sx_E := (.aload 0, 105, 106, [], .null) :: x5_106
theorem ox5_105 : sx_oks 5 x5_105 := ⟨Or.inr ⟨_, (sx_dd bb_5 dX1_init_105), rfl, rfl⟩, ox5_106⟩
def x5_102 : List sx_E := (.putfield 40, 102, 105, [1, 10, 0], .null) :: x5_105
theorem ox5_102 : sx_oks 5 x5_102 := ⟨sx_q_put (w := (RX1, TX1, 11)) (ty0 := tyX1) (sx_dd bb_5 dX1_init_102) rfl (Nat.le_of_ble_eq_true rfl) cu_1 (sx_ow3 oo_5 fl_StrawGarrison_Border_40) (by decide +kernel) tyX1_ok nmX1 (Or.inl rfl) (fun _ => rfl) (fun h => absurd h (by decide)) (fun h => absurd h (by decide)), ox5_105⟩
def x5_101 : List sx_E := (.nop, 101, 102, [], .int (nI 1)) :: x5_102
theorem ox5_101 : sx_oks 5 x5_101 := ⟨sx_k_iconst (sx_dd bb_5 dX1_init_101) (by decide +kernel), ox5_102⟩
def x5_100 : List sx_E := (.aload 0, 100, 101, [], .null) :: x5_101
theorem ox5_100 : sx_oks 5 x5_100 := ⟨Or.inr ⟨_, (sx_dd bb_5 dX1_init_100), rfl, rfl⟩, ox5_101⟩
def x5_97 : List sx_E := (.putfield 37, 97, 100, [1, 9, 0], .null) :: x5_100
theorem ox5_97 : sx_oks 5 x5_97 := ⟨sx_q_put (w := (RX1, TX1, 11)) (ty0 := tyX1) (sx_dd bb_5 dX1_init_97) rfl (Nat.le_of_ble_eq_true rfl) cu_1 (sx_ow3 oo_5 fl_StrawGarrison_Border_37) (by decide +kernel) tyX1_ok nmX1 (Or.inl rfl) (fun _ => rfl) (fun h => absurd h (by decide)) (fun h => absurd h (by decide)), ox5_100⟩
def x5_96 : List sx_E := (.nop, 96, 97, [], .int (nI 0)) :: x5_97
theorem ox5_96 : sx_oks 5 x5_96 := ⟨sx_k_iconst (sx_dd bb_5 dX1_init_96) (by decide +kernel), ox5_97⟩
def x5_95 : List sx_E := (.aload 0, 95, 96, [], .null) :: x5_96
theorem ox5_95 : sx_oks 5 x5_95 := ⟨Or.inr ⟨_, (sx_dd bb_5 dX1_init_95), rfl, rfl⟩, ox5_96⟩
def x5_92 : List sx_E := (.putfield 34, 92, 95, [1, 8, 1], .null) :: x5_95
theorem ox5_92 : sx_oks 5 x5_92 := ⟨sx_q_put (w := (RX1, TX1, 11)) (ty0 := tyX1) (sx_dd bb_5 dX1_init_92) rfl (Nat.le_of_ble_eq_true rfl) cu_1 (sx_ow3 oo_5 fl_StrawGarrison_Border_34) (by decide +kernel) tyX1_ok nmX1 (Or.inr ⟨rfl, cc_5, sx_ow0 oo_5 rfl⟩) (fun h => absurd h (by decide)) (fun h => absurd h (by decide)) (fun _ => Or.inr ⟨_, rfl⟩), ox5_95⟩
def x5_91 : List sx_E := (.iastore, 91, 92, [], .null) :: x5_92
theorem ox5_91 : sx_oks 5 x5_91 := ⟨⟨(sx_dd bb_5 dX1_init_91), rfl⟩, ox5_92⟩
def x5_90 : List sx_E := (.nop, 90, 91, [], .int (nI 0)) :: x5_91
theorem ox5_90 : sx_oks 5 x5_90 := ⟨sx_k_iconst (sx_dd bb_5 dX1_init_90) (by decide +kernel), ox5_91⟩
def x5_89 : List sx_E := (.nop, 89, 90, [], .int (nI 2)) :: x5_90
theorem ox5_89 : sx_oks 5 x5_89 := ⟨sx_k_iconst (sx_dd bb_5 dX1_init_89) (by decide +kernel), ox5_90⟩
def x5_88 : List sx_E := (.dup, 88, 89, [], .null) :: x5_89
theorem ox5_88 : sx_oks 5 x5_88 := ⟨⟨(sx_dd bb_5 dX1_init_88), rfl⟩, ox5_89⟩
def x5_87 : List sx_E := (.iastore, 87, 88, [], .null) :: x5_88
theorem ox5_87 : sx_oks 5 x5_87 := ⟨⟨(sx_dd bb_5 dX1_init_87), rfl⟩, ox5_88⟩
def x5_86 : List sx_E := (.nop, 86, 87, [], .int (nI 0)) :: x5_87
theorem ox5_86 : sx_oks 5 x5_86 := ⟨sx_k_iconst (sx_dd bb_5 dX1_init_86) (by decide +kernel), ox5_87⟩
def x5_85 : List sx_E := (.nop, 85, 86, [], .int (nI 1)) :: x5_86
theorem ox5_85 : sx_oks 5 x5_85 := ⟨sx_k_iconst (sx_dd bb_5 dX1_init_85) (by decide +kernel), ox5_86⟩
def x5_84 : List sx_E := (.dup, 84, 85, [], .null) :: x5_85
theorem ox5_84 : sx_oks 5 x5_84 := ⟨⟨(sx_dd bb_5 dX1_init_84), rfl⟩, ox5_85⟩
def x5_83 : List sx_E := (.iastore, 83, 84, [], .null) :: x5_84
theorem ox5_83 : sx_oks 5 x5_83 := ⟨⟨(sx_dd bb_5 dX1_init_83), rfl⟩, ox5_84⟩
def x5_82 : List sx_E := (.nop, 82, 83, [], .int (nI 0)) :: x5_83
theorem ox5_82 : sx_oks 5 x5_82 := ⟨sx_k_iconst (sx_dd bb_5 dX1_init_82) (by decide +kernel), ox5_83⟩
def x5_81 : List sx_E := (.nop, 81, 82, [], .int (nI 0)) :: x5_82
theorem ox5_81 : sx_oks 5 x5_81 := ⟨sx_k_iconst (sx_dd bb_5 dX1_init_81) (by decide +kernel), ox5_82⟩
def x5_80 : List sx_E := (.dup, 80, 81, [], .null) :: x5_81
theorem ox5_80 : sx_oks 5 x5_80 := ⟨⟨(sx_dd bb_5 dX1_init_80), rfl⟩, ox5_81⟩
def x5_78 : List sx_E := (.newarray .int, 78, 80, [0, 3], .null) :: x5_80
theorem ox5_78 : sx_oks 5 x5_78 := ⟨sx_q_newa (sx_dd bb_5 dX1_init_78) (Nat.le_of_ble_eq_true rfl) (Or.inl ⟨rfl, rfl⟩) ca_0, ox5_80⟩
def x5_77 : List sx_E := (.nop, 77, 78, [], .int (nI 3)) :: x5_78
theorem ox5_77 : sx_oks 5 x5_77 := ⟨sx_k_iconst (sx_dd bb_5 dX1_init_77) (by decide +kernel), ox5_78⟩
def x5_76 : List sx_E := (.aload 0, 76, 77, [], .null) :: x5_77
theorem ox5_76 : sx_oks 5 x5_76 := ⟨Or.inr ⟨_, (sx_dd bb_5 dX1_init_76), rfl, rfl⟩, ox5_77⟩
def x5_73 : List sx_E := (.putfield 31, 73, 76, [1, 7, 1], .null) :: x5_76
theorem ox5_73 : sx_oks 5 x5_73 := ⟨sx_q_put (w := (RX1, TX1, 11)) (ty0 := tyX1) (sx_dd bb_5 dX1_init_73) rfl (Nat.le_of_ble_eq_true rfl) cu_1 (sx_ow3 oo_5 fl_StrawGarrison_Border_31) (by decide +kernel) tyX1_ok nmX1 (Or.inr ⟨rfl, cc_5, sx_ow0 oo_5 rfl⟩) (fun h => absurd h (by decide)) (fun h => absurd h (by decide)) (fun _ => Or.inr ⟨_, rfl⟩), ox5_76⟩
def x5_72 : List sx_E := (.iastore, 72, 73, [], .null) :: x5_73
theorem ox5_72 : sx_oks 5 x5_72 := ⟨⟨(sx_dd bb_5 dX1_init_72), rfl⟩, ox5_73⟩
def x5_70 : List sx_E := (.nop, 70, 72, [], .int (nI 20)) :: x5_72
theorem ox5_70 : sx_oks 5 x5_70 := ⟨sx_k_bipush (sx_dd bb_5 dX1_init_70) (by decide +kernel), ox5_72⟩
def x5_69 : List sx_E := (.nop, 69, 70, [], .int (nI 3)) :: x5_70
theorem ox5_69 : sx_oks 5 x5_69 := ⟨sx_k_iconst (sx_dd bb_5 dX1_init_69) (by decide +kernel), ox5_70⟩
def x5_68 : List sx_E := (.dup, 68, 69, [], .null) :: x5_69
theorem ox5_68 : sx_oks 5 x5_68 := ⟨⟨(sx_dd bb_5 dX1_init_68), rfl⟩, ox5_69⟩
def x5_67 : List sx_E := (.iastore, 67, 68, [], .null) :: x5_68
theorem ox5_67 : sx_oks 5 x5_67 := ⟨⟨(sx_dd bb_5 dX1_init_67), rfl⟩, ox5_68⟩
def x5_64 : List sx_E := (.nop, 64, 67, [], .int (nI 200)) :: x5_67
theorem ox5_64 : sx_oks 5 x5_64 := ⟨sx_k_sipush (sx_dd bb_5 dX1_init_64) (by decide +kernel), ox5_67⟩
def x5_63 : List sx_E := (.nop, 63, 64, [], .int (nI 2)) :: x5_64
theorem ox5_63 : sx_oks 5 x5_63 := ⟨sx_k_iconst (sx_dd bb_5 dX1_init_63) (by decide +kernel), ox5_64⟩
def x5_62 : List sx_E := (.dup, 62, 63, [], .null) :: x5_63
theorem ox5_62 : sx_oks 5 x5_62 := ⟨⟨(sx_dd bb_5 dX1_init_62), rfl⟩, ox5_63⟩
def x5_61 : List sx_E := (.iastore, 61, 62, [], .null) :: x5_62
theorem ox5_61 : sx_oks 5 x5_61 := ⟨⟨(sx_dd bb_5 dX1_init_61), rfl⟩, ox5_62⟩
def x5_59 : List sx_E := (.nop, 59, 61, [], .int (nI 30)) :: x5_61
theorem ox5_59 : sx_oks 5 x5_59 := ⟨sx_k_bipush (sx_dd bb_5 dX1_init_59) (by decide +kernel), ox5_61⟩
def x5_58 : List sx_E := (.nop, 58, 59, [], .int (nI 1)) :: x5_59
theorem ox5_58 : sx_oks 5 x5_58 := ⟨sx_k_iconst (sx_dd bb_5 dX1_init_58) (by decide +kernel), ox5_59⟩
def x5_57 : List sx_E := (.dup, 57, 58, [], .null) :: x5_58
theorem ox5_57 : sx_oks 5 x5_57 := ⟨⟨(sx_dd bb_5 dX1_init_57), rfl⟩, ox5_58⟩
def x5_56 : List sx_E := (.iastore, 56, 57, [], .null) :: x5_57
theorem ox5_56 : sx_oks 5 x5_56 := ⟨⟨(sx_dd bb_5 dX1_init_56), rfl⟩, ox5_57⟩
def x5_55 : List sx_E := (.nop, 55, 56, [], .int (nI 3)) :: x5_56
theorem ox5_55 : sx_oks 5 x5_55 := ⟨sx_k_iconst (sx_dd bb_5 dX1_init_55) (by decide +kernel), ox5_56⟩
def x5_54 : List sx_E := (.nop, 54, 55, [], .int (nI 0)) :: x5_55
theorem ox5_54 : sx_oks 5 x5_54 := ⟨sx_k_iconst (sx_dd bb_5 dX1_init_54) (by decide +kernel), ox5_55⟩
def x5_53 : List sx_E := (.dup, 53, 54, [], .null) :: x5_54
theorem ox5_53 : sx_oks 5 x5_53 := ⟨⟨(sx_dd bb_5 dX1_init_53), rfl⟩, ox5_54⟩
def x5_51 : List sx_E := (.newarray .int, 51, 53, [0, 4], .null) :: x5_53
theorem ox5_51 : sx_oks 5 x5_51 := ⟨sx_q_newa (sx_dd bb_5 dX1_init_51) (Nat.le_of_ble_eq_true rfl) (Or.inl ⟨rfl, rfl⟩) ca_0, ox5_53⟩
def x5_50 : List sx_E := (.nop, 50, 51, [], .int (nI 4)) :: x5_51
theorem ox5_50 : sx_oks 5 x5_50 := ⟨sx_k_iconst (sx_dd bb_5 dX1_init_50) (by decide +kernel), ox5_51⟩
def x5_49 : List sx_E := (.aload 0, 49, 50, [], .null) :: x5_50
theorem ox5_49 : sx_oks 5 x5_49 := ⟨Or.inr ⟨_, (sx_dd bb_5 dX1_init_49), rfl, rfl⟩, ox5_50⟩
def x5_46 : List sx_E := (.putfield 28, 46, 49, [1, 6, 1], .null) :: x5_49
theorem ox5_46 : sx_oks 5 x5_46 := ⟨sx_q_put (w := (RX1, TX1, 11)) (ty0 := tyX1) (sx_dd bb_5 dX1_init_46) rfl (Nat.le_of_ble_eq_true rfl) cu_1 (sx_ow3 oo_5 fl_StrawGarrison_Border_28) (by decide +kernel) tyX1_ok nmX1 (Or.inr ⟨rfl, cc_5, sx_ow0 oo_5 rfl⟩) (fun h => absurd h (by decide)) (fun h => absurd h (by decide)) (fun _ => Or.inr ⟨_, rfl⟩), ox5_49⟩
def x5_44 : List sx_E := (.newarray .int, 44, 46, [0, 10], .null) :: x5_46
theorem ox5_44 : sx_oks 5 x5_44 := ⟨sx_q_newa (sx_dd bb_5 dX1_init_44) (Nat.le_of_ble_eq_true rfl) (Or.inl ⟨rfl, rfl⟩) ca_0, ox5_46⟩
def x5_42 : List sx_E := (.nop, 42, 44, [], .int (nI 10)) :: x5_44
theorem ox5_42 : sx_oks 5 x5_42 := ⟨sx_k_bipush (sx_dd bb_5 dX1_init_42) (by decide +kernel), ox5_44⟩
def x5_41 : List sx_E := (.aload 0, 41, 42, [], .null) :: x5_42
theorem ox5_41 : sx_oks 5 x5_41 := ⟨Or.inr ⟨_, (sx_dd bb_5 dX1_init_41), rfl, rfl⟩, ox5_42⟩
def x5_38 : List sx_E := (.putfield 25, 38, 41, [1, 5, 1], .null) :: x5_41
theorem ox5_38 : sx_oks 5 x5_38 := ⟨sx_q_put (w := (RX1, TX1, 11)) (ty0 := tyX1) (sx_dd bb_5 dX1_init_38) rfl (Nat.le_of_ble_eq_true rfl) cu_1 (sx_ow3 oo_5 fl_StrawGarrison_Border_25) (by decide +kernel) tyX1_ok nmX1 (Or.inr ⟨rfl, cc_5, sx_ow0 oo_5 rfl⟩) (fun h => absurd h (by decide)) (fun h => absurd h (by decide)) (fun _ => Or.inr ⟨_, rfl⟩), ox5_41⟩
def x5_36 : List sx_E := (.newarray .int, 36, 38, [0, 10], .null) :: x5_38
theorem ox5_36 : sx_oks 5 x5_36 := ⟨sx_q_newa (sx_dd bb_5 dX1_init_36) (Nat.le_of_ble_eq_true rfl) (Or.inl ⟨rfl, rfl⟩) ca_0, ox5_38⟩
def x5_34 : List sx_E := (.nop, 34, 36, [], .int (nI 10)) :: x5_36
theorem ox5_34 : sx_oks 5 x5_34 := ⟨sx_k_bipush (sx_dd bb_5 dX1_init_34) (by decide +kernel), ox5_36⟩
def x5_33 : List sx_E := (.aload 0, 33, 34, [], .null) :: x5_34
theorem ox5_33 : sx_oks 5 x5_33 := ⟨Or.inr ⟨_, (sx_dd bb_5 dX1_init_33), rfl, rfl⟩, ox5_34⟩
def x5_30 : List sx_E := (.putfield 22, 30, 33, [1, 4, 1], .null) :: x5_33
theorem ox5_30 : sx_oks 5 x5_30 := ⟨sx_q_put (w := (RX1, TX1, 11)) (ty0 := tyX1) (sx_dd bb_5 dX1_init_30) rfl (Nat.le_of_ble_eq_true rfl) cu_1 (sx_ow3 oo_5 fl_StrawGarrison_Border_22) (by decide +kernel) tyX1_ok nmX1 (Or.inr ⟨rfl, cc_5, sx_ow0 oo_5 rfl⟩) (fun h => absurd h (by decide)) (fun h => absurd h (by decide)) (fun _ => Or.inr ⟨_, rfl⟩), ox5_33⟩
def x5_28 : List sx_E := (.newarray .int, 28, 30, [0, 10], .null) :: x5_30
theorem ox5_28 : sx_oks 5 x5_28 := ⟨sx_q_newa (sx_dd bb_5 dX1_init_28) (Nat.le_of_ble_eq_true rfl) (Or.inl ⟨rfl, rfl⟩) ca_0, ox5_30⟩
def x5_26 : List sx_E := (.nop, 26, 28, [], .int (nI 10)) :: x5_28
theorem ox5_26 : sx_oks 5 x5_26 := ⟨sx_k_bipush (sx_dd bb_5 dX1_init_26) (by decide +kernel), ox5_28⟩
def x5_25 : List sx_E := (.aload 0, 25, 26, [], .null) :: x5_26
theorem ox5_25 : sx_oks 5 x5_25 := ⟨Or.inr ⟨_, (sx_dd bb_5 dX1_init_25), rfl, rfl⟩, ox5_26⟩
def x5_22 : List sx_E := (.putfield 19, 22, 25, [1, 3, 1], .null) :: x5_25
theorem ox5_22 : sx_oks 5 x5_22 := ⟨sx_q_put (w := (RX1, TX1, 11)) (ty0 := tyX1) (sx_dd bb_5 dX1_init_22) rfl (Nat.le_of_ble_eq_true rfl) cu_1 (sx_ow3 oo_5 fl_StrawGarrison_Border_19) (by decide +kernel) tyX1_ok nmX1 (Or.inr ⟨rfl, cc_5, sx_ow0 oo_5 rfl⟩) (fun h => absurd h (by decide)) (fun h => absurd h (by decide)) (fun _ => Or.inr ⟨_, rfl⟩), ox5_25⟩
def x5_20 : List sx_E := (.newarray .int, 20, 22, [0, 10], .null) :: x5_22
theorem ox5_20 : sx_oks 5 x5_20 := ⟨sx_q_newa (sx_dd bb_5 dX1_init_20) (Nat.le_of_ble_eq_true rfl) (Or.inl ⟨rfl, rfl⟩) ca_0, ox5_22⟩
def x5_18 : List sx_E := (.nop, 18, 20, [], .int (nI 10)) :: x5_20
theorem ox5_18 : sx_oks 5 x5_18 := ⟨sx_k_bipush (sx_dd bb_5 dX1_init_18) (by decide +kernel), ox5_20⟩
def x5_17 : List sx_E := (.aload 0, 17, 18, [], .null) :: x5_18
theorem ox5_17 : sx_oks 5 x5_17 := ⟨Or.inr ⟨_, (sx_dd bb_5 dX1_init_17), rfl, rfl⟩, ox5_18⟩
def x5_14 : List sx_E := (.putfield 15, 14, 17, [1, 2, 1], .null) :: x5_17
theorem ox5_14 : sx_oks 5 x5_14 := ⟨sx_q_put (w := (RX1, TX1, 11)) (ty0 := tyX1) (sx_dd bb_5 dX1_init_14) rfl (Nat.le_of_ble_eq_true rfl) cu_1 (sx_ow3 oo_5 fl_StrawGarrison_Border_15) (by decide +kernel) tyX1_ok nmX1 (Or.inr ⟨rfl, cc_5, sx_ow0 oo_5 rfl⟩) (fun h => absurd h (by decide)) (fun h => absurd h (by decide)) (fun _ => Or.inr ⟨_, rfl⟩), ox5_17⟩
def x5_12 : List sx_E := (.newarray .int, 12, 14, [0, 10], .null) :: x5_14
theorem ox5_12 : sx_oks 5 x5_12 := ⟨sx_q_newa (sx_dd bb_5 dX1_init_12) (Nat.le_of_ble_eq_true rfl) (Or.inl ⟨rfl, rfl⟩) ca_0, ox5_14⟩
def x5_10 : List sx_E := (.nop, 10, 12, [], .int (nI 10)) :: x5_12
theorem ox5_10 : sx_oks 5 x5_10 := ⟨sx_k_bipush (sx_dd bb_5 dX1_init_10) (by decide +kernel), ox5_12⟩
def x5_9 : List sx_E := (.aload 0, 9, 10, [], .null) :: x5_10
theorem ox5_9 : sx_oks 5 x5_9 := ⟨Or.inr ⟨_, (sx_dd bb_5 dX1_init_9), rfl, rfl⟩, ox5_10⟩
def x5_6 : List sx_E := (.putfield 9, 6, 9, [1, 1, 0], .null) :: x5_9
theorem ox5_6 : sx_oks 5 x5_6 := ⟨sx_q_put (w := (RX1, TX1, 11)) (ty0 := tyX1) (sx_dd bb_5 dX1_init_6) rfl (Nat.le_of_ble_eq_true rfl) cu_1 (sx_ow3 oo_5 fl_StrawGarrison_Border_9) (by decide +kernel) tyX1_ok nmX1 (Or.inl rfl) (fun _ => rfl) (fun h => absurd h (by decide)) (fun h => absurd h (by decide)), ox5_9⟩
def x5_5 : List sx_E := (.nop, 5, 6, [], .int (nI 0)) :: x5_6
theorem ox5_5 : sx_oks 5 x5_5 := ⟨sx_k_iconst (sx_dd bb_5 dX1_init_5) (by decide +kernel), ox5_6⟩
def x5_4 : List sx_E := (.aload 0, 4, 5, [], .null) :: x5_5
theorem ox5_4 : sx_oks 5 x5_4 := ⟨Or.inr ⟨_, (sx_dd bb_5 dX1_init_4), rfl, rfl⟩, ox5_5⟩
def x5_1 : List sx_E := (.jsr 0, 1, 4, [], .null) :: x5_4
theorem ox5_1 : sx_oks 5 x5_1 := ⟨⟨3, (sx_dd bb_5 dX1_init_1), rfl, sx_ow5 oo_5 ob_StrawGarrison_Border_3, ob_i, ob_c⟩, ox5_4⟩
def x5_0 : List sx_E := (.aload 0, 0, 1, [], .null) :: x5_1
theorem ox5_0 : sx_oks 5 x5_0 := ⟨Or.inr ⟨_, (sx_dd bb_5 dX1_init_0), rfl, rfl⟩, ox5_1⟩
theorem m5 : sx_mok 5 x5_0 := ⟨ox5_0, by decide +kernel⟩
theorem bb_6 : sx_by 6 = cX1_become := rfl
theorem oo_6 : (sx_nm 6).cls = "StrawGarrison$Border" := rfl
theorem mm_6 : sx_ml 6 = 2 := rfl
theorem rr_6 : sx_rt 6 = none := rfl
def x6_146 : List sx_E := (.return_, 146, 147, [], .null) :: []
theorem ox6_146 : sx_oks 6 x6_146 := ⟨⟨(sx_dd bb_6 dX1_become_146), rr_6⟩, trivial⟩
def x6_143 : List sx_E := (.invokevirtual 56, 143, 146, [1, 2, 0, 0, 0], .null) :: x6_146
theorem ox6_143 : sx_oks 6 x6_143 := ⟨sx_q_V (w := (RX0, TX0, 3)) (sx_dd bb_6 dX1_become_143) oo_6 lk_StrawGarrison_Border_56_V ft_1_h (Nat.le_of_ble_eq_true rfl) rfl rfl, ox6_146⟩
def x6_140 : List sx_E := (.getfield 46, 140, 143, [1, 0, 1], .null) :: x6_143
theorem ox6_140 : sx_oks 6 x6_140 := ⟨sx_q_get (w := (RX1, TX1, 11)) (sx_dd bb_6 dX1_become_140) rfl rfl (Nat.le_of_ble_eq_true rfl) cu_1 (sx_ow3 oo_6 fl_StrawGarrison_Border_46) (by decide +kernel), ox6_143⟩
def x6_139 : List sx_E := (.aload 1, 139, 140, [], .null) :: x6_140
theorem ox6_139 : sx_oks 6 x6_139 := ⟨Or.inr ⟨_, (sx_dd bb_6 dX1_become_139), rfl, rfl⟩, ox6_140⟩
def x6_136 : List sx_E := (.getfield 46, 136, 139, [1, 0, 1], .null) :: x6_139
theorem ox6_136 : sx_oks 6 x6_136 := ⟨sx_q_get (w := (RX1, TX1, 11)) (sx_dd bb_6 dX1_become_136) rfl rfl (Nat.le_of_ble_eq_true rfl) cu_1 (sx_ow3 oo_6 fl_StrawGarrison_Border_46) (by decide +kernel), ox6_139⟩
def x6_135 : List sx_E := (.aload 0, 135, 136, [], .null) :: x6_136
theorem ox6_135 : sx_oks 6 x6_135 := ⟨Or.inr ⟨_, (sx_dd bb_6 dX1_become_135), rfl, rfl⟩, ox6_136⟩
def x6_132 : List sx_E := (.putfield 40, 132, 135, [1, 10, 0], .null) :: x6_135
theorem ox6_132 : sx_oks 6 x6_132 := ⟨sx_q_put (w := (RX1, TX1, 11)) (ty0 := tyX1) (sx_dd bb_6 dX1_become_132) rfl (Nat.le_of_ble_eq_true rfl) cu_1 (sx_ow3 oo_6 fl_StrawGarrison_Border_40) (by decide +kernel) tyX1_ok nmX1 (Or.inl rfl) (fun _ => rfl) (fun h => absurd h (by decide)) (fun h => absurd h (by decide)), ox6_135⟩
def x6_129 : List sx_E := (.getfield 40, 129, 132, [1, 10, 0], .null) :: x6_132
theorem ox6_129 : sx_oks 6 x6_129 := ⟨sx_q_get (w := (RX1, TX1, 11)) (sx_dd bb_6 dX1_become_129) rfl rfl (Nat.le_of_ble_eq_true rfl) cu_1 (sx_ow3 oo_6 fl_StrawGarrison_Border_40) (by decide +kernel), ox6_132⟩
def x6_128 : List sx_E := (.aload 1, 128, 129, [], .null) :: x6_129
theorem ox6_128 : sx_oks 6 x6_128 := ⟨Or.inr ⟨_, (sx_dd bb_6 dX1_become_128), rfl, rfl⟩, ox6_129⟩
def x6_127 : List sx_E := (.aload 0, 127, 128, [], .null) :: x6_128
theorem ox6_127 : sx_oks 6 x6_127 := ⟨Or.inr ⟨_, (sx_dd bb_6 dX1_become_127), rfl, rfl⟩, ox6_128⟩
def x6_124 : List sx_E := (.putfield 37, 124, 127, [1, 9, 0], .null) :: x6_127
theorem ox6_124 : sx_oks 6 x6_124 := ⟨sx_q_put (w := (RX1, TX1, 11)) (ty0 := tyX1) (sx_dd bb_6 dX1_become_124) rfl (Nat.le_of_ble_eq_true rfl) cu_1 (sx_ow3 oo_6 fl_StrawGarrison_Border_37) (by decide +kernel) tyX1_ok nmX1 (Or.inl rfl) (fun _ => rfl) (fun h => absurd h (by decide)) (fun h => absurd h (by decide)), ox6_127⟩
def x6_121 : List sx_E := (.getfield 37, 121, 124, [1, 9, 0], .null) :: x6_124
theorem ox6_121 : sx_oks 6 x6_121 := ⟨sx_q_get (w := (RX1, TX1, 11)) (sx_dd bb_6 dX1_become_121) rfl rfl (Nat.le_of_ble_eq_true rfl) cu_1 (sx_ow3 oo_6 fl_StrawGarrison_Border_37) (by decide +kernel), ox6_124⟩
def x6_120 : List sx_E := (.aload 1, 120, 121, [], .null) :: x6_121
theorem ox6_120 : sx_oks 6 x6_120 := ⟨Or.inr ⟨_, (sx_dd bb_6 dX1_become_120), rfl, rfl⟩, ox6_121⟩
def x6_119 : List sx_E := (.aload 0, 119, 120, [], .null) :: x6_120
theorem ox6_119 : sx_oks 6 x6_119 := ⟨Or.inr ⟨_, (sx_dd bb_6 dX1_become_119), rfl, rfl⟩, ox6_120⟩
def x6_116 : List sx_E := (.ret 50, 116, 119, [], .null) :: x6_119
theorem ox6_116 : sx_oks 6 x6_116 := ⟨⟨(sx_dd bb_6 dX1_become_116), rfl, sx_ow5 oo_6 ac_StrawGarrison_Border_50, ac_n, ac_s, ac_i⟩, ox6_119⟩
def x6_115 : List sx_E := (.arraylength, 115, 116, [], .null) :: x6_116
theorem ox6_115 : sx_oks 6 x6_115 := ⟨⟨(sx_dd bb_6 dX1_become_115), rfl⟩, ox6_116⟩
def x6_112 : List sx_E := (.getfield 34, 112, 115, [1, 8, 1], .null) :: x6_115
theorem ox6_112 : sx_oks 6 x6_112 := ⟨sx_q_get (w := (RX1, TX1, 11)) (sx_dd bb_6 dX1_become_112) rfl rfl (Nat.le_of_ble_eq_true rfl) cu_1 (sx_ow3 oo_6 fl_StrawGarrison_Border_34) (by decide +kernel), ox6_115⟩
def x6_111 : List sx_E := (.aload 0, 111, 112, [], .null) :: x6_112
theorem ox6_111 : sx_oks 6 x6_111 := ⟨Or.inr ⟨_, (sx_dd bb_6 dX1_become_111), rfl, rfl⟩, ox6_112⟩
def x6_110 : List sx_E := (.nop, 110, 111, [], .int (nI 0)) :: x6_111
theorem ox6_110 : sx_oks 6 x6_110 := ⟨sx_k_iconst (sx_dd bb_6 dX1_become_110) (by decide +kernel), ox6_111⟩
def x6_107 : List sx_E := (.getfield 34, 107, 110, [1, 8, 1], .null) :: x6_110
theorem ox6_107 : sx_oks 6 x6_107 := ⟨sx_q_get (w := (RX1, TX1, 11)) (sx_dd bb_6 dX1_become_107) rfl rfl (Nat.le_of_ble_eq_true rfl) cu_1 (sx_ow3 oo_6 fl_StrawGarrison_Border_34) (by decide +kernel), ox6_110⟩
def x6_106 : List sx_E := (.aload 0, 106, 107, [], .null) :: x6_107
theorem ox6_106 : sx_oks 6 x6_106 := ⟨Or.inr ⟨_, (sx_dd bb_6 dX1_become_106), rfl, rfl⟩, ox6_107⟩
def x6_105 : List sx_E := (.nop, 105, 106, [], .int (nI 0)) :: x6_106
theorem ox6_105 : sx_oks 6 x6_105 := ⟨sx_k_iconst (sx_dd bb_6 dX1_become_105) (by decide +kernel), ox6_106⟩
def x6_102 : List sx_E := (.getfield 34, 102, 105, [1, 8, 1], .null) :: x6_105
theorem ox6_102 : sx_oks 6 x6_102 := ⟨sx_q_get (w := (RX1, TX1, 11)) (sx_dd bb_6 dX1_become_102) rfl rfl (Nat.le_of_ble_eq_true rfl) cu_1 (sx_ow3 oo_6 fl_StrawGarrison_Border_34) (by decide +kernel), ox6_105⟩
def x6_101 : List sx_E := (.aload 1, 101, 102, [], .null) :: x6_102
theorem ox6_101 : sx_oks 6 x6_101 := ⟨Or.inr ⟨_, (sx_dd bb_6 dX1_become_101), rfl, rfl⟩, ox6_102⟩
def x6_98 : List sx_E := (.ret 50, 98, 101, [], .null) :: x6_101
theorem ox6_98 : sx_oks 6 x6_98 := ⟨⟨(sx_dd bb_6 dX1_become_98), rfl, sx_ow5 oo_6 ac_StrawGarrison_Border_50, ac_n, ac_s, ac_i⟩, ox6_101⟩
def x6_97 : List sx_E := (.arraylength, 97, 98, [], .null) :: x6_98
theorem ox6_97 : sx_oks 6 x6_97 := ⟨⟨(sx_dd bb_6 dX1_become_97), rfl⟩, ox6_98⟩
def x6_94 : List sx_E := (.getfield 31, 94, 97, [1, 7, 1], .null) :: x6_97
theorem ox6_94 : sx_oks 6 x6_94 := ⟨sx_q_get (w := (RX1, TX1, 11)) (sx_dd bb_6 dX1_become_94) rfl rfl (Nat.le_of_ble_eq_true rfl) cu_1 (sx_ow3 oo_6 fl_StrawGarrison_Border_31) (by decide +kernel), ox6_97⟩
def x6_93 : List sx_E := (.aload 0, 93, 94, [], .null) :: x6_94
theorem ox6_93 : sx_oks 6 x6_93 := ⟨Or.inr ⟨_, (sx_dd bb_6 dX1_become_93), rfl, rfl⟩, ox6_94⟩
def x6_92 : List sx_E := (.nop, 92, 93, [], .int (nI 0)) :: x6_93
theorem ox6_92 : sx_oks 6 x6_92 := ⟨sx_k_iconst (sx_dd bb_6 dX1_become_92) (by decide +kernel), ox6_93⟩
def x6_89 : List sx_E := (.getfield 31, 89, 92, [1, 7, 1], .null) :: x6_92
theorem ox6_89 : sx_oks 6 x6_89 := ⟨sx_q_get (w := (RX1, TX1, 11)) (sx_dd bb_6 dX1_become_89) rfl rfl (Nat.le_of_ble_eq_true rfl) cu_1 (sx_ow3 oo_6 fl_StrawGarrison_Border_31) (by decide +kernel), ox6_92⟩
def x6_88 : List sx_E := (.aload 0, 88, 89, [], .null) :: x6_89
theorem ox6_88 : sx_oks 6 x6_88 := ⟨Or.inr ⟨_, (sx_dd bb_6 dX1_become_88), rfl, rfl⟩, ox6_89⟩
def x6_87 : List sx_E := (.nop, 87, 88, [], .int (nI 0)) :: x6_88
theorem ox6_87 : sx_oks 6 x6_87 := ⟨sx_k_iconst (sx_dd bb_6 dX1_become_87) (by decide +kernel), ox6_88⟩
def x6_84 : List sx_E := (.getfield 31, 84, 87, [1, 7, 1], .null) :: x6_87
theorem ox6_84 : sx_oks 6 x6_84 := ⟨sx_q_get (w := (RX1, TX1, 11)) (sx_dd bb_6 dX1_become_84) rfl rfl (Nat.le_of_ble_eq_true rfl) cu_1 (sx_ow3 oo_6 fl_StrawGarrison_Border_31) (by decide +kernel), ox6_87⟩
def x6_83 : List sx_E := (.aload 1, 83, 84, [], .null) :: x6_84
theorem ox6_83 : sx_oks 6 x6_83 := ⟨Or.inr ⟨_, (sx_dd bb_6 dX1_become_83), rfl, rfl⟩, ox6_84⟩
def x6_80 : List sx_E := (.ret 50, 80, 83, [], .null) :: x6_83
theorem ox6_80 : sx_oks 6 x6_80 := ⟨⟨(sx_dd bb_6 dX1_become_80), rfl, sx_ow5 oo_6 ac_StrawGarrison_Border_50, ac_n, ac_s, ac_i⟩, ox6_83⟩
def x6_78 : List sx_E := (.nop, 78, 80, [], .int (nI 10)) :: x6_80
theorem ox6_78 : sx_oks 6 x6_78 := ⟨sx_k_bipush (sx_dd bb_6 dX1_become_78) (by decide +kernel), ox6_80⟩
def x6_77 : List sx_E := (.nop, 77, 78, [], .int (nI 0)) :: x6_78
theorem ox6_77 : sx_oks 6 x6_77 := ⟨sx_k_iconst (sx_dd bb_6 dX1_become_77) (by decide +kernel), ox6_78⟩
def x6_74 : List sx_E := (.getfield 28, 74, 77, [1, 6, 1], .null) :: x6_77
theorem ox6_74 : sx_oks 6 x6_74 := ⟨sx_q_get (w := (RX1, TX1, 11)) (sx_dd bb_6 dX1_become_74) rfl rfl (Nat.le_of_ble_eq_true rfl) cu_1 (sx_ow3 oo_6 fl_StrawGarrison_Border_28) (by decide +kernel), ox6_77⟩
def x6_73 : List sx_E := (.aload 0, 73, 74, [], .null) :: x6_74
theorem ox6_73 : sx_oks 6 x6_73 := ⟨Or.inr ⟨_, (sx_dd bb_6 dX1_become_73), rfl, rfl⟩, ox6_74⟩
def x6_72 : List sx_E := (.nop, 72, 73, [], .int (nI 0)) :: x6_73
theorem ox6_72 : sx_oks 6 x6_72 := ⟨sx_k_iconst (sx_dd bb_6 dX1_become_72) (by decide +kernel), ox6_73⟩
def x6_69 : List sx_E := (.getfield 28, 69, 72, [1, 6, 1], .null) :: x6_72
theorem ox6_69 : sx_oks 6 x6_69 := ⟨sx_q_get (w := (RX1, TX1, 11)) (sx_dd bb_6 dX1_become_69) rfl rfl (Nat.le_of_ble_eq_true rfl) cu_1 (sx_ow3 oo_6 fl_StrawGarrison_Border_28) (by decide +kernel), ox6_72⟩
def x6_68 : List sx_E := (.aload 1, 68, 69, [], .null) :: x6_69
theorem ox6_68 : sx_oks 6 x6_68 := ⟨Or.inr ⟨_, (sx_dd bb_6 dX1_become_68), rfl, rfl⟩, ox6_69⟩
def x6_65 : List sx_E := (.ret 50, 65, 68, [], .null) :: x6_68
theorem ox6_65 : sx_oks 6 x6_65 := ⟨⟨(sx_dd bb_6 dX1_become_65), rfl, sx_ow5 oo_6 ac_StrawGarrison_Border_50, ac_n, ac_s, ac_i⟩, ox6_68⟩
def x6_63 : List sx_E := (.nop, 63, 65, [], .int (nI 10)) :: x6_65
theorem ox6_63 : sx_oks 6 x6_63 := ⟨sx_k_bipush (sx_dd bb_6 dX1_become_63) (by decide +kernel), ox6_65⟩
def x6_62 : List sx_E := (.nop, 62, 63, [], .int (nI 0)) :: x6_63
theorem ox6_62 : sx_oks 6 x6_62 := ⟨sx_k_iconst (sx_dd bb_6 dX1_become_62) (by decide +kernel), ox6_63⟩
def x6_59 : List sx_E := (.getfield 25, 59, 62, [1, 5, 1], .null) :: x6_62
theorem ox6_59 : sx_oks 6 x6_59 := ⟨sx_q_get (w := (RX1, TX1, 11)) (sx_dd bb_6 dX1_become_59) rfl rfl (Nat.le_of_ble_eq_true rfl) cu_1 (sx_ow3 oo_6 fl_StrawGarrison_Border_25) (by decide +kernel), ox6_62⟩
def x6_58 : List sx_E := (.aload 0, 58, 59, [], .null) :: x6_59
theorem ox6_58 : sx_oks 6 x6_58 := ⟨Or.inr ⟨_, (sx_dd bb_6 dX1_become_58), rfl, rfl⟩, ox6_59⟩
def x6_57 : List sx_E := (.nop, 57, 58, [], .int (nI 0)) :: x6_58
theorem ox6_57 : sx_oks 6 x6_57 := ⟨sx_k_iconst (sx_dd bb_6 dX1_become_57) (by decide +kernel), ox6_58⟩
def x6_54 : List sx_E := (.getfield 25, 54, 57, [1, 5, 1], .null) :: x6_57
theorem ox6_54 : sx_oks 6 x6_54 := ⟨sx_q_get (w := (RX1, TX1, 11)) (sx_dd bb_6 dX1_become_54) rfl rfl (Nat.le_of_ble_eq_true rfl) cu_1 (sx_ow3 oo_6 fl_StrawGarrison_Border_25) (by decide +kernel), ox6_57⟩
def x6_53 : List sx_E := (.aload 1, 53, 54, [], .null) :: x6_54
theorem ox6_53 : sx_oks 6 x6_53 := ⟨Or.inr ⟨_, (sx_dd bb_6 dX1_become_53), rfl, rfl⟩, ox6_54⟩
def x6_50 : List sx_E := (.ret 50, 50, 53, [], .null) :: x6_53
theorem ox6_50 : sx_oks 6 x6_50 := ⟨⟨(sx_dd bb_6 dX1_become_50), rfl, sx_ow5 oo_6 ac_StrawGarrison_Border_50, ac_n, ac_s, ac_i⟩, ox6_53⟩
def x6_48 : List sx_E := (.nop, 48, 50, [], .int (nI 10)) :: x6_50
theorem ox6_48 : sx_oks 6 x6_48 := ⟨sx_k_bipush (sx_dd bb_6 dX1_become_48) (by decide +kernel), ox6_50⟩
def x6_47 : List sx_E := (.nop, 47, 48, [], .int (nI 0)) :: x6_48
theorem ox6_47 : sx_oks 6 x6_47 := ⟨sx_k_iconst (sx_dd bb_6 dX1_become_47) (by decide +kernel), ox6_48⟩
def x6_44 : List sx_E := (.getfield 22, 44, 47, [1, 4, 1], .null) :: x6_47
theorem ox6_44 : sx_oks 6 x6_44 := ⟨sx_q_get (w := (RX1, TX1, 11)) (sx_dd bb_6 dX1_become_44) rfl rfl (Nat.le_of_ble_eq_true rfl) cu_1 (sx_ow3 oo_6 fl_StrawGarrison_Border_22) (by decide +kernel), ox6_47⟩
def x6_43 : List sx_E := (.aload 0, 43, 44, [], .null) :: x6_44
theorem ox6_43 : sx_oks 6 x6_43 := ⟨Or.inr ⟨_, (sx_dd bb_6 dX1_become_43), rfl, rfl⟩, ox6_44⟩
def x6_42 : List sx_E := (.nop, 42, 43, [], .int (nI 0)) :: x6_43
theorem ox6_42 : sx_oks 6 x6_42 := ⟨sx_k_iconst (sx_dd bb_6 dX1_become_42) (by decide +kernel), ox6_43⟩
def x6_39 : List sx_E := (.getfield 22, 39, 42, [1, 4, 1], .null) :: x6_42
theorem ox6_39 : sx_oks 6 x6_39 := ⟨sx_q_get (w := (RX1, TX1, 11)) (sx_dd bb_6 dX1_become_39) rfl rfl (Nat.le_of_ble_eq_true rfl) cu_1 (sx_ow3 oo_6 fl_StrawGarrison_Border_22) (by decide +kernel), ox6_42⟩
def x6_38 : List sx_E := (.aload 1, 38, 39, [], .null) :: x6_39
theorem ox6_38 : sx_oks 6 x6_38 := ⟨Or.inr ⟨_, (sx_dd bb_6 dX1_become_38), rfl, rfl⟩, ox6_39⟩
def x6_35 : List sx_E := (.ret 50, 35, 38, [], .null) :: x6_38
theorem ox6_35 : sx_oks 6 x6_35 := ⟨⟨(sx_dd bb_6 dX1_become_35), rfl, sx_ow5 oo_6 ac_StrawGarrison_Border_50, ac_n, ac_s, ac_i⟩, ox6_38⟩
def x6_33 : List sx_E := (.nop, 33, 35, [], .int (nI 10)) :: x6_35
theorem ox6_33 : sx_oks 6 x6_33 := ⟨sx_k_bipush (sx_dd bb_6 dX1_become_33) (by decide +kernel), ox6_35⟩
def x6_32 : List sx_E := (.nop, 32, 33, [], .int (nI 0)) :: x6_33
theorem ox6_32 : sx_oks 6 x6_32 := ⟨sx_k_iconst (sx_dd bb_6 dX1_become_32) (by decide +kernel), ox6_33⟩
def x6_29 : List sx_E := (.getfield 19, 29, 32, [1, 3, 1], .null) :: x6_32
theorem ox6_29 : sx_oks 6 x6_29 := ⟨sx_q_get (w := (RX1, TX1, 11)) (sx_dd bb_6 dX1_become_29) rfl rfl (Nat.le_of_ble_eq_true rfl) cu_1 (sx_ow3 oo_6 fl_StrawGarrison_Border_19) (by decide +kernel), ox6_32⟩
def x6_28 : List sx_E := (.aload 0, 28, 29, [], .null) :: x6_29
theorem ox6_28 : sx_oks 6 x6_28 := ⟨Or.inr ⟨_, (sx_dd bb_6 dX1_become_28), rfl, rfl⟩, ox6_29⟩
def x6_27 : List sx_E := (.nop, 27, 28, [], .int (nI 0)) :: x6_28
theorem ox6_27 : sx_oks 6 x6_27 := ⟨sx_k_iconst (sx_dd bb_6 dX1_become_27) (by decide +kernel), ox6_28⟩
def x6_24 : List sx_E := (.getfield 19, 24, 27, [1, 3, 1], .null) :: x6_27
theorem ox6_24 : sx_oks 6 x6_24 := ⟨sx_q_get (w := (RX1, TX1, 11)) (sx_dd bb_6 dX1_become_24) rfl rfl (Nat.le_of_ble_eq_true rfl) cu_1 (sx_ow3 oo_6 fl_StrawGarrison_Border_19) (by decide +kernel), ox6_27⟩
def x6_23 : List sx_E := (.aload 1, 23, 24, [], .null) :: x6_24
theorem ox6_23 : sx_oks 6 x6_23 := ⟨Or.inr ⟨_, (sx_dd bb_6 dX1_become_23), rfl, rfl⟩, ox6_24⟩
def x6_20 : List sx_E := (.ret 50, 20, 23, [], .null) :: x6_23
theorem ox6_20 : sx_oks 6 x6_20 := ⟨⟨(sx_dd bb_6 dX1_become_20), rfl, sx_ow5 oo_6 ac_StrawGarrison_Border_50, ac_n, ac_s, ac_i⟩, ox6_23⟩
def x6_18 : List sx_E := (.nop, 18, 20, [], .int (nI 10)) :: x6_20
theorem ox6_18 : sx_oks 6 x6_18 := ⟨sx_k_bipush (sx_dd bb_6 dX1_become_18) (by decide +kernel), ox6_20⟩
def x6_17 : List sx_E := (.nop, 17, 18, [], .int (nI 0)) :: x6_18
theorem ox6_17 : sx_oks 6 x6_17 := ⟨sx_k_iconst (sx_dd bb_6 dX1_become_17) (by decide +kernel), ox6_18⟩
def x6_14 : List sx_E := (.getfield 15, 14, 17, [1, 2, 1], .null) :: x6_17
theorem ox6_14 : sx_oks 6 x6_14 := ⟨sx_q_get (w := (RX1, TX1, 11)) (sx_dd bb_6 dX1_become_14) rfl rfl (Nat.le_of_ble_eq_true rfl) cu_1 (sx_ow3 oo_6 fl_StrawGarrison_Border_15) (by decide +kernel), ox6_17⟩
def x6_13 : List sx_E := (.aload 0, 13, 14, [], .null) :: x6_14
theorem ox6_13 : sx_oks 6 x6_13 := ⟨Or.inr ⟨_, (sx_dd bb_6 dX1_become_13), rfl, rfl⟩, ox6_14⟩
def x6_12 : List sx_E := (.nop, 12, 13, [], .int (nI 0)) :: x6_13
theorem ox6_12 : sx_oks 6 x6_12 := ⟨sx_k_iconst (sx_dd bb_6 dX1_become_12) (by decide +kernel), ox6_13⟩
def x6_9 : List sx_E := (.getfield 15, 9, 12, [1, 2, 1], .null) :: x6_12
theorem ox6_9 : sx_oks 6 x6_9 := ⟨sx_q_get (w := (RX1, TX1, 11)) (sx_dd bb_6 dX1_become_9) rfl rfl (Nat.le_of_ble_eq_true rfl) cu_1 (sx_ow3 oo_6 fl_StrawGarrison_Border_15) (by decide +kernel), ox6_12⟩
def x6_8 : List sx_E := (.aload 1, 8, 9, [], .null) :: x6_9
theorem ox6_8 : sx_oks 6 x6_8 := ⟨Or.inr ⟨_, (sx_dd bb_6 dX1_become_8), rfl, rfl⟩, ox6_9⟩
def x6_5 : List sx_E := (.putfield 9, 5, 8, [1, 1, 0], .null) :: x6_8
theorem ox6_5 : sx_oks 6 x6_5 := ⟨sx_q_put (w := (RX1, TX1, 11)) (ty0 := tyX1) (sx_dd bb_6 dX1_become_5) rfl (Nat.le_of_ble_eq_true rfl) cu_1 (sx_ow3 oo_6 fl_StrawGarrison_Border_9) (by decide +kernel) tyX1_ok nmX1 (Or.inl rfl) (fun _ => rfl) (fun h => absurd h (by decide)) (fun h => absurd h (by decide)), ox6_8⟩
def x6_2 : List sx_E := (.getfield 9, 2, 5, [1, 1, 0], .null) :: x6_5
theorem ox6_2 : sx_oks 6 x6_2 := ⟨sx_q_get (w := (RX1, TX1, 11)) (sx_dd bb_6 dX1_become_2) rfl rfl (Nat.le_of_ble_eq_true rfl) cu_1 (sx_ow3 oo_6 fl_StrawGarrison_Border_9) (by decide +kernel), ox6_5⟩
def x6_1 : List sx_E := (.aload 1, 1, 2, [], .null) :: x6_2
theorem ox6_1 : sx_oks 6 x6_1 := ⟨Or.inr ⟨_, (sx_dd bb_6 dX1_become_1), rfl, rfl⟩, ox6_2⟩
def x6_0 : List sx_E := (.aload 0, 0, 1, [], .null) :: x6_1
theorem ox6_0 : sx_oks 6 x6_0 := ⟨Or.inr ⟨_, (sx_dd bb_6 dX1_become_0), rfl, rfl⟩, ox6_1⟩
theorem m6 : sx_mok 6 x6_0 := ⟨ox6_0, by decide +kernel⟩
theorem bb_7 : sx_by 7 = cX1_enlist := rfl
theorem oo_7 : (sx_nm 7).cls = "StrawGarrison$Border" := rfl
theorem mm_7 : sx_ml 7 = 5 := rfl
theorem rr_7 : sx_rt 7 = (some .int) := rfl
def x7_65 : List sx_E := (.ireturn, 65, 66, [0], .null) :: []
theorem ox7_65 : sx_oks 7 x7_65 := ⟨sx_q_iret0 (sx_dd bb_7 dX1_enlist_65) rr_7, trivial⟩
def x7_63 : List sx_E := (.iload 4, 63, 65, [], .null) :: x7_65
theorem ox7_63 : sx_oks 7 x7_63 := ⟨Or.inl ⟨(sx_dd bb_7 dX1_enlist_63), rfl⟩, ox7_65⟩
def x7_60 : List sx_E := (.putfield 9, 60, 63, [1, 1, 0], .null) :: x7_63
theorem ox7_60 : sx_oks 7 x7_60 := ⟨sx_q_put (w := (RX1, TX1, 11)) (ty0 := tyX1) (sx_dd bb_7 dX1_enlist_60) rfl (Nat.le_of_ble_eq_true rfl) cu_1 (sx_ow3 oo_7 fl_StrawGarrison_Border_9) (by decide +kernel) tyX1_ok nmX1 (Or.inl rfl) (fun _ => rfl) (fun h => absurd h (by decide)) (fun h => absurd h (by decide)), ox7_63⟩
def x7_59 : List sx_E := (.iadd, 59, 60, [], .null) :: x7_60
theorem ox7_59 : sx_oks 7 x7_59 := ⟨⟨(sx_dd bb_7 dX1_enlist_59), rfl⟩, ox7_60⟩
def x7_58 : List sx_E := (.nop, 58, 59, [], .int (nI 1)) :: x7_59
theorem ox7_58 : sx_oks 7 x7_58 := ⟨sx_k_iconst (sx_dd bb_7 dX1_enlist_58) (by decide +kernel), ox7_59⟩
def x7_55 : List sx_E := (.getfield 9, 55, 58, [1, 1, 0], .null) :: x7_58
theorem ox7_55 : sx_oks 7 x7_55 := ⟨sx_q_get (w := (RX1, TX1, 11)) (sx_dd bb_7 dX1_enlist_55) rfl rfl (Nat.le_of_ble_eq_true rfl) cu_1 (sx_ow3 oo_7 fl_StrawGarrison_Border_9) (by decide +kernel), ox7_58⟩
def x7_54 : List sx_E := (.dup, 54, 55, [], .null) :: x7_55
theorem ox7_54 : sx_oks 7 x7_54 := ⟨⟨(sx_dd bb_7 dX1_enlist_54), rfl⟩, ox7_55⟩
def x7_53 : List sx_E := (.aload 0, 53, 54, [], .null) :: x7_54
theorem ox7_53 : sx_oks 7 x7_53 := ⟨Or.inr ⟨_, (sx_dd bb_7 dX1_enlist_53), rfl, rfl⟩, ox7_54⟩
def x7_52 : List sx_E := (.iastore, 52, 53, [], .null) :: x7_53
theorem ox7_52 : sx_oks 7 x7_52 := ⟨⟨(sx_dd bb_7 dX1_enlist_52), rfl⟩, ox7_53⟩
def x7_51 : List sx_E := (.nop, 51, 52, [], .int (nI 1)) :: x7_52
theorem ox7_51 : sx_oks 7 x7_51 := ⟨sx_k_iconst (sx_dd bb_7 dX1_enlist_51) (by decide +kernel), ox7_52⟩
def x7_49 : List sx_E := (.iload 4, 49, 51, [], .null) :: x7_51
theorem ox7_49 : sx_oks 7 x7_49 := ⟨Or.inl ⟨(sx_dd bb_7 dX1_enlist_49), rfl⟩, ox7_51⟩
def x7_46 : List sx_E := (.getfield 28, 46, 49, [1, 6, 1], .null) :: x7_49
theorem ox7_46 : sx_oks 7 x7_46 := ⟨sx_q_get (w := (RX1, TX1, 11)) (sx_dd bb_7 dX1_enlist_46) rfl rfl (Nat.le_of_ble_eq_true rfl) cu_1 (sx_ow3 oo_7 fl_StrawGarrison_Border_28) (by decide +kernel), ox7_49⟩
def x7_45 : List sx_E := (.aload 0, 45, 46, [], .null) :: x7_46
theorem ox7_45 : sx_oks 7 x7_45 := ⟨Or.inr ⟨_, (sx_dd bb_7 dX1_enlist_45), rfl, rfl⟩, ox7_46⟩
def x7_44 : List sx_E := (.iastore, 44, 45, [], .null) :: x7_45
theorem ox7_44 : sx_oks 7 x7_44 := ⟨⟨(sx_dd bb_7 dX1_enlist_44), rfl⟩, ox7_45⟩
def x7_43 : List sx_E := (.nop, 43, 44, [], .int (nI 0)) :: x7_44
theorem ox7_43 : sx_oks 7 x7_43 := ⟨sx_k_iconst (sx_dd bb_7 dX1_enlist_43) (by decide +kernel), ox7_44⟩
def x7_41 : List sx_E := (.iload 4, 41, 43, [], .null) :: x7_43
theorem ox7_41 : sx_oks 7 x7_41 := ⟨Or.inl ⟨(sx_dd bb_7 dX1_enlist_41), rfl⟩, ox7_43⟩
def x7_38 : List sx_E := (.getfield 25, 38, 41, [1, 5, 1], .null) :: x7_41
theorem ox7_38 : sx_oks 7 x7_38 := ⟨sx_q_get (w := (RX1, TX1, 11)) (sx_dd bb_7 dX1_enlist_38) rfl rfl (Nat.le_of_ble_eq_true rfl) cu_1 (sx_ow3 oo_7 fl_StrawGarrison_Border_25) (by decide +kernel), ox7_41⟩
def x7_37 : List sx_E := (.aload 0, 37, 38, [], .null) :: x7_38
theorem ox7_37 : sx_oks 7 x7_37 := ⟨Or.inr ⟨_, (sx_dd bb_7 dX1_enlist_37), rfl, rfl⟩, ox7_38⟩
def x7_36 : List sx_E := (.iastore, 36, 37, [], .null) :: x7_37
theorem ox7_36 : sx_oks 7 x7_36 := ⟨⟨(sx_dd bb_7 dX1_enlist_36), rfl⟩, ox7_37⟩
def x7_35 : List sx_E := (.iload 3, 35, 36, [], .null) :: x7_36
theorem ox7_35 : sx_oks 7 x7_35 := ⟨Or.inr ⟨_, (sx_dd bb_7 dX1_enlist_35), rfl, rfl⟩, ox7_36⟩
def x7_33 : List sx_E := (.iload 4, 33, 35, [], .null) :: x7_35
theorem ox7_33 : sx_oks 7 x7_33 := ⟨Or.inl ⟨(sx_dd bb_7 dX1_enlist_33), rfl⟩, ox7_35⟩
def x7_30 : List sx_E := (.getfield 22, 30, 33, [1, 4, 1], .null) :: x7_33
theorem ox7_30 : sx_oks 7 x7_30 := ⟨sx_q_get (w := (RX1, TX1, 11)) (sx_dd bb_7 dX1_enlist_30) rfl rfl (Nat.le_of_ble_eq_true rfl) cu_1 (sx_ow3 oo_7 fl_StrawGarrison_Border_22) (by decide +kernel), ox7_33⟩
def x7_29 : List sx_E := (.aload 0, 29, 30, [], .null) :: x7_30
theorem ox7_29 : sx_oks 7 x7_29 := ⟨Or.inr ⟨_, (sx_dd bb_7 dX1_enlist_29), rfl, rfl⟩, ox7_30⟩
def x7_28 : List sx_E := (.iastore, 28, 29, [], .null) :: x7_29
theorem ox7_28 : sx_oks 7 x7_28 := ⟨⟨(sx_dd bb_7 dX1_enlist_28), rfl⟩, ox7_29⟩
def x7_27 : List sx_E := (.iload 2, 27, 28, [], .null) :: x7_28
theorem ox7_27 : sx_oks 7 x7_27 := ⟨Or.inr ⟨_, (sx_dd bb_7 dX1_enlist_27), rfl, rfl⟩, ox7_28⟩
def x7_25 : List sx_E := (.iload 4, 25, 27, [], .null) :: x7_27
theorem ox7_25 : sx_oks 7 x7_25 := ⟨Or.inl ⟨(sx_dd bb_7 dX1_enlist_25), rfl⟩, ox7_27⟩
def x7_22 : List sx_E := (.getfield 19, 22, 25, [1, 3, 1], .null) :: x7_25
theorem ox7_22 : sx_oks 7 x7_22 := ⟨sx_q_get (w := (RX1, TX1, 11)) (sx_dd bb_7 dX1_enlist_22) rfl rfl (Nat.le_of_ble_eq_true rfl) cu_1 (sx_ow3 oo_7 fl_StrawGarrison_Border_19) (by decide +kernel), ox7_25⟩
def x7_21 : List sx_E := (.aload 0, 21, 22, [], .null) :: x7_22
theorem ox7_21 : sx_oks 7 x7_21 := ⟨Or.inr ⟨_, (sx_dd bb_7 dX1_enlist_21), rfl, rfl⟩, ox7_22⟩
def x7_20 : List sx_E := (.iastore, 20, 21, [], .null) :: x7_21
theorem ox7_20 : sx_oks 7 x7_20 := ⟨⟨(sx_dd bb_7 dX1_enlist_20), rfl⟩, ox7_21⟩
def x7_19 : List sx_E := (.iload 1, 19, 20, [], .null) :: x7_20
theorem ox7_19 : sx_oks 7 x7_19 := ⟨Or.inr ⟨_, (sx_dd bb_7 dX1_enlist_19), rfl, rfl⟩, ox7_20⟩
def x7_17 : List sx_E := (.iload 4, 17, 19, [], .null) :: x7_19
theorem ox7_17 : sx_oks 7 x7_17 := ⟨Or.inl ⟨(sx_dd bb_7 dX1_enlist_17), rfl⟩, ox7_19⟩
def x7_14 : List sx_E := (.getfield 15, 14, 17, [1, 2, 1], .null) :: x7_17
theorem ox7_14 : sx_oks 7 x7_14 := ⟨sx_q_get (w := (RX1, TX1, 11)) (sx_dd bb_7 dX1_enlist_14) rfl rfl (Nat.le_of_ble_eq_true rfl) cu_1 (sx_ow3 oo_7 fl_StrawGarrison_Border_15) (by decide +kernel), ox7_17⟩
def x7_13 : List sx_E := (.aload 0, 13, 14, [], .null) :: x7_14
theorem ox7_13 : sx_oks 7 x7_13 := ⟨Or.inr ⟨_, (sx_dd bb_7 dX1_enlist_13), rfl, rfl⟩, ox7_14⟩
def x7_10 : List sx_E := (.if_icmp .ge (53), 10, 13, [63], .null) :: x7_13
theorem ox7_10 : sx_oks 7 x7_10 := ⟨⟨(sx_dd bb_7 dX1_enlist_10), rfl, sx_t1 (by decide +kernel)⟩, ox7_13⟩
def x7_8 : List sx_E := (.nop, 8, 10, [], .int (nI 10)) :: x7_10
theorem ox7_8 : sx_oks 7 x7_8 := ⟨sx_k_bipush (sx_dd bb_7 dX1_enlist_8) (by decide +kernel), ox7_10⟩
def x7_6 : List sx_E := (.iload 4, 6, 8, [], .null) :: x7_8
theorem ox7_6 : sx_oks 7 x7_6 := ⟨Or.inl ⟨(sx_dd bb_7 dX1_enlist_6), rfl⟩, ox7_8⟩
def x7_4 : List sx_E := (.istore 4, 4, 6, [], .null) :: x7_6
theorem ox7_4 : sx_oks 7 x7_4 := ⟨⟨sx_lt mm_7 (Nat.le_of_ble_eq_true rfl), Or.inl ⟨(sx_dd bb_7 dX1_enlist_4), rfl⟩⟩, ox7_6⟩
def x7_1 : List sx_E := (.getfield 9, 1, 4, [1, 1, 0], .null) :: x7_4
theorem ox7_1 : sx_oks 7 x7_1 := ⟨sx_q_get (w := (RX1, TX1, 11)) (sx_dd bb_7 dX1_enlist_1) rfl rfl (Nat.le_of_ble_eq_true rfl) cu_1 (sx_ow3 oo_7 fl_StrawGarrison_Border_9) (by decide +kernel), ox7_4⟩
def x7_0 : List sx_E := (.aload 0, 0, 1, [], .null) :: x7_1
theorem ox7_0 : sx_oks 7 x7_0 := ⟨Or.inr ⟨_, (sx_dd bb_7 dX1_enlist_0), rfl, rfl⟩, ox7_1⟩
theorem m7 : sx_mok 7 x7_0 := ⟨ox7_0, by decide +kernel⟩
theorem bb_8 : sx_by 8 = cX1_enlistDrawn := rfl
theorem oo_8 : (sx_nm 8).cls = "StrawGarrison$Border" := rfl
theorem mm_8 : sx_ml 8 = 4 := rfl
theorem rr_8 : sx_rt 8 = none := rfl
def x8_61 : List sx_E := (.return_, 61, 62, [], .null) :: []
theorem ox8_61 : sx_oks 8 x8_61 := ⟨⟨(sx_dd bb_8 dX1_enlistDrawn_61), rr_8⟩, trivial⟩
def x8_60 : List sx_E := (.pop, 60, 61, [], .null) :: x8_61
theorem ox8_60 : sx_oks 8 x8_60 := ⟨⟨(sx_dd bb_8 dX1_enlistDrawn_60), rfl⟩, ox8_61⟩
def x8_57 : List sx_E := (.invokevirtual 71, 57, 60, [7, 4, 0, 0, 1], .null) :: x8_60
theorem ox8_57 : sx_oks 8 x8_57 := ⟨sx_q_V (w := (RX1, TX1, 11)) (sx_dd bb_8 dX1_enlistDrawn_57) oo_8 lk_StrawGarrison_Border_71_V ft_7_h (Nat.le_of_ble_eq_true rfl) rfl rfl, ox8_60⟩
def x8_56 : List sx_E := (.irem, 56, 57, [], .null) :: x8_57
theorem ox8_56 : sx_oks 8 x8_56 := ⟨⟨(sx_dd bb_8 dX1_enlistDrawn_56), rfl⟩, ox8_57⟩
def x8_54 : List sx_E := (.nop, 54, 56, [], .int (nI 60)) :: x8_56
theorem ox8_54 : sx_oks 8 x8_54 := ⟨sx_k_bipush (sx_dd bb_8 dX1_enlistDrawn_54) (by decide +kernel), ox8_56⟩
def x8_51 : List sx_E := (.invokevirtual 60, 51, 54, [9, 1, 0, 0, 1], .null) :: x8_54
theorem ox8_51 : sx_oks 8 x8_51 := ⟨sx_q_V (w := (RX1, TX1, 11)) (sx_dd bb_8 dX1_enlistDrawn_51) oo_8 lk_StrawGarrison_Border_60_V ft_9_h (Nat.le_of_ble_eq_true rfl) rfl rfl, ox8_54⟩
def x8_50 : List sx_E := (.aload 0, 50, 51, [], .null) :: x8_51
theorem ox8_50 : sx_oks 8 x8_50 := ⟨Or.inr ⟨_, (sx_dd bb_8 dX1_enlistDrawn_50), rfl, rfl⟩, ox8_51⟩
def x8_49 : List sx_E := (.iload 2, 49, 50, [], .null) :: x8_50
theorem ox8_49 : sx_oks 8 x8_49 := ⟨Or.inr ⟨_, (sx_dd bb_8 dX1_enlistDrawn_49), rfl, rfl⟩, ox8_50⟩
def x8_48 : List sx_E := (.iload 1, 48, 49, [], .null) :: x8_49
theorem ox8_48 : sx_oks 8 x8_48 := ⟨Or.inr ⟨_, (sx_dd bb_8 dX1_enlistDrawn_48), rfl, rfl⟩, ox8_49⟩
def x8_47 : List sx_E := (.aload 0, 47, 48, [], .null) :: x8_48
theorem ox8_47 : sx_oks 8 x8_47 := ⟨Or.inr ⟨_, (sx_dd bb_8 dX1_enlistDrawn_47), rfl, rfl⟩, ox8_48⟩
def x8_44 : List sx_E := (.goto (-26), 44, 47, [18], .null) :: x8_47
theorem ox8_44 : sx_oks 8 x8_44 := ⟨⟨(sx_dd bb_8 dX1_enlistDrawn_44), sx_t1 (by decide +kernel)⟩, ox8_47⟩
def x8_41 : List sx_E := (.iinc 3 (1), 41, 44, [], .int (nI 1)) :: x8_44
theorem ox8_41 : sx_oks 8 x8_41 := ⟨⟨sx_lt mm_8 (Nat.le_of_ble_eq_true rfl), (sx_dd bb_8 dX1_enlistDrawn_41), rfl, by decide +kernel⟩, ox8_44⟩
def x8_40 : List sx_E := (.istore 2, 40, 41, [], .null) :: x8_41
theorem ox8_40 : sx_oks 8 x8_40 := ⟨⟨sx_lt mm_8 (Nat.le_of_ble_eq_true rfl), Or.inr ⟨_, (sx_dd bb_8 dX1_enlistDrawn_40), rfl, rfl⟩⟩, ox8_41⟩
def x8_39 : List sx_E := (.irem, 39, 40, [], .null) :: x8_40
theorem ox8_39 : sx_oks 8 x8_39 := ⟨⟨(sx_dd bb_8 dX1_enlistDrawn_39), rfl⟩, ox8_40⟩
def x8_37 : List sx_E := (.nop, 37, 39, [], .int (nI 20)) :: x8_39
theorem ox8_37 : sx_oks 8 x8_37 := ⟨sx_k_bipush (sx_dd bb_8 dX1_enlistDrawn_37) (by decide +kernel), ox8_39⟩
def x8_36 : List sx_E := (.iadd, 36, 37, [], .null) :: x8_37
theorem ox8_36 : sx_oks 8 x8_36 := ⟨⟨(sx_dd bb_8 dX1_enlistDrawn_36), rfl⟩, ox8_37⟩
def x8_35 : List sx_E := (.nop, 35, 36, [], .int (nI 1)) :: x8_36
theorem ox8_35 : sx_oks 8 x8_35 := ⟨sx_k_iconst (sx_dd bb_8 dX1_enlistDrawn_35) (by decide +kernel), ox8_36⟩
def x8_34 : List sx_E := (.iload 2, 34, 35, [], .null) :: x8_35
theorem ox8_34 : sx_oks 8 x8_34 := ⟨Or.inr ⟨_, (sx_dd bb_8 dX1_enlistDrawn_34), rfl, rfl⟩, ox8_35⟩
def x8_31 : List sx_E := (.if_icmp .eq (16), 31, 34, [47], .null) :: x8_34
theorem ox8_31 : sx_oks 8 x8_31 := ⟨⟨(sx_dd bb_8 dX1_enlistDrawn_31), rfl, sx_t1 (by decide +kernel)⟩, ox8_34⟩
def x8_29 : List sx_E := (.nop, 29, 31, [], .int ((-1000000005))) :: x8_31
theorem ox8_29 : sx_oks 8 x8_29 := ⟨sx_k_ldc (sx_dd bb_8 dX1_enlistDrawn_29) (sx_ow1 oo_8 kc_StrawGarrison_Border_70), ox8_31⟩
def x8_26 : List sx_E := (.invokevirtual 66, 26, 29, [10, 2, 0, 0, 1], .null) :: x8_29
theorem ox8_26 : sx_oks 8 x8_26 := ⟨sx_q_V (w := (RX1, TX1, 11)) (sx_dd bb_8 dX1_enlistDrawn_26) oo_8 lk_StrawGarrison_Border_66_V ft_10_h (Nat.le_of_ble_eq_true rfl) rfl rfl, ox8_29⟩
def x8_25 : List sx_E := (.iload 2, 25, 26, [], .null) :: x8_26
theorem ox8_25 : sx_oks 8 x8_25 := ⟨Or.inr ⟨_, (sx_dd bb_8 dX1_enlistDrawn_25), rfl, rfl⟩, ox8_26⟩
def x8_24 : List sx_E := (.aload 0, 24, 25, [], .null) :: x8_25
theorem ox8_24 : sx_oks 8 x8_24 := ⟨Or.inr ⟨_, (sx_dd bb_8 dX1_enlistDrawn_24), rfl, rfl⟩, ox8_25⟩
def x8_21 : List sx_E := (.if_icmp .ge (26), 21, 24, [47], .null) :: x8_24
theorem ox8_21 : sx_oks 8 x8_21 := ⟨⟨(sx_dd bb_8 dX1_enlistDrawn_21), rfl, sx_t1 (by decide +kernel)⟩, ox8_24⟩
def x8_19 : List sx_E := (.nop, 19, 21, [], .int (nI 20)) :: x8_21
theorem ox8_19 : sx_oks 8 x8_19 := ⟨sx_k_bipush (sx_dd bb_8 dX1_enlistDrawn_19) (by decide +kernel), ox8_21⟩
def x8_18 : List sx_E := (.iload 3, 18, 19, [], .null) :: x8_19
theorem ox8_18 : sx_oks 8 x8_18 := ⟨Or.inr ⟨_, (sx_dd bb_8 dX1_enlistDrawn_18), rfl, rfl⟩, ox8_19⟩
def x8_18h : List sx_E := (.monitorenter, 18, 18, [0, 1, 2, 3], .null) :: x8_18
theorem ox8_18h : sx_oks 8 x8_18h := ⟨trivial, ox8_18⟩
def x8_17 : List sx_E := (.istore 3, 17, 18, [], .null) :: x8_18h
theorem ox8_17 : sx_oks 8 x8_17 := ⟨⟨sx_lt mm_8 (Nat.le_of_ble_eq_true rfl), Or.inr ⟨_, (sx_dd bb_8 dX1_enlistDrawn_17), rfl, rfl⟩⟩, ox8_18h⟩
def x8_16 : List sx_E := (.nop, 16, 17, [], .int (nI 0)) :: x8_17
theorem ox8_16 : sx_oks 8 x8_16 := ⟨sx_k_iconst (sx_dd bb_8 dX1_enlistDrawn_16) (by decide +kernel), ox8_17⟩
def x8_15 : List sx_E := (.istore 2, 15, 16, [], .null) :: x8_16
theorem ox8_15 : sx_oks 8 x8_15 := ⟨⟨sx_lt mm_8 (Nat.le_of_ble_eq_true rfl), Or.inr ⟨_, (sx_dd bb_8 dX1_enlistDrawn_15), rfl, rfl⟩⟩, ox8_16⟩
def x8_14 : List sx_E := (.irem, 14, 15, [], .null) :: x8_15
theorem ox8_14 : sx_oks 8 x8_14 := ⟨⟨(sx_dd bb_8 dX1_enlistDrawn_14), rfl⟩, ox8_15⟩
def x8_12 : List sx_E := (.nop, 12, 14, [], .int (nI 20)) :: x8_14
theorem ox8_12 : sx_oks 8 x8_12 := ⟨sx_k_bipush (sx_dd bb_8 dX1_enlistDrawn_12) (by decide +kernel), ox8_14⟩
def x8_9 : List sx_E := (.invokevirtual 60, 9, 12, [9, 1, 0, 0, 1], .null) :: x8_12
theorem ox8_9 : sx_oks 8 x8_9 := ⟨sx_q_V (w := (RX1, TX1, 11)) (sx_dd bb_8 dX1_enlistDrawn_9) oo_8 lk_StrawGarrison_Border_60_V ft_9_h (Nat.le_of_ble_eq_true rfl) rfl rfl, ox8_12⟩
def x8_8 : List sx_E := (.aload 0, 8, 9, [], .null) :: x8_9
theorem ox8_8 : sx_oks 8 x8_8 := ⟨Or.inr ⟨_, (sx_dd bb_8 dX1_enlistDrawn_8), rfl, rfl⟩, ox8_9⟩
def x8_7 : List sx_E := (.istore 1, 7, 8, [], .null) :: x8_8
theorem ox8_7 : sx_oks 8 x8_7 := ⟨⟨sx_lt mm_8 (Nat.le_of_ble_eq_true rfl), Or.inr ⟨_, (sx_dd bb_8 dX1_enlistDrawn_7), rfl, rfl⟩⟩, ox8_8⟩
def x8_6 : List sx_E := (.irem, 6, 7, [], .null) :: x8_7
theorem ox8_6 : sx_oks 8 x8_6 := ⟨⟨(sx_dd bb_8 dX1_enlistDrawn_6), rfl⟩, ox8_7⟩
def x8_4 : List sx_E := (.nop, 4, 6, [], .int (nI 6)) :: x8_6
theorem ox8_4 : sx_oks 8 x8_4 := ⟨sx_k_bipush (sx_dd bb_8 dX1_enlistDrawn_4) (by decide +kernel), ox8_6⟩
def x8_1 : List sx_E := (.invokevirtual 60, 1, 4, [9, 1, 0, 0, 1], .null) :: x8_4
theorem ox8_1 : sx_oks 8 x8_1 := ⟨sx_q_V (w := (RX1, TX1, 11)) (sx_dd bb_8 dX1_enlistDrawn_1) oo_8 lk_StrawGarrison_Border_60_V ft_9_h (Nat.le_of_ble_eq_true rfl) rfl rfl, ox8_4⟩
def x8_0 : List sx_E := (.aload 0, 0, 1, [], .null) :: x8_1
theorem ox8_0 : sx_oks 8 x8_0 := ⟨Or.inr ⟨_, (sx_dd bb_8 dX1_enlistDrawn_0), rfl, rfl⟩, ox8_1⟩
theorem m8 : sx_mok 8 x8_0 := ⟨ox8_0, by decide +kernel⟩
theorem bb_9 : sx_by 9 = cX1_draw := rfl
theorem oo_9 : (sx_nm 9).cls = "StrawGarrison$Border" := rfl
theorem mm_9 : sx_ml 9 = 1 := rfl
theorem rr_9 : sx_rt 9 = (some .int) := rfl
def x9_22 : List sx_E := (.ireturn, 22, 23, [0], .null) :: []
theorem ox9_22 : sx_oks 9 x9_22 := ⟨sx_q_iret0 (sx_dd bb_9 dX1_draw_22) rr_9, trivial⟩
def x9_21 : List sx_E := (.iushr, 21, 22, [], .null) :: x9_22
theorem ox9_21 : sx_oks 9 x9_21 := ⟨⟨(sx_dd bb_9 dX1_draw_21), rfl⟩, ox9_22⟩
def x9_19 : List sx_E := (.nop, 19, 21, [], .int (nI 8)) :: x9_21
theorem ox9_19 : sx_oks 9 x9_19 := ⟨sx_k_bipush (sx_dd bb_9 dX1_draw_19) (by decide +kernel), ox9_21⟩
def x9_16 : List sx_E := (.getfield 40, 16, 19, [1, 10, 0], .null) :: x9_19
theorem ox9_16 : sx_oks 9 x9_16 := ⟨sx_q_get (w := (RX1, TX1, 11)) (sx_dd bb_9 dX1_draw_16) rfl rfl (Nat.le_of_ble_eq_true rfl) cu_1 (sx_ow3 oo_9 fl_StrawGarrison_Border_40) (by decide +kernel), ox9_19⟩
def x9_15 : List sx_E := (.aload 0, 15, 16, [], .null) :: x9_16
theorem ox9_15 : sx_oks 9 x9_15 := ⟨Or.inr ⟨_, (sx_dd bb_9 dX1_draw_15), rfl, rfl⟩, ox9_16⟩
def x9_12 : List sx_E := (.putfield 40, 12, 15, [1, 10, 0], .null) :: x9_15
theorem ox9_12 : sx_oks 9 x9_12 := ⟨sx_q_put (w := (RX1, TX1, 11)) (ty0 := tyX1) (sx_dd bb_9 dX1_draw_12) rfl (Nat.le_of_ble_eq_true rfl) cu_1 (sx_ow3 oo_9 fl_StrawGarrison_Border_40) (by decide +kernel) tyX1_ok nmX1 (Or.inl rfl) (fun _ => rfl) (fun h => absurd h (by decide)) (fun h => absurd h (by decide)), ox9_15⟩
def x9_11 : List sx_E := (.iadd, 11, 12, [], .null) :: x9_12
theorem ox9_11 : sx_oks 9 x9_11 := ⟨⟨(sx_dd bb_9 dX1_draw_11), rfl⟩, ox9_12⟩
def x9_8 : List sx_E := (.nop, 8, 11, [], .int (nI 12345)) :: x9_11
theorem ox9_8 : sx_oks 9 x9_8 := ⟨sx_k_sipush (sx_dd bb_9 dX1_draw_8) (by decide +kernel), ox9_11⟩
def x9_7 : List sx_E := (.imul, 7, 8, [], .null) :: x9_8
theorem ox9_7 : sx_oks 9 x9_7 := ⟨⟨(sx_dd bb_9 dX1_draw_7), rfl⟩, ox9_8⟩
def x9_5 : List sx_E := (.nop, 5, 7, [], .int (nI 1103515245)) :: x9_7
theorem ox9_5 : sx_oks 9 x9_5 := ⟨sx_k_ldc (sx_dd bb_9 dX1_draw_5) (sx_ow1 oo_9 kc_StrawGarrison_Border_75), ox9_7⟩
def x9_2 : List sx_E := (.getfield 40, 2, 5, [1, 10, 0], .null) :: x9_5
theorem ox9_2 : sx_oks 9 x9_2 := ⟨sx_q_get (w := (RX1, TX1, 11)) (sx_dd bb_9 dX1_draw_2) rfl rfl (Nat.le_of_ble_eq_true rfl) cu_1 (sx_ow3 oo_9 fl_StrawGarrison_Border_40) (by decide +kernel), ox9_5⟩
def x9_1 : List sx_E := (.aload 0, 1, 2, [], .null) :: x9_2
theorem ox9_1 : sx_oks 9 x9_1 := ⟨Or.inr ⟨_, (sx_dd bb_9 dX1_draw_1), rfl, rfl⟩, ox9_2⟩
def x9_0 : List sx_E := (.aload 0, 0, 1, [], .null) :: x9_1
theorem ox9_0 : sx_oks 9 x9_0 := ⟨Or.inr ⟨_, (sx_dd bb_9 dX1_draw_0), rfl, rfl⟩, ox9_1⟩
theorem m9 : sx_mok 9 x9_0 := ⟨ox9_0, by decide +kernel⟩
theorem bb_10 : sx_by 10 = cX1_ownerOf := rfl
theorem oo_10 : (sx_nm 10).cls = "StrawGarrison$Border" := rfl
theorem mm_10 : sx_ml 10 = 3 := rfl
theorem rr_10 : sx_rt 10 = (some .int) := rfl
def x10_30 : List sx_E := (.ireturn, 30, 31, [0], .null) :: []
theorem ox10_30 : sx_oks 10 x10_30 := ⟨sx_q_iret0 (sx_dd bb_10 dX1_ownerOf_30) rr_10, trivial⟩
def x10_28 : List sx_E := (.nop, 28, 30, [], .int ((-1000000005))) :: x10_30
theorem ox10_28 : sx_oks 10 x10_28 := ⟨sx_k_ldc (sx_dd bb_10 dX1_ownerOf_28) (sx_ow1 oo_10 kc_StrawGarrison_Border_70), ox10_30⟩
def x10_25 : List sx_E := (.goto (-23), 25, 28, [2], .null) :: x10_28
theorem ox10_25 : sx_oks 10 x10_25 := ⟨⟨(sx_dd bb_10 dX1_ownerOf_25), sx_t1 (by decide +kernel)⟩, ox10_28⟩
def x10_22 : List sx_E := (.iinc 2 (1), 22, 25, [], .int (nI 1)) :: x10_25
theorem ox10_22 : sx_oks 10 x10_22 := ⟨⟨sx_lt mm_10 (Nat.le_of_ble_eq_true rfl), (sx_dd bb_10 dX1_ownerOf_22), rfl, by decide +kernel⟩, ox10_25⟩
def x10_21 : List sx_E := (.ireturn, 21, 22, [0], .null) :: x10_22
theorem ox10_21 : sx_oks 10 x10_21 := ⟨sx_q_iret0 (sx_dd bb_10 dX1_ownerOf_21) rr_10, ox10_22⟩
def x10_20 : List sx_E := (.iload 2, 20, 21, [], .null) :: x10_21
theorem ox10_20 : sx_oks 10 x10_20 := ⟨Or.inr ⟨_, (sx_dd bb_10 dX1_ownerOf_20), rfl, rfl⟩, ox10_21⟩
def x10_17 : List sx_E := (.if_icmp .ne (5), 17, 20, [22], .null) :: x10_20
theorem ox10_17 : sx_oks 10 x10_17 := ⟨⟨(sx_dd bb_10 dX1_ownerOf_17), rfl, sx_t1 (by decide +kernel)⟩, ox10_20⟩
def x10_16 : List sx_E := (.iload 1, 16, 17, [], .null) :: x10_17
theorem ox10_16 : sx_oks 10 x10_16 := ⟨Or.inr ⟨_, (sx_dd bb_10 dX1_ownerOf_16), rfl, rfl⟩, ox10_17⟩
def x10_15 : List sx_E := (.iaload, 15, 16, [], .null) :: x10_16
theorem ox10_15 : sx_oks 10 x10_15 := ⟨⟨(sx_dd bb_10 dX1_ownerOf_15), rfl⟩, ox10_16⟩
def x10_14 : List sx_E := (.iload 2, 14, 15, [], .null) :: x10_15
theorem ox10_14 : sx_oks 10 x10_14 := ⟨Or.inr ⟨_, (sx_dd bb_10 dX1_ownerOf_14), rfl, rfl⟩, ox10_15⟩
def x10_11 : List sx_E := (.getfield 19, 11, 14, [1, 3, 1], .null) :: x10_14
theorem ox10_11 : sx_oks 10 x10_11 := ⟨sx_q_get (w := (RX1, TX1, 11)) (sx_dd bb_10 dX1_ownerOf_11) rfl rfl (Nat.le_of_ble_eq_true rfl) cu_1 (sx_ow3 oo_10 fl_StrawGarrison_Border_19) (by decide +kernel), ox10_14⟩
def x10_10 : List sx_E := (.aload 0, 10, 11, [], .null) :: x10_11
theorem ox10_10 : sx_oks 10 x10_10 := ⟨Or.inr ⟨_, (sx_dd bb_10 dX1_ownerOf_10), rfl, rfl⟩, ox10_11⟩
def x10_7 : List sx_E := (.if_icmp .ge (21), 7, 10, [28], .null) :: x10_10
theorem ox10_7 : sx_oks 10 x10_7 := ⟨⟨(sx_dd bb_10 dX1_ownerOf_7), rfl, sx_t1 (by decide +kernel)⟩, ox10_10⟩
def x10_4 : List sx_E := (.getfield 9, 4, 7, [1, 1, 0], .null) :: x10_7
theorem ox10_4 : sx_oks 10 x10_4 := ⟨sx_q_get (w := (RX1, TX1, 11)) (sx_dd bb_10 dX1_ownerOf_4) rfl rfl (Nat.le_of_ble_eq_true rfl) cu_1 (sx_ow3 oo_10 fl_StrawGarrison_Border_9) (by decide +kernel), ox10_7⟩
def x10_3 : List sx_E := (.aload 0, 3, 4, [], .null) :: x10_4
theorem ox10_3 : sx_oks 10 x10_3 := ⟨Or.inr ⟨_, (sx_dd bb_10 dX1_ownerOf_3), rfl, rfl⟩, ox10_4⟩
def x10_2 : List sx_E := (.iload 2, 2, 3, [], .null) :: x10_3
theorem ox10_2 : sx_oks 10 x10_2 := ⟨Or.inr ⟨_, (sx_dd bb_10 dX1_ownerOf_2), rfl, rfl⟩, ox10_3⟩
def x10_2h : List sx_E := (.monitorenter, 2, 2, [0, 1, 2], .null) :: x10_2
theorem ox10_2h : sx_oks 10 x10_2h := ⟨trivial, ox10_2⟩
def x10_1 : List sx_E := (.istore 2, 1, 2, [], .null) :: x10_2h
theorem ox10_1 : sx_oks 10 x10_1 := ⟨⟨sx_lt mm_10 (Nat.le_of_ble_eq_true rfl), Or.inr ⟨_, (sx_dd bb_10 dX1_ownerOf_1), rfl, rfl⟩⟩, ox10_2h⟩
def x10_0 : List sx_E := (.nop, 0, 1, [], .int (nI 0)) :: x10_1
theorem ox10_0 : sx_oks 10 x10_0 := ⟨sx_k_iconst (sx_dd bb_10 dX1_ownerOf_0) (by decide +kernel), ox10_1⟩
theorem m10 : sx_mok 10 x10_0 := ⟨ox10_0, by decide +kernel⟩
theorem bb_11 : sx_by 11 = cX1_isInSight := rfl
theorem oo_11 : (sx_nm 11).cls = "StrawGarrison$Border" := rfl
theorem mm_11 : sx_ml 11 = 3 := rfl
theorem rr_11 : sx_rt 11 = (some .boolean) := rfl
def x11_25 : List sx_E := (.ireturn, 25, 26, [1], .null) :: []
theorem ox11_25 : sx_oks 11 x11_25 := ⟨sx_q_iret1 (sx_dd bb_11 dX1_isInSight_25) rr_11, trivial⟩
def x11_24 : List sx_E := (.nop, 24, 25, [], .int (nI 0)) :: x11_25
theorem ox11_24 : sx_oks 11 x11_24 := ⟨sx_k_iconst (sx_dd bb_11 dX1_isInSight_24) (by decide +kernel), ox11_25⟩
def x11_21 : List sx_E := (.goto (4), 21, 24, [25], .null) :: x11_24
theorem ox11_21 : sx_oks 11 x11_21 := ⟨⟨(sx_dd bb_11 dX1_isInSight_21), sx_t1 (by decide +kernel)⟩, ox11_24⟩
def x11_20 : List sx_E := (.nop, 20, 21, [], .int (nI 1)) :: x11_21
theorem ox11_20 : sx_oks 11 x11_20 := ⟨sx_k_iconst (sx_dd bb_11 dX1_isInSight_20) (by decide +kernel), ox11_21⟩
def x11_17 : List sx_E := (.if_icmp .gt (7), 17, 20, [24], .null) :: x11_20
theorem ox11_17 : sx_oks 11 x11_17 := ⟨⟨(sx_dd bb_11 dX1_isInSight_17), rfl, sx_t1 (by decide +kernel)⟩, ox11_20⟩
def x11_16 : List sx_E := (.iaload, 16, 17, [], .null) :: x11_17
theorem ox11_16 : sx_oks 11 x11_16 := ⟨⟨(sx_dd bb_11 dX1_isInSight_16), rfl⟩, ox11_17⟩
def x11_15 : List sx_E := (.nop, 15, 16, [], .int (nI 0)) :: x11_16
theorem ox11_15 : sx_oks 11 x11_15 := ⟨sx_k_iconst (sx_dd bb_11 dX1_isInSight_15) (by decide +kernel), ox11_16⟩
def x11_12 : List sx_E := (.getfield 31, 12, 15, [1, 7, 1], .null) :: x11_15
theorem ox11_12 : sx_oks 11 x11_12 := ⟨sx_q_get (w := (RX1, TX1, 11)) (sx_dd bb_11 dX1_isInSight_12) rfl rfl (Nat.le_of_ble_eq_true rfl) cu_1 (sx_ow3 oo_11 fl_StrawGarrison_Border_31) (by decide +kernel), ox11_15⟩
def x11_11 : List sx_E := (.aload 0, 11, 12, [], .null) :: x11_12
theorem ox11_11 : sx_oks 11 x11_11 := ⟨Or.inr ⟨_, (sx_dd bb_11 dX1_isInSight_11), rfl, rfl⟩, ox11_12⟩
def x11_8 : List sx_E := (.invokestatic 76, 8, 11, [212, 1, 0, 0], .null) :: x11_11
theorem ox11_8 : sx_oks 11 x11_8 := ⟨sx_q_S (sx_dd bb_11 dX1_isInSight_8) oo_11 lk_StrawGarrison_Border_76_S ft_212_h, ox11_11⟩
def x11_7 : List sx_E := (.isub, 7, 8, [], .null) :: x11_8
theorem ox11_7 : sx_oks 11 x11_7 := ⟨⟨(sx_dd bb_11 dX1_isInSight_7), rfl⟩, ox11_8⟩
def x11_6 : List sx_E := (.iload 2, 6, 7, [], .null) :: x11_7
theorem ox11_6 : sx_oks 11 x11_6 := ⟨Or.inr ⟨_, (sx_dd bb_11 dX1_isInSight_6), rfl, rfl⟩, ox11_7⟩
def x11_5 : List sx_E := (.iaload, 5, 6, [], .null) :: x11_6
theorem ox11_5 : sx_oks 11 x11_5 := ⟨⟨(sx_dd bb_11 dX1_isInSight_5), rfl⟩, ox11_6⟩
def x11_4 : List sx_E := (.iload 1, 4, 5, [], .null) :: x11_5
theorem ox11_4 : sx_oks 11 x11_4 := ⟨Or.inr ⟨_, (sx_dd bb_11 dX1_isInSight_4), rfl, rfl⟩, ox11_5⟩
def x11_1 : List sx_E := (.getfield 19, 1, 4, [1, 3, 1], .null) :: x11_4
theorem ox11_1 : sx_oks 11 x11_1 := ⟨sx_q_get (w := (RX1, TX1, 11)) (sx_dd bb_11 dX1_isInSight_1) rfl rfl (Nat.le_of_ble_eq_true rfl) cu_1 (sx_ow3 oo_11 fl_StrawGarrison_Border_19) (by decide +kernel), ox11_4⟩
def x11_0 : List sx_E := (.aload 0, 0, 1, [], .null) :: x11_1
theorem ox11_0 : sx_oks 11 x11_0 := ⟨Or.inr ⟨_, (sx_dd bb_11 dX1_isInSight_0), rfl, rfl⟩, ox11_1⟩
theorem m11 : sx_mok 11 x11_0 := ⟨ox11_0, by decide +kernel⟩
theorem bb_12 : sx_by 12 = cX1_isNear := rfl
theorem oo_12 : (sx_nm 12).cls = "StrawGarrison$Border" := rfl
theorem mm_12 : sx_ml 12 = 3 := rfl
theorem rr_12 : sx_rt 12 = (some .boolean) := rfl
def x12_20 : List sx_E := (.ireturn, 20, 21, [1], .null) :: []
theorem ox12_20 : sx_oks 12 x12_20 := ⟨sx_q_iret1 (sx_dd bb_12 dX1_isNear_20) rr_12, trivial⟩
def x12_19 : List sx_E := (.nop, 19, 20, [], .int (nI 0)) :: x12_20
theorem ox12_19 : sx_oks 12 x12_19 := ⟨sx_k_iconst (sx_dd bb_12 dX1_isNear_19) (by decide +kernel), ox12_20⟩
def x12_16 : List sx_E := (.goto (4), 16, 19, [20], .null) :: x12_19
theorem ox12_16 : sx_oks 12 x12_16 := ⟨⟨(sx_dd bb_12 dX1_isNear_16), sx_t1 (by decide +kernel)⟩, ox12_19⟩
def x12_15 : List sx_E := (.nop, 15, 16, [], .int (nI 1)) :: x12_16
theorem ox12_15 : sx_oks 12 x12_15 := ⟨sx_k_iconst (sx_dd bb_12 dX1_isNear_15) (by decide +kernel), ox12_16⟩
def x12_12 : List sx_E := (.if_icmp .gt (7), 12, 15, [19], .null) :: x12_15
theorem ox12_12 : sx_oks 12 x12_12 := ⟨⟨(sx_dd bb_12 dX1_isNear_12), rfl, sx_t1 (by decide +kernel)⟩, ox12_15⟩
def x12_11 : List sx_E := (.nop, 11, 12, [], .int (nI 2)) :: x12_12
theorem ox12_11 : sx_oks 12 x12_11 := ⟨sx_k_iconst (sx_dd bb_12 dX1_isNear_11) (by decide +kernel), ox12_12⟩
def x12_8 : List sx_E := (.invokestatic 76, 8, 11, [212, 1, 0, 0], .null) :: x12_11
theorem ox12_8 : sx_oks 12 x12_8 := ⟨sx_q_S (sx_dd bb_12 dX1_isNear_8) oo_12 lk_StrawGarrison_Border_76_S ft_212_h, ox12_11⟩
def x12_7 : List sx_E := (.isub, 7, 8, [], .null) :: x12_8
theorem ox12_7 : sx_oks 12 x12_7 := ⟨⟨(sx_dd bb_12 dX1_isNear_7), rfl⟩, ox12_8⟩
def x12_6 : List sx_E := (.iload 2, 6, 7, [], .null) :: x12_7
theorem ox12_6 : sx_oks 12 x12_6 := ⟨Or.inr ⟨_, (sx_dd bb_12 dX1_isNear_6), rfl, rfl⟩, ox12_7⟩
def x12_5 : List sx_E := (.iaload, 5, 6, [], .null) :: x12_6
theorem ox12_5 : sx_oks 12 x12_5 := ⟨⟨(sx_dd bb_12 dX1_isNear_5), rfl⟩, ox12_6⟩
def x12_4 : List sx_E := (.iload 1, 4, 5, [], .null) :: x12_5
theorem ox12_4 : sx_oks 12 x12_4 := ⟨Or.inr ⟨_, (sx_dd bb_12 dX1_isNear_4), rfl, rfl⟩, ox12_5⟩
def x12_1 : List sx_E := (.getfield 19, 1, 4, [1, 3, 1], .null) :: x12_4
theorem ox12_1 : sx_oks 12 x12_1 := ⟨sx_q_get (w := (RX1, TX1, 11)) (sx_dd bb_12 dX1_isNear_1) rfl rfl (Nat.le_of_ble_eq_true rfl) cu_1 (sx_ow3 oo_12 fl_StrawGarrison_Border_19) (by decide +kernel), ox12_4⟩
def x12_0 : List sx_E := (.aload 0, 0, 1, [], .null) :: x12_1
theorem ox12_0 : sx_oks 12 x12_0 := ⟨Or.inr ⟨_, (sx_dd bb_12 dX1_isNear_0), rfl, rfl⟩, ox12_1⟩
theorem m12 : sx_mok 12 x12_0 := ⟨ox12_0, by decide +kernel⟩
theorem bb_13 : sx_by 13 = cX1_looksOf := rfl
theorem oo_13 : (sx_nm 13).cls = "StrawGarrison$Border" := rfl
theorem mm_13 : sx_ml 13 = 4 := rfl
theorem rr_13 : sx_rt 13 = (some .int) := rfl
def x13_67 : List sx_E := (.ireturn, 67, 68, [0], .null) :: []
theorem ox13_67 : sx_oks 13 x13_67 := ⟨sx_q_iret0 (sx_dd bb_13 dX1_looksOf_67) rr_13, trivial⟩
def x13_64 : List sx_E := (.invokestatic 93, 64, 67, [27, 3, 0, 0], .null) :: x13_67
theorem ox13_64 : sx_oks 13 x13_64 := ⟨sx_q_S (sx_dd bb_13 dX1_looksOf_64) oo_13 lk_StrawGarrison_Border_93_S ft_27_h, ox13_67⟩
def x13_61 : List sx_E := (.getfield 37, 61, 64, [1, 9, 0], .null) :: x13_64
theorem ox13_61 : sx_oks 13 x13_61 := ⟨sx_q_get (w := (RX1, TX1, 11)) (sx_dd bb_13 dX1_looksOf_61) rfl rfl (Nat.le_of_ble_eq_true rfl) cu_1 (sx_ow3 oo_13 fl_StrawGarrison_Border_37) (by decide +kernel), ox13_64⟩
def x13_60 : List sx_E := (.aload 0, 60, 61, [], .null) :: x13_61
theorem ox13_60 : sx_oks 13 x13_60 := ⟨Or.inr ⟨_, (sx_dd bb_13 dX1_looksOf_60), rfl, rfl⟩, ox13_61⟩
def x13_59 : List sx_E := (.iload 3, 59, 60, [], .null) :: x13_60
theorem ox13_59 : sx_oks 13 x13_59 := ⟨Or.inr ⟨_, (sx_dd bb_13 dX1_looksOf_59), rfl, rfl⟩, ox13_60⟩
def x13_58 : List sx_E := (.iaload, 58, 59, [], .null) :: x13_59
theorem ox13_58 : sx_oks 13 x13_58 := ⟨⟨(sx_dd bb_13 dX1_looksOf_58), rfl⟩, ox13_59⟩
def x13_57 : List sx_E := (.iload 1, 57, 58, [], .null) :: x13_58
theorem ox13_57 : sx_oks 13 x13_57 := ⟨Or.inr ⟨_, (sx_dd bb_13 dX1_looksOf_57), rfl, rfl⟩, ox13_58⟩
def x13_54 : List sx_E := (.getfield 15, 54, 57, [1, 2, 1], .null) :: x13_57
theorem ox13_54 : sx_oks 13 x13_54 := ⟨sx_q_get (w := (RX1, TX1, 11)) (sx_dd bb_13 dX1_looksOf_54) rfl rfl (Nat.le_of_ble_eq_true rfl) cu_1 (sx_ow3 oo_13 fl_StrawGarrison_Border_15) (by decide +kernel), ox13_57⟩
def x13_53 : List sx_E := (.aload 0, 53, 54, [], .null) :: x13_54
theorem ox13_53 : sx_oks 13 x13_53 := ⟨Or.inr ⟨_, (sx_dd bb_13 dX1_looksOf_53), rfl, rfl⟩, ox13_54⟩
def x13_52 : List sx_E := (.istore 3, 52, 53, [], .null) :: x13_53
theorem ox13_52 : sx_oks 13 x13_52 := ⟨⟨sx_lt mm_13 (Nat.le_of_ble_eq_true rfl), Or.inr ⟨_, (sx_dd bb_13 dX1_looksOf_52), rfl, rfl⟩⟩, ox13_53⟩
def x13_49 : List sx_E := (.invokestatic 90, 49, 52, [107, 1, 0, 0], .null) :: x13_52
theorem ox13_49 : sx_oks 13 x13_49 := ⟨sx_q_S (sx_dd bb_13 dX1_looksOf_49) oo_13 lk_StrawGarrison_Border_90_S ft_107_h, ox13_52⟩
def x13_46 : List sx_E := (.invokevirtual 85, 46, 49, [3, 4, 0, 0, 5], .null) :: x13_49
theorem ox13_46 : sx_oks 13 x13_46 := ⟨sx_q_V (w := (RX6, TX6, 4)) (sx_dd bb_13 dX1_looksOf_46) oo_13 lk_StrawGarrison_Border_85_V ft_3_h (Nat.le_of_ble_eq_true rfl) rfl rfl, ox13_49⟩
def x13_45 : List sx_E := (.iaload, 45, 46, [], .null) :: x13_46
theorem ox13_45 : sx_oks 13 x13_45 := ⟨⟨(sx_dd bb_13 dX1_looksOf_45), rfl⟩, ox13_46⟩
def x13_44 : List sx_E := (.iload 1, 44, 45, [], .null) :: x13_45
theorem ox13_44 : sx_oks 13 x13_44 := ⟨Or.inr ⟨_, (sx_dd bb_13 dX1_looksOf_44), rfl, rfl⟩, ox13_45⟩
def x13_41 : List sx_E := (.getfield 19, 41, 44, [1, 3, 1], .null) :: x13_44
theorem ox13_41 : sx_oks 13 x13_41 := ⟨sx_q_get (w := (RX1, TX1, 11)) (sx_dd bb_13 dX1_looksOf_41) rfl rfl (Nat.le_of_ble_eq_true rfl) cu_1 (sx_ow3 oo_13 fl_StrawGarrison_Border_19) (by decide +kernel), ox13_44⟩
def x13_40 : List sx_E := (.aload 0, 40, 41, [], .null) :: x13_41
theorem ox13_40 : sx_oks 13 x13_40 := ⟨Or.inr ⟨_, (sx_dd bb_13 dX1_looksOf_40), rfl, rfl⟩, ox13_41⟩
def x13_39 : List sx_E := (.iaload, 39, 40, [], .null) :: x13_40
theorem ox13_39 : sx_oks 13 x13_39 := ⟨⟨(sx_dd bb_13 dX1_looksOf_39), rfl⟩, ox13_40⟩
def x13_38 : List sx_E := (.iload 1, 38, 39, [], .null) :: x13_39
theorem ox13_38 : sx_oks 13 x13_38 := ⟨Or.inr ⟨_, (sx_dd bb_13 dX1_looksOf_38), rfl, rfl⟩, ox13_39⟩
def x13_35 : List sx_E := (.getfield 25, 35, 38, [1, 5, 1], .null) :: x13_38
theorem ox13_35 : sx_oks 13 x13_35 := ⟨sx_q_get (w := (RX1, TX1, 11)) (sx_dd bb_13 dX1_looksOf_35) rfl rfl (Nat.le_of_ble_eq_true rfl) cu_1 (sx_ow3 oo_13 fl_StrawGarrison_Border_25) (by decide +kernel), ox13_38⟩
def x13_34 : List sx_E := (.aload 0, 34, 35, [], .null) :: x13_35
theorem ox13_34 : sx_oks 13 x13_34 := ⟨Or.inr ⟨_, (sx_dd bb_13 dX1_looksOf_34), rfl, rfl⟩, ox13_35⟩
def x13_33 : List sx_E := (.iaload, 33, 34, [], .null) :: x13_34
theorem ox13_33 : sx_oks 13 x13_33 := ⟨⟨(sx_dd bb_13 dX1_looksOf_33), rfl⟩, ox13_34⟩
def x13_32 : List sx_E := (.iload 1, 32, 33, [], .null) :: x13_33
theorem ox13_32 : sx_oks 13 x13_32 := ⟨Or.inr ⟨_, (sx_dd bb_13 dX1_looksOf_32), rfl, rfl⟩, ox13_33⟩
def x13_29 : List sx_E := (.getfield 22, 29, 32, [1, 4, 1], .null) :: x13_32
theorem ox13_29 : sx_oks 13 x13_29 := ⟨sx_q_get (w := (RX1, TX1, 11)) (sx_dd bb_13 dX1_looksOf_29) rfl rfl (Nat.le_of_ble_eq_true rfl) cu_1 (sx_ow3 oo_13 fl_StrawGarrison_Border_22) (by decide +kernel), ox13_32⟩
def x13_28 : List sx_E := (.aload 0, 28, 29, [], .null) :: x13_29
theorem ox13_28 : sx_oks 13 x13_28 := ⟨Or.inr ⟨_, (sx_dd bb_13 dX1_looksOf_28), rfl, rfl⟩, ox13_29⟩
def x13_27 : List sx_E := (.aload 2, 27, 28, [], .null) :: x13_28
theorem ox13_27 : sx_oks 13 x13_27 := ⟨Or.inr ⟨_, (sx_dd bb_13 dX1_looksOf_27), rfl, rfl⟩, ox13_28⟩
def x13_24 : List sx_E := (.goto (28), 24, 27, [52], .null) :: x13_27
theorem ox13_24 : sx_oks 13 x13_24 := ⟨⟨(sx_dd bb_13 dX1_looksOf_24), sx_t1 (by decide +kernel)⟩, ox13_27⟩
def x13_23 : List sx_E := (.isub, 23, 24, [], .null) :: x13_24
theorem ox13_23 : sx_oks 13 x13_23 := ⟨⟨(sx_dd bb_13 dX1_looksOf_23), rfl⟩, ox13_24⟩
def x13_22 : List sx_E := (.idiv, 22, 23, [], .null) :: x13_23
theorem ox13_22 : sx_oks 13 x13_22 := ⟨⟨(sx_dd bb_13 dX1_looksOf_22), rfl⟩, ox13_23⟩
def x13_21 : List sx_E := (.nop, 21, 22, [], .int (nI 2)) :: x13_22
theorem ox13_21 : sx_oks 13 x13_21 := ⟨sx_k_iconst (sx_dd bb_13 dX1_looksOf_21) (by decide +kernel), ox13_22⟩
def x13_20 : List sx_E := (.iaload, 20, 21, [], .null) :: x13_21
theorem ox13_20 : sx_oks 13 x13_20 := ⟨⟨(sx_dd bb_13 dX1_looksOf_20), rfl⟩, ox13_21⟩
def x13_19 : List sx_E := (.iload 1, 19, 20, [], .null) :: x13_20
theorem ox13_19 : sx_oks 13 x13_19 := ⟨Or.inr ⟨_, (sx_dd bb_13 dX1_looksOf_19), rfl, rfl⟩, ox13_20⟩
def x13_16 : List sx_E := (.getfield 22, 16, 19, [1, 4, 1], .null) :: x13_19
theorem ox13_16 : sx_oks 13 x13_16 := ⟨sx_q_get (w := (RX1, TX1, 11)) (sx_dd bb_13 dX1_looksOf_16) rfl rfl (Nat.le_of_ble_eq_true rfl) cu_1 (sx_ow3 oo_13 fl_StrawGarrison_Border_22) (by decide +kernel), ox13_19⟩
def x13_15 : List sx_E := (.aload 0, 15, 16, [], .null) :: x13_16
theorem ox13_15 : sx_oks 13 x13_15 := ⟨Or.inr ⟨_, (sx_dd bb_13 dX1_looksOf_15), rfl, rfl⟩, ox13_16⟩
def x13_13 : List sx_E := (.nop, 13, 15, [], .int (nI 60)) :: x13_15
theorem ox13_13 : sx_oks 13 x13_13 := ⟨sx_k_bipush (sx_dd bb_13 dX1_looksOf_13) (by decide +kernel), ox13_15⟩
def x13_10 : List sx_E := (.ifnonnull (17), 10, 13, [27], .null) :: x13_13
theorem ox13_10 : sx_oks 13 x13_10 := ⟨⟨(sx_dd bb_13 dX1_looksOf_10), rfl, sx_t1 (by decide +kernel)⟩, ox13_13⟩
def x13_9 : List sx_E := (.aload 2, 9, 10, [], .null) :: x13_10
theorem ox13_9 : sx_oks 13 x13_9 := ⟨Or.inr ⟨_, (sx_dd bb_13 dX1_looksOf_9), rfl, rfl⟩, ox13_10⟩
def x13_8 : List sx_E := (.astore 2, 8, 9, [], .null) :: x13_9
theorem ox13_8 : sx_oks 13 x13_8 := ⟨⟨sx_lt mm_13 (Nat.le_of_ble_eq_true rfl), Or.inr ⟨_, (sx_dd bb_13 dX1_looksOf_8), rfl, rfl⟩⟩, ox13_9⟩
def x13_5 : List sx_E := (.invokevirtual 81, 5, 8, [231, 2, 0, 0, 0], .null) :: x13_8
theorem ox13_5 : sx_oks 13 x13_5 := ⟨sx_q_V (w := (RX0, TX0, 3)) (sx_dd bb_13 dX1_looksOf_5) oo_13 lk_StrawGarrison_Border_81_V ft_231_h (Nat.le_of_ble_eq_true rfl) rfl rfl, ox13_8⟩
def x13_4 : List sx_E := (.nop, 4, 5, [], .int (nI 0)) :: x13_5
theorem ox13_4 : sx_oks 13 x13_4 := ⟨sx_k_iconst (sx_dd bb_13 dX1_looksOf_4) (by decide +kernel), ox13_5⟩
def x13_1 : List sx_E := (.getfield 46, 1, 4, [1, 0, 1], .null) :: x13_4
theorem ox13_1 : sx_oks 13 x13_1 := ⟨sx_q_get (w := (RX1, TX1, 11)) (sx_dd bb_13 dX1_looksOf_1) rfl rfl (Nat.le_of_ble_eq_true rfl) cu_1 (sx_ow3 oo_13 fl_StrawGarrison_Border_46) (by decide +kernel), ox13_4⟩
def x13_0 : List sx_E := (.aload 0, 0, 1, [], .null) :: x13_1
theorem ox13_0 : sx_oks 13 x13_0 := ⟨Or.inr ⟨_, (sx_dd bb_13 dX1_looksOf_0), rfl, rfl⟩, ox13_1⟩
theorem m13 : sx_mok 13 x13_0 := ⟨ox13_0, by decide +kernel⟩
theorem bb_14 : sx_by 14 = cX1_counted := rfl
theorem oo_14 : (sx_nm 14).cls = "StrawGarrison$Border" := rfl
theorem mm_14 : sx_ml 14 = 3 := rfl
theorem rr_14 : sx_rt 14 = (some .int) := rfl
def x14_48 : List sx_E := (.ireturn, 48, 49, [0], .null) :: []
theorem ox14_48 : sx_oks 14 x14_48 := ⟨sx_q_iret0 (sx_dd bb_14 dX1_counted_48) rr_14, trivial⟩
def x14_47 : List sx_E := (.iload 1, 47, 48, [], .null) :: x14_48
theorem ox14_47 : sx_oks 14 x14_47 := ⟨Or.inr ⟨_, (sx_dd bb_14 dX1_counted_47), rfl, rfl⟩, ox14_48⟩
def x14_44 : List sx_E := (.goto (-40), 44, 47, [4], .null) :: x14_47
theorem ox14_44 : sx_oks 14 x14_44 := ⟨⟨(sx_dd bb_14 dX1_counted_44), sx_t1 (by decide +kernel)⟩, ox14_47⟩
def x14_41 : List sx_E := (.iinc 2 (1), 41, 44, [], .int (nI 1)) :: x14_44
theorem ox14_41 : sx_oks 14 x14_41 := ⟨⟨sx_lt mm_14 (Nat.le_of_ble_eq_true rfl), (sx_dd bb_14 dX1_counted_41), rfl, by decide +kernel⟩, ox14_44⟩
def x14_40 : List sx_E := (.istore 1, 40, 41, [], .null) :: x14_41
theorem ox14_40 : sx_oks 14 x14_40 := ⟨⟨sx_lt mm_14 (Nat.le_of_ble_eq_true rfl), Or.inr ⟨_, (sx_dd bb_14 dX1_counted_40), rfl, rfl⟩⟩, ox14_41⟩
def x14_39 : List sx_E := (.iadd, 39, 40, [], .null) :: x14_40
theorem ox14_39 : sx_oks 14 x14_39 := ⟨⟨(sx_dd bb_14 dX1_counted_39), rfl⟩, ox14_40⟩
def x14_36 : List sx_E := (.invokevirtual 96, 36, 39, [13, 2, 0, 0, 1], .null) :: x14_39
theorem ox14_36 : sx_oks 14 x14_36 := ⟨sx_q_V (w := (RX1, TX1, 11)) (sx_dd bb_14 dX1_counted_36) oo_14 lk_StrawGarrison_Border_96_V ft_13_h (Nat.le_of_ble_eq_true rfl) rfl rfl, ox14_39⟩
def x14_35 : List sx_E := (.iload 2, 35, 36, [], .null) :: x14_36
theorem ox14_35 : sx_oks 14 x14_35 := ⟨Or.inr ⟨_, (sx_dd bb_14 dX1_counted_35), rfl, rfl⟩, ox14_36⟩
def x14_34 : List sx_E := (.aload 0, 34, 35, [], .null) :: x14_35
theorem ox14_34 : sx_oks 14 x14_34 := ⟨Or.inr ⟨_, (sx_dd bb_14 dX1_counted_34), rfl, rfl⟩, ox14_35⟩
def x14_33 : List sx_E := (.iload 1, 33, 34, [], .null) :: x14_34
theorem ox14_33 : sx_oks 14 x14_33 := ⟨Or.inr ⟨_, (sx_dd bb_14 dX1_counted_33), rfl, rfl⟩, ox14_34⟩
def x14_30 : List sx_E := (.if_icmp .ge (11), 30, 33, [41], .null) :: x14_33
theorem ox14_30 : sx_oks 14 x14_30 := ⟨⟨(sx_dd bb_14 dX1_counted_30), rfl, sx_t1 (by decide +kernel)⟩, ox14_33⟩
def x14_28 : List sx_E := (.nop, 28, 30, [], .int (nI 50)) :: x14_30
theorem ox14_28 : sx_oks 14 x14_28 := ⟨sx_k_bipush (sx_dd bb_14 dX1_counted_28) (by decide +kernel), ox14_30⟩
def x14_27 : List sx_E := (.iaload, 27, 28, [], .null) :: x14_28
theorem ox14_27 : sx_oks 14 x14_27 := ⟨⟨(sx_dd bb_14 dX1_counted_27), rfl⟩, ox14_28⟩
def x14_26 : List sx_E := (.iload 2, 26, 27, [], .null) :: x14_27
theorem ox14_26 : sx_oks 14 x14_26 := ⟨Or.inr ⟨_, (sx_dd bb_14 dX1_counted_26), rfl, rfl⟩, ox14_27⟩
def x14_23 : List sx_E := (.getfield 25, 23, 26, [1, 5, 1], .null) :: x14_26
theorem ox14_23 : sx_oks 14 x14_23 := ⟨sx_q_get (w := (RX1, TX1, 11)) (sx_dd bb_14 dX1_counted_23) rfl rfl (Nat.le_of_ble_eq_true rfl) cu_1 (sx_ow3 oo_14 fl_StrawGarrison_Border_25) (by decide +kernel), ox14_26⟩
def x14_22 : List sx_E := (.aload 0, 22, 23, [], .null) :: x14_23
theorem ox14_22 : sx_oks 14 x14_22 := ⟨Or.inr ⟨_, (sx_dd bb_14 dX1_counted_22), rfl, rfl⟩, ox14_23⟩
def x14_19 : List sx_E := (.if_icmp .ne (22), 19, 22, [41], .null) :: x14_22
theorem ox14_19 : sx_oks 14 x14_19 := ⟨⟨(sx_dd bb_14 dX1_counted_19), rfl, sx_t1 (by decide +kernel)⟩, ox14_22⟩
def x14_18 : List sx_E := (.nop, 18, 19, [], .int (nI 1)) :: x14_19
theorem ox14_18 : sx_oks 14 x14_18 := ⟨sx_k_iconst (sx_dd bb_14 dX1_counted_18) (by decide +kernel), ox14_19⟩
def x14_17 : List sx_E := (.iaload, 17, 18, [], .null) :: x14_18
theorem ox14_17 : sx_oks 14 x14_17 := ⟨⟨(sx_dd bb_14 dX1_counted_17), rfl⟩, ox14_18⟩
def x14_16 : List sx_E := (.iload 2, 16, 17, [], .null) :: x14_17
theorem ox14_16 : sx_oks 14 x14_16 := ⟨Or.inr ⟨_, (sx_dd bb_14 dX1_counted_16), rfl, rfl⟩, ox14_17⟩
def x14_13 : List sx_E := (.getfield 28, 13, 16, [1, 6, 1], .null) :: x14_16
theorem ox14_13 : sx_oks 14 x14_13 := ⟨sx_q_get (w := (RX1, TX1, 11)) (sx_dd bb_14 dX1_counted_13) rfl rfl (Nat.le_of_ble_eq_true rfl) cu_1 (sx_ow3 oo_14 fl_StrawGarrison_Border_28) (by decide +kernel), ox14_16⟩
def x14_12 : List sx_E := (.aload 0, 12, 13, [], .null) :: x14_13
theorem ox14_12 : sx_oks 14 x14_12 := ⟨Or.inr ⟨_, (sx_dd bb_14 dX1_counted_12), rfl, rfl⟩, ox14_13⟩
def x14_9 : List sx_E := (.if_icmp .ge (38), 9, 12, [47], .null) :: x14_12
theorem ox14_9 : sx_oks 14 x14_9 := ⟨⟨(sx_dd bb_14 dX1_counted_9), rfl, sx_t1 (by decide +kernel)⟩, ox14_12⟩
def x14_6 : List sx_E := (.getfield 9, 6, 9, [1, 1, 0], .null) :: x14_9
theorem ox14_6 : sx_oks 14 x14_6 := ⟨sx_q_get (w := (RX1, TX1, 11)) (sx_dd bb_14 dX1_counted_6) rfl rfl (Nat.le_of_ble_eq_true rfl) cu_1 (sx_ow3 oo_14 fl_StrawGarrison_Border_9) (by decide +kernel), ox14_9⟩
def x14_5 : List sx_E := (.aload 0, 5, 6, [], .null) :: x14_6
theorem ox14_5 : sx_oks 14 x14_5 := ⟨Or.inr ⟨_, (sx_dd bb_14 dX1_counted_5), rfl, rfl⟩, ox14_6⟩
def x14_4 : List sx_E := (.iload 2, 4, 5, [], .null) :: x14_5
theorem ox14_4 : sx_oks 14 x14_4 := ⟨Or.inr ⟨_, (sx_dd bb_14 dX1_counted_4), rfl, rfl⟩, ox14_5⟩
def x14_4h : List sx_E := (.monitorenter, 4, 4, [0, 1, 2], .null) :: x14_4
theorem ox14_4h : sx_oks 14 x14_4h := ⟨trivial, ox14_4⟩
def x14_3 : List sx_E := (.istore 2, 3, 4, [], .null) :: x14_4h
theorem ox14_3 : sx_oks 14 x14_3 := ⟨⟨sx_lt mm_14 (Nat.le_of_ble_eq_true rfl), Or.inr ⟨_, (sx_dd bb_14 dX1_counted_3), rfl, rfl⟩⟩, ox14_4h⟩
def x14_2 : List sx_E := (.nop, 2, 3, [], .int (nI 0)) :: x14_3
theorem ox14_2 : sx_oks 14 x14_2 := ⟨sx_k_iconst (sx_dd bb_14 dX1_counted_2) (by decide +kernel), ox14_3⟩
def x14_1 : List sx_E := (.istore 1, 1, 2, [], .null) :: x14_2
theorem ox14_1 : sx_oks 14 x14_1 := ⟨⟨sx_lt mm_14 (Nat.le_of_ble_eq_true rfl), Or.inr ⟨_, (sx_dd bb_14 dX1_counted_1), rfl, rfl⟩⟩, ox14_2⟩
def x14_0 : List sx_E := (.nop, 0, 1, [], .int (nI 0)) :: x14_1
theorem ox14_0 : sx_oks 14 x14_0 := ⟨sx_k_iconst (sx_dd bb_14 dX1_counted_0) (by decide +kernel), ox14_1⟩
theorem m14 : sx_mok 14 x14_0 := ⟨ox14_0, by decide +kernel⟩
theorem bb_15 : sx_by 15 = cX1_strength := rfl
theorem oo_15 : (sx_nm 15).cls = "StrawGarrison$Border" := rfl
theorem mm_15 : sx_ml 15 = 3 := rfl
theorem rr_15 : sx_rt 15 = (some .int) := rfl
def x15_41 : List sx_E := (.ireturn, 41, 42, [0], .null) :: []
theorem ox15_41 : sx_oks 15 x15_41 := ⟨sx_q_iret0 (sx_dd bb_15 dX1_strength_41) rr_15, trivial⟩
def x15_40 : List sx_E := (.iload 1, 40, 41, [], .null) :: x15_41
theorem ox15_40 : sx_oks 15 x15_40 := ⟨Or.inr ⟨_, (sx_dd bb_15 dX1_strength_40), rfl, rfl⟩, ox15_41⟩
def x15_37 : List sx_E := (.goto (-33), 37, 40, [4], .null) :: x15_40
theorem ox15_37 : sx_oks 15 x15_37 := ⟨⟨(sx_dd bb_15 dX1_strength_37), sx_t1 (by decide +kernel)⟩, ox15_40⟩
def x15_34 : List sx_E := (.iinc 2 (1), 34, 37, [], .int (nI 1)) :: x15_37
theorem ox15_34 : sx_oks 15 x15_34 := ⟨⟨sx_lt mm_15 (Nat.le_of_ble_eq_true rfl), (sx_dd bb_15 dX1_strength_34), rfl, by decide +kernel⟩, ox15_37⟩
def x15_33 : List sx_E := (.istore 1, 33, 34, [], .null) :: x15_34
theorem ox15_33 : sx_oks 15 x15_33 := ⟨⟨sx_lt mm_15 (Nat.le_of_ble_eq_true rfl), Or.inr ⟨_, (sx_dd bb_15 dX1_strength_33), rfl, rfl⟩⟩, ox15_34⟩
def x15_32 : List sx_E := (.iadd, 32, 33, [], .null) :: x15_33
theorem ox15_32 : sx_oks 15 x15_32 := ⟨⟨(sx_dd bb_15 dX1_strength_32), rfl⟩, ox15_33⟩
def x15_29 : List sx_E := (.invokestatic 99, 29, 32, [29, 1, 0, 0], .null) :: x15_32
theorem ox15_29 : sx_oks 15 x15_29 := ⟨sx_q_S (sx_dd bb_15 dX1_strength_29) oo_15 lk_StrawGarrison_Border_99_S ft_29_h, ox15_32⟩
def x15_28 : List sx_E := (.iaload, 28, 29, [], .null) :: x15_29
theorem ox15_28 : sx_oks 15 x15_28 := ⟨⟨(sx_dd bb_15 dX1_strength_28), rfl⟩, ox15_29⟩
def x15_27 : List sx_E := (.iload 2, 27, 28, [], .null) :: x15_28
theorem ox15_27 : sx_oks 15 x15_27 := ⟨Or.inr ⟨_, (sx_dd bb_15 dX1_strength_27), rfl, rfl⟩, ox15_28⟩
def x15_24 : List sx_E := (.getfield 15, 24, 27, [1, 2, 1], .null) :: x15_27
theorem ox15_24 : sx_oks 15 x15_24 := ⟨sx_q_get (w := (RX1, TX1, 11)) (sx_dd bb_15 dX1_strength_24) rfl rfl (Nat.le_of_ble_eq_true rfl) cu_1 (sx_ow3 oo_15 fl_StrawGarrison_Border_15) (by decide +kernel), ox15_27⟩
def x15_23 : List sx_E := (.aload 0, 23, 24, [], .null) :: x15_24
theorem ox15_23 : sx_oks 15 x15_23 := ⟨Or.inr ⟨_, (sx_dd bb_15 dX1_strength_23), rfl, rfl⟩, ox15_24⟩
def x15_22 : List sx_E := (.iload 1, 22, 23, [], .null) :: x15_23
theorem ox15_22 : sx_oks 15 x15_22 := ⟨Or.inr ⟨_, (sx_dd bb_15 dX1_strength_22), rfl, rfl⟩, ox15_23⟩
def x15_19 : List sx_E := (.if_icmp .ne (15), 19, 22, [34], .null) :: x15_22
theorem ox15_19 : sx_oks 15 x15_19 := ⟨⟨(sx_dd bb_15 dX1_strength_19), rfl, sx_t1 (by decide +kernel)⟩, ox15_22⟩
def x15_18 : List sx_E := (.nop, 18, 19, [], .int (nI 1)) :: x15_19
theorem ox15_18 : sx_oks 15 x15_18 := ⟨sx_k_iconst (sx_dd bb_15 dX1_strength_18) (by decide +kernel), ox15_19⟩
def x15_17 : List sx_E := (.iaload, 17, 18, [], .null) :: x15_18
theorem ox15_17 : sx_oks 15 x15_17 := ⟨⟨(sx_dd bb_15 dX1_strength_17), rfl⟩, ox15_18⟩
def x15_16 : List sx_E := (.iload 2, 16, 17, [], .null) :: x15_17
theorem ox15_16 : sx_oks 15 x15_16 := ⟨Or.inr ⟨_, (sx_dd bb_15 dX1_strength_16), rfl, rfl⟩, ox15_17⟩
def x15_13 : List sx_E := (.getfield 28, 13, 16, [1, 6, 1], .null) :: x15_16
theorem ox15_13 : sx_oks 15 x15_13 := ⟨sx_q_get (w := (RX1, TX1, 11)) (sx_dd bb_15 dX1_strength_13) rfl rfl (Nat.le_of_ble_eq_true rfl) cu_1 (sx_ow3 oo_15 fl_StrawGarrison_Border_28) (by decide +kernel), ox15_16⟩
def x15_12 : List sx_E := (.aload 0, 12, 13, [], .null) :: x15_13
theorem ox15_12 : sx_oks 15 x15_12 := ⟨Or.inr ⟨_, (sx_dd bb_15 dX1_strength_12), rfl, rfl⟩, ox15_13⟩
def x15_9 : List sx_E := (.if_icmp .ge (31), 9, 12, [40], .null) :: x15_12
theorem ox15_9 : sx_oks 15 x15_9 := ⟨⟨(sx_dd bb_15 dX1_strength_9), rfl, sx_t1 (by decide +kernel)⟩, ox15_12⟩
def x15_6 : List sx_E := (.getfield 9, 6, 9, [1, 1, 0], .null) :: x15_9
theorem ox15_6 : sx_oks 15 x15_6 := ⟨sx_q_get (w := (RX1, TX1, 11)) (sx_dd bb_15 dX1_strength_6) rfl rfl (Nat.le_of_ble_eq_true rfl) cu_1 (sx_ow3 oo_15 fl_StrawGarrison_Border_9) (by decide +kernel), ox15_9⟩
def x15_5 : List sx_E := (.aload 0, 5, 6, [], .null) :: x15_6
theorem ox15_5 : sx_oks 15 x15_5 := ⟨Or.inr ⟨_, (sx_dd bb_15 dX1_strength_5), rfl, rfl⟩, ox15_6⟩
def x15_4 : List sx_E := (.iload 2, 4, 5, [], .null) :: x15_5
theorem ox15_4 : sx_oks 15 x15_4 := ⟨Or.inr ⟨_, (sx_dd bb_15 dX1_strength_4), rfl, rfl⟩, ox15_5⟩
def x15_4h : List sx_E := (.monitorenter, 4, 4, [0, 1, 2], .null) :: x15_4
theorem ox15_4h : sx_oks 15 x15_4h := ⟨trivial, ox15_4⟩
def x15_3 : List sx_E := (.istore 2, 3, 4, [], .null) :: x15_4h
theorem ox15_3 : sx_oks 15 x15_3 := ⟨⟨sx_lt mm_15 (Nat.le_of_ble_eq_true rfl), Or.inr ⟨_, (sx_dd bb_15 dX1_strength_3), rfl, rfl⟩⟩, ox15_4h⟩
def x15_2 : List sx_E := (.nop, 2, 3, [], .int (nI 0)) :: x15_3
theorem ox15_2 : sx_oks 15 x15_2 := ⟨sx_k_iconst (sx_dd bb_15 dX1_strength_2) (by decide +kernel), ox15_3⟩
def x15_1 : List sx_E := (.istore 1, 1, 2, [], .null) :: x15_2
theorem ox15_1 : sx_oks 15 x15_1 := ⟨⟨sx_lt mm_15 (Nat.le_of_ble_eq_true rfl), Or.inr ⟨_, (sx_dd bb_15 dX1_strength_1), rfl, rfl⟩⟩, ox15_2⟩
def x15_0 : List sx_E := (.nop, 0, 1, [], .int (nI 0)) :: x15_1
theorem ox15_0 : sx_oks 15 x15_0 := ⟨sx_k_iconst (sx_dd bb_15 dX1_strength_0) (by decide +kernel), ox15_1⟩
theorem m15 : sx_mok 15 x15_0 := ⟨ox15_0, by decide +kernel⟩
theorem bb_16 : sx_by 16 = cX1_downBits := rfl
theorem oo_16 : (sx_nm 16).cls = "StrawGarrison$Border" := rfl
theorem mm_16 : sx_ml 16 = 3 := rfl
theorem rr_16 : sx_rt 16 = (some .int) := rfl
def x16_34 : List sx_E := (.ireturn, 34, 35, [0], .null) :: []
theorem ox16_34 : sx_oks 16 x16_34 := ⟨sx_q_iret0 (sx_dd bb_16 dX1_downBits_34) rr_16, trivial⟩
def x16_33 : List sx_E := (.iload 1, 33, 34, [], .null) :: x16_34
theorem ox16_33 : sx_oks 16 x16_33 := ⟨Or.inr ⟨_, (sx_dd bb_16 dX1_downBits_33), rfl, rfl⟩, ox16_34⟩
def x16_30 : List sx_E := (.goto (-26), 30, 33, [4], .null) :: x16_33
theorem ox16_30 : sx_oks 16 x16_30 := ⟨⟨(sx_dd bb_16 dX1_downBits_30), sx_t1 (by decide +kernel)⟩, ox16_33⟩
def x16_27 : List sx_E := (.iinc 2 (1), 27, 30, [], .int (nI 1)) :: x16_30
theorem ox16_27 : sx_oks 16 x16_27 := ⟨⟨sx_lt mm_16 (Nat.le_of_ble_eq_true rfl), (sx_dd bb_16 dX1_downBits_27), rfl, by decide +kernel⟩, ox16_30⟩
def x16_26 : List sx_E := (.istore 1, 26, 27, [], .null) :: x16_27
theorem ox16_26 : sx_oks 16 x16_26 := ⟨⟨sx_lt mm_16 (Nat.le_of_ble_eq_true rfl), Or.inr ⟨_, (sx_dd bb_16 dX1_downBits_26), rfl, rfl⟩⟩, ox16_27⟩
def x16_25 : List sx_E := (.ior, 25, 26, [], .null) :: x16_26
theorem ox16_25 : sx_oks 16 x16_25 := ⟨⟨(sx_dd bb_16 dX1_downBits_25), rfl⟩, ox16_26⟩
def x16_24 : List sx_E := (.ishl, 24, 25, [], .null) :: x16_25
theorem ox16_24 : sx_oks 16 x16_24 := ⟨⟨(sx_dd bb_16 dX1_downBits_24), rfl⟩, ox16_25⟩
def x16_23 : List sx_E := (.iload 2, 23, 24, [], .null) :: x16_24
theorem ox16_23 : sx_oks 16 x16_23 := ⟨Or.inr ⟨_, (sx_dd bb_16 dX1_downBits_23), rfl, rfl⟩, ox16_24⟩
def x16_22 : List sx_E := (.nop, 22, 23, [], .int (nI 1)) :: x16_23
theorem ox16_22 : sx_oks 16 x16_22 := ⟨sx_k_iconst (sx_dd bb_16 dX1_downBits_22) (by decide +kernel), ox16_23⟩
def x16_21 : List sx_E := (.iload 1, 21, 22, [], .null) :: x16_22
theorem ox16_21 : sx_oks 16 x16_21 := ⟨Or.inr ⟨_, (sx_dd bb_16 dX1_downBits_21), rfl, rfl⟩, ox16_22⟩
def x16_18 : List sx_E := (.ifCond .ne (9), 18, 21, [27], .null) :: x16_21
theorem ox16_18 : sx_oks 16 x16_18 := ⟨⟨(sx_dd bb_16 dX1_downBits_18), rfl, sx_t1 (by decide +kernel)⟩, ox16_21⟩
def x16_17 : List sx_E := (.iaload, 17, 18, [], .null) :: x16_18
theorem ox16_17 : sx_oks 16 x16_17 := ⟨⟨(sx_dd bb_16 dX1_downBits_17), rfl⟩, ox16_18⟩
def x16_16 : List sx_E := (.iload 2, 16, 17, [], .null) :: x16_17
theorem ox16_16 : sx_oks 16 x16_16 := ⟨Or.inr ⟨_, (sx_dd bb_16 dX1_downBits_16), rfl, rfl⟩, ox16_17⟩
def x16_13 : List sx_E := (.getfield 28, 13, 16, [1, 6, 1], .null) :: x16_16
theorem ox16_13 : sx_oks 16 x16_13 := ⟨sx_q_get (w := (RX1, TX1, 11)) (sx_dd bb_16 dX1_downBits_13) rfl rfl (Nat.le_of_ble_eq_true rfl) cu_1 (sx_ow3 oo_16 fl_StrawGarrison_Border_28) (by decide +kernel), ox16_16⟩
def x16_12 : List sx_E := (.aload 0, 12, 13, [], .null) :: x16_13
theorem ox16_12 : sx_oks 16 x16_12 := ⟨Or.inr ⟨_, (sx_dd bb_16 dX1_downBits_12), rfl, rfl⟩, ox16_13⟩
def x16_9 : List sx_E := (.if_icmp .ge (24), 9, 12, [33], .null) :: x16_12
theorem ox16_9 : sx_oks 16 x16_9 := ⟨⟨(sx_dd bb_16 dX1_downBits_9), rfl, sx_t1 (by decide +kernel)⟩, ox16_12⟩
def x16_6 : List sx_E := (.getfield 9, 6, 9, [1, 1, 0], .null) :: x16_9
theorem ox16_6 : sx_oks 16 x16_6 := ⟨sx_q_get (w := (RX1, TX1, 11)) (sx_dd bb_16 dX1_downBits_6) rfl rfl (Nat.le_of_ble_eq_true rfl) cu_1 (sx_ow3 oo_16 fl_StrawGarrison_Border_9) (by decide +kernel), ox16_9⟩
def x16_5 : List sx_E := (.aload 0, 5, 6, [], .null) :: x16_6
theorem ox16_5 : sx_oks 16 x16_5 := ⟨Or.inr ⟨_, (sx_dd bb_16 dX1_downBits_5), rfl, rfl⟩, ox16_6⟩
def x16_4 : List sx_E := (.iload 2, 4, 5, [], .null) :: x16_5
theorem ox16_4 : sx_oks 16 x16_4 := ⟨Or.inr ⟨_, (sx_dd bb_16 dX1_downBits_4), rfl, rfl⟩, ox16_5⟩
def x16_4h : List sx_E := (.monitorenter, 4, 4, [0, 1, 2], .null) :: x16_4
theorem ox16_4h : sx_oks 16 x16_4h := ⟨trivial, ox16_4⟩
def x16_3 : List sx_E := (.istore 2, 3, 4, [], .null) :: x16_4h
theorem ox16_3 : sx_oks 16 x16_3 := ⟨⟨sx_lt mm_16 (Nat.le_of_ble_eq_true rfl), Or.inr ⟨_, (sx_dd bb_16 dX1_downBits_3), rfl, rfl⟩⟩, ox16_4h⟩
def x16_2 : List sx_E := (.nop, 2, 3, [], .int (nI 0)) :: x16_3
theorem ox16_2 : sx_oks 16 x16_2 := ⟨sx_k_iconst (sx_dd bb_16 dX1_downBits_2) (by decide +kernel), ox16_3⟩
def x16_1 : List sx_E := (.istore 1, 1, 2, [], .null) :: x16_2
theorem ox16_1 : sx_oks 16 x16_1 := ⟨⟨sx_lt mm_16 (Nat.le_of_ble_eq_true rfl), Or.inr ⟨_, (sx_dd bb_16 dX1_downBits_1), rfl, rfl⟩⟩, ox16_2⟩
def x16_0 : List sx_E := (.nop, 0, 1, [], .int (nI 0)) :: x16_1
theorem ox16_0 : sx_oks 16 x16_0 := ⟨sx_k_iconst (sx_dd bb_16 dX1_downBits_0) (by decide +kernel), ox16_1⟩
theorem m16 : sx_mok 16 x16_0 := ⟨ox16_0, by decide +kernel⟩
theorem bb_17 : sx_by 17 = cX1_doubts := rfl
theorem oo_17 : (sx_nm 17).cls = "StrawGarrison$Border" := rfl
theorem mm_17 : sx_ml 17 = 3 := rfl
theorem rr_17 : sx_rt 17 = (some .int) := rfl
def x17_28 : List sx_E := (.ireturn, 28, 29, [0], .null) :: []
theorem ox17_28 : sx_oks 17 x17_28 := ⟨sx_q_iret0 (sx_dd bb_17 dX1_doubts_28) rr_17, trivial⟩
def x17_27 : List sx_E := (.iload 1, 27, 28, [], .null) :: x17_28
theorem ox17_27 : sx_oks 17 x17_27 := ⟨Or.inr ⟨_, (sx_dd bb_17 dX1_doubts_27), rfl, rfl⟩, ox17_28⟩
def x17_24 : List sx_E := (.goto (-20), 24, 27, [4], .null) :: x17_27
theorem ox17_24 : sx_oks 17 x17_24 := ⟨⟨(sx_dd bb_17 dX1_doubts_24), sx_t1 (by decide +kernel)⟩, ox17_27⟩
def x17_21 : List sx_E := (.iinc 2 (1), 21, 24, [], .int (nI 1)) :: x17_24
theorem ox17_21 : sx_oks 17 x17_21 := ⟨⟨sx_lt mm_17 (Nat.le_of_ble_eq_true rfl), (sx_dd bb_17 dX1_doubts_21), rfl, by decide +kernel⟩, ox17_24⟩
def x17_20 : List sx_E := (.istore 1, 20, 21, [], .null) :: x17_21
theorem ox17_20 : sx_oks 17 x17_20 := ⟨⟨sx_lt mm_17 (Nat.le_of_ble_eq_true rfl), Or.inr ⟨_, (sx_dd bb_17 dX1_doubts_20), rfl, rfl⟩⟩, ox17_21⟩
def x17_19 : List sx_E := (.iadd, 19, 20, [], .null) :: x17_20
theorem ox17_19 : sx_oks 17 x17_19 := ⟨⟨(sx_dd bb_17 dX1_doubts_19), rfl⟩, ox17_20⟩
def x17_18 : List sx_E := (.iaload, 18, 19, [], .null) :: x17_19
theorem ox17_18 : sx_oks 17 x17_18 := ⟨⟨(sx_dd bb_17 dX1_doubts_18), rfl⟩, ox17_19⟩
def x17_17 : List sx_E := (.iload 2, 17, 18, [], .null) :: x17_18
theorem ox17_17 : sx_oks 17 x17_17 := ⟨Or.inr ⟨_, (sx_dd bb_17 dX1_doubts_17), rfl, rfl⟩, ox17_18⟩
def x17_14 : List sx_E := (.getfield 25, 14, 17, [1, 5, 1], .null) :: x17_17
theorem ox17_14 : sx_oks 17 x17_14 := ⟨sx_q_get (w := (RX1, TX1, 11)) (sx_dd bb_17 dX1_doubts_14) rfl rfl (Nat.le_of_ble_eq_true rfl) cu_1 (sx_ow3 oo_17 fl_StrawGarrison_Border_25) (by decide +kernel), ox17_17⟩
def x17_13 : List sx_E := (.aload 0, 13, 14, [], .null) :: x17_14
theorem ox17_13 : sx_oks 17 x17_13 := ⟨Or.inr ⟨_, (sx_dd bb_17 dX1_doubts_13), rfl, rfl⟩, ox17_14⟩
def x17_12 : List sx_E := (.iload 1, 12, 13, [], .null) :: x17_13
theorem ox17_12 : sx_oks 17 x17_12 := ⟨Or.inr ⟨_, (sx_dd bb_17 dX1_doubts_12), rfl, rfl⟩, ox17_13⟩
def x17_9 : List sx_E := (.if_icmp .ge (18), 9, 12, [27], .null) :: x17_12
theorem ox17_9 : sx_oks 17 x17_9 := ⟨⟨(sx_dd bb_17 dX1_doubts_9), rfl, sx_t1 (by decide +kernel)⟩, ox17_12⟩
def x17_6 : List sx_E := (.getfield 9, 6, 9, [1, 1, 0], .null) :: x17_9
theorem ox17_6 : sx_oks 17 x17_6 := ⟨sx_q_get (w := (RX1, TX1, 11)) (sx_dd bb_17 dX1_doubts_6) rfl rfl (Nat.le_of_ble_eq_true rfl) cu_1 (sx_ow3 oo_17 fl_StrawGarrison_Border_9) (by decide +kernel), ox17_9⟩
def x17_5 : List sx_E := (.aload 0, 5, 6, [], .null) :: x17_6
theorem ox17_5 : sx_oks 17 x17_5 := ⟨Or.inr ⟨_, (sx_dd bb_17 dX1_doubts_5), rfl, rfl⟩, ox17_6⟩
def x17_4 : List sx_E := (.iload 2, 4, 5, [], .null) :: x17_5
theorem ox17_4 : sx_oks 17 x17_4 := ⟨Or.inr ⟨_, (sx_dd bb_17 dX1_doubts_4), rfl, rfl⟩, ox17_5⟩
def x17_4h : List sx_E := (.monitorenter, 4, 4, [0, 1, 2], .null) :: x17_4
theorem ox17_4h : sx_oks 17 x17_4h := ⟨trivial, ox17_4⟩
def x17_3 : List sx_E := (.istore 2, 3, 4, [], .null) :: x17_4h
theorem ox17_3 : sx_oks 17 x17_3 := ⟨⟨sx_lt mm_17 (Nat.le_of_ble_eq_true rfl), Or.inr ⟨_, (sx_dd bb_17 dX1_doubts_3), rfl, rfl⟩⟩, ox17_4h⟩
def x17_2 : List sx_E := (.nop, 2, 3, [], .int (nI 0)) :: x17_3
theorem ox17_2 : sx_oks 17 x17_2 := ⟨sx_k_iconst (sx_dd bb_17 dX1_doubts_2) (by decide +kernel), ox17_3⟩
def x17_1 : List sx_E := (.istore 1, 1, 2, [], .null) :: x17_2
theorem ox17_1 : sx_oks 17 x17_1 := ⟨⟨sx_lt mm_17 (Nat.le_of_ble_eq_true rfl), Or.inr ⟨_, (sx_dd bb_17 dX1_doubts_1), rfl, rfl⟩⟩, ox17_2⟩
def x17_0 : List sx_E := (.nop, 0, 1, [], .int (nI 0)) :: x17_1
theorem ox17_0 : sx_oks 17 x17_0 := ⟨sx_k_iconst (sx_dd bb_17 dX1_doubts_0) (by decide +kernel), ox17_1⟩
theorem m17 : sx_mok 17 x17_0 := ⟨ox17_0, by decide +kernel⟩
theorem bb_18 : sx_by 18 = cX1_othersNear := rfl
theorem oo_18 : (sx_nm 18).cls = "StrawGarrison$Border" := rfl
theorem mm_18 : sx_ml 18 = 5 := rfl
theorem rr_18 : sx_rt 18 = (some .int) := rfl
def x18_53 : List sx_E := (.ireturn, 53, 54, [0], .null) :: []
theorem ox18_53 : sx_oks 18 x18_53 := ⟨sx_q_iret0 (sx_dd bb_18 dX1_othersNear_53) rr_18, trivial⟩
def x18_52 : List sx_E := (.iload 3, 52, 53, [], .null) :: x18_53
theorem ox18_52 : sx_oks 18 x18_52 := ⟨Or.inr ⟨_, (sx_dd bb_18 dX1_othersNear_52), rfl, rfl⟩, ox18_53⟩
def x18_49 : List sx_E := (.goto (-44), 49, 52, [5], .null) :: x18_52
theorem ox18_49 : sx_oks 18 x18_49 := ⟨⟨(sx_dd bb_18 dX1_othersNear_49), sx_t1 (by decide +kernel)⟩, ox18_52⟩
def x18_46 : List sx_E := (.iinc 4 (1), 46, 49, [], .int (nI 1)) :: x18_49
theorem ox18_46 : sx_oks 18 x18_46 := ⟨⟨sx_lt mm_18 (Nat.le_of_ble_eq_true rfl), (sx_dd bb_18 dX1_othersNear_46), rfl, by decide +kernel⟩, ox18_49⟩
def x18_43 : List sx_E := (.iinc 3 (1), 43, 46, [], .int (nI 1)) :: x18_46
theorem ox18_43 : sx_oks 18 x18_43 := ⟨⟨sx_lt mm_18 (Nat.le_of_ble_eq_true rfl), (sx_dd bb_18 dX1_othersNear_43), rfl, by decide +kernel⟩, ox18_46⟩
def x18_40 : List sx_E := (.ifCond .eq (6), 40, 43, [46], .null) :: x18_43
theorem ox18_40 : sx_oks 18 x18_40 := ⟨⟨(sx_dd bb_18 dX1_othersNear_40), rfl, sx_t1 (by decide +kernel)⟩, ox18_43⟩
def x18_37 : List sx_E := (.invokevirtual 106, 37, 40, [12, 3, 0, 0, 1], .null) :: x18_40
theorem ox18_37 : sx_oks 18 x18_37 := ⟨sx_q_V (w := (RX1, TX1, 11)) (sx_dd bb_18 dX1_othersNear_37) oo_18 lk_StrawGarrison_Border_106_V ft_12_h (Nat.le_of_ble_eq_true rfl) rfl rfl, ox18_40⟩
def x18_36 : List sx_E := (.iload 2, 36, 37, [], .null) :: x18_37
theorem ox18_36 : sx_oks 18 x18_36 := ⟨Or.inr ⟨_, (sx_dd bb_18 dX1_othersNear_36), rfl, rfl⟩, ox18_37⟩
def x18_34 : List sx_E := (.iload 4, 34, 36, [], .null) :: x18_36
theorem ox18_34 : sx_oks 18 x18_34 := ⟨Or.inl ⟨(sx_dd bb_18 dX1_othersNear_34), rfl⟩, ox18_36⟩
def x18_33 : List sx_E := (.aload 0, 33, 34, [], .null) :: x18_34
theorem ox18_33 : sx_oks 18 x18_33 := ⟨Or.inr ⟨_, (sx_dd bb_18 dX1_othersNear_33), rfl, rfl⟩, ox18_34⟩
def x18_30 : List sx_E := (.ifCond .ne (16), 30, 33, [46], .null) :: x18_33
theorem ox18_30 : sx_oks 18 x18_30 := ⟨⟨(sx_dd bb_18 dX1_othersNear_30), rfl, sx_t1 (by decide +kernel)⟩, ox18_33⟩
def x18_27 : List sx_E := (.invokestatic 102, 27, 30, [26, 1, 0, 0], .null) :: x18_30
theorem ox18_27 : sx_oks 18 x18_27 := ⟨sx_q_S (sx_dd bb_18 dX1_othersNear_27) oo_18 lk_StrawGarrison_Border_102_S ft_26_h, ox18_30⟩
def x18_26 : List sx_E := (.iaload, 26, 27, [], .null) :: x18_27
theorem ox18_26 : sx_oks 18 x18_26 := ⟨⟨(sx_dd bb_18 dX1_othersNear_26), rfl⟩, ox18_27⟩
def x18_24 : List sx_E := (.iload 4, 24, 26, [], .null) :: x18_26
theorem ox18_24 : sx_oks 18 x18_24 := ⟨Or.inl ⟨(sx_dd bb_18 dX1_othersNear_24), rfl⟩, ox18_26⟩
def x18_21 : List sx_E := (.getfield 15, 21, 24, [1, 2, 1], .null) :: x18_24
theorem ox18_21 : sx_oks 18 x18_21 := ⟨sx_q_get (w := (RX1, TX1, 11)) (sx_dd bb_18 dX1_othersNear_21) rfl rfl (Nat.le_of_ble_eq_true rfl) cu_1 (sx_ow3 oo_18 fl_StrawGarrison_Border_15) (by decide +kernel), ox18_24⟩
def x18_20 : List sx_E := (.aload 0, 20, 21, [], .null) :: x18_21
theorem ox18_20 : sx_oks 18 x18_20 := ⟨Or.inr ⟨_, (sx_dd bb_18 dX1_othersNear_20), rfl, rfl⟩, ox18_21⟩
def x18_17 : List sx_E := (.if_icmp .eq (29), 17, 20, [46], .null) :: x18_20
theorem ox18_17 : sx_oks 18 x18_17 := ⟨⟨(sx_dd bb_18 dX1_othersNear_17), rfl, sx_t1 (by decide +kernel)⟩, ox18_20⟩
def x18_16 : List sx_E := (.iload 1, 16, 17, [], .null) :: x18_17
theorem ox18_16 : sx_oks 18 x18_16 := ⟨Or.inr ⟨_, (sx_dd bb_18 dX1_othersNear_16), rfl, rfl⟩, ox18_17⟩
def x18_14 : List sx_E := (.iload 4, 14, 16, [], .null) :: x18_16
theorem ox18_14 : sx_oks 18 x18_14 := ⟨Or.inl ⟨(sx_dd bb_18 dX1_othersNear_14), rfl⟩, ox18_16⟩
def x18_11 : List sx_E := (.if_icmp .ge (41), 11, 14, [52], .null) :: x18_14
theorem ox18_11 : sx_oks 18 x18_11 := ⟨⟨(sx_dd bb_18 dX1_othersNear_11), rfl, sx_t1 (by decide +kernel)⟩, ox18_14⟩
def x18_8 : List sx_E := (.getfield 9, 8, 11, [1, 1, 0], .null) :: x18_11
theorem ox18_8 : sx_oks 18 x18_8 := ⟨sx_q_get (w := (RX1, TX1, 11)) (sx_dd bb_18 dX1_othersNear_8) rfl rfl (Nat.le_of_ble_eq_true rfl) cu_1 (sx_ow3 oo_18 fl_StrawGarrison_Border_9) (by decide +kernel), ox18_11⟩
def x18_7 : List sx_E := (.aload 0, 7, 8, [], .null) :: x18_8
theorem ox18_7 : sx_oks 18 x18_7 := ⟨Or.inr ⟨_, (sx_dd bb_18 dX1_othersNear_7), rfl, rfl⟩, ox18_8⟩
def x18_5 : List sx_E := (.iload 4, 5, 7, [], .null) :: x18_7
theorem ox18_5 : sx_oks 18 x18_5 := ⟨Or.inl ⟨(sx_dd bb_18 dX1_othersNear_5), rfl⟩, ox18_7⟩
def x18_5h : List sx_E := (.monitorenter, 5, 5, [0, 1, 2, 3, 4], .null) :: x18_5
theorem ox18_5h : sx_oks 18 x18_5h := ⟨trivial, ox18_5⟩
def x18_3 : List sx_E := (.istore 4, 3, 5, [], .null) :: x18_5h
theorem ox18_3 : sx_oks 18 x18_3 := ⟨⟨sx_lt mm_18 (Nat.le_of_ble_eq_true rfl), Or.inl ⟨(sx_dd bb_18 dX1_othersNear_3), rfl⟩⟩, ox18_5h⟩
def x18_2 : List sx_E := (.nop, 2, 3, [], .int (nI 0)) :: x18_3
theorem ox18_2 : sx_oks 18 x18_2 := ⟨sx_k_iconst (sx_dd bb_18 dX1_othersNear_2) (by decide +kernel), ox18_3⟩
def x18_1 : List sx_E := (.istore 3, 1, 2, [], .null) :: x18_2
theorem ox18_1 : sx_oks 18 x18_1 := ⟨⟨sx_lt mm_18 (Nat.le_of_ble_eq_true rfl), Or.inr ⟨_, (sx_dd bb_18 dX1_othersNear_1), rfl, rfl⟩⟩, ox18_2⟩
def x18_0 : List sx_E := (.nop, 0, 1, [], .int (nI 0)) :: x18_1
theorem ox18_0 : sx_oks 18 x18_0 := ⟨sx_k_iconst (sx_dd bb_18 dX1_othersNear_0) (by decide +kernel), ox18_1⟩
theorem m18 : sx_mok 18 x18_0 := ⟨ox18_0, by decide +kernel⟩
theorem bb_19 : sx_by 19 = cX1_passNight := rfl
theorem oo_19 : (sx_nm 19).cls = "StrawGarrison$Border" := rfl
theorem mm_19 : sx_ml 19 = 2 := rfl
theorem rr_19 : sx_rt 19 = (some .boolean) := rfl
def x19_107 : List sx_E := (.ireturn, 107, 108, [1], .null) :: []
theorem ox19_107 : sx_oks 19 x19_107 := ⟨sx_q_iret1 (sx_dd bb_19 dX1_passNight_107) rr_19, trivial⟩
def x19_106 : List sx_E := (.iload 1, 106, 107, [], .null) :: x19_107
theorem ox19_106 : sx_oks 19 x19_106 := ⟨Or.inr ⟨_, (sx_dd bb_19 dX1_passNight_106), rfl, rfl⟩, ox19_107⟩
def x19_103 : List sx_E := (.putfield 37, 103, 106, [1, 9, 0], .null) :: x19_106
theorem ox19_103 : sx_oks 19 x19_103 := ⟨sx_q_put (w := (RX1, TX1, 11)) (ty0 := tyX1) (sx_dd bb_19 dX1_passNight_103) rfl (Nat.le_of_ble_eq_true rfl) cu_1 (sx_ow3 oo_19 fl_StrawGarrison_Border_37) (by decide +kernel) tyX1_ok nmX1 (Or.inl rfl) (fun _ => rfl) (fun h => absurd h (by decide)) (fun h => absurd h (by decide)), ox19_106⟩
def x19_102 : List sx_E := (.iadd, 102, 103, [], .null) :: x19_103
theorem ox19_102 : sx_oks 19 x19_102 := ⟨⟨(sx_dd bb_19 dX1_passNight_102), rfl⟩, ox19_103⟩
def x19_101 : List sx_E := (.nop, 101, 102, [], .int (nI 1)) :: x19_102
theorem ox19_101 : sx_oks 19 x19_101 := ⟨sx_k_iconst (sx_dd bb_19 dX1_passNight_101) (by decide +kernel), ox19_102⟩
def x19_98 : List sx_E := (.getfield 37, 98, 101, [1, 9, 0], .null) :: x19_101
theorem ox19_98 : sx_oks 19 x19_98 := ⟨sx_q_get (w := (RX1, TX1, 11)) (sx_dd bb_19 dX1_passNight_98) rfl rfl (Nat.le_of_ble_eq_true rfl) cu_1 (sx_ow3 oo_19 fl_StrawGarrison_Border_37) (by decide +kernel), ox19_101⟩
def x19_97 : List sx_E := (.dup, 97, 98, [], .null) :: x19_98
theorem ox19_97 : sx_oks 19 x19_97 := ⟨⟨(sx_dd bb_19 dX1_passNight_97), rfl⟩, ox19_98⟩
def x19_96 : List sx_E := (.aload 0, 96, 97, [], .null) :: x19_97
theorem ox19_96 : sx_oks 19 x19_96 := ⟨Or.inr ⟨_, (sx_dd bb_19 dX1_passNight_96), rfl, rfl⟩, ox19_97⟩
def x19_95 : List sx_E := (.iastore, 95, 96, [], .null) :: x19_96
theorem ox19_95 : sx_oks 19 x19_95 := ⟨⟨(sx_dd bb_19 dX1_passNight_95), rfl⟩, ox19_96⟩
def x19_94 : List sx_E := (.iadd, 94, 95, [], .null) :: x19_95
theorem ox19_94 : sx_oks 19 x19_94 := ⟨⟨(sx_dd bb_19 dX1_passNight_94), rfl⟩, ox19_95⟩
def x19_93 : List sx_E := (.nop, 93, 94, [], .int (nI 1)) :: x19_94
theorem ox19_93 : sx_oks 19 x19_93 := ⟨sx_k_iconst (sx_dd bb_19 dX1_passNight_93) (by decide +kernel), ox19_94⟩
def x19_92 : List sx_E := (.iaload, 92, 93, [], .null) :: x19_93
theorem ox19_92 : sx_oks 19 x19_92 := ⟨⟨(sx_dd bb_19 dX1_passNight_92), rfl⟩, ox19_93⟩
def x19_91 : List sx_E := (.dup2, 91, 92, [], .null) :: x19_92
theorem ox19_91 : sx_oks 19 x19_91 := ⟨⟨(sx_dd bb_19 dX1_passNight_91), rfl⟩, ox19_92⟩
def x19_90 : List sx_E := (.nop, 90, 91, [], .int (nI 2)) :: x19_91
theorem ox19_90 : sx_oks 19 x19_90 := ⟨sx_k_iconst (sx_dd bb_19 dX1_passNight_90) (by decide +kernel), ox19_91⟩
def x19_87 : List sx_E := (.goto (4), 87, 90, [91], .null) :: x19_90
theorem ox19_87 : sx_oks 19 x19_87 := ⟨⟨(sx_dd bb_19 dX1_passNight_87), sx_t1 (by decide +kernel)⟩, ox19_90⟩
def x19_86 : List sx_E := (.nop, 86, 87, [], .int (nI 1)) :: x19_87
theorem ox19_86 : sx_oks 19 x19_86 := ⟨sx_k_iconst (sx_dd bb_19 dX1_passNight_86) (by decide +kernel), ox19_87⟩
def x19_83 : List sx_E := (.if_icmp .lt (7), 83, 86, [90], .null) :: x19_86
theorem ox19_83 : sx_oks 19 x19_83 := ⟨⟨(sx_dd bb_19 dX1_passNight_83), rfl, sx_t1 (by decide +kernel)⟩, ox19_86⟩
def x19_82 : List sx_E := (.iaload, 82, 83, [], .null) :: x19_83
theorem ox19_82 : sx_oks 19 x19_82 := ⟨⟨(sx_dd bb_19 dX1_passNight_82), rfl⟩, ox19_83⟩
def x19_81 : List sx_E := (.nop, 81, 82, [], .int (nI 3)) :: x19_82
theorem ox19_81 : sx_oks 19 x19_81 := ⟨sx_k_iconst (sx_dd bb_19 dX1_passNight_81) (by decide +kernel), ox19_82⟩
def x19_78 : List sx_E := (.getfield 31, 78, 81, [1, 7, 1], .null) :: x19_81
theorem ox19_78 : sx_oks 19 x19_78 := ⟨sx_q_get (w := (RX1, TX1, 11)) (sx_dd bb_19 dX1_passNight_78) rfl rfl (Nat.le_of_ble_eq_true rfl) cu_1 (sx_ow3 oo_19 fl_StrawGarrison_Border_31) (by decide +kernel), ox19_81⟩
def x19_77 : List sx_E := (.aload 0, 77, 78, [], .null) :: x19_78
theorem ox19_77 : sx_oks 19 x19_77 := ⟨Or.inr ⟨_, (sx_dd bb_19 dX1_passNight_77), rfl, rfl⟩, ox19_78⟩
def x19_74 : List sx_E := (.invokevirtual 126, 74, 77, [15, 1, 0, 0, 1], .null) :: x19_77
theorem ox19_74 : sx_oks 19 x19_74 := ⟨sx_q_V (w := (RX1, TX1, 11)) (sx_dd bb_19 dX1_passNight_74) oo_19 lk_StrawGarrison_Border_126_V ft_15_h (Nat.le_of_ble_eq_true rfl) rfl rfl, ox19_77⟩
def x19_73 : List sx_E := (.aload 0, 73, 74, [], .null) :: x19_74
theorem ox19_73 : sx_oks 19 x19_73 := ⟨Or.inr ⟨_, (sx_dd bb_19 dX1_passNight_73), rfl, rfl⟩, ox19_74⟩
def x19_70 : List sx_E := (.getfield 34, 70, 73, [1, 8, 1], .null) :: x19_73
theorem ox19_70 : sx_oks 19 x19_70 := ⟨sx_q_get (w := (RX1, TX1, 11)) (sx_dd bb_19 dX1_passNight_70) rfl rfl (Nat.le_of_ble_eq_true rfl) cu_1 (sx_ow3 oo_19 fl_StrawGarrison_Border_34) (by decide +kernel), ox19_73⟩
def x19_69 : List sx_E := (.aload 0, 69, 70, [], .null) :: x19_70
theorem ox19_69 : sx_oks 19 x19_69 := ⟨Or.inr ⟨_, (sx_dd bb_19 dX1_passNight_69), rfl, rfl⟩, ox19_70⟩
def x19_66 : List sx_E := (.ifCond .eq (30), 66, 69, [96], .null) :: x19_69
theorem ox19_66 : sx_oks 19 x19_66 := ⟨⟨(sx_dd bb_19 dX1_passNight_66), rfl, sx_t1 (by decide +kernel)⟩, ox19_69⟩
def x19_65 : List sx_E := (.iload 1, 65, 66, [], .null) :: x19_66
theorem ox19_65 : sx_oks 19 x19_65 := ⟨Or.inr ⟨_, (sx_dd bb_19 dX1_passNight_65), rfl, rfl⟩, ox19_66⟩
def x19_65h : List sx_E := (.monitorenter, 65, 65, [0, 1], .null) :: x19_65
theorem ox19_65h : sx_oks 19 x19_65h := ⟨trivial, ox19_65⟩
def x19_64 : List sx_E := (.istore 1, 64, 65, [], .null) :: x19_65h
theorem ox19_64 : sx_oks 19 x19_64 := ⟨⟨sx_lt mm_19 (Nat.le_of_ble_eq_true rfl), Or.inr ⟨_, (sx_dd bb_19 dX1_passNight_64), rfl, rfl⟩⟩, ox19_65h⟩
def x19_63 : List sx_E := (.nop, 63, 64, [], .int (nI 0)) :: x19_64
theorem ox19_63 : sx_oks 19 x19_63 := ⟨sx_k_iconst (sx_dd bb_19 dX1_passNight_63) (by decide +kernel), ox19_64⟩
def x19_60 : List sx_E := (.goto (4), 60, 63, [64], .null) :: x19_63
theorem ox19_60 : sx_oks 19 x19_60 := ⟨⟨(sx_dd bb_19 dX1_passNight_60), sx_t1 (by decide +kernel)⟩, ox19_63⟩
def x19_59 : List sx_E := (.nop, 59, 60, [], .int (nI 1)) :: x19_60
theorem ox19_59 : sx_oks 19 x19_59 := ⟨sx_k_iconst (sx_dd bb_19 dX1_passNight_59) (by decide +kernel), ox19_60⟩
def x19_56 : List sx_E := (.if_icmp .ge (7), 56, 59, [63], .null) :: x19_59
theorem ox19_56 : sx_oks 19 x19_56 := ⟨⟨(sx_dd bb_19 dX1_passNight_56), rfl, sx_t1 (by decide +kernel)⟩, ox19_59⟩
def x19_55 : List sx_E := (.iaload, 55, 56, [], .null) :: x19_56
theorem ox19_55 : sx_oks 19 x19_55 := ⟨⟨(sx_dd bb_19 dX1_passNight_55), rfl⟩, ox19_56⟩
def x19_54 : List sx_E := (.nop, 54, 55, [], .int (nI 2)) :: x19_55
theorem ox19_54 : sx_oks 19 x19_54 := ⟨sx_k_iconst (sx_dd bb_19 dX1_passNight_54) (by decide +kernel), ox19_55⟩
def x19_51 : List sx_E := (.getfield 31, 51, 54, [1, 7, 1], .null) :: x19_54
theorem ox19_51 : sx_oks 19 x19_51 := ⟨sx_q_get (w := (RX1, TX1, 11)) (sx_dd bb_19 dX1_passNight_51) rfl rfl (Nat.le_of_ble_eq_true rfl) cu_1 (sx_ow3 oo_19 fl_StrawGarrison_Border_31) (by decide +kernel), ox19_54⟩
def x19_50 : List sx_E := (.aload 0, 50, 51, [], .null) :: x19_51
theorem ox19_50 : sx_oks 19 x19_50 := ⟨Or.inr ⟨_, (sx_dd bb_19 dX1_passNight_50), rfl, rfl⟩, ox19_51⟩
def x19_47 : List sx_E := (.invokevirtual 123, 47, 50, [14, 1, 0, 0, 1], .null) :: x19_50
theorem ox19_47 : sx_oks 19 x19_47 := ⟨sx_q_V (w := (RX1, TX1, 11)) (sx_dd bb_19 dX1_passNight_47) oo_19 lk_StrawGarrison_Border_123_V ft_14_h (Nat.le_of_ble_eq_true rfl) rfl rfl, ox19_50⟩
def x19_46 : List sx_E := (.aload 0, 46, 47, [], .null) :: x19_47
theorem ox19_46 : sx_oks 19 x19_46 := ⟨Or.inr ⟨_, (sx_dd bb_19 dX1_passNight_46), rfl, rfl⟩, ox19_47⟩
def x19_46h : List sx_E := (.monitorenter, 46, 46, [0], .null) :: x19_46
theorem ox19_46h : sx_oks 19 x19_46h := ⟨trivial, ox19_46⟩
def x19_43 : List sx_E := (.invokevirtual 120, 43, 46, [24, 1, 0, 0, 1], .null) :: x19_46h
theorem ox19_43 : sx_oks 19 x19_43 := ⟨sx_q_V (w := (RX1, TX1, 11)) (sx_dd bb_19 dX1_passNight_43) oo_19 lk_StrawGarrison_Border_120_V ft_24_h (Nat.le_of_ble_eq_true rfl) rfl rfl, ox19_46h⟩
def x19_42 : List sx_E := (.aload 0, 42, 43, [], .null) :: x19_43
theorem ox19_42 : sx_oks 19 x19_42 := ⟨Or.inr ⟨_, (sx_dd bb_19 dX1_passNight_42), rfl, rfl⟩, ox19_43⟩
def x19_39 : List sx_E := (.if_icmp .ge (7), 39, 42, [46], .null) :: x19_42
theorem ox19_39 : sx_oks 19 x19_39 := ⟨⟨(sx_dd bb_19 dX1_passNight_39), rfl, sx_t1 (by decide +kernel)⟩, ox19_42⟩
def x19_38 : List sx_E := (.iaload, 38, 39, [], .null) :: x19_39
theorem ox19_38 : sx_oks 19 x19_38 := ⟨⟨(sx_dd bb_19 dX1_passNight_38), rfl⟩, ox19_39⟩
def x19_37 : List sx_E := (.nop, 37, 38, [], .int (nI 1)) :: x19_38
theorem ox19_37 : sx_oks 19 x19_37 := ⟨sx_k_iconst (sx_dd bb_19 dX1_passNight_37) (by decide +kernel), ox19_38⟩
def x19_34 : List sx_E := (.getfield 31, 34, 37, [1, 7, 1], .null) :: x19_37
theorem ox19_34 : sx_oks 19 x19_34 := ⟨sx_q_get (w := (RX1, TX1, 11)) (sx_dd bb_19 dX1_passNight_34) rfl rfl (Nat.le_of_ble_eq_true rfl) cu_1 (sx_ow3 oo_19 fl_StrawGarrison_Border_31) (by decide +kernel), ox19_37⟩
def x19_33 : List sx_E := (.aload 0, 33, 34, [], .null) :: x19_34
theorem ox19_33 : sx_oks 19 x19_33 := ⟨Or.inr ⟨_, (sx_dd bb_19 dX1_passNight_33), rfl, rfl⟩, ox19_34⟩
def x19_32 : List sx_E := (.irem, 32, 33, [], .null) :: x19_33
theorem ox19_32 : sx_oks 19 x19_32 := ⟨⟨(sx_dd bb_19 dX1_passNight_32), rfl⟩, ox19_33⟩
def x19_30 : List sx_E := (.nop, 30, 32, [], .int (nI 100)) :: x19_32
theorem ox19_30 : sx_oks 19 x19_30 := ⟨sx_k_bipush (sx_dd bb_19 dX1_passNight_30) (by decide +kernel), ox19_32⟩
def x19_27 : List sx_E := (.invokevirtual 60, 27, 30, [9, 1, 0, 0, 1], .null) :: x19_30
theorem ox19_27 : sx_oks 19 x19_27 := ⟨sx_q_V (w := (RX1, TX1, 11)) (sx_dd bb_19 dX1_passNight_27) oo_19 lk_StrawGarrison_Border_60_V ft_9_h (Nat.le_of_ble_eq_true rfl) rfl rfl, ox19_30⟩
def x19_26 : List sx_E := (.aload 0, 26, 27, [], .null) :: x19_27
theorem ox19_26 : sx_oks 19 x19_26 := ⟨Or.inr ⟨_, (sx_dd bb_19 dX1_passNight_26), rfl, rfl⟩, ox19_27⟩
def x19_23 : List sx_E := (.invokevirtual 117, 23, 26, [23, 2, 0, 0, 1], .null) :: x19_26
theorem ox19_23 : sx_oks 19 x19_23 := ⟨sx_q_V (w := (RX1, TX1, 11)) (sx_dd bb_19 dX1_passNight_23) oo_19 lk_StrawGarrison_Border_117_V ft_23_h (Nat.le_of_ble_eq_true rfl) rfl rfl, ox19_26⟩
def x19_22 : List sx_E := (.irem, 22, 23, [], .null) :: x19_23
theorem ox19_22 : sx_oks 19 x19_22 := ⟨⟨(sx_dd bb_19 dX1_passNight_22), rfl⟩, ox19_23⟩
def x19_20 : List sx_E := (.nop, 20, 22, [], .int (nI 20)) :: x19_22
theorem ox19_20 : sx_oks 19 x19_20 := ⟨sx_k_bipush (sx_dd bb_19 dX1_passNight_20) (by decide +kernel), ox19_22⟩
def x19_17 : List sx_E := (.invokevirtual 60, 17, 20, [9, 1, 0, 0, 1], .null) :: x19_20
theorem ox19_17 : sx_oks 19 x19_17 := ⟨sx_q_V (w := (RX1, TX1, 11)) (sx_dd bb_19 dX1_passNight_17) oo_19 lk_StrawGarrison_Border_60_V ft_9_h (Nat.le_of_ble_eq_true rfl) rfl rfl, ox19_20⟩
def x19_16 : List sx_E := (.aload 0, 16, 17, [], .null) :: x19_17
theorem ox19_16 : sx_oks 19 x19_16 := ⟨Or.inr ⟨_, (sx_dd bb_19 dX1_passNight_16), rfl, rfl⟩, ox19_17⟩
def x19_15 : List sx_E := (.aload 0, 15, 16, [], .null) :: x19_16
theorem ox19_15 : sx_oks 19 x19_15 := ⟨Or.inr ⟨_, (sx_dd bb_19 dX1_passNight_15), rfl, rfl⟩, ox19_16⟩
def x19_12 : List sx_E := (.invokevirtual 114, 12, 15, [21, 1, 0, 0, 1], .null) :: x19_15
theorem ox19_12 : sx_oks 19 x19_12 := ⟨sx_q_V (w := (RX1, TX1, 11)) (sx_dd bb_19 dX1_passNight_12) oo_19 lk_StrawGarrison_Border_114_V ft_21_h (Nat.le_of_ble_eq_true rfl) rfl rfl, ox19_15⟩
def x19_11 : List sx_E := (.aload 0, 11, 12, [], .null) :: x19_12
theorem ox19_11 : sx_oks 19 x19_11 := ⟨Or.inr ⟨_, (sx_dd bb_19 dX1_passNight_11), rfl, rfl⟩, ox19_12⟩
def x19_8 : List sx_E := (.invokevirtual 110, 8, 11, [20, 2, 0, 0, 1], .null) :: x19_11
theorem ox19_8 : sx_oks 19 x19_8 := ⟨sx_q_V (w := (RX1, TX1, 11)) (sx_dd bb_19 dX1_passNight_8) oo_19 lk_StrawGarrison_Border_110_V ft_20_h (Nat.le_of_ble_eq_true rfl) rfl rfl, ox19_11⟩
def x19_7 : List sx_E := (.irem, 7, 8, [], .null) :: x19_8
theorem ox19_7 : sx_oks 19 x19_7 := ⟨⟨(sx_dd bb_19 dX1_passNight_7), rfl⟩, ox19_8⟩
def x19_5 : List sx_E := (.nop, 5, 7, [], .int (nI 100)) :: x19_7
theorem ox19_5 : sx_oks 19 x19_5 := ⟨sx_k_bipush (sx_dd bb_19 dX1_passNight_5) (by decide +kernel), ox19_7⟩
def x19_2 : List sx_E := (.invokevirtual 60, 2, 5, [9, 1, 0, 0, 1], .null) :: x19_5
theorem ox19_2 : sx_oks 19 x19_2 := ⟨sx_q_V (w := (RX1, TX1, 11)) (sx_dd bb_19 dX1_passNight_2) oo_19 lk_StrawGarrison_Border_60_V ft_9_h (Nat.le_of_ble_eq_true rfl) rfl rfl, ox19_5⟩
def x19_1 : List sx_E := (.aload 0, 1, 2, [], .null) :: x19_2
theorem ox19_1 : sx_oks 19 x19_1 := ⟨Or.inr ⟨_, (sx_dd bb_19 dX1_passNight_1), rfl, rfl⟩, ox19_2⟩
def x19_0 : List sx_E := (.aload 0, 0, 1, [], .null) :: x19_1
theorem ox19_0 : sx_oks 19 x19_0 := ⟨Or.inr ⟨_, (sx_dd bb_19 dX1_passNight_0), rfl, rfl⟩, ox19_1⟩
theorem m19 : sx_mok 19 x19_0 := ⟨ox19_0, by decide +kernel⟩
theorem bb_20 : sx_by 20 = cX1_blow := rfl
theorem oo_20 : (sx_nm 20).cls = "StrawGarrison$Border" := rfl
theorem mm_20 : sx_ml 20 = 3 := rfl
theorem rr_20 : sx_rt 20 = none := rfl
def x20_62 : List sx_E := (.return_, 62, 63, [], .null) :: []
theorem ox20_62 : sx_oks 20 x20_62 := ⟨⟨(sx_dd bb_20 dX1_blow_62), rr_20⟩, trivial⟩
def x20_59 : List sx_E := (.goto (-57), 59, 62, [2], .null) :: x20_62
theorem ox20_59 : sx_oks 20 x20_59 := ⟨⟨(sx_dd bb_20 dX1_blow_59), sx_t1 (by decide +kernel)⟩, ox20_62⟩
def x20_56 : List sx_E := (.iinc 2 (1), 56, 59, [], .int (nI 1)) :: x20_59
theorem ox20_56 : sx_oks 20 x20_56 := ⟨⟨sx_lt mm_20 (Nat.le_of_ble_eq_true rfl), (sx_dd bb_20 dX1_blow_56), rfl, by decide +kernel⟩, ox20_59⟩
def x20_55 : List sx_E := (.iastore, 55, 56, [], .null) :: x20_56
theorem ox20_55 : sx_oks 20 x20_55 := ⟨⟨(sx_dd bb_20 dX1_blow_55), rfl⟩, ox20_56⟩
def x20_54 : List sx_E := (.iadd, 54, 55, [], .null) :: x20_55
theorem ox20_54 : sx_oks 20 x20_54 := ⟨⟨(sx_dd bb_20 dX1_blow_54), rfl⟩, ox20_55⟩
def x20_53 : List sx_E := (.nop, 53, 54, [], .int (nI 1)) :: x20_54
theorem ox20_53 : sx_oks 20 x20_53 := ⟨sx_k_iconst (sx_dd bb_20 dX1_blow_53) (by decide +kernel), ox20_54⟩
def x20_52 : List sx_E := (.iaload, 52, 53, [], .null) :: x20_53
theorem ox20_52 : sx_oks 20 x20_52 := ⟨⟨(sx_dd bb_20 dX1_blow_52), rfl⟩, ox20_53⟩
def x20_51 : List sx_E := (.dup2, 51, 52, [], .null) :: x20_52
theorem ox20_51 : sx_oks 20 x20_51 := ⟨⟨(sx_dd bb_20 dX1_blow_51), rfl⟩, ox20_52⟩
def x20_50 : List sx_E := (.nop, 50, 51, [], .int (nI 0)) :: x20_51
theorem ox20_50 : sx_oks 20 x20_50 := ⟨sx_k_iconst (sx_dd bb_20 dX1_blow_50) (by decide +kernel), ox20_51⟩
def x20_47 : List sx_E := (.getfield 34, 47, 50, [1, 8, 1], .null) :: x20_50
theorem ox20_47 : sx_oks 20 x20_47 := ⟨sx_q_get (w := (RX1, TX1, 11)) (sx_dd bb_20 dX1_blow_47) rfl rfl (Nat.le_of_ble_eq_true rfl) cu_1 (sx_ow3 oo_20 fl_StrawGarrison_Border_34) (by decide +kernel), ox20_50⟩
def x20_46 : List sx_E := (.aload 0, 46, 47, [], .null) :: x20_47
theorem ox20_46 : sx_oks 20 x20_46 := ⟨Or.inr ⟨_, (sx_dd bb_20 dX1_blow_46), rfl, rfl⟩, ox20_47⟩
def x20_45 : List sx_E := (.iastore, 45, 46, [], .null) :: x20_46
theorem ox20_45 : sx_oks 20 x20_45 := ⟨⟨(sx_dd bb_20 dX1_blow_45), rfl⟩, ox20_46⟩
def x20_44 : List sx_E := (.nop, 44, 45, [], .int (nI 0)) :: x20_45
theorem ox20_44 : sx_oks 20 x20_44 := ⟨sx_k_iconst (sx_dd bb_20 dX1_blow_44) (by decide +kernel), ox20_45⟩
def x20_43 : List sx_E := (.iload 2, 43, 44, [], .null) :: x20_44
theorem ox20_43 : sx_oks 20 x20_43 := ⟨Or.inr ⟨_, (sx_dd bb_20 dX1_blow_43), rfl, rfl⟩, ox20_44⟩
def x20_40 : List sx_E := (.getfield 28, 40, 43, [1, 6, 1], .null) :: x20_43
theorem ox20_40 : sx_oks 20 x20_40 := ⟨sx_q_get (w := (RX1, TX1, 11)) (sx_dd bb_20 dX1_blow_40) rfl rfl (Nat.le_of_ble_eq_true rfl) cu_1 (sx_ow3 oo_20 fl_StrawGarrison_Border_28) (by decide +kernel), ox20_43⟩
def x20_39 : List sx_E := (.aload 0, 39, 40, [], .null) :: x20_40
theorem ox20_39 : sx_oks 20 x20_39 := ⟨Or.inr ⟨_, (sx_dd bb_20 dX1_blow_39), rfl, rfl⟩, ox20_40⟩
def x20_36 : List sx_E := (.if_icmp .le (20), 36, 39, [56], .null) :: x20_39
theorem ox20_36 : sx_oks 20 x20_36 := ⟨⟨(sx_dd bb_20 dX1_blow_36), rfl, sx_t1 (by decide +kernel)⟩, ox20_39⟩
def x20_35 : List sx_E := (.iload 1, 35, 36, [], .null) :: x20_36
theorem ox20_35 : sx_oks 20 x20_35 := ⟨Or.inr ⟨_, (sx_dd bb_20 dX1_blow_35), rfl, rfl⟩, ox20_36⟩
def x20_32 : List sx_E := (.invokestatic 129, 32, 35, [28, 2, 0, 0], .null) :: x20_35
theorem ox20_32 : sx_oks 20 x20_32 := ⟨sx_q_S (sx_dd bb_20 dX1_blow_32) oo_20 lk_StrawGarrison_Border_129_S ft_28_h, ox20_35⟩
def x20_31 : List sx_E := (.iaload, 31, 32, [], .null) :: x20_32
theorem ox20_31 : sx_oks 20 x20_31 := ⟨⟨(sx_dd bb_20 dX1_blow_31), rfl⟩, ox20_32⟩
def x20_30 : List sx_E := (.iload 2, 30, 31, [], .null) :: x20_31
theorem ox20_30 : sx_oks 20 x20_30 := ⟨Or.inr ⟨_, (sx_dd bb_20 dX1_blow_30), rfl, rfl⟩, ox20_31⟩
def x20_27 : List sx_E := (.getfield 22, 27, 30, [1, 4, 1], .null) :: x20_30
theorem ox20_27 : sx_oks 20 x20_27 := ⟨sx_q_get (w := (RX1, TX1, 11)) (sx_dd bb_20 dX1_blow_27) rfl rfl (Nat.le_of_ble_eq_true rfl) cu_1 (sx_ow3 oo_20 fl_StrawGarrison_Border_22) (by decide +kernel), ox20_30⟩
def x20_26 : List sx_E := (.aload 0, 26, 27, [], .null) :: x20_27
theorem ox20_26 : sx_oks 20 x20_26 := ⟨Or.inr ⟨_, (sx_dd bb_20 dX1_blow_26), rfl, rfl⟩, ox20_27⟩
def x20_25 : List sx_E := (.iaload, 25, 26, [], .null) :: x20_26
theorem ox20_25 : sx_oks 20 x20_25 := ⟨⟨(sx_dd bb_20 dX1_blow_25), rfl⟩, ox20_26⟩
def x20_24 : List sx_E := (.iload 2, 24, 25, [], .null) :: x20_25
theorem ox20_24 : sx_oks 20 x20_24 := ⟨Or.inr ⟨_, (sx_dd bb_20 dX1_blow_24), rfl, rfl⟩, ox20_25⟩
def x20_21 : List sx_E := (.getfield 15, 21, 24, [1, 2, 1], .null) :: x20_24
theorem ox20_21 : sx_oks 20 x20_21 := ⟨sx_q_get (w := (RX1, TX1, 11)) (sx_dd bb_20 dX1_blow_21) rfl rfl (Nat.le_of_ble_eq_true rfl) cu_1 (sx_ow3 oo_20 fl_StrawGarrison_Border_15) (by decide +kernel), ox20_24⟩
def x20_20 : List sx_E := (.aload 0, 20, 21, [], .null) :: x20_21
theorem ox20_20 : sx_oks 20 x20_20 := ⟨Or.inr ⟨_, (sx_dd bb_20 dX1_blow_20), rfl, rfl⟩, ox20_21⟩
def x20_17 : List sx_E := (.if_icmp .ne (39), 17, 20, [56], .null) :: x20_20
theorem ox20_17 : sx_oks 20 x20_17 := ⟨⟨(sx_dd bb_20 dX1_blow_17), rfl, sx_t1 (by decide +kernel)⟩, ox20_20⟩
def x20_16 : List sx_E := (.nop, 16, 17, [], .int (nI 1)) :: x20_17
theorem ox20_16 : sx_oks 20 x20_16 := ⟨sx_k_iconst (sx_dd bb_20 dX1_blow_16) (by decide +kernel), ox20_17⟩
def x20_15 : List sx_E := (.iaload, 15, 16, [], .null) :: x20_16
theorem ox20_15 : sx_oks 20 x20_15 := ⟨⟨(sx_dd bb_20 dX1_blow_15), rfl⟩, ox20_16⟩
def x20_14 : List sx_E := (.iload 2, 14, 15, [], .null) :: x20_15
theorem ox20_14 : sx_oks 20 x20_14 := ⟨Or.inr ⟨_, (sx_dd bb_20 dX1_blow_14), rfl, rfl⟩, ox20_15⟩
def x20_11 : List sx_E := (.getfield 28, 11, 14, [1, 6, 1], .null) :: x20_14
theorem ox20_11 : sx_oks 20 x20_11 := ⟨sx_q_get (w := (RX1, TX1, 11)) (sx_dd bb_20 dX1_blow_11) rfl rfl (Nat.le_of_ble_eq_true rfl) cu_1 (sx_ow3 oo_20 fl_StrawGarrison_Border_28) (by decide +kernel), ox20_14⟩
def x20_10 : List sx_E := (.aload 0, 10, 11, [], .null) :: x20_11
theorem ox20_10 : sx_oks 20 x20_10 := ⟨Or.inr ⟨_, (sx_dd bb_20 dX1_blow_10), rfl, rfl⟩, ox20_11⟩
def x20_7 : List sx_E := (.if_icmp .ge (55), 7, 10, [62], .null) :: x20_10
theorem ox20_7 : sx_oks 20 x20_7 := ⟨⟨(sx_dd bb_20 dX1_blow_7), rfl, sx_t1 (by decide +kernel)⟩, ox20_10⟩
def x20_4 : List sx_E := (.getfield 9, 4, 7, [1, 1, 0], .null) :: x20_7
theorem ox20_4 : sx_oks 20 x20_4 := ⟨sx_q_get (w := (RX1, TX1, 11)) (sx_dd bb_20 dX1_blow_4) rfl rfl (Nat.le_of_ble_eq_true rfl) cu_1 (sx_ow3 oo_20 fl_StrawGarrison_Border_9) (by decide +kernel), ox20_7⟩
def x20_3 : List sx_E := (.aload 0, 3, 4, [], .null) :: x20_4
theorem ox20_3 : sx_oks 20 x20_3 := ⟨Or.inr ⟨_, (sx_dd bb_20 dX1_blow_3), rfl, rfl⟩, ox20_4⟩
def x20_2 : List sx_E := (.iload 2, 2, 3, [], .null) :: x20_3
theorem ox20_2 : sx_oks 20 x20_2 := ⟨Or.inr ⟨_, (sx_dd bb_20 dX1_blow_2), rfl, rfl⟩, ox20_3⟩
def x20_2h : List sx_E := (.monitorenter, 2, 2, [0, 1, 2], .null) :: x20_2
theorem ox20_2h : sx_oks 20 x20_2h := ⟨trivial, ox20_2⟩
def x20_1 : List sx_E := (.istore 2, 1, 2, [], .null) :: x20_2h
theorem ox20_1 : sx_oks 20 x20_1 := ⟨⟨sx_lt mm_20 (Nat.le_of_ble_eq_true rfl), Or.inr ⟨_, (sx_dd bb_20 dX1_blow_1), rfl, rfl⟩⟩, ox20_2h⟩
def x20_0 : List sx_E := (.nop, 0, 1, [], .int (nI 0)) :: x20_1
theorem ox20_0 : sx_oks 20 x20_0 := ⟨sx_k_iconst (sx_dd bb_20 dX1_blow_0) (by decide +kernel), ox20_1⟩
theorem m20 : sx_mok 20 x20_0 := ⟨ox20_0, by decide +kernel⟩
theorem bb_21 : sx_by 21 = cX1_setUp := rfl
theorem oo_21 : (sx_nm 21).cls = "StrawGarrison$Border" := rfl
theorem mm_21 : sx_ml 21 = 2 := rfl
theorem rr_21 : sx_rt 21 = none := rfl
def x21_48 : List sx_E := (.return_, 48, 49, [], .null) :: []
theorem ox21_48 : sx_oks 21 x21_48 := ⟨⟨(sx_dd bb_21 dX1_setUp_48), rr_21⟩, trivial⟩
def x21_45 : List sx_E := (.goto (-43), 45, 48, [2], .null) :: x21_48
theorem ox21_45 : sx_oks 21 x21_45 := ⟨⟨(sx_dd bb_21 dX1_setUp_45), sx_t1 (by decide +kernel)⟩, ox21_48⟩
def x21_42 : List sx_E := (.iinc 1 (1), 42, 45, [], .int (nI 1)) :: x21_45
theorem ox21_42 : sx_oks 21 x21_42 := ⟨⟨sx_lt mm_21 (Nat.le_of_ble_eq_true rfl), (sx_dd bb_21 dX1_setUp_42), rfl, by decide +kernel⟩, ox21_45⟩
def x21_39 : List sx_E := (.invokevirtual 133, 39, 42, [22, 2, 0, 0, 1], .null) :: x21_42
theorem ox21_39 : sx_oks 21 x21_39 := ⟨sx_q_V (w := (RX1, TX1, 11)) (sx_dd bb_21 dX1_setUp_39) oo_21 lk_StrawGarrison_Border_133_V ft_22_h (Nat.le_of_ble_eq_true rfl) rfl rfl, ox21_42⟩
def x21_38 : List sx_E := (.iaload, 38, 39, [], .null) :: x21_39
theorem ox21_38 : sx_oks 21 x21_38 := ⟨⟨(sx_dd bb_21 dX1_setUp_38), rfl⟩, ox21_39⟩
def x21_37 : List sx_E := (.iload 1, 37, 38, [], .null) :: x21_38
theorem ox21_37 : sx_oks 21 x21_37 := ⟨Or.inr ⟨_, (sx_dd bb_21 dX1_setUp_37), rfl, rfl⟩, ox21_38⟩
def x21_34 : List sx_E := (.getfield 19, 34, 37, [1, 3, 1], .null) :: x21_37
theorem ox21_34 : sx_oks 21 x21_34 := ⟨sx_q_get (w := (RX1, TX1, 11)) (sx_dd bb_21 dX1_setUp_34) rfl rfl (Nat.le_of_ble_eq_true rfl) cu_1 (sx_ow3 oo_21 fl_StrawGarrison_Border_19) (by decide +kernel), ox21_37⟩
def x21_33 : List sx_E := (.aload 0, 33, 34, [], .null) :: x21_34
theorem ox21_33 : sx_oks 21 x21_33 := ⟨Or.inr ⟨_, (sx_dd bb_21 dX1_setUp_33), rfl, rfl⟩, ox21_34⟩
def x21_32 : List sx_E := (.aload 0, 32, 33, [], .null) :: x21_33
theorem ox21_32 : sx_oks 21 x21_32 := ⟨Or.inr ⟨_, (sx_dd bb_21 dX1_setUp_32), rfl, rfl⟩, ox21_33⟩
def x21_29 : List sx_E := (.ifCond .eq (13), 29, 32, [42], .null) :: x21_32
theorem ox21_29 : sx_oks 21 x21_29 := ⟨⟨(sx_dd bb_21 dX1_setUp_29), rfl, sx_t1 (by decide +kernel)⟩, ox21_32⟩
def x21_26 : List sx_E := (.invokestatic 102, 26, 29, [26, 1, 0, 0], .null) :: x21_29
theorem ox21_26 : sx_oks 21 x21_26 := ⟨sx_q_S (sx_dd bb_21 dX1_setUp_26) oo_21 lk_StrawGarrison_Border_102_S ft_26_h, ox21_29⟩
def x21_25 : List sx_E := (.iaload, 25, 26, [], .null) :: x21_26
theorem ox21_25 : sx_oks 21 x21_25 := ⟨⟨(sx_dd bb_21 dX1_setUp_25), rfl⟩, ox21_26⟩
def x21_24 : List sx_E := (.iload 1, 24, 25, [], .null) :: x21_25
theorem ox21_24 : sx_oks 21 x21_24 := ⟨Or.inr ⟨_, (sx_dd bb_21 dX1_setUp_24), rfl, rfl⟩, ox21_25⟩
def x21_21 : List sx_E := (.getfield 15, 21, 24, [1, 2, 1], .null) :: x21_24
theorem ox21_21 : sx_oks 21 x21_21 := ⟨sx_q_get (w := (RX1, TX1, 11)) (sx_dd bb_21 dX1_setUp_21) rfl rfl (Nat.le_of_ble_eq_true rfl) cu_1 (sx_ow3 oo_21 fl_StrawGarrison_Border_15) (by decide +kernel), ox21_24⟩
def x21_20 : List sx_E := (.aload 0, 20, 21, [], .null) :: x21_21
theorem ox21_20 : sx_oks 21 x21_20 := ⟨Or.inr ⟨_, (sx_dd bb_21 dX1_setUp_20), rfl, rfl⟩, ox21_21⟩
def x21_17 : List sx_E := (.if_icmp .ne (25), 17, 20, [42], .null) :: x21_20
theorem ox21_17 : sx_oks 21 x21_17 := ⟨⟨(sx_dd bb_21 dX1_setUp_17), rfl, sx_t1 (by decide +kernel)⟩, ox21_20⟩
def x21_16 : List sx_E := (.nop, 16, 17, [], .int (nI 1)) :: x21_17
theorem ox21_16 : sx_oks 21 x21_16 := ⟨sx_k_iconst (sx_dd bb_21 dX1_setUp_16) (by decide +kernel), ox21_17⟩
def x21_15 : List sx_E := (.iaload, 15, 16, [], .null) :: x21_16
theorem ox21_15 : sx_oks 21 x21_15 := ⟨⟨(sx_dd bb_21 dX1_setUp_15), rfl⟩, ox21_16⟩
def x21_14 : List sx_E := (.iload 1, 14, 15, [], .null) :: x21_15
theorem ox21_14 : sx_oks 21 x21_14 := ⟨Or.inr ⟨_, (sx_dd bb_21 dX1_setUp_14), rfl, rfl⟩, ox21_15⟩
def x21_11 : List sx_E := (.getfield 28, 11, 14, [1, 6, 1], .null) :: x21_14
theorem ox21_11 : sx_oks 21 x21_11 := ⟨sx_q_get (w := (RX1, TX1, 11)) (sx_dd bb_21 dX1_setUp_11) rfl rfl (Nat.le_of_ble_eq_true rfl) cu_1 (sx_ow3 oo_21 fl_StrawGarrison_Border_28) (by decide +kernel), ox21_14⟩
def x21_10 : List sx_E := (.aload 0, 10, 11, [], .null) :: x21_11
theorem ox21_10 : sx_oks 21 x21_10 := ⟨Or.inr ⟨_, (sx_dd bb_21 dX1_setUp_10), rfl, rfl⟩, ox21_11⟩
def x21_7 : List sx_E := (.if_icmp .ge (41), 7, 10, [48], .null) :: x21_10
theorem ox21_7 : sx_oks 21 x21_7 := ⟨⟨(sx_dd bb_21 dX1_setUp_7), rfl, sx_t1 (by decide +kernel)⟩, ox21_10⟩
def x21_4 : List sx_E := (.getfield 9, 4, 7, [1, 1, 0], .null) :: x21_7
theorem ox21_4 : sx_oks 21 x21_4 := ⟨sx_q_get (w := (RX1, TX1, 11)) (sx_dd bb_21 dX1_setUp_4) rfl rfl (Nat.le_of_ble_eq_true rfl) cu_1 (sx_ow3 oo_21 fl_StrawGarrison_Border_9) (by decide +kernel), ox21_7⟩
def x21_3 : List sx_E := (.aload 0, 3, 4, [], .null) :: x21_4
theorem ox21_3 : sx_oks 21 x21_3 := ⟨Or.inr ⟨_, (sx_dd bb_21 dX1_setUp_3), rfl, rfl⟩, ox21_4⟩
def x21_2 : List sx_E := (.iload 1, 2, 3, [], .null) :: x21_3
theorem ox21_2 : sx_oks 21 x21_2 := ⟨Or.inr ⟨_, (sx_dd bb_21 dX1_setUp_2), rfl, rfl⟩, ox21_3⟩
def x21_2h : List sx_E := (.monitorenter, 2, 2, [0, 1], .null) :: x21_2
theorem ox21_2h : sx_oks 21 x21_2h := ⟨trivial, ox21_2⟩
def x21_1 : List sx_E := (.istore 1, 1, 2, [], .null) :: x21_2h
theorem ox21_1 : sx_oks 21 x21_1 := ⟨⟨sx_lt mm_21 (Nat.le_of_ble_eq_true rfl), Or.inr ⟨_, (sx_dd bb_21 dX1_setUp_1), rfl, rfl⟩⟩, ox21_2h⟩
def x21_0 : List sx_E := (.nop, 0, 1, [], .int (nI 0)) :: x21_1
theorem ox21_0 : sx_oks 21 x21_0 := ⟨sx_k_iconst (sx_dd bb_21 dX1_setUp_0) (by decide +kernel), ox21_1⟩
theorem m21 : sx_mok 21 x21_0 := ⟨ox21_0, by decide +kernel⟩
theorem bb_22 : sx_by 22 = cX1_setUpFirstNear := rfl
theorem oo_22 : (sx_nm 22).cls = "StrawGarrison$Border" := rfl
theorem mm_22 : sx_ml 22 = 3 := rfl
theorem rr_22 : sx_rt 22 = none := rfl
def x22_42 : List sx_E := (.return_, 42, 43, [], .null) :: []
theorem ox22_42 : sx_oks 22 x22_42 := ⟨⟨(sx_dd bb_22 dX1_setUpFirstNear_42), rr_22⟩, trivial⟩
def x22_39 : List sx_E := (.goto (-37), 39, 42, [2], .null) :: x22_42
theorem ox22_39 : sx_oks 22 x22_39 := ⟨⟨(sx_dd bb_22 dX1_setUpFirstNear_39), sx_t1 (by decide +kernel)⟩, ox22_42⟩
def x22_36 : List sx_E := (.iinc 2 (1), 36, 39, [], .int (nI 1)) :: x22_39
theorem ox22_36 : sx_oks 22 x22_36 := ⟨⟨sx_lt mm_22 (Nat.le_of_ble_eq_true rfl), (sx_dd bb_22 dX1_setUpFirstNear_36), rfl, by decide +kernel⟩, ox22_39⟩
def x22_35 : List sx_E := (.return_, 35, 36, [], .null) :: x22_36
theorem ox22_35 : sx_oks 22 x22_35 := ⟨⟨(sx_dd bb_22 dX1_setUpFirstNear_35), rr_22⟩, ox22_36⟩
def x22_34 : List sx_E := (.iastore, 34, 35, [], .null) :: x22_35
theorem ox22_34 : sx_oks 22 x22_34 := ⟨⟨(sx_dd bb_22 dX1_setUpFirstNear_34), rfl⟩, ox22_35⟩
def x22_33 : List sx_E := (.nop, 33, 34, [], .int (nI 1)) :: x22_34
theorem ox22_33 : sx_oks 22 x22_33 := ⟨sx_k_iconst (sx_dd bb_22 dX1_setUpFirstNear_33) (by decide +kernel), ox22_34⟩
def x22_32 : List sx_E := (.iload 2, 32, 33, [], .null) :: x22_33
theorem ox22_32 : sx_oks 22 x22_32 := ⟨Or.inr ⟨_, (sx_dd bb_22 dX1_setUpFirstNear_32), rfl, rfl⟩, ox22_33⟩
def x22_29 : List sx_E := (.getfield 28, 29, 32, [1, 6, 1], .null) :: x22_32
theorem ox22_29 : sx_oks 22 x22_29 := ⟨sx_q_get (w := (RX1, TX1, 11)) (sx_dd bb_22 dX1_setUpFirstNear_29) rfl rfl (Nat.le_of_ble_eq_true rfl) cu_1 (sx_ow3 oo_22 fl_StrawGarrison_Border_28) (by decide +kernel), ox22_32⟩
def x22_28 : List sx_E := (.aload 0, 28, 29, [], .null) :: x22_29
theorem ox22_28 : sx_oks 22 x22_28 := ⟨Or.inr ⟨_, (sx_dd bb_22 dX1_setUpFirstNear_28), rfl, rfl⟩, ox22_29⟩
def x22_25 : List sx_E := (.ifCond .eq (11), 25, 28, [36], .null) :: x22_28
theorem ox22_25 : sx_oks 22 x22_25 := ⟨⟨(sx_dd bb_22 dX1_setUpFirstNear_25), rfl, sx_t1 (by decide +kernel)⟩, ox22_28⟩
def x22_22 : List sx_E := (.invokevirtual 106, 22, 25, [12, 3, 0, 0, 1], .null) :: x22_25
theorem ox22_22 : sx_oks 22 x22_22 := ⟨sx_q_V (w := (RX1, TX1, 11)) (sx_dd bb_22 dX1_setUpFirstNear_22) oo_22 lk_StrawGarrison_Border_106_V ft_12_h (Nat.le_of_ble_eq_true rfl) rfl rfl, ox22_25⟩
def x22_21 : List sx_E := (.iload 1, 21, 22, [], .null) :: x22_22
theorem ox22_21 : sx_oks 22 x22_21 := ⟨Or.inr ⟨_, (sx_dd bb_22 dX1_setUpFirstNear_21), rfl, rfl⟩, ox22_22⟩
def x22_20 : List sx_E := (.iload 2, 20, 21, [], .null) :: x22_21
theorem ox22_20 : sx_oks 22 x22_20 := ⟨Or.inr ⟨_, (sx_dd bb_22 dX1_setUpFirstNear_20), rfl, rfl⟩, ox22_21⟩
def x22_19 : List sx_E := (.aload 0, 19, 20, [], .null) :: x22_20
theorem ox22_19 : sx_oks 22 x22_19 := ⟨Or.inr ⟨_, (sx_dd bb_22 dX1_setUpFirstNear_19), rfl, rfl⟩, ox22_20⟩
def x22_16 : List sx_E := (.ifCond .ne (20), 16, 19, [36], .null) :: x22_19
theorem ox22_16 : sx_oks 22 x22_16 := ⟨⟨(sx_dd bb_22 dX1_setUpFirstNear_16), rfl, sx_t1 (by decide +kernel)⟩, ox22_19⟩
def x22_15 : List sx_E := (.iaload, 15, 16, [], .null) :: x22_16
theorem ox22_15 : sx_oks 22 x22_15 := ⟨⟨(sx_dd bb_22 dX1_setUpFirstNear_15), rfl⟩, ox22_16⟩
def x22_14 : List sx_E := (.iload 2, 14, 15, [], .null) :: x22_15
theorem ox22_14 : sx_oks 22 x22_14 := ⟨Or.inr ⟨_, (sx_dd bb_22 dX1_setUpFirstNear_14), rfl, rfl⟩, ox22_15⟩
def x22_11 : List sx_E := (.getfield 28, 11, 14, [1, 6, 1], .null) :: x22_14
theorem ox22_11 : sx_oks 22 x22_11 := ⟨sx_q_get (w := (RX1, TX1, 11)) (sx_dd bb_22 dX1_setUpFirstNear_11) rfl rfl (Nat.le_of_ble_eq_true rfl) cu_1 (sx_ow3 oo_22 fl_StrawGarrison_Border_28) (by decide +kernel), ox22_14⟩
def x22_10 : List sx_E := (.aload 0, 10, 11, [], .null) :: x22_11
theorem ox22_10 : sx_oks 22 x22_10 := ⟨Or.inr ⟨_, (sx_dd bb_22 dX1_setUpFirstNear_10), rfl, rfl⟩, ox22_11⟩
def x22_7 : List sx_E := (.if_icmp .ge (35), 7, 10, [42], .null) :: x22_10
theorem ox22_7 : sx_oks 22 x22_7 := ⟨⟨(sx_dd bb_22 dX1_setUpFirstNear_7), rfl, sx_t1 (by decide +kernel)⟩, ox22_10⟩
def x22_4 : List sx_E := (.getfield 9, 4, 7, [1, 1, 0], .null) :: x22_7
theorem ox22_4 : sx_oks 22 x22_4 := ⟨sx_q_get (w := (RX1, TX1, 11)) (sx_dd bb_22 dX1_setUpFirstNear_4) rfl rfl (Nat.le_of_ble_eq_true rfl) cu_1 (sx_ow3 oo_22 fl_StrawGarrison_Border_9) (by decide +kernel), ox22_7⟩
def x22_3 : List sx_E := (.aload 0, 3, 4, [], .null) :: x22_4
theorem ox22_3 : sx_oks 22 x22_3 := ⟨Or.inr ⟨_, (sx_dd bb_22 dX1_setUpFirstNear_3), rfl, rfl⟩, ox22_4⟩
def x22_2 : List sx_E := (.iload 2, 2, 3, [], .null) :: x22_3
theorem ox22_2 : sx_oks 22 x22_2 := ⟨Or.inr ⟨_, (sx_dd bb_22 dX1_setUpFirstNear_2), rfl, rfl⟩, ox22_3⟩
def x22_2h : List sx_E := (.monitorenter, 2, 2, [0, 1, 2], .null) :: x22_2
theorem ox22_2h : sx_oks 22 x22_2h := ⟨trivial, ox22_2⟩
def x22_1 : List sx_E := (.istore 2, 1, 2, [], .null) :: x22_2h
theorem ox22_1 : sx_oks 22 x22_1 := ⟨⟨sx_lt mm_22 (Nat.le_of_ble_eq_true rfl), Or.inr ⟨_, (sx_dd bb_22 dX1_setUpFirstNear_1), rfl, rfl⟩⟩, ox22_2h⟩
def x22_0 : List sx_E := (.nop, 0, 1, [], .int (nI 0)) :: x22_1
theorem ox22_0 : sx_oks 22 x22_0 := ⟨sx_k_iconst (sx_dd bb_22 dX1_setUpFirstNear_0) (by decide +kernel), ox22_1⟩
theorem m22 : sx_mok 22 x22_0 := ⟨ox22_0, by decide +kernel⟩
theorem bb_23 : sx_by 23 = cX1_watch := rfl
theorem oo_23 : (sx_nm 23).cls = "StrawGarrison$Border" := rfl
theorem mm_23 : sx_ml 23 = 4 := rfl
theorem rr_23 : sx_rt 23 = none := rfl
def x23_74 : List sx_E := (.return_, 74, 75, [], .null) :: []
theorem ox23_74 : sx_oks 23 x23_74 := ⟨⟨(sx_dd bb_23 dX1_watch_74), rr_23⟩, trivial⟩
def x23_71 : List sx_E := (.goto (-69), 71, 74, [2], .null) :: x23_74
theorem ox23_71 : sx_oks 23 x23_71 := ⟨⟨(sx_dd bb_23 dX1_watch_71), sx_t1 (by decide +kernel)⟩, ox23_74⟩
def x23_68 : List sx_E := (.iinc 2 (1), 68, 71, [], .int (nI 1)) :: x23_71
theorem ox23_68 : sx_oks 23 x23_68 := ⟨⟨sx_lt mm_23 (Nat.le_of_ble_eq_true rfl), (sx_dd bb_23 dX1_watch_68), rfl, by decide +kernel⟩, ox23_71⟩
def x23_67 : List sx_E := (.iastore, 67, 68, [], .null) :: x23_68
theorem ox23_67 : sx_oks 23 x23_67 := ⟨⟨(sx_dd bb_23 dX1_watch_67), rfl⟩, ox23_68⟩
def x23_64 : List sx_E := (.invokestatic 90, 64, 67, [107, 1, 0, 0], .null) :: x23_67
theorem ox23_64 : sx_oks 23 x23_64 := ⟨sx_q_S (sx_dd bb_23 dX1_watch_64) oo_23 lk_StrawGarrison_Border_90_S ft_107_h, ox23_67⟩
def x23_63 : List sx_E := (.iadd, 63, 64, [], .null) :: x23_64
theorem ox23_63 : sx_oks 23 x23_63 := ⟨⟨(sx_dd bb_23 dX1_watch_63), rfl⟩, ox23_64⟩
def x23_62 : List sx_E := (.iload 3, 62, 63, [], .null) :: x23_63
theorem ox23_62 : sx_oks 23 x23_62 := ⟨Or.inr ⟨_, (sx_dd bb_23 dX1_watch_62), rfl, rfl⟩, ox23_63⟩
def x23_61 : List sx_E := (.iaload, 61, 62, [], .null) :: x23_62
theorem ox23_61 : sx_oks 23 x23_61 := ⟨⟨(sx_dd bb_23 dX1_watch_61), rfl⟩, ox23_62⟩
def x23_60 : List sx_E := (.iload 2, 60, 61, [], .null) :: x23_61
theorem ox23_60 : sx_oks 23 x23_60 := ⟨Or.inr ⟨_, (sx_dd bb_23 dX1_watch_60), rfl, rfl⟩, ox23_61⟩
def x23_57 : List sx_E := (.getfield 25, 57, 60, [1, 5, 1], .null) :: x23_60
theorem ox23_57 : sx_oks 23 x23_57 := ⟨sx_q_get (w := (RX1, TX1, 11)) (sx_dd bb_23 dX1_watch_57) rfl rfl (Nat.le_of_ble_eq_true rfl) cu_1 (sx_ow3 oo_23 fl_StrawGarrison_Border_25) (by decide +kernel), ox23_60⟩
def x23_56 : List sx_E := (.aload 0, 56, 57, [], .null) :: x23_57
theorem ox23_56 : sx_oks 23 x23_56 := ⟨Or.inr ⟨_, (sx_dd bb_23 dX1_watch_56), rfl, rfl⟩, ox23_57⟩
def x23_55 : List sx_E := (.iload 2, 55, 56, [], .null) :: x23_56
theorem ox23_55 : sx_oks 23 x23_55 := ⟨Or.inr ⟨_, (sx_dd bb_23 dX1_watch_55), rfl, rfl⟩, ox23_56⟩
def x23_52 : List sx_E := (.getfield 25, 52, 55, [1, 5, 1], .null) :: x23_55
theorem ox23_52 : sx_oks 23 x23_52 := ⟨sx_q_get (w := (RX1, TX1, 11)) (sx_dd bb_23 dX1_watch_52) rfl rfl (Nat.le_of_ble_eq_true rfl) cu_1 (sx_ow3 oo_23 fl_StrawGarrison_Border_25) (by decide +kernel), ox23_55⟩
def x23_51 : List sx_E := (.aload 0, 51, 52, [], .null) :: x23_52
theorem ox23_51 : sx_oks 23 x23_51 := ⟨Or.inr ⟨_, (sx_dd bb_23 dX1_watch_51), rfl, rfl⟩, ox23_52⟩
def x23_51h : List sx_E := (.monitorenter, 51, 51, [0, 1, 2, 3], .null) :: x23_51
theorem ox23_51h : sx_oks 23 x23_51h := ⟨trivial, ox23_51⟩
def x23_50 : List sx_E := (.istore 3, 50, 51, [], .null) :: x23_51h
theorem ox23_50 : sx_oks 23 x23_50 := ⟨⟨sx_lt mm_23 (Nat.le_of_ble_eq_true rfl), Or.inr ⟨_, (sx_dd bb_23 dX1_watch_50), rfl, rfl⟩⟩, ox23_51h⟩
def x23_48 : List sx_E := (.nop, 48, 50, [], .int ((-3))) :: x23_50
theorem ox23_48 : sx_oks 23 x23_48 := ⟨sx_k_bipush (sx_dd bb_23 dX1_watch_48) (by decide +kernel), ox23_50⟩
def x23_45 : List sx_E := (.goto (5), 45, 48, [50], .null) :: x23_48
theorem ox23_45 : sx_oks 23 x23_45 := ⟨⟨(sx_dd bb_23 dX1_watch_45), sx_t1 (by decide +kernel)⟩, ox23_48⟩
def x23_43 : List sx_E := (.nop, 43, 45, [], .int (nI 9)) :: x23_45
theorem ox23_43 : sx_oks 23 x23_43 := ⟨sx_k_bipush (sx_dd bb_23 dX1_watch_43) (by decide +kernel), ox23_45⟩
def x23_40 : List sx_E := (.if_icmp .ge (8), 40, 43, [48], .null) :: x23_43
theorem ox23_40 : sx_oks 23 x23_40 := ⟨⟨(sx_dd bb_23 dX1_watch_40), rfl, sx_t1 (by decide +kernel)⟩, ox23_43⟩
def x23_38 : List sx_E := (.nop, 38, 40, [], .int (nI 40)) :: x23_40
theorem ox23_38 : sx_oks 23 x23_38 := ⟨sx_k_bipush (sx_dd bb_23 dX1_watch_38) (by decide +kernel), ox23_40⟩
def x23_35 : List sx_E := (.invokevirtual 96, 35, 38, [13, 2, 0, 0, 1], .null) :: x23_38
theorem ox23_35 : sx_oks 23 x23_35 := ⟨sx_q_V (w := (RX1, TX1, 11)) (sx_dd bb_23 dX1_watch_35) oo_23 lk_StrawGarrison_Border_96_V ft_13_h (Nat.le_of_ble_eq_true rfl) rfl rfl, ox23_38⟩
def x23_34 : List sx_E := (.iload 2, 34, 35, [], .null) :: x23_35
theorem ox23_34 : sx_oks 23 x23_34 := ⟨Or.inr ⟨_, (sx_dd bb_23 dX1_watch_34), rfl, rfl⟩, ox23_35⟩
def x23_33 : List sx_E := (.aload 0, 33, 34, [], .null) :: x23_34
theorem ox23_33 : sx_oks 23 x23_33 := ⟨Or.inr ⟨_, (sx_dd bb_23 dX1_watch_33), rfl, rfl⟩, ox23_34⟩
def x23_30 : List sx_E := (.goto (20), 30, 33, [50], .null) :: x23_33
theorem ox23_30 : sx_oks 23 x23_30 := ⟨⟨(sx_dd bb_23 dX1_watch_30), sx_t1 (by decide +kernel)⟩, ox23_33⟩
def x23_28 : List sx_E := (.nop, 28, 30, [], .int (nI 20)) :: x23_30
theorem ox23_28 : sx_oks 23 x23_28 := ⟨sx_k_bipush (sx_dd bb_23 dX1_watch_28) (by decide +kernel), ox23_30⟩
def x23_25 : List sx_E := (.ifCond .ne (8), 25, 28, [33], .null) :: x23_28
theorem ox23_25 : sx_oks 23 x23_25 := ⟨⟨(sx_dd bb_23 dX1_watch_25), rfl, sx_t1 (by decide +kernel)⟩, ox23_28⟩
def x23_24 : List sx_E := (.iaload, 24, 25, [], .null) :: x23_25
theorem ox23_24 : sx_oks 23 x23_24 := ⟨⟨(sx_dd bb_23 dX1_watch_24), rfl⟩, ox23_25⟩
def x23_23 : List sx_E := (.iload 2, 23, 24, [], .null) :: x23_24
theorem ox23_23 : sx_oks 23 x23_23 := ⟨Or.inr ⟨_, (sx_dd bb_23 dX1_watch_23), rfl, rfl⟩, ox23_24⟩
def x23_20 : List sx_E := (.getfield 28, 20, 23, [1, 6, 1], .null) :: x23_23
theorem ox23_20 : sx_oks 23 x23_20 := ⟨sx_q_get (w := (RX1, TX1, 11)) (sx_dd bb_23 dX1_watch_20) rfl rfl (Nat.le_of_ble_eq_true rfl) cu_1 (sx_ow3 oo_23 fl_StrawGarrison_Border_28) (by decide +kernel), ox23_23⟩
def x23_19 : List sx_E := (.aload 0, 19, 20, [], .null) :: x23_20
theorem ox23_19 : sx_oks 23 x23_19 := ⟨Or.inr ⟨_, (sx_dd bb_23 dX1_watch_19), rfl, rfl⟩, ox23_20⟩
def x23_16 : List sx_E := (.ifCond .eq (52), 16, 19, [68], .null) :: x23_19
theorem ox23_16 : sx_oks 23 x23_16 := ⟨⟨(sx_dd bb_23 dX1_watch_16), rfl, sx_t1 (by decide +kernel)⟩, ox23_19⟩
def x23_13 : List sx_E := (.invokevirtual 136, 13, 16, [11, 3, 0, 0, 1], .null) :: x23_16
theorem ox23_13 : sx_oks 23 x23_13 := ⟨sx_q_V (w := (RX1, TX1, 11)) (sx_dd bb_23 dX1_watch_13) oo_23 lk_StrawGarrison_Border_136_V ft_11_h (Nat.le_of_ble_eq_true rfl) rfl rfl, ox23_16⟩
def x23_12 : List sx_E := (.iload 1, 12, 13, [], .null) :: x23_13
theorem ox23_12 : sx_oks 23 x23_12 := ⟨Or.inr ⟨_, (sx_dd bb_23 dX1_watch_12), rfl, rfl⟩, ox23_13⟩
def x23_11 : List sx_E := (.iload 2, 11, 12, [], .null) :: x23_12
theorem ox23_11 : sx_oks 23 x23_11 := ⟨Or.inr ⟨_, (sx_dd bb_23 dX1_watch_11), rfl, rfl⟩, ox23_12⟩
def x23_10 : List sx_E := (.aload 0, 10, 11, [], .null) :: x23_11
theorem ox23_10 : sx_oks 23 x23_10 := ⟨Or.inr ⟨_, (sx_dd bb_23 dX1_watch_10), rfl, rfl⟩, ox23_11⟩
def x23_7 : List sx_E := (.if_icmp .ge (67), 7, 10, [74], .null) :: x23_10
theorem ox23_7 : sx_oks 23 x23_7 := ⟨⟨(sx_dd bb_23 dX1_watch_7), rfl, sx_t1 (by decide +kernel)⟩, ox23_10⟩
def x23_4 : List sx_E := (.getfield 9, 4, 7, [1, 1, 0], .null) :: x23_7
theorem ox23_4 : sx_oks 23 x23_4 := ⟨sx_q_get (w := (RX1, TX1, 11)) (sx_dd bb_23 dX1_watch_4) rfl rfl (Nat.le_of_ble_eq_true rfl) cu_1 (sx_ow3 oo_23 fl_StrawGarrison_Border_9) (by decide +kernel), ox23_7⟩
def x23_3 : List sx_E := (.aload 0, 3, 4, [], .null) :: x23_4
theorem ox23_3 : sx_oks 23 x23_3 := ⟨Or.inr ⟨_, (sx_dd bb_23 dX1_watch_3), rfl, rfl⟩, ox23_4⟩
def x23_2 : List sx_E := (.iload 2, 2, 3, [], .null) :: x23_3
theorem ox23_2 : sx_oks 23 x23_2 := ⟨Or.inr ⟨_, (sx_dd bb_23 dX1_watch_2), rfl, rfl⟩, ox23_3⟩
def x23_2h : List sx_E := (.monitorenter, 2, 2, [0, 1, 2], .null) :: x23_2
theorem ox23_2h : sx_oks 23 x23_2h := ⟨trivial, ox23_2⟩
def x23_1 : List sx_E := (.istore 2, 1, 2, [], .null) :: x23_2h
theorem ox23_1 : sx_oks 23 x23_1 := ⟨⟨sx_lt mm_23 (Nat.le_of_ble_eq_true rfl), Or.inr ⟨_, (sx_dd bb_23 dX1_watch_1), rfl, rfl⟩⟩, ox23_2h⟩
def x23_0 : List sx_E := (.nop, 0, 1, [], .int (nI 0)) :: x23_1
theorem ox23_0 : sx_oks 23 x23_0 := ⟨sx_k_iconst (sx_dd bb_23 dX1_watch_0) (by decide +kernel), ox23_1⟩
theorem m23 : sx_mok 23 x23_0 := ⟨ox23_0, by decide +kernel⟩
theorem bb_24 : sx_by 24 = cX1_wet := rfl
theorem oo_24 : (sx_nm 24).cls = "StrawGarrison$Border" := rfl
theorem mm_24 : sx_ml 24 = 2 := rfl
theorem rr_24 : sx_rt 24 = none := rfl
def x24_45 : List sx_E := (.return_, 45, 46, [], .null) :: []
theorem ox24_45 : sx_oks 24 x24_45 := ⟨⟨(sx_dd bb_24 dX1_wet_45), rr_24⟩, trivial⟩
def x24_42 : List sx_E := (.goto (-40), 42, 45, [2], .null) :: x24_45
theorem ox24_42 : sx_oks 24 x24_42 := ⟨⟨(sx_dd bb_24 dX1_wet_42), sx_t1 (by decide +kernel)⟩, ox24_45⟩
def x24_39 : List sx_E := (.iinc 1 (1), 39, 42, [], .int (nI 1)) :: x24_42
theorem ox24_39 : sx_oks 24 x24_39 := ⟨⟨sx_lt mm_24 (Nat.le_of_ble_eq_true rfl), (sx_dd bb_24 dX1_wet_39), rfl, by decide +kernel⟩, ox24_42⟩
def x24_38 : List sx_E := (.iastore, 38, 39, [], .null) :: x24_39
theorem ox24_38 : sx_oks 24 x24_38 := ⟨⟨(sx_dd bb_24 dX1_wet_38), rfl⟩, ox24_39⟩
def x24_35 : List sx_E := (.invokestatic 90, 35, 38, [107, 1, 0, 0], .null) :: x24_38
theorem ox24_35 : sx_oks 24 x24_35 := ⟨sx_q_S (sx_dd bb_24 dX1_wet_35) oo_24 lk_StrawGarrison_Border_90_S ft_107_h, ox24_38⟩
def x24_34 : List sx_E := (.iadd, 34, 35, [], .null) :: x24_35
theorem ox24_34 : sx_oks 24 x24_34 := ⟨⟨(sx_dd bb_24 dX1_wet_34), rfl⟩, ox24_35⟩
def x24_33 : List sx_E := (.nop, 33, 34, [], .int (nI 3)) :: x24_34
theorem ox24_33 : sx_oks 24 x24_33 := ⟨sx_k_iconst (sx_dd bb_24 dX1_wet_33) (by decide +kernel), ox24_34⟩
def x24_32 : List sx_E := (.iaload, 32, 33, [], .null) :: x24_33
theorem ox24_32 : sx_oks 24 x24_32 := ⟨⟨(sx_dd bb_24 dX1_wet_32), rfl⟩, ox24_33⟩
def x24_31 : List sx_E := (.iload 1, 31, 32, [], .null) :: x24_32
theorem ox24_31 : sx_oks 24 x24_31 := ⟨Or.inr ⟨_, (sx_dd bb_24 dX1_wet_31), rfl, rfl⟩, ox24_32⟩
def x24_28 : List sx_E := (.getfield 22, 28, 31, [1, 4, 1], .null) :: x24_31
theorem ox24_28 : sx_oks 24 x24_28 := ⟨sx_q_get (w := (RX1, TX1, 11)) (sx_dd bb_24 dX1_wet_28) rfl rfl (Nat.le_of_ble_eq_true rfl) cu_1 (sx_ow3 oo_24 fl_StrawGarrison_Border_22) (by decide +kernel), ox24_31⟩
def x24_27 : List sx_E := (.aload 0, 27, 28, [], .null) :: x24_28
theorem ox24_27 : sx_oks 24 x24_27 := ⟨Or.inr ⟨_, (sx_dd bb_24 dX1_wet_27), rfl, rfl⟩, ox24_28⟩
def x24_26 : List sx_E := (.iload 1, 26, 27, [], .null) :: x24_27
theorem ox24_26 : sx_oks 24 x24_26 := ⟨Or.inr ⟨_, (sx_dd bb_24 dX1_wet_26), rfl, rfl⟩, ox24_27⟩
def x24_23 : List sx_E := (.getfield 22, 23, 26, [1, 4, 1], .null) :: x24_26
theorem ox24_23 : sx_oks 24 x24_23 := ⟨sx_q_get (w := (RX1, TX1, 11)) (sx_dd bb_24 dX1_wet_23) rfl rfl (Nat.le_of_ble_eq_true rfl) cu_1 (sx_ow3 oo_24 fl_StrawGarrison_Border_22) (by decide +kernel), ox24_26⟩
def x24_22 : List sx_E := (.aload 0, 22, 23, [], .null) :: x24_23
theorem ox24_22 : sx_oks 24 x24_22 := ⟨Or.inr ⟨_, (sx_dd bb_24 dX1_wet_22), rfl, rfl⟩, ox24_23⟩
def x24_19 : List sx_E := (.ifCond .ne (20), 19, 22, [39], .null) :: x24_22
theorem ox24_19 : sx_oks 24 x24_19 := ⟨⟨(sx_dd bb_24 dX1_wet_19), rfl, sx_t1 (by decide +kernel)⟩, ox24_22⟩
def x24_16 : List sx_E := (.invokestatic 102, 16, 19, [26, 1, 0, 0], .null) :: x24_19
theorem ox24_16 : sx_oks 24 x24_16 := ⟨sx_q_S (sx_dd bb_24 dX1_wet_16) oo_24 lk_StrawGarrison_Border_102_S ft_26_h, ox24_19⟩
def x24_15 : List sx_E := (.iaload, 15, 16, [], .null) :: x24_16
theorem ox24_15 : sx_oks 24 x24_15 := ⟨⟨(sx_dd bb_24 dX1_wet_15), rfl⟩, ox24_16⟩
def x24_14 : List sx_E := (.iload 1, 14, 15, [], .null) :: x24_15
theorem ox24_14 : sx_oks 24 x24_14 := ⟨Or.inr ⟨_, (sx_dd bb_24 dX1_wet_14), rfl, rfl⟩, ox24_15⟩
def x24_11 : List sx_E := (.getfield 15, 11, 14, [1, 2, 1], .null) :: x24_14
theorem ox24_11 : sx_oks 24 x24_11 := ⟨sx_q_get (w := (RX1, TX1, 11)) (sx_dd bb_24 dX1_wet_11) rfl rfl (Nat.le_of_ble_eq_true rfl) cu_1 (sx_ow3 oo_24 fl_StrawGarrison_Border_15) (by decide +kernel), ox24_14⟩
def x24_10 : List sx_E := (.aload 0, 10, 11, [], .null) :: x24_11
theorem ox24_10 : sx_oks 24 x24_10 := ⟨Or.inr ⟨_, (sx_dd bb_24 dX1_wet_10), rfl, rfl⟩, ox24_11⟩
def x24_7 : List sx_E := (.if_icmp .ge (38), 7, 10, [45], .null) :: x24_10
theorem ox24_7 : sx_oks 24 x24_7 := ⟨⟨(sx_dd bb_24 dX1_wet_7), rfl, sx_t1 (by decide +kernel)⟩, ox24_10⟩
def x24_4 : List sx_E := (.getfield 9, 4, 7, [1, 1, 0], .null) :: x24_7
theorem ox24_4 : sx_oks 24 x24_4 := ⟨sx_q_get (w := (RX1, TX1, 11)) (sx_dd bb_24 dX1_wet_4) rfl rfl (Nat.le_of_ble_eq_true rfl) cu_1 (sx_ow3 oo_24 fl_StrawGarrison_Border_9) (by decide +kernel), ox24_7⟩
def x24_3 : List sx_E := (.aload 0, 3, 4, [], .null) :: x24_4
theorem ox24_3 : sx_oks 24 x24_3 := ⟨Or.inr ⟨_, (sx_dd bb_24 dX1_wet_3), rfl, rfl⟩, ox24_4⟩
def x24_2 : List sx_E := (.iload 1, 2, 3, [], .null) :: x24_3
theorem ox24_2 : sx_oks 24 x24_2 := ⟨Or.inr ⟨_, (sx_dd bb_24 dX1_wet_2), rfl, rfl⟩, ox24_3⟩
def x24_2h : List sx_E := (.monitorenter, 2, 2, [0, 1], .null) :: x24_2
theorem ox24_2h : sx_oks 24 x24_2h := ⟨trivial, ox24_2⟩
def x24_1 : List sx_E := (.istore 1, 1, 2, [], .null) :: x24_2h
theorem ox24_1 : sx_oks 24 x24_1 := ⟨⟨sx_lt mm_24 (Nat.le_of_ble_eq_true rfl), Or.inr ⟨_, (sx_dd bb_24 dX1_wet_1), rfl, rfl⟩⟩, ox24_2h⟩
def x24_0 : List sx_E := (.nop, 0, 1, [], .int (nI 0)) :: x24_1
theorem ox24_0 : sx_oks 24 x24_0 := ⟨sx_k_iconst (sx_dd bb_24 dX1_wet_0) (by decide +kernel), ox24_1⟩
theorem m24 : sx_mok 24 x24_0 := ⟨ox24_0, by decide +kernel⟩
theorem bb_25 : sx_by 25 = cX2_isUnder := rfl
theorem oo_25 : (sx_nm 25).cls = "StrawGarrison$Kinds" := rfl
theorem mm_25 : sx_ml 25 = 4 := rfl
theorem rr_25 : sx_rt 25 = (some .boolean) := rfl
def x25_40 : List sx_E := (.ireturn, 40, 41, [1], .null) :: []
theorem ox25_40 : sx_oks 25 x25_40 := ⟨sx_q_iret1 (sx_dd bb_25 dX2_isUnder_40) rr_25, trivial⟩
def x25_39 : List sx_E := (.nop, 39, 40, [], .int (nI 0)) :: x25_40
theorem ox25_39 : sx_oks 25 x25_39 := ⟨sx_k_iconst (sx_dd bb_25 dX2_isUnder_39) (by decide +kernel), ox25_40⟩
def x25_36 : List sx_E := (.goto (-32), 36, 39, [4], .null) :: x25_39
theorem ox25_36 : sx_oks 25 x25_36 := ⟨⟨(sx_dd bb_25 dX2_isUnder_36), sx_t1 (by decide +kernel)⟩, ox25_39⟩
def x25_33 : List sx_E := (.iinc 3 (1), 33, 36, [], .int (nI 1)) :: x25_36
theorem ox25_33 : sx_oks 25 x25_33 := ⟨⟨sx_lt mm_25 (Nat.le_of_ble_eq_true rfl), (sx_dd bb_25 dX2_isUnder_33), rfl, by decide +kernel⟩, ox25_36⟩
def x25_32 : List sx_E := (.istore 2, 32, 33, [], .null) :: x25_33
theorem ox25_32 : sx_oks 25 x25_32 := ⟨⟨sx_lt mm_25 (Nat.le_of_ble_eq_true rfl), Or.inr ⟨_, (sx_dd bb_25 dX2_isUnder_32), rfl, rfl⟩⟩, ox25_33⟩
def x25_31 : List sx_E := (.iaload, 31, 32, [], .null) :: x25_32
theorem ox25_31 : sx_oks 25 x25_31 := ⟨⟨(sx_dd bb_25 dX2_isUnder_31), rfl⟩, ox25_32⟩
def x25_30 : List sx_E := (.iload 2, 30, 31, [], .null) :: x25_31
theorem ox25_30 : sx_oks 25 x25_30 := ⟨Or.inr ⟨_, (sx_dd bb_25 dX2_isUnder_30), rfl, rfl⟩, ox25_31⟩
def x25_27 : List sx_E := (.nop, 27, 30, [], .ref 1) :: x25_30
theorem ox25_27 : sx_oks 25 x25_27 := ⟨sx_k_above (sx_dd bb_25 dX2_isUnder_27) (sx_ow3 oo_25 fs_StrawGarrison_Kinds_11), ox25_30⟩
def x25_26 : List sx_E := (.ireturn, 26, 27, [1], .null) :: x25_27
theorem ox25_26 : sx_oks 25 x25_26 := ⟨sx_q_iret1 (sx_dd bb_25 dX2_isUnder_26) rr_25, ox25_27⟩
def x25_25 : List sx_E := (.nop, 25, 26, [], .int (nI 1)) :: x25_26
theorem ox25_25 : sx_oks 25 x25_25 := ⟨sx_k_iconst (sx_dd bb_25 dX2_isUnder_25) (by decide +kernel), ox25_26⟩
def x25_22 : List sx_E := (.if_icmp .ne (5), 22, 25, [27], .null) :: x25_25
theorem ox25_22 : sx_oks 25 x25_22 := ⟨⟨(sx_dd bb_25 dX2_isUnder_22), rfl, sx_t1 (by decide +kernel)⟩, ox25_25⟩
def x25_21 : List sx_E := (.iload 1, 21, 22, [], .null) :: x25_22
theorem ox25_21 : sx_oks 25 x25_21 := ⟨Or.inr ⟨_, (sx_dd bb_25 dX2_isUnder_21), rfl, rfl⟩, ox25_22⟩
def x25_20 : List sx_E := (.iload 2, 20, 21, [], .null) :: x25_21
theorem ox25_20 : sx_oks 25 x25_20 := ⟨Or.inr ⟨_, (sx_dd bb_25 dX2_isUnder_20), rfl, rfl⟩, ox25_21⟩
def x25_17 : List sx_E := (.if_icmp .ge (22), 17, 20, [39], .null) :: x25_20
theorem ox25_17 : sx_oks 25 x25_17 := ⟨⟨(sx_dd bb_25 dX2_isUnder_17), rfl, sx_t1 (by decide +kernel)⟩, ox25_20⟩
def x25_15 : List sx_E := (.nop, 15, 17, [], .int (nI 6)) :: x25_17
theorem ox25_15 : sx_oks 25 x25_15 := ⟨sx_k_bipush (sx_dd bb_25 dX2_isUnder_15) (by decide +kernel), ox25_17⟩
def x25_14 : List sx_E := (.iload 2, 14, 15, [], .null) :: x25_15
theorem ox25_14 : sx_oks 25 x25_14 := ⟨Or.inr ⟨_, (sx_dd bb_25 dX2_isUnder_14), rfl, rfl⟩, ox25_15⟩
def x25_11 : List sx_E := (.ifCond .lt (28), 11, 14, [39], .null) :: x25_14
theorem ox25_11 : sx_oks 25 x25_11 := ⟨⟨(sx_dd bb_25 dX2_isUnder_11), rfl, sx_t1 (by decide +kernel)⟩, ox25_14⟩
def x25_10 : List sx_E := (.iload 2, 10, 11, [], .null) :: x25_11
theorem ox25_10 : sx_oks 25 x25_10 := ⟨Or.inr ⟨_, (sx_dd bb_25 dX2_isUnder_10), rfl, rfl⟩, ox25_11⟩
def x25_7 : List sx_E := (.if_icmp .ge (32), 7, 10, [39], .null) :: x25_10
theorem ox25_7 : sx_oks 25 x25_7 := ⟨⟨(sx_dd bb_25 dX2_isUnder_7), rfl, sx_t1 (by decide +kernel)⟩, ox25_10⟩
def x25_5 : List sx_E := (.nop, 5, 7, [], .int (nI 6)) :: x25_7
theorem ox25_5 : sx_oks 25 x25_5 := ⟨sx_k_bipush (sx_dd bb_25 dX2_isUnder_5) (by decide +kernel), ox25_7⟩
def x25_4 : List sx_E := (.iload 3, 4, 5, [], .null) :: x25_5
theorem ox25_4 : sx_oks 25 x25_4 := ⟨Or.inr ⟨_, (sx_dd bb_25 dX2_isUnder_4), rfl, rfl⟩, ox25_5⟩
def x25_4h : List sx_E := (.monitorenter, 4, 4, [1, 2, 3], .null) :: x25_4
theorem ox25_4h : sx_oks 25 x25_4h := ⟨trivial, ox25_4⟩
def x25_3 : List sx_E := (.istore 3, 3, 4, [], .null) :: x25_4h
theorem ox25_3 : sx_oks 25 x25_3 := ⟨⟨sx_lt mm_25 (Nat.le_of_ble_eq_true rfl), Or.inr ⟨_, (sx_dd bb_25 dX2_isUnder_3), rfl, rfl⟩⟩, ox25_4h⟩
def x25_2 : List sx_E := (.nop, 2, 3, [], .int (nI 0)) :: x25_3
theorem ox25_2 : sx_oks 25 x25_2 := ⟨sx_k_iconst (sx_dd bb_25 dX2_isUnder_2) (by decide +kernel), ox25_3⟩
def x25_1 : List sx_E := (.istore 2, 1, 2, [], .null) :: x25_2
theorem ox25_1 : sx_oks 25 x25_1 := ⟨⟨sx_lt mm_25 (Nat.le_of_ble_eq_true rfl), Or.inr ⟨_, (sx_dd bb_25 dX2_isUnder_1), rfl, rfl⟩⟩, ox25_2⟩
def x25_0 : List sx_E := (.iload 0, 0, 1, [], .null) :: x25_1
theorem ox25_0 : sx_oks 25 x25_0 := ⟨Or.inr ⟨_, (sx_dd bb_25 dX2_isUnder_0), rfl, rfl⟩, ox25_1⟩
theorem m25 : sx_mok 25 x25_0 := ⟨ox25_0, by decide +kernel⟩
theorem bb_26 : sx_by 26 = cX2_lives := rfl
theorem oo_26 : (sx_nm 26).cls = "StrawGarrison$Kinds" := rfl
theorem mm_26 : sx_ml 26 = 1 := rfl
theorem rr_26 : sx_rt 26 = (some .boolean) := rfl
def x26_15 : List sx_E := (.ireturn, 15, 16, [1], .null) :: []
theorem ox26_15 : sx_oks 26 x26_15 := ⟨sx_q_iret1 (sx_dd bb_26 dX2_lives_15) rr_26, trivial⟩
def x26_14 : List sx_E := (.nop, 14, 15, [], .int (nI 0)) :: x26_15
theorem ox26_14 : sx_oks 26 x26_14 := ⟨sx_k_iconst (sx_dd bb_26 dX2_lives_14) (by decide +kernel), ox26_15⟩
def x26_11 : List sx_E := (.goto (4), 11, 14, [15], .null) :: x26_14
theorem ox26_11 : sx_oks 26 x26_11 := ⟨⟨(sx_dd bb_26 dX2_lives_11), sx_t1 (by decide +kernel)⟩, ox26_14⟩
def x26_10 : List sx_E := (.nop, 10, 11, [], .int (nI 1)) :: x26_11
theorem ox26_10 : sx_oks 26 x26_10 := ⟨sx_k_iconst (sx_dd bb_26 dX2_lives_10) (by decide +kernel), ox26_11⟩
def x26_7 : List sx_E := (.if_icmp .ne (7), 7, 10, [14], .null) :: x26_10
theorem ox26_7 : sx_oks 26 x26_7 := ⟨⟨(sx_dd bb_26 dX2_lives_7), rfl, sx_t1 (by decide +kernel)⟩, ox26_10⟩
def x26_6 : List sx_E := (.nop, 6, 7, [], .int (nI 4)) :: x26_7
theorem ox26_6 : sx_oks 26 x26_6 := ⟨sx_k_iconst (sx_dd bb_26 dX2_lives_6) (by decide +kernel), ox26_7⟩
def x26_5 : List sx_E := (.iload 0, 5, 6, [], .null) :: x26_6
theorem ox26_5 : sx_oks 26 x26_5 := ⟨Or.inr ⟨_, (sx_dd bb_26 dX2_lives_5), rfl, rfl⟩, ox26_6⟩
def x26_2 : List sx_E := (.if_icmp .eq (8), 2, 5, [10], .null) :: x26_5
theorem ox26_2 : sx_oks 26 x26_2 := ⟨⟨(sx_dd bb_26 dX2_lives_2), rfl, sx_t1 (by decide +kernel)⟩, ox26_5⟩
def x26_1 : List sx_E := (.nop, 1, 2, [], .int (nI 2)) :: x26_2
theorem ox26_1 : sx_oks 26 x26_1 := ⟨sx_k_iconst (sx_dd bb_26 dX2_lives_1) (by decide +kernel), ox26_2⟩
def x26_0 : List sx_E := (.iload 0, 0, 1, [], .null) :: x26_1
theorem ox26_0 : sx_oks 26 x26_0 := ⟨Or.inr ⟨_, (sx_dd bb_26 dX2_lives_0), rfl, rfl⟩, ox26_1⟩
theorem m26 : sx_mok 26 x26_0 := ⟨ox26_0, by decide +kernel⟩
theorem bb_27 : sx_by 27 = cX2_looks := rfl
theorem oo_27 : (sx_nm 27).cls = "StrawGarrison$Kinds" := rfl
theorem mm_27 : sx_ml 27 = 3 := rfl
theorem rr_27 : sx_rt 27 = (some .int) := rfl
def x27_68 : List sx_E := (.ireturn, 68, 69, [0], .null) :: []
theorem ox27_68 : sx_oks 27 x27_68 := ⟨sx_q_iret0 (sx_dd bb_27 dX2_looks_68) rr_27, trivial⟩
def x27_67 : List sx_E := (.iload 1, 67, 68, [], .null) :: x27_68
theorem ox27_67 : sx_oks 27 x27_67 := ⟨Or.inr ⟨_, (sx_dd bb_27 dX2_looks_67), rfl, rfl⟩, ox27_68⟩
def x27_66 : List sx_E := (.ireturn, 66, 67, [0], .null) :: x27_67
theorem ox27_66 : sx_oks 27 x27_66 := ⟨sx_q_iret0 (sx_dd bb_27 dX2_looks_66) rr_27, ox27_67⟩
def x27_65 : List sx_E := (.iload 1, 65, 66, [], .null) :: x27_66
theorem ox27_65 : sx_oks 27 x27_65 := ⟨Or.inr ⟨_, (sx_dd bb_27 dX2_looks_65), rfl, rfl⟩, ox27_66⟩
def x27_62 : List sx_E := (.goto (4), 62, 65, [66], .null) :: x27_65
theorem ox27_62 : sx_oks 27 x27_62 := ⟨⟨(sx_dd bb_27 dX2_looks_62), sx_t1 (by decide +kernel)⟩, ox27_65⟩
def x27_61 : List sx_E := (.iadd, 61, 62, [], .null) :: x27_62
theorem ox27_61 : sx_oks 27 x27_61 := ⟨⟨(sx_dd bb_27 dX2_looks_61), rfl⟩, ox27_62⟩
def x27_59 : List sx_E := (.nop, 59, 61, [], .int (nI 20)) :: x27_61
theorem ox27_59 : sx_oks 27 x27_59 := ⟨sx_k_bipush (sx_dd bb_27 dX2_looks_59) (by decide +kernel), ox27_61⟩
def x27_58 : List sx_E := (.iload 1, 58, 59, [], .null) :: x27_59
theorem ox27_58 : sx_oks 27 x27_58 := ⟨Or.inr ⟨_, (sx_dd bb_27 dX2_looks_58), rfl, rfl⟩, ox27_59⟩
def x27_55 : List sx_E := (.if_icmp .ne (10), 55, 58, [65], .null) :: x27_58
theorem ox27_55 : sx_oks 27 x27_55 := ⟨⟨(sx_dd bb_27 dX2_looks_55), rfl, sx_t1 (by decide +kernel)⟩, ox27_58⟩
def x27_54 : List sx_E := (.nop, 54, 55, [], .int (nI 1)) :: x27_55
theorem ox27_54 : sx_oks 27 x27_54 := ⟨sx_k_iconst (sx_dd bb_27 dX2_looks_54) (by decide +kernel), ox27_55⟩
def x27_53 : List sx_E := (.irem, 53, 54, [], .null) :: x27_54
theorem ox27_53 : sx_oks 27 x27_53 := ⟨⟨(sx_dd bb_27 dX2_looks_53), rfl⟩, ox27_54⟩
def x27_52 : List sx_E := (.nop, 52, 53, [], .int (nI 2)) :: x27_53
theorem ox27_52 : sx_oks 27 x27_52 := ⟨sx_k_iconst (sx_dd bb_27 dX2_looks_52) (by decide +kernel), ox27_53⟩
def x27_51 : List sx_E := (.iload 2, 51, 52, [], .null) :: x27_52
theorem ox27_51 : sx_oks 27 x27_51 := ⟨Or.inr ⟨_, (sx_dd bb_27 dX2_looks_51), rfl, rfl⟩, ox27_52⟩
def x27_50 : List sx_E := (.ireturn, 50, 51, [0], .null) :: x27_51
theorem ox27_50 : sx_oks 27 x27_50 := ⟨sx_q_iret0 (sx_dd bb_27 dX2_looks_50) rr_27, ox27_51⟩
def x27_48 : List sx_E := (.nop, 48, 50, [], .int (nI 99)) :: x27_50
theorem ox27_48 : sx_oks 27 x27_48 := ⟨sx_k_bipush (sx_dd bb_27 dX2_looks_48) (by decide +kernel), ox27_50⟩
def x27_47 : List sx_E := (.ireturn, 47, 48, [0], .null) :: x27_48
theorem ox27_47 : sx_oks 27 x27_47 := ⟨sx_q_iret0 (sx_dd bb_27 dX2_looks_47) rr_27, ox27_48⟩
def x27_46 : List sx_E := (.imul, 46, 47, [], .null) :: x27_47
theorem ox27_46 : sx_oks 27 x27_46 := ⟨⟨(sx_dd bb_27 dX2_looks_46), rfl⟩, ox27_47⟩
def x27_45 : List sx_E := (.iadd, 45, 46, [], .null) :: x27_46
theorem ox27_45 : sx_oks 27 x27_45 := ⟨⟨(sx_dd bb_27 dX2_looks_45), rfl⟩, ox27_46⟩
def x27_43 : List sx_E := (.nop, 43, 45, [], .int (nI 12)) :: x27_45
theorem ox27_43 : sx_oks 27 x27_43 := ⟨sx_k_bipush (sx_dd bb_27 dX2_looks_43) (by decide +kernel), ox27_45⟩
def x27_42 : List sx_E := (.iload 1, 42, 43, [], .null) :: x27_43
theorem ox27_42 : sx_oks 27 x27_42 := ⟨Or.inr ⟨_, (sx_dd bb_27 dX2_looks_42), rfl, rfl⟩, ox27_43⟩
def x27_41 : List sx_E := (.nop, 41, 42, [], .int (nI 2)) :: x27_42
theorem ox27_41 : sx_oks 27 x27_41 := ⟨sx_k_iconst (sx_dd bb_27 dX2_looks_41) (by decide +kernel), ox27_42⟩
def x27_40 : List sx_E := (.ireturn, 40, 41, [0], .null) :: x27_41
theorem ox27_40 : sx_oks 27 x27_40 := ⟨sx_q_iret0 (sx_dd bb_27 dX2_looks_40) rr_27, ox27_41⟩
def x27_39 : List sx_E := (.iadd, 39, 40, [], .null) :: x27_40
theorem ox27_39 : sx_oks 27 x27_39 := ⟨⟨(sx_dd bb_27 dX2_looks_39), rfl⟩, ox27_40⟩
def x27_37 : List sx_E := (.nop, 37, 39, [], .int (nI 12)) :: x27_39
theorem ox27_37 : sx_oks 27 x27_37 := ⟨sx_k_bipush (sx_dd bb_27 dX2_looks_37) (by decide +kernel), ox27_39⟩
def x27_36 : List sx_E := (.iload 1, 36, 37, [], .null) :: x27_37
theorem ox27_36 : sx_oks 27 x27_36 := ⟨Or.inr ⟨_, (sx_dd bb_27 dX2_looks_36), rfl, rfl⟩, ox27_37⟩
def x27_1 : List sx_E := (.tableswitch 66 1 5 #[35, 47, 40, 47, 50], 1, 36, [1, 67, 36, 48, 41, 48, 51], .null) :: x27_36
theorem ox27_1 : sx_oks 27 x27_1 := ⟨⟨⟨_, (sx_dd bb_27 dX2_looks_1)⟩, sx_t2 (by decide +kernel) (by decide +kernel) (Nat.le_of_ble_eq_true rfl) (by decide +kernel) (by decide +kernel)⟩, ox27_36⟩
def x27_0 : List sx_E := (.iload 0, 0, 1, [], .null) :: x27_1
theorem ox27_0 : sx_oks 27 x27_0 := ⟨Or.inr ⟨_, (sx_dd bb_27 dX2_looks_0), rfl, rfl⟩, ox27_1⟩
theorem m27 : sx_mok 27 x27_0 := ⟨ox27_0, by decide +kernel⟩
theorem bb_28 : sx_by 28 = cX2_falls := rfl
theorem oo_28 : (sx_nm 28).cls = "StrawGarrison$Kinds" := rfl
theorem mm_28 : sx_ml 28 = 2 := rfl
theorem rr_28 : sx_rt 28 = (some .int) := rfl
def x28_53 : List sx_E := (.ireturn, 53, 54, [0], .null) :: []
theorem ox28_53 : sx_oks 28 x28_53 := ⟨sx_q_iret0 (sx_dd bb_28 dX2_falls_53) rr_28, trivial⟩
def x28_52 : List sx_E := (.idiv, 52, 53, [], .null) :: x28_53
theorem ox28_52 : sx_oks 28 x28_52 := ⟨⟨(sx_dd bb_28 dX2_falls_52), rfl⟩, ox28_53⟩
def x28_51 : List sx_E := (.nop, 51, 52, [], .int (nI 2)) :: x28_52
theorem ox28_51 : sx_oks 28 x28_51 := ⟨sx_k_iconst (sx_dd bb_28 dX2_falls_51) (by decide +kernel), ox28_52⟩
def x28_50 : List sx_E := (.iload 1, 50, 51, [], .null) :: x28_51
theorem ox28_50 : sx_oks 28 x28_50 := ⟨Or.inr ⟨_, (sx_dd bb_28 dX2_falls_50), rfl, rfl⟩, ox28_51⟩
def x28_49 : List sx_E := (.ireturn, 49, 50, [0], .null) :: x28_50
theorem ox28_49 : sx_oks 28 x28_49 := ⟨sx_q_iret0 (sx_dd bb_28 dX2_falls_49) rr_28, ox28_50⟩
def x28_48 : List sx_E := (.imul, 48, 49, [], .null) :: x28_49
theorem ox28_48 : sx_oks 28 x28_48 := ⟨⟨(sx_dd bb_28 dX2_falls_48), rfl⟩, ox28_49⟩
def x28_47 : List sx_E := (.idiv, 47, 48, [], .null) :: x28_48
theorem ox28_47 : sx_oks 28 x28_47 := ⟨⟨(sx_dd bb_28 dX2_falls_47), rfl⟩, ox28_48⟩
def x28_46 : List sx_E := (.nop, 46, 47, [], .int (nI 2)) :: x28_47
theorem ox28_46 : sx_oks 28 x28_46 := ⟨sx_k_iconst (sx_dd bb_28 dX2_falls_46) (by decide +kernel), ox28_47⟩
def x28_45 : List sx_E := (.iload 1, 45, 46, [], .null) :: x28_46
theorem ox28_45 : sx_oks 28 x28_45 := ⟨Or.inr ⟨_, (sx_dd bb_28 dX2_falls_45), rfl, rfl⟩, ox28_46⟩
def x28_44 : List sx_E := (.nop, 44, 45, [], .int (nI 2)) :: x28_45
theorem ox28_44 : sx_oks 28 x28_44 := ⟨sx_k_iconst (sx_dd bb_28 dX2_falls_44) (by decide +kernel), ox28_45⟩
def x28_43 : List sx_E := (.ireturn, 43, 44, [0], .null) :: x28_44
theorem ox28_43 : sx_oks 28 x28_43 := ⟨sx_q_iret0 (sx_dd bb_28 dX2_falls_43) rr_28, ox28_44⟩
def x28_42 : List sx_E := (.nop, 42, 43, [], .int (nI 0)) :: x28_43
theorem ox28_42 : sx_oks 28 x28_42 := ⟨sx_k_iconst (sx_dd bb_28 dX2_falls_42) (by decide +kernel), ox28_43⟩
def x28_41 : List sx_E := (.ireturn, 41, 42, [0], .null) :: x28_42
theorem ox28_41 : sx_oks 28 x28_41 := ⟨sx_q_iret0 (sx_dd bb_28 dX2_falls_41) rr_28, ox28_42⟩
def x28_40 : List sx_E := (.iadd, 40, 41, [], .null) :: x28_41
theorem ox28_40 : sx_oks 28 x28_40 := ⟨⟨(sx_dd bb_28 dX2_falls_40), rfl⟩, ox28_41⟩
def x28_39 : List sx_E := (.nop, 39, 40, [], .int (nI 4)) :: x28_40
theorem ox28_39 : sx_oks 28 x28_39 := ⟨sx_k_iconst (sx_dd bb_28 dX2_falls_39) (by decide +kernel), ox28_40⟩
def x28_38 : List sx_E := (.idiv, 38, 39, [], .null) :: x28_39
theorem ox28_38 : sx_oks 28 x28_38 := ⟨⟨(sx_dd bb_28 dX2_falls_38), rfl⟩, ox28_39⟩
def x28_37 : List sx_E := (.nop, 37, 38, [], .int (nI 2)) :: x28_38
theorem ox28_37 : sx_oks 28 x28_37 := ⟨sx_k_iconst (sx_dd bb_28 dX2_falls_37) (by decide +kernel), ox28_38⟩
def x28_36 : List sx_E := (.iload 1, 36, 37, [], .null) :: x28_37
theorem ox28_36 : sx_oks 28 x28_36 := ⟨Or.inr ⟨_, (sx_dd bb_28 dX2_falls_36), rfl, rfl⟩, ox28_37⟩
def x28_1 : List sx_E := (.tableswitch 49 1 5 #[35, 41, 35, 41, 43], 1, 36, [1, 50, 36, 42, 36, 42, 44], .null) :: x28_36
theorem ox28_1 : sx_oks 28 x28_1 := ⟨⟨⟨_, (sx_dd bb_28 dX2_falls_1)⟩, sx_t2 (by decide +kernel) (by decide +kernel) (Nat.le_of_ble_eq_true rfl) (by decide +kernel) (by decide +kernel)⟩, ox28_36⟩
def x28_0 : List sx_E := (.iload 0, 0, 1, [], .null) :: x28_1
theorem ox28_0 : sx_oks 28 x28_0 := ⟨Or.inr ⟨_, (sx_dd bb_28 dX2_falls_0), rfl, rfl⟩, ox28_1⟩
theorem m28 : sx_mok 28 x28_0 := ⟨ox28_0, by decide +kernel⟩
theorem bb_29 : sx_by 29 = cX2_fights := rfl
theorem oo_29 : (sx_nm 29).cls = "StrawGarrison$Kinds" := rfl
theorem mm_29 : sx_ml 29 = 1 := rfl
theorem rr_29 : sx_rt 29 = (some .int) := rfl
def x29_21 : List sx_E := (.ireturn, 21, 22, [0], .null) :: []
theorem ox29_21 : sx_oks 29 x29_21 := ⟨sx_q_iret0 (sx_dd bb_29 dX2_fights_21) rr_29, trivial⟩
def x29_20 : List sx_E := (.nop, 20, 21, [], .int (nI 0)) :: x29_21
theorem ox29_20 : sx_oks 29 x29_20 := ⟨sx_k_iconst (sx_dd bb_29 dX2_fights_20) (by decide +kernel), ox29_21⟩
def x29_17 : List sx_E := (.goto (4), 17, 20, [21], .null) :: x29_20
theorem ox29_17 : sx_oks 29 x29_17 := ⟨⟨(sx_dd bb_29 dX2_fights_17), sx_t1 (by decide +kernel)⟩, ox29_20⟩
def x29_15 : List sx_E := (.nop, 15, 17, [], .int (nI 15)) :: x29_17
theorem ox29_15 : sx_oks 29 x29_15 := ⟨sx_k_bipush (sx_dd bb_29 dX2_fights_15) (by decide +kernel), ox29_17⟩
def x29_12 : List sx_E := (.if_icmp .ne (8), 12, 15, [20], .null) :: x29_15
theorem ox29_12 : sx_oks 29 x29_12 := ⟨⟨(sx_dd bb_29 dX2_fights_12), rfl, sx_t1 (by decide +kernel)⟩, ox29_15⟩
def x29_11 : List sx_E := (.nop, 11, 12, [], .int (nI 4)) :: x29_12
theorem ox29_11 : sx_oks 29 x29_11 := ⟨sx_k_iconst (sx_dd bb_29 dX2_fights_11) (by decide +kernel), ox29_12⟩
def x29_10 : List sx_E := (.iload 0, 10, 11, [], .null) :: x29_11
theorem ox29_10 : sx_oks 29 x29_10 := ⟨Or.inr ⟨_, (sx_dd bb_29 dX2_fights_10), rfl, rfl⟩, ox29_11⟩
def x29_7 : List sx_E := (.goto (14), 7, 10, [21], .null) :: x29_10
theorem ox29_7 : sx_oks 29 x29_7 := ⟨⟨(sx_dd bb_29 dX2_fights_7), sx_t1 (by decide +kernel)⟩, ox29_10⟩
def x29_5 : List sx_E := (.nop, 5, 7, [], .int (nI 10)) :: x29_7
theorem ox29_5 : sx_oks 29 x29_5 := ⟨sx_k_bipush (sx_dd bb_29 dX2_fights_5) (by decide +kernel), ox29_7⟩
def x29_2 : List sx_E := (.if_icmp .ne (8), 2, 5, [10], .null) :: x29_5
theorem ox29_2 : sx_oks 29 x29_2 := ⟨⟨(sx_dd bb_29 dX2_fights_2), rfl, sx_t1 (by decide +kernel)⟩, ox29_5⟩
def x29_1 : List sx_E := (.nop, 1, 2, [], .int (nI 2)) :: x29_2
theorem ox29_1 : sx_oks 29 x29_1 := ⟨sx_k_iconst (sx_dd bb_29 dX2_fights_1) (by decide +kernel), ox29_2⟩
def x29_0 : List sx_E := (.iload 0, 0, 1, [], .null) :: x29_1
theorem ox29_0 : sx_oks 29 x29_0 := ⟨Or.inr ⟨_, (sx_dd bb_29 dX2_fights_0), rfl, rfl⟩, ox29_1⟩
theorem m29 : sx_mok 29 x29_0 := ⟨ox29_0, by decide +kernel⟩
theorem bb_30 : sx_by 30 = cX2_worth := rfl
theorem oo_30 : (sx_nm 30).cls = "StrawGarrison$Kinds" := rfl
theorem mm_30 : sx_ml 30 = 2 := rfl
theorem rr_30 : sx_rt 30 = (some .int) := rfl
def x30_63 : List sx_E := (.ireturn, 63, 64, [0], .null) :: []
theorem ox30_63 : sx_oks 30 x30_63 := ⟨sx_q_iret0 (sx_dd bb_30 dX2_worth_63) rr_30, trivial⟩
def x30_62 : List sx_E := (.iload 1, 62, 63, [], .null) :: x30_63
theorem ox30_62 : sx_oks 30 x30_62 := ⟨Or.inr ⟨_, (sx_dd bb_30 dX2_worth_62), rfl, rfl⟩, ox30_63⟩
def x30_61 : List sx_E := (.ireturn, 61, 62, [0], .null) :: x30_62
theorem ox30_61 : sx_oks 30 x30_61 := ⟨sx_q_iret0 (sx_dd bb_30 dX2_worth_61) rr_30, ox30_62⟩
def x30_59 : List sx_E := (.nop, 59, 61, [], .int (nI 8)) :: x30_61
theorem ox30_59 : sx_oks 30 x30_59 := ⟨sx_k_bipush (sx_dd bb_30 dX2_worth_59) (by decide +kernel), ox30_61⟩
def x30_58 : List sx_E := (.ireturn, 58, 59, [0], .null) :: x30_59
theorem ox30_58 : sx_oks 30 x30_58 := ⟨sx_q_iret0 (sx_dd bb_30 dX2_worth_58) rr_30, ox30_59⟩
def x30_57 : List sx_E := (.isub, 57, 58, [], .null) :: x30_58
theorem ox30_57 : sx_oks 30 x30_57 := ⟨⟨(sx_dd bb_30 dX2_worth_57), rfl⟩, ox30_58⟩
def x30_55 : List sx_E := (.nop, 55, 57, [], .int (nI 7)) :: x30_57
theorem ox30_55 : sx_oks 30 x30_55 := ⟨sx_k_bipush (sx_dd bb_30 dX2_worth_55) (by decide +kernel), ox30_57⟩
def x30_54 : List sx_E := (.isub, 54, 55, [], .null) :: x30_55
theorem ox30_54 : sx_oks 30 x30_54 := ⟨⟨(sx_dd bb_30 dX2_worth_54), rfl⟩, ox30_55⟩
def x30_53 : List sx_E := (.iload 1, 53, 54, [], .null) :: x30_54
theorem ox30_53 : sx_oks 30 x30_53 := ⟨Or.inr ⟨_, (sx_dd bb_30 dX2_worth_53), rfl, rfl⟩, ox30_54⟩
def x30_51 : List sx_E := (.nop, 51, 53, [], .int (nI 99)) :: x30_53
theorem ox30_51 : sx_oks 30 x30_51 := ⟨sx_k_bipush (sx_dd bb_30 dX2_worth_51) (by decide +kernel), ox30_53⟩
def x30_50 : List sx_E := (.ireturn, 50, 51, [0], .null) :: x30_51
theorem ox30_50 : sx_oks 30 x30_50 := ⟨sx_q_iret0 (sx_dd bb_30 dX2_worth_50) rr_30, ox30_51⟩
def x30_49 : List sx_E := (.isub, 49, 50, [], .null) :: x30_50
theorem ox30_49 : sx_oks 30 x30_49 := ⟨⟨(sx_dd bb_30 dX2_worth_49), rfl⟩, ox30_50⟩
def x30_48 : List sx_E := (.iload 1, 48, 49, [], .null) :: x30_49
theorem ox30_48 : sx_oks 30 x30_48 := ⟨Or.inr ⟨_, (sx_dd bb_30 dX2_worth_48), rfl, rfl⟩, ox30_49⟩
def x30_46 : List sx_E := (.nop, 46, 48, [], .int (nI 99)) :: x30_48
theorem ox30_46 : sx_oks 30 x30_46 := ⟨sx_k_bipush (sx_dd bb_30 dX2_worth_46) (by decide +kernel), ox30_48⟩
def x30_45 : List sx_E := (.ireturn, 45, 46, [0], .null) :: x30_46
theorem ox30_45 : sx_oks 30 x30_45 := ⟨sx_q_iret0 (sx_dd bb_30 dX2_worth_45) rr_30, ox30_46⟩
def x30_44 : List sx_E := (.imul, 44, 45, [], .null) :: x30_45
theorem ox30_44 : sx_oks 30 x30_44 := ⟨⟨(sx_dd bb_30 dX2_worth_44), rfl⟩, ox30_45⟩
def x30_43 : List sx_E := (.iadd, 43, 44, [], .null) :: x30_44
theorem ox30_43 : sx_oks 30 x30_43 := ⟨⟨(sx_dd bb_30 dX2_worth_43), rfl⟩, ox30_44⟩
def x30_42 : List sx_E := (.nop, 42, 43, [], .int (nI 5)) :: x30_43
theorem ox30_42 : sx_oks 30 x30_42 := ⟨sx_k_iconst (sx_dd bb_30 dX2_worth_42) (by decide +kernel), ox30_43⟩
def x30_41 : List sx_E := (.iload 1, 41, 42, [], .null) :: x30_42
theorem ox30_41 : sx_oks 30 x30_41 := ⟨Or.inr ⟨_, (sx_dd bb_30 dX2_worth_41), rfl, rfl⟩, ox30_42⟩
def x30_40 : List sx_E := (.nop, 40, 41, [], .int (nI 2)) :: x30_41
theorem ox30_40 : sx_oks 30 x30_40 := ⟨sx_k_iconst (sx_dd bb_30 dX2_worth_40) (by decide +kernel), ox30_41⟩
def x30_39 : List sx_E := (.ireturn, 39, 40, [0], .null) :: x30_40
theorem ox30_39 : sx_oks 30 x30_39 := ⟨sx_q_iret0 (sx_dd bb_30 dX2_worth_39) rr_30, ox30_40⟩
def x30_38 : List sx_E := (.iadd, 38, 39, [], .null) :: x30_39
theorem ox30_38 : sx_oks 30 x30_38 := ⟨⟨(sx_dd bb_30 dX2_worth_38), rfl⟩, ox30_39⟩
def x30_37 : List sx_E := (.nop, 37, 38, [], .int (nI 5)) :: x30_38
theorem ox30_37 : sx_oks 30 x30_37 := ⟨sx_k_iconst (sx_dd bb_30 dX2_worth_37) (by decide +kernel), ox30_38⟩
def x30_36 : List sx_E := (.iload 1, 36, 37, [], .null) :: x30_37
theorem ox30_36 : sx_oks 30 x30_36 := ⟨Or.inr ⟨_, (sx_dd bb_30 dX2_worth_36), rfl, rfl⟩, ox30_37⟩
def x30_1 : List sx_E := (.tableswitch 61 1 5 #[35, 45, 39, 50, 58], 1, 36, [1, 62, 36, 46, 40, 51, 59], .null) :: x30_36
theorem ox30_1 : sx_oks 30 x30_1 := ⟨⟨⟨_, (sx_dd bb_30 dX2_worth_1)⟩, sx_t2 (by decide +kernel) (by decide +kernel) (Nat.le_of_ble_eq_true rfl) (by decide +kernel) (by decide +kernel)⟩, ox30_36⟩
def x30_0 : List sx_E := (.iload 0, 0, 1, [], .null) :: x30_1
theorem ox30_0 : sx_oks 30 x30_0 := ⟨Or.inr ⟨_, (sx_dd bb_30 dX2_worth_0), rfl, rfl⟩, ox30_1⟩
theorem m30 : sx_mok 30 x30_0 := ⟨ox30_0, by decide +kernel⟩
theorem bb_31 : sx_by 31 = cX3_init := rfl
theorem oo_31 : (sx_nm 31).cls = "StrawGarrison$Reader" := rfl
theorem mm_31 : sx_ml 31 = 1 := rfl
theorem rr_31 : sx_rt 31 = none := rfl
theorem cc_31 : sx_ct 31 := rfl
def x31_28 : List sx_E := (.return_, 28, 29, [], .null) :: []
theorem ox31_28 : sx_oks 31 x31_28 := ⟨⟨(sx_dd bb_31 dX3_init_28), rr_31⟩, trivial⟩
def x31_25 : List sx_E := (.putfield 18, 25, 28, [2, 9, 1], .null) :: x31_28
theorem ox31_25 : sx_oks 31 x31_25 := ⟨sx_q_put (w := (RX3, TX3, 10)) (ty0 := tyX3) (sx_dd bb_31 dX3_init_25) rfl (Nat.le_of_ble_eq_true rfl) cu_2 (sx_ow3 oo_31 fl_StrawGarrison_Reader_18) (by decide +kernel) tyX3_ok nmX3 (Or.inr ⟨rfl, cc_31, sx_ow0 oo_31 rfl⟩) (fun h => absurd h (by decide)) (fun h => absurd h (by decide)) (fun _ => Or.inr ⟨_, rfl⟩), ox31_28⟩
def x31_23 : List sx_E := (.newarray .boolean, 23, 25, [2, 9], .null) :: x31_25
theorem ox31_23 : sx_oks 31 x31_23 := ⟨sx_q_newa (sx_dd bb_31 dX3_init_23) (Nat.le_of_ble_eq_true rfl) (Or.inr (Or.inr ⟨rfl, rfl⟩)) ca_2, ox31_25⟩
def x31_21 : List sx_E := (.nop, 21, 23, [], .int (nI 9)) :: x31_23
theorem ox31_21 : sx_oks 31 x31_21 := ⟨sx_k_bipush (sx_dd bb_31 dX3_init_21) (by decide +kernel), ox31_23⟩
def x31_20 : List sx_E := (.aload 0, 20, 21, [], .null) :: x31_21
theorem ox31_20 : sx_oks 31 x31_20 := ⟨Or.inr ⟨_, (sx_dd bb_31 dX3_init_20), rfl, rfl⟩, ox31_21⟩
def x31_17 : List sx_E := (.putfield 15, 17, 20, [2, 4, 1], .null) :: x31_20
theorem ox31_17 : sx_oks 31 x31_17 := ⟨sx_q_put (w := (RX3, TX3, 10)) (ty0 := tyX3) (sx_dd bb_31 dX3_init_17) rfl (Nat.le_of_ble_eq_true rfl) cu_2 (sx_ow3 oo_31 fl_StrawGarrison_Reader_15) (by decide +kernel) tyX3_ok nmX3 (Or.inr ⟨rfl, cc_31, sx_ow0 oo_31 rfl⟩) (fun h => absurd h (by decide)) (fun h => absurd h (by decide)) (fun _ => Or.inr ⟨_, rfl⟩), ox31_20⟩
def x31_15 : List sx_E := (.newarray .int, 15, 17, [0, 96], .null) :: x31_17
theorem ox31_15 : sx_oks 31 x31_15 := ⟨sx_q_newa (sx_dd bb_31 dX3_init_15) (Nat.le_of_ble_eq_true rfl) (Or.inl ⟨rfl, rfl⟩) ca_0, ox31_17⟩
def x31_13 : List sx_E := (.nop, 13, 15, [], .int (nI 96)) :: x31_15
theorem ox31_13 : sx_oks 31 x31_13 := ⟨sx_k_bipush (sx_dd bb_31 dX3_init_13) (by decide +kernel), ox31_15⟩
def x31_12 : List sx_E := (.aload 0, 12, 13, [], .null) :: x31_13
theorem ox31_12 : sx_oks 31 x31_12 := ⟨Or.inr ⟨_, (sx_dd bb_31 dX3_init_12), rfl, rfl⟩, ox31_13⟩
def x31_9 : List sx_E := (.putfield 9, 9, 12, [2, 2, 1], .null) :: x31_12
theorem ox31_9 : sx_oks 31 x31_9 := ⟨sx_q_put (w := (RX3, TX3, 10)) (ty0 := tyX3) (sx_dd bb_31 dX3_init_9) rfl (Nat.le_of_ble_eq_true rfl) cu_2 (sx_ow3 oo_31 fl_StrawGarrison_Reader_9) (by decide +kernel) tyX3_ok nmX3 (Or.inr ⟨rfl, cc_31, sx_ow0 oo_31 rfl⟩) (fun h => absurd h (by decide)) (fun h => absurd h (by decide)) (fun _ => Or.inr ⟨_, rfl⟩), ox31_12⟩
def x31_7 : List sx_E := (.newarray .int, 7, 9, [0, 96], .null) :: x31_9
theorem ox31_7 : sx_oks 31 x31_7 := ⟨sx_q_newa (sx_dd bb_31 dX3_init_7) (Nat.le_of_ble_eq_true rfl) (Or.inl ⟨rfl, rfl⟩) ca_0, ox31_9⟩
def x31_5 : List sx_E := (.nop, 5, 7, [], .int (nI 96)) :: x31_7
theorem ox31_5 : sx_oks 31 x31_5 := ⟨sx_k_bipush (sx_dd bb_31 dX3_init_5) (by decide +kernel), ox31_7⟩
def x31_4 : List sx_E := (.aload 0, 4, 5, [], .null) :: x31_5
theorem ox31_4 : sx_oks 31 x31_4 := ⟨Or.inr ⟨_, (sx_dd bb_31 dX3_init_4), rfl, rfl⟩, ox31_5⟩
def x31_1 : List sx_E := (.jsr 0, 1, 4, [], .null) :: x31_4
theorem ox31_1 : sx_oks 31 x31_1 := ⟨⟨3, (sx_dd bb_31 dX3_init_1), rfl, sx_ow5 oo_31 ob_StrawGarrison_Reader_3, ob_i, ob_c⟩, ox31_4⟩
def x31_0 : List sx_E := (.aload 0, 0, 1, [], .null) :: x31_1
theorem ox31_0 : sx_oks 31 x31_0 := ⟨Or.inr ⟨_, (sx_dd bb_31 dX3_init_0), rfl, rfl⟩, ox31_1⟩
theorem m31 : sx_mok 31 x31_0 := ⟨ox31_0, by decide +kernel⟩
theorem bb_32 : sx_by 32 = cX3_read := rfl
theorem oo_32 : (sx_nm 32).cls = "StrawGarrison$Reader" := rfl
theorem mm_32 : sx_ml 32 = 8 := rfl
theorem rr_32 : sx_rt 32 = (some .int) := rfl
def x32_176 : List sx_E := (.ireturn, 176, 177, [0], .null) :: []
theorem ox32_176 : sx_oks 32 x32_176 := ⟨sx_q_iret0 (sx_dd bb_32 dX3_read_176) rr_32, trivial⟩
def x32_174 : List sx_E := (.nop, 174, 176, [], .int ((-1000000005))) :: x32_176
theorem ox32_174 : sx_oks 32 x32_174 := ⟨sx_k_ldc (sx_dd bb_32 dX3_read_174) (sx_ow1 oo_32 kc_StrawGarrison_Reader_39), ox32_176⟩
def x32_171 : List sx_E := (.invokevirtual 55, 171, 174, [48, 2, 0, 0, 2], .null) :: x32_174
theorem ox32_171 : sx_oks 32 x32_171 := ⟨sx_q_V (w := (RX3, TX3, 10)) (sx_dd bb_32 dX3_read_171) oo_32 lk_StrawGarrison_Reader_55_V ft_48_h (Nat.le_of_ble_eq_true rfl) rfl rfl, ox32_174⟩
def x32_170 : List sx_E := (.nop, 170, 171, [], .int (nI 0)) :: x32_171
theorem ox32_170 : sx_oks 32 x32_170 := ⟨sx_k_iconst (sx_dd bb_32 dX3_read_170) (by decide +kernel), ox32_171⟩
def x32_169 : List sx_E := (.aload 0, 169, 170, [], .null) :: x32_170
theorem ox32_169 : sx_oks 32 x32_169 := ⟨Or.inr ⟨_, (sx_dd bb_32 dX3_read_169), rfl, rfl⟩, ox32_170⟩
def x32_168 : List sx_E := (.ireturn, 168, 169, [0], .null) :: x32_169
theorem ox32_168 : sx_oks 32 x32_168 := ⟨sx_q_iret0 (sx_dd bb_32 dX3_read_168) rr_32, ox32_169⟩
def x32_167 : List sx_E := (.iload 2, 167, 168, [], .null) :: x32_168
theorem ox32_167 : sx_oks 32 x32_167 := ⟨Or.inr ⟨_, (sx_dd bb_32 dX3_read_167), rfl, rfl⟩, ox32_168⟩
def x32_164 : List sx_E := (.ifCond .le (5), 164, 167, [169], .null) :: x32_167
theorem ox32_164 : sx_oks 32 x32_164 := ⟨⟨(sx_dd bb_32 dX3_read_164), rfl, sx_t1 (by decide +kernel)⟩, ox32_167⟩
def x32_161 : List sx_E := (.getfield 52, 161, 164, [2, 6, 0], .null) :: x32_164
theorem ox32_161 : sx_oks 32 x32_161 := ⟨sx_q_get (w := (RX3, TX3, 10)) (sx_dd bb_32 dX3_read_161) rfl rfl (Nat.le_of_ble_eq_true rfl) cu_2 (sx_ow3 oo_32 fl_StrawGarrison_Reader_52) (by decide +kernel), ox32_164⟩
def x32_160 : List sx_E := (.aload 0, 160, 161, [], .null) :: x32_161
theorem ox32_160 : sx_oks 32 x32_160 := ⟨Or.inr ⟨_, (sx_dd bb_32 dX3_read_160), rfl, rfl⟩, ox32_161⟩
def x32_157 : List sx_E := (.ifCond .ne (10), 157, 160, [167], .null) :: x32_160
theorem ox32_157 : sx_oks 32 x32_157 := ⟨⟨(sx_dd bb_32 dX3_read_157), rfl, sx_t1 (by decide +kernel)⟩, ox32_160⟩
def x32_154 : List sx_E := (.getfield 48, 154, 157, [2, 8, 2], .null) :: x32_157
theorem ox32_154 : sx_oks 32 x32_154 := ⟨sx_q_get (w := (RX3, TX3, 10)) (sx_dd bb_32 dX3_read_154) rfl rfl (Nat.le_of_ble_eq_true rfl) cu_2 (sx_ow3 oo_32 fl_StrawGarrison_Reader_48) (by decide +kernel), ox32_157⟩
def x32_153 : List sx_E := (.aload 0, 153, 154, [], .null) :: x32_154
theorem ox32_153 : sx_oks 32 x32_153 := ⟨Or.inr ⟨_, (sx_dd bb_32 dX3_read_153), rfl, rfl⟩, ox32_154⟩
def x32_150 : List sx_E := (.goto (-106), 150, 153, [44], .null) :: x32_153
theorem ox32_150 : sx_oks 32 x32_150 := ⟨⟨(sx_dd bb_32 dX3_read_150), sx_t1 (by decide +kernel)⟩, ox32_153⟩
def x32_147 : List sx_E := (.iinc 5 (1), 147, 150, [], .int (nI 1)) :: x32_150
theorem ox32_147 : sx_oks 32 x32_147 := ⟨⟨sx_lt mm_32 (Nat.le_of_ble_eq_true rfl), (sx_dd bb_32 dX3_read_147), rfl, by decide +kernel⟩, ox32_150⟩
def x32_146 : List sx_E := (.ireturn, 146, 147, [0], .null) :: x32_147
theorem ox32_146 : sx_oks 32 x32_146 := ⟨sx_q_iret0 (sx_dd bb_32 dX3_read_146) rr_32, ox32_147⟩
def x32_145 : List sx_E := (.iload 3, 145, 146, [], .null) :: x32_146
theorem ox32_145 : sx_oks 32 x32_145 := ⟨Or.inr ⟨_, (sx_dd bb_32 dX3_read_145), rfl, rfl⟩, ox32_146⟩
def x32_142 : List sx_E := (.ifCond .ne (5), 142, 145, [147], .null) :: x32_145
theorem ox32_142 : sx_oks 32 x32_142 := ⟨⟨(sx_dd bb_32 dX3_read_142), rfl, sx_t1 (by decide +kernel)⟩, ox32_145⟩
def x32_139 : List sx_E := (.invokevirtual 44, 139, 142, [39, 4, 0, 0, 2], .null) :: x32_142
theorem ox32_139 : sx_oks 32 x32_139 := ⟨sx_q_V (w := (RX3, TX3, 10)) (sx_dd bb_32 dX3_read_139) oo_32 lk_StrawGarrison_Reader_44_V ft_39_h (Nat.le_of_ble_eq_true rfl) rfl rfl, ox32_142⟩
def x32_137 : List sx_E := (.iload 4, 137, 139, [], .null) :: x32_139
theorem ox32_137 : sx_oks 32 x32_137 := ⟨Or.inl ⟨(sx_dd bb_32 dX3_read_137), rfl⟩, ox32_139⟩
def x32_136 : List sx_E := (.iload 3, 136, 137, [], .null) :: x32_137
theorem ox32_136 : sx_oks 32 x32_136 := ⟨Or.inr ⟨_, (sx_dd bb_32 dX3_read_136), rfl, rfl⟩, ox32_137⟩
def x32_135 : List sx_E := (.aload 1, 135, 136, [], .null) :: x32_136
theorem ox32_135 : sx_oks 32 x32_135 := ⟨Or.inr ⟨_, (sx_dd bb_32 dX3_read_135), rfl, rfl⟩, ox32_136⟩
def x32_134 : List sx_E := (.aload 0, 134, 135, [], .null) :: x32_135
theorem ox32_134 : sx_oks 32 x32_134 := ⟨Or.inr ⟨_, (sx_dd bb_32 dX3_read_134), rfl, rfl⟩, ox32_135⟩
def x32_132 : List sx_E := (.istore 4, 132, 134, [], .null) :: x32_134
theorem ox32_132 : sx_oks 32 x32_132 := ⟨⟨sx_lt mm_32 (Nat.le_of_ble_eq_true rfl), Or.inl ⟨(sx_dd bb_32 dX3_read_132), rfl⟩⟩, ox32_134⟩
def x32_129 : List sx_E := (.invokestatic 29, 129, 132, [36, 3, 0, 0], .null) :: x32_132
theorem ox32_129 : sx_oks 32 x32_129 := ⟨sx_q_S (sx_dd bb_32 dX3_read_129) oo_32 lk_StrawGarrison_Reader_29_S ft_36_h, ox32_132⟩
def x32_128 : List sx_E := (.iload 2, 128, 129, [], .null) :: x32_129
theorem ox32_128 : sx_oks 32 x32_128 := ⟨Or.inr ⟨_, (sx_dd bb_32 dX3_read_128), rfl, rfl⟩, ox32_129⟩
def x32_127 : List sx_E := (.iload 3, 127, 128, [], .null) :: x32_128
theorem ox32_127 : sx_oks 32 x32_127 := ⟨Or.inr ⟨_, (sx_dd bb_32 dX3_read_127), rfl, rfl⟩, ox32_128⟩
def x32_126 : List sx_E := (.aload 1, 126, 127, [], .null) :: x32_127
theorem ox32_126 : sx_oks 32 x32_126 := ⟨Or.inr ⟨_, (sx_dd bb_32 dX3_read_126), rfl, rfl⟩, ox32_127⟩
def x32_126h : List sx_E := (.monitorenter, 126, 126, [0, 1, 2, 3, 5], .null) :: x32_126
theorem ox32_126h : sx_oks 32 x32_126h := ⟨trivial, ox32_126⟩
def x32_125 : List sx_E := (.ireturn, 125, 126, [0], .null) :: x32_126h
theorem ox32_125 : sx_oks 32 x32_125 := ⟨sx_q_iret0 (sx_dd bb_32 dX3_read_125) rr_32, ox32_126h⟩
def x32_124 : List sx_E := (.iload 3, 124, 125, [], .null) :: x32_125
theorem ox32_124 : sx_oks 32 x32_124 := ⟨Or.inr ⟨_, (sx_dd bb_32 dX3_read_124), rfl, rfl⟩, ox32_125⟩
def x32_121 : List sx_E := (.if_icmp .ne (5), 121, 124, [126], .null) :: x32_124
theorem ox32_121 : sx_oks 32 x32_121 := ⟨⟨(sx_dd bb_32 dX3_read_121), rfl, sx_t1 (by decide +kernel)⟩, ox32_124⟩
def x32_119 : List sx_E := (.iload 4, 119, 121, [], .null) :: x32_121
theorem ox32_119 : sx_oks 32 x32_119 := ⟨Or.inl ⟨(sx_dd bb_32 dX3_read_119), rfl⟩, ox32_121⟩
def x32_118 : List sx_E := (.iload 3, 118, 119, [], .null) :: x32_119
theorem ox32_118 : sx_oks 32 x32_118 := ⟨Or.inr ⟨_, (sx_dd bb_32 dX3_read_118), rfl, rfl⟩, ox32_119⟩
def x32_115 : List sx_E := (.ifCond .eq (11), 115, 118, [126], .null) :: x32_118
theorem ox32_115 : sx_oks 32 x32_115 := ⟨⟨(sx_dd bb_32 dX3_read_115), rfl, sx_t1 (by decide +kernel)⟩, ox32_118⟩
def x32_113 : List sx_E := (.iload 6, 113, 115, [], .null) :: x32_115
theorem ox32_113 : sx_oks 32 x32_113 := ⟨Or.inl ⟨(sx_dd bb_32 dX3_read_113), rfl⟩, ox32_115⟩
def x32_110 : List sx_E := (.ifCond .eq (16), 110, 113, [126], .null) :: x32_113
theorem ox32_110 : sx_oks 32 x32_110 := ⟨⟨(sx_dd bb_32 dX3_read_110), rfl, sx_t1 (by decide +kernel)⟩, ox32_113⟩
def x32_108 : List sx_E := (.iload 7, 108, 110, [], .null) :: x32_110
theorem ox32_108 : sx_oks 32 x32_108 := ⟨Or.inl ⟨(sx_dd bb_32 dX3_read_108), rfl⟩, ox32_110⟩
def x32_108h : List sx_E := (.monitorenter, 108, 108, [0, 1, 2, 3, 4, 5, 6, 7], .null) :: x32_108
theorem ox32_108h : sx_oks 32 x32_108h := ⟨trivial, ox32_108⟩
def x32_106 : List sx_E := (.istore 7, 106, 108, [], .null) :: x32_108h
theorem ox32_106 : sx_oks 32 x32_106 := ⟨⟨sx_lt mm_32 (Nat.le_of_ble_eq_true rfl), Or.inl ⟨(sx_dd bb_32 dX3_read_106), rfl⟩⟩, ox32_108h⟩
def x32_105 : List sx_E := (.nop, 105, 106, [], .int (nI 0)) :: x32_106
theorem ox32_105 : sx_oks 32 x32_105 := ⟨sx_k_iconst (sx_dd bb_32 dX3_read_105) (by decide +kernel), ox32_106⟩
def x32_102 : List sx_E := (.goto (4), 102, 105, [106], .null) :: x32_105
theorem ox32_102 : sx_oks 32 x32_102 := ⟨⟨(sx_dd bb_32 dX3_read_102), sx_t1 (by decide +kernel)⟩, ox32_105⟩
def x32_101 : List sx_E := (.nop, 101, 102, [], .int (nI 1)) :: x32_102
theorem ox32_101 : sx_oks 32 x32_101 := ⟨sx_k_iconst (sx_dd bb_32 dX3_read_101) (by decide +kernel), ox32_102⟩
def x32_98 : List sx_E := (.if_icmp .eq (7), 98, 101, [105], .null) :: x32_101
theorem ox32_98 : sx_oks 32 x32_98 := ⟨⟨(sx_dd bb_32 dX3_read_98), rfl, sx_t1 (by decide +kernel)⟩, ox32_101⟩
def x32_97 : List sx_E := (.nop, 97, 98, [], .int (nI 3)) :: x32_98
theorem ox32_97 : sx_oks 32 x32_97 := ⟨sx_k_iconst (sx_dd bb_32 dX3_read_97) (by decide +kernel), ox32_98⟩
def x32_94 : List sx_E := (.invokestatic 40, 94, 97, [34, 1, 0, 0], .null) :: x32_97
theorem ox32_94 : sx_oks 32 x32_94 := ⟨sx_q_S (sx_dd bb_32 dX3_read_94) oo_32 lk_StrawGarrison_Reader_40_S ft_34_h, ox32_97⟩
def x32_93 : List sx_E := (.baload, 93, 94, [], .null) :: x32_94
theorem ox32_93 : sx_oks 32 x32_93 := ⟨⟨(sx_dd bb_32 dX3_read_93), rfl⟩, ox32_94⟩
def x32_92 : List sx_E := (.iload 3, 92, 93, [], .null) :: x32_93
theorem ox32_92 : sx_oks 32 x32_92 := ⟨Or.inr ⟨_, (sx_dd bb_32 dX3_read_92), rfl, rfl⟩, ox32_93⟩
def x32_91 : List sx_E := (.aload 1, 91, 92, [], .null) :: x32_92
theorem ox32_91 : sx_oks 32 x32_91 := ⟨Or.inr ⟨_, (sx_dd bb_32 dX3_read_91), rfl, rfl⟩, ox32_92⟩
def x32_88 : List sx_E := (.goto (65), 88, 91, [153], .null) :: x32_91
theorem ox32_88 : sx_oks 32 x32_88 := ⟨⟨(sx_dd bb_32 dX3_read_88), sx_t1 (by decide +kernel)⟩, ox32_91⟩
def x32_85 : List sx_E := (.if_icmp .lt (6), 85, 88, [91], .null) :: x32_88
theorem ox32_85 : sx_oks 32 x32_85 := ⟨⟨(sx_dd bb_32 dX3_read_85), rfl, sx_t1 (by decide +kernel)⟩, ox32_88⟩
def x32_84 : List sx_E := (.iload 2, 84, 85, [], .null) :: x32_85
theorem ox32_84 : sx_oks 32 x32_84 := ⟨Or.inr ⟨_, (sx_dd bb_32 dX3_read_84), rfl, rfl⟩, ox32_85⟩
def x32_83 : List sx_E := (.iload 3, 83, 84, [], .null) :: x32_84
theorem ox32_83 : sx_oks 32 x32_83 := ⟨Or.inr ⟨_, (sx_dd bb_32 dX3_read_83), rfl, rfl⟩, ox32_84⟩
def x32_82 : List sx_E := (.istore 3, 82, 83, [], .null) :: x32_83
theorem ox32_82 : sx_oks 32 x32_82 := ⟨⟨sx_lt mm_32 (Nat.le_of_ble_eq_true rfl), Or.inr ⟨_, (sx_dd bb_32 dX3_read_82), rfl, rfl⟩⟩, ox32_83⟩
def x32_79 : List sx_E := (.invokestatic 25, 79, 82, [35, 3, 0, 0], .null) :: x32_82
theorem ox32_79 : sx_oks 32 x32_79 := ⟨sx_q_S (sx_dd bb_32 dX3_read_79) oo_32 lk_StrawGarrison_Reader_25_S ft_35_h, ox32_82⟩
def x32_78 : List sx_E := (.iload 2, 78, 79, [], .null) :: x32_79
theorem ox32_78 : sx_oks 32 x32_78 := ⟨Or.inr ⟨_, (sx_dd bb_32 dX3_read_78), rfl, rfl⟩, ox32_79⟩
def x32_76 : List sx_E := (.iload 4, 76, 78, [], .null) :: x32_78
theorem ox32_76 : sx_oks 32 x32_76 := ⟨Or.inl ⟨(sx_dd bb_32 dX3_read_76), rfl⟩, ox32_78⟩
def x32_75 : List sx_E := (.aload 1, 75, 76, [], .null) :: x32_76
theorem ox32_75 : sx_oks 32 x32_75 := ⟨Or.inr ⟨_, (sx_dd bb_32 dX3_read_75), rfl, rfl⟩, ox32_76⟩
def x32_75h : List sx_E := (.monitorenter, 75, 75, [0, 1, 2, 4, 5, 6], .null) :: x32_75
theorem ox32_75h : sx_oks 32 x32_75h := ⟨trivial, ox32_75⟩
def x32_73 : List sx_E := (.istore 6, 73, 75, [], .null) :: x32_75h
theorem ox32_73 : sx_oks 32 x32_73 := ⟨⟨sx_lt mm_32 (Nat.le_of_ble_eq_true rfl), Or.inl ⟨(sx_dd bb_32 dX3_read_73), rfl⟩⟩, ox32_75h⟩
def x32_72 : List sx_E := (.nop, 72, 73, [], .int (nI 0)) :: x32_73
theorem ox32_72 : sx_oks 32 x32_72 := ⟨sx_k_iconst (sx_dd bb_32 dX3_read_72) (by decide +kernel), ox32_73⟩
def x32_69 : List sx_E := (.goto (4), 69, 72, [73], .null) :: x32_72
theorem ox32_69 : sx_oks 32 x32_69 := ⟨⟨(sx_dd bb_32 dX3_read_69), sx_t1 (by decide +kernel)⟩, ox32_72⟩
def x32_68 : List sx_E := (.nop, 68, 69, [], .int (nI 1)) :: x32_69
theorem ox32_68 : sx_oks 32 x32_68 := ⟨sx_k_iconst (sx_dd bb_32 dX3_read_68) (by decide +kernel), ox32_69⟩
def x32_65 : List sx_E := (.if_icmp .eq (7), 65, 68, [72], .null) :: x32_68
theorem ox32_65 : sx_oks 32 x32_65 := ⟨⟨(sx_dd bb_32 dX3_read_65), rfl, sx_t1 (by decide +kernel)⟩, ox32_68⟩
def x32_64 : List sx_E := (.nop, 64, 65, [], .int (nI 3)) :: x32_65
theorem ox32_64 : sx_oks 32 x32_64 := ⟨sx_k_iconst (sx_dd bb_32 dX3_read_64) (by decide +kernel), ox32_65⟩
def x32_61 : List sx_E := (.invokestatic 40, 61, 64, [34, 1, 0, 0], .null) :: x32_64
theorem ox32_61 : sx_oks 32 x32_61 := ⟨sx_q_S (sx_dd bb_32 dX3_read_61) oo_32 lk_StrawGarrison_Reader_40_S ft_34_h, ox32_64⟩
def x32_60 : List sx_E := (.baload, 60, 61, [], .null) :: x32_61
theorem ox32_60 : sx_oks 32 x32_60 := ⟨⟨(sx_dd bb_32 dX3_read_60), rfl⟩, ox32_61⟩
def x32_59 : List sx_E := (.isub, 59, 60, [], .null) :: x32_60
theorem ox32_59 : sx_oks 32 x32_59 := ⟨⟨(sx_dd bb_32 dX3_read_59), rfl⟩, ox32_60⟩
def x32_58 : List sx_E := (.nop, 58, 59, [], .int (nI 1)) :: x32_59
theorem ox32_58 : sx_oks 32 x32_58 := ⟨sx_k_iconst (sx_dd bb_32 dX3_read_58) (by decide +kernel), ox32_59⟩
def x32_56 : List sx_E := (.iload 4, 56, 58, [], .null) :: x32_58
theorem ox32_56 : sx_oks 32 x32_56 := ⟨Or.inl ⟨(sx_dd bb_32 dX3_read_56), rfl⟩, ox32_58⟩
def x32_55 : List sx_E := (.aload 1, 55, 56, [], .null) :: x32_56
theorem ox32_55 : sx_oks 32 x32_55 := ⟨Or.inr ⟨_, (sx_dd bb_32 dX3_read_55), rfl, rfl⟩, ox32_56⟩
def x32_52 : List sx_E := (.ifCond .le (20), 52, 55, [72], .null) :: x32_55
theorem ox32_52 : sx_oks 32 x32_52 := ⟨⟨(sx_dd bb_32 dX3_read_52), rfl, sx_t1 (by decide +kernel)⟩, ox32_55⟩
def x32_50 : List sx_E := (.iload 4, 50, 52, [], .null) :: x32_52
theorem ox32_50 : sx_oks 32 x32_50 := ⟨Or.inl ⟨(sx_dd bb_32 dX3_read_50), rfl⟩, ox32_52⟩
def x32_47 : List sx_E := (.if_icmp .ge (106), 47, 50, [153], .null) :: x32_50
theorem ox32_47 : sx_oks 32 x32_47 := ⟨⟨(sx_dd bb_32 dX3_read_47), rfl, sx_t1 (by decide +kernel)⟩, ox32_50⟩
def x32_46 : List sx_E := (.iload 2, 46, 47, [], .null) :: x32_47
theorem ox32_46 : sx_oks 32 x32_46 := ⟨Or.inr ⟨_, (sx_dd bb_32 dX3_read_46), rfl, rfl⟩, ox32_47⟩
def x32_44 : List sx_E := (.iload 5, 44, 46, [], .null) :: x32_46
theorem ox32_44 : sx_oks 32 x32_44 := ⟨Or.inl ⟨(sx_dd bb_32 dX3_read_44), rfl⟩, ox32_46⟩
def x32_44h : List sx_E := (.monitorenter, 44, 44, [0, 1, 2, 4, 5], .null) :: x32_44
theorem ox32_44h : sx_oks 32 x32_44h := ⟨trivial, ox32_44⟩
def x32_42 : List sx_E := (.istore 5, 42, 44, [], .null) :: x32_44h
theorem ox32_42 : sx_oks 32 x32_42 := ⟨⟨sx_lt mm_32 (Nat.le_of_ble_eq_true rfl), Or.inl ⟨(sx_dd bb_32 dX3_read_42), rfl⟩⟩, ox32_44h⟩
def x32_41 : List sx_E := (.nop, 41, 42, [], .int (nI 0)) :: x32_42
theorem ox32_41 : sx_oks 32 x32_41 := ⟨sx_k_iconst (sx_dd bb_32 dX3_read_41) (by decide +kernel), ox32_42⟩
def x32_40 : List sx_E := (.ireturn, 40, 41, [0], .null) :: x32_41
theorem ox32_40 : sx_oks 32 x32_40 := ⟨sx_q_iret0 (sx_dd bb_32 dX3_read_40) rr_32, ox32_41⟩
def x32_39 : List sx_E := (.iload 3, 39, 40, [], .null) :: x32_40
theorem ox32_39 : sx_oks 32 x32_39 := ⟨Or.inr ⟨_, (sx_dd bb_32 dX3_read_39), rfl, rfl⟩, ox32_40⟩
def x32_36 : List sx_E := (.if_icmp .ne (5), 36, 39, [41], .null) :: x32_39
theorem ox32_36 : sx_oks 32 x32_36 := ⟨⟨(sx_dd bb_32 dX3_read_36), rfl, sx_t1 (by decide +kernel)⟩, ox32_39⟩
def x32_34 : List sx_E := (.nop, 34, 36, [], .int ((-1000000005))) :: x32_36
theorem ox32_34 : sx_oks 32 x32_34 := ⟨sx_k_ldc (sx_dd bb_32 dX3_read_34) (sx_ow1 oo_32 kc_StrawGarrison_Reader_39), ox32_36⟩
def x32_31 : List sx_E := (.getfield 35, 31, 34, [2, 0, 0], .null) :: x32_34
theorem ox32_31 : sx_oks 32 x32_31 := ⟨sx_q_get (w := (RX3, TX3, 10)) (sx_dd bb_32 dX3_read_31) rfl rfl (Nat.le_of_ble_eq_true rfl) cu_2 (sx_ow3 oo_32 fl_StrawGarrison_Reader_35) (by decide +kernel), ox32_34⟩
def x32_30 : List sx_E := (.aload 0, 30, 31, [], .null) :: x32_31
theorem ox32_30 : sx_oks 32 x32_30 := ⟨Or.inr ⟨_, (sx_dd bb_32 dX3_read_30), rfl, rfl⟩, ox32_31⟩
def x32_27 : List sx_E := (.putfield 35, 27, 30, [2, 0, 0], .null) :: x32_30
theorem ox32_27 : sx_oks 32 x32_27 := ⟨sx_q_put (w := (RX3, TX3, 10)) (ty0 := tyX3) (sx_dd bb_32 dX3_read_27) rfl (Nat.le_of_ble_eq_true rfl) cu_2 (sx_ow3 oo_32 fl_StrawGarrison_Reader_35) (by decide +kernel) tyX3_ok nmX3 (Or.inl rfl) (fun _ => rfl) (fun h => absurd h (by decide)) (fun h => absurd h (by decide)), ox32_30⟩
def x32_24 : List sx_E := (.invokestatic 32, 24, 27, [37, 3, 0, 0], .null) :: x32_27
theorem ox32_24 : sx_oks 32 x32_24 := ⟨sx_q_S (sx_dd bb_32 dX3_read_24) oo_32 lk_StrawGarrison_Reader_32_S ft_37_h, ox32_27⟩
def x32_22 : List sx_E := (.iload 4, 22, 24, [], .null) :: x32_24
theorem ox32_22 : sx_oks 32 x32_22 := ⟨Or.inl ⟨(sx_dd bb_32 dX3_read_22), rfl⟩, ox32_24⟩
def x32_21 : List sx_E := (.iload 3, 21, 22, [], .null) :: x32_22
theorem ox32_21 : sx_oks 32 x32_21 := ⟨Or.inr ⟨_, (sx_dd bb_32 dX3_read_21), rfl, rfl⟩, ox32_22⟩
def x32_20 : List sx_E := (.aload 1, 20, 21, [], .null) :: x32_21
theorem ox32_20 : sx_oks 32 x32_20 := ⟨Or.inr ⟨_, (sx_dd bb_32 dX3_read_20), rfl, rfl⟩, ox32_21⟩
def x32_19 : List sx_E := (.aload 0, 19, 20, [], .null) :: x32_20
theorem ox32_19 : sx_oks 32 x32_19 := ⟨Or.inr ⟨_, (sx_dd bb_32 dX3_read_19), rfl, rfl⟩, ox32_20⟩
def x32_17 : List sx_E := (.istore 4, 17, 19, [], .null) :: x32_19
theorem ox32_17 : sx_oks 32 x32_17 := ⟨⟨sx_lt mm_32 (Nat.le_of_ble_eq_true rfl), Or.inl ⟨(sx_dd bb_32 dX3_read_17), rfl⟩⟩, ox32_19⟩
def x32_14 : List sx_E := (.invokestatic 29, 14, 17, [36, 3, 0, 0], .null) :: x32_17
theorem ox32_14 : sx_oks 32 x32_14 := ⟨sx_q_S (sx_dd bb_32 dX3_read_14) oo_32 lk_StrawGarrison_Reader_29_S ft_36_h, ox32_17⟩
def x32_13 : List sx_E := (.iload 2, 13, 14, [], .null) :: x32_14
theorem ox32_13 : sx_oks 32 x32_13 := ⟨Or.inr ⟨_, (sx_dd bb_32 dX3_read_13), rfl, rfl⟩, ox32_14⟩
def x32_12 : List sx_E := (.iload 3, 12, 13, [], .null) :: x32_13
theorem ox32_12 : sx_oks 32 x32_12 := ⟨Or.inr ⟨_, (sx_dd bb_32 dX3_read_12), rfl, rfl⟩, ox32_13⟩
def x32_11 : List sx_E := (.aload 1, 11, 12, [], .null) :: x32_12
theorem ox32_11 : sx_oks 32 x32_11 := ⟨Or.inr ⟨_, (sx_dd bb_32 dX3_read_11), rfl, rfl⟩, ox32_12⟩
def x32_10 : List sx_E := (.istore 3, 10, 11, [], .null) :: x32_11
theorem ox32_10 : sx_oks 32 x32_10 := ⟨⟨sx_lt mm_32 (Nat.le_of_ble_eq_true rfl), Or.inr ⟨_, (sx_dd bb_32 dX3_read_10), rfl, rfl⟩⟩, ox32_11⟩
def x32_7 : List sx_E := (.invokestatic 25, 7, 10, [35, 3, 0, 0], .null) :: x32_10
theorem ox32_7 : sx_oks 32 x32_7 := ⟨sx_q_S (sx_dd bb_32 dX3_read_7) oo_32 lk_StrawGarrison_Reader_25_S ft_35_h, ox32_10⟩
def x32_6 : List sx_E := (.iload 2, 6, 7, [], .null) :: x32_7
theorem ox32_6 : sx_oks 32 x32_6 := ⟨Or.inr ⟨_, (sx_dd bb_32 dX3_read_6), rfl, rfl⟩, ox32_7⟩
def x32_5 : List sx_E := (.nop, 5, 6, [], .int (nI 0)) :: x32_6
theorem ox32_5 : sx_oks 32 x32_5 := ⟨sx_k_iconst (sx_dd bb_32 dX3_read_5) (by decide +kernel), ox32_6⟩
def x32_4 : List sx_E := (.aload 1, 4, 5, [], .null) :: x32_5
theorem ox32_4 : sx_oks 32 x32_4 := ⟨Or.inr ⟨_, (sx_dd bb_32 dX3_read_4), rfl, rfl⟩, ox32_5⟩
def x32_1 : List sx_E := (.invokevirtual 22, 1, 4, [33, 1, 0, 0, 2], .null) :: x32_4
theorem ox32_1 : sx_oks 32 x32_1 := ⟨sx_q_V (w := (RX3, TX3, 10)) (sx_dd bb_32 dX3_read_1) oo_32 lk_StrawGarrison_Reader_22_V ft_33_h (Nat.le_of_ble_eq_true rfl) rfl rfl, ox32_4⟩
def x32_0 : List sx_E := (.aload 0, 0, 1, [], .null) :: x32_1
theorem ox32_0 : sx_oks 32 x32_0 := ⟨Or.inr ⟨_, (sx_dd bb_32 dX3_read_0), rfl, rfl⟩, ox32_1⟩
theorem m32 : sx_mok 32 x32_0 := ⟨ox32_0, by decide +kernel⟩
