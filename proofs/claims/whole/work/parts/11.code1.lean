theorem bb_33 : sx_by 33 = cX3_start := rfl
theorem oo_33 : (sx_nm 33).cls = "StrawGarrison$Reader" := rfl
theorem mm_33 : sx_ml 33 = 1 := rfl
theorem rr_33 : sx_rt 33 = none := rfl
def x33_37 : List sx_E := (.return_, 37, 38, [], .null) :: []
theorem ox33_37 : sx_oks 33 x33_37 := ⟨⟨(sx_dd bb_33 dX3_start_37), rr_33⟩, trivial⟩
def x33_36 : List sx_E := (.bastore, 36, 37, [], .null) :: x33_37
theorem ox33_36 : sx_oks 33 x33_36 := ⟨⟨(sx_dd bb_33 dX3_start_36), rfl⟩, ox33_37⟩
def x33_35 : List sx_E := (.nop, 35, 36, [], .int (nI 0)) :: x33_36
theorem ox33_35 : sx_oks 33 x33_35 := ⟨sx_k_iconst (sx_dd bb_33 dX3_start_35) (by decide +kernel), ox33_36⟩
def x33_34 : List sx_E := (.nop, 34, 35, [], .int (nI 0)) :: x33_35
theorem ox33_34 : sx_oks 33 x33_34 := ⟨sx_k_iconst (sx_dd bb_33 dX3_start_34) (by decide +kernel), ox33_35⟩
def x33_31 : List sx_E := (.getfield 18, 31, 34, [2, 9, 1], .null) :: x33_34
theorem ox33_31 : sx_oks 33 x33_31 := ⟨sx_q_get (w := (RX3, TX3, 10)) (sx_dd bb_33 dX3_start_31) rfl rfl (Nat.le_of_ble_eq_true rfl) cu_2 (sx_ow3 oo_33 fl_StrawGarrison_Reader_18) (by decide +kernel), ox33_34⟩
def x33_30 : List sx_E := (.aload 0, 30, 31, [], .null) :: x33_31
theorem ox33_30 : sx_oks 33 x33_30 := ⟨Or.inr ⟨_, (sx_dd bb_33 dX3_start_30), rfl, rfl⟩, ox33_31⟩
def x33_27 : List sx_E := (.putfield 48, 27, 30, [2, 8, 2], .null) :: x33_30
theorem ox33_27 : sx_oks 33 x33_27 := ⟨sx_q_put (w := (RX3, TX3, 10)) (ty0 := tyX3) (sx_dd bb_33 dX3_start_27) rfl (Nat.le_of_ble_eq_true rfl) cu_2 (sx_ow3 oo_33 fl_StrawGarrison_Reader_48) (by decide +kernel) tyX3_ok nmX3 (Or.inl rfl) (fun h => absurd h (by decide)) (fun _ => rfl) (fun h => absurd h (by decide)), ox33_30⟩
def x33_26 : List sx_E := (.nop, 26, 27, [], .int (nI 1)) :: x33_27
theorem ox33_26 : sx_oks 33 x33_26 := ⟨sx_k_iconst (sx_dd bb_33 dX3_start_26) (by decide +kernel), ox33_27⟩
def x33_25 : List sx_E := (.aload 0, 25, 26, [], .null) :: x33_26
theorem ox33_25 : sx_oks 33 x33_25 := ⟨Or.inr ⟨_, (sx_dd bb_33 dX3_start_25), rfl, rfl⟩, ox33_26⟩
def x33_22 : List sx_E := (.putfield 68, 22, 25, [2, 7, 0], .null) :: x33_25
theorem ox33_22 : sx_oks 33 x33_22 := ⟨sx_q_put (w := (RX3, TX3, 10)) (ty0 := tyX3) (sx_dd bb_33 dX3_start_22) rfl (Nat.le_of_ble_eq_true rfl) cu_2 (sx_ow3 oo_33 fl_StrawGarrison_Reader_68) (by decide +kernel) tyX3_ok nmX3 (Or.inl rfl) (fun _ => rfl) (fun h => absurd h (by decide)) (fun h => absurd h (by decide)), ox33_25⟩
def x33_21 : List sx_E := (.nop, 21, 22, [], .int (nI 0)) :: x33_22
theorem ox33_21 : sx_oks 33 x33_21 := ⟨sx_k_iconst (sx_dd bb_33 dX3_start_21) (by decide +kernel), ox33_22⟩
def x33_20 : List sx_E := (.aload 0, 20, 21, [], .null) :: x33_21
theorem ox33_20 : sx_oks 33 x33_20 := ⟨Or.inr ⟨_, (sx_dd bb_33 dX3_start_20), rfl, rfl⟩, ox33_21⟩
def x33_17 : List sx_E := (.putfield 52, 17, 20, [2, 6, 0], .null) :: x33_20
theorem ox33_17 : sx_oks 33 x33_17 := ⟨sx_q_put (w := (RX3, TX3, 10)) (ty0 := tyX3) (sx_dd bb_33 dX3_start_17) rfl (Nat.le_of_ble_eq_true rfl) cu_2 (sx_ow3 oo_33 fl_StrawGarrison_Reader_52) (by decide +kernel) tyX3_ok nmX3 (Or.inl rfl) (fun _ => rfl) (fun h => absurd h (by decide)) (fun h => absurd h (by decide)), ox33_20⟩
def x33_16 : List sx_E := (.nop, 16, 17, [], .int (nI 0)) :: x33_17
theorem ox33_16 : sx_oks 33 x33_16 := ⟨sx_k_iconst (sx_dd bb_33 dX3_start_16) (by decide +kernel), ox33_17⟩
def x33_15 : List sx_E := (.aload 0, 15, 16, [], .null) :: x33_16
theorem ox33_15 : sx_oks 33 x33_15 := ⟨Or.inr ⟨_, (sx_dd bb_33 dX3_start_15), rfl, rfl⟩, ox33_16⟩
def x33_12 : List sx_E := (.putfield 65, 12, 15, [2, 5, 0], .null) :: x33_15
theorem ox33_12 : sx_oks 33 x33_12 := ⟨sx_q_put (w := (RX3, TX3, 10)) (ty0 := tyX3) (sx_dd bb_33 dX3_start_12) rfl (Nat.le_of_ble_eq_true rfl) cu_2 (sx_ow3 oo_33 fl_StrawGarrison_Reader_65) (by decide +kernel) tyX3_ok nmX3 (Or.inl rfl) (fun _ => rfl) (fun h => absurd h (by decide)) (fun h => absurd h (by decide)), ox33_15⟩
def x33_11 : List sx_E := (.nop, 11, 12, [], .int (nI 0)) :: x33_12
theorem ox33_11 : sx_oks 33 x33_11 := ⟨sx_k_iconst (sx_dd bb_33 dX3_start_11) (by decide +kernel), ox33_12⟩
def x33_10 : List sx_E := (.aload 0, 10, 11, [], .null) :: x33_11
theorem ox33_10 : sx_oks 33 x33_10 := ⟨Or.inr ⟨_, (sx_dd bb_33 dX3_start_10), rfl, rfl⟩, ox33_11⟩
def x33_7 : List sx_E := (.putfield 62, 7, 10, [2, 3, 0], .null) :: x33_10
theorem ox33_7 : sx_oks 33 x33_7 := ⟨sx_q_put (w := (RX3, TX3, 10)) (ty0 := tyX3) (sx_dd bb_33 dX3_start_7) rfl (Nat.le_of_ble_eq_true rfl) cu_2 (sx_ow3 oo_33 fl_StrawGarrison_Reader_62) (by decide +kernel) tyX3_ok nmX3 (Or.inl rfl) (fun _ => rfl) (fun h => absurd h (by decide)) (fun h => absurd h (by decide)), ox33_10⟩
def x33_6 : List sx_E := (.nop, 6, 7, [], .int (nI 0)) :: x33_7
theorem ox33_6 : sx_oks 33 x33_6 := ⟨sx_k_iconst (sx_dd bb_33 dX3_start_6) (by decide +kernel), ox33_7⟩
def x33_5 : List sx_E := (.aload 0, 5, 6, [], .null) :: x33_6
theorem ox33_5 : sx_oks 33 x33_5 := ⟨Or.inr ⟨_, (sx_dd bb_33 dX3_start_5), rfl, rfl⟩, ox33_6⟩
def x33_2 : List sx_E := (.putfield 59, 2, 5, [2, 1, 0], .null) :: x33_5
theorem ox33_2 : sx_oks 33 x33_2 := ⟨sx_q_put (w := (RX3, TX3, 10)) (ty0 := tyX3) (sx_dd bb_33 dX3_start_2) rfl (Nat.le_of_ble_eq_true rfl) cu_2 (sx_ow3 oo_33 fl_StrawGarrison_Reader_59) (by decide +kernel) tyX3_ok nmX3 (Or.inl rfl) (fun _ => rfl) (fun h => absurd h (by decide)) (fun h => absurd h (by decide)), ox33_5⟩
def x33_1 : List sx_E := (.nop, 1, 2, [], .int (nI 0)) :: x33_2
theorem ox33_1 : sx_oks 33 x33_1 := ⟨sx_k_iconst (sx_dd bb_33 dX3_start_1) (by decide +kernel), ox33_2⟩
def x33_0 : List sx_E := (.aload 0, 0, 1, [], .null) :: x33_1
theorem ox33_0 : sx_oks 33 x33_0 := ⟨Or.inr ⟨_, (sx_dd bb_33 dX3_start_0), rfl, rfl⟩, ox33_1⟩
theorem m33 : sx_mok 33 x33_0 := ⟨ox33_0, by decide +kernel⟩
theorem bb_34 : sx_by 34 = cX3_sortOf := rfl
theorem oo_34 : (sx_nm 34).cls = "StrawGarrison$Reader" := rfl
theorem mm_34 : sx_ml 34 = 1 := rfl
theorem rr_34 : sx_rt 34 = (some .int) := rfl
def x34_43 : List sx_E := (.ireturn, 43, 44, [0], .null) :: []
theorem ox34_43 : sx_oks 34 x34_43 := ⟨sx_q_iret0 (sx_dd bb_34 dX3_sortOf_43) rr_34, trivial⟩
def x34_42 : List sx_E := (.nop, 42, 43, [], .int (nI 3)) :: x34_43
theorem ox34_42 : sx_oks 34 x34_42 := ⟨sx_k_iconst (sx_dd bb_34 dX3_sortOf_42) (by decide +kernel), ox34_43⟩
def x34_39 : List sx_E := (.goto (4), 39, 42, [43], .null) :: x34_42
theorem ox34_39 : sx_oks 34 x34_39 := ⟨⟨(sx_dd bb_34 dX3_sortOf_39), sx_t1 (by decide +kernel)⟩, ox34_42⟩
def x34_38 : List sx_E := (.nop, 38, 39, [], .int (nI 2)) :: x34_39
theorem ox34_38 : sx_oks 34 x34_38 := ⟨sx_k_iconst (sx_dd bb_34 dX3_sortOf_38) (by decide +kernel), ox34_39⟩
def x34_35 : List sx_E := (.if_icmp .gt (7), 35, 38, [42], .null) :: x34_38
theorem ox34_35 : sx_oks 34 x34_35 := ⟨⟨(sx_dd bb_34 dX3_sortOf_35), rfl, sx_t1 (by decide +kernel)⟩, ox34_38⟩
def x34_33 : List sx_E := (.nop, 33, 35, [], .int (nI 57)) :: x34_35
theorem ox34_33 : sx_oks 34 x34_33 := ⟨sx_k_bipush (sx_dd bb_34 dX3_sortOf_33) (by decide +kernel), ox34_35⟩
def x34_32 : List sx_E := (.iload 0, 32, 33, [], .null) :: x34_33
theorem ox34_32 : sx_oks 34 x34_32 := ⟨Or.inr ⟨_, (sx_dd bb_34 dX3_sortOf_32), rfl, rfl⟩, ox34_33⟩
def x34_29 : List sx_E := (.if_icmp .lt (13), 29, 32, [42], .null) :: x34_32
theorem ox34_29 : sx_oks 34 x34_29 := ⟨⟨(sx_dd bb_34 dX3_sortOf_29), rfl, sx_t1 (by decide +kernel)⟩, ox34_32⟩
def x34_27 : List sx_E := (.nop, 27, 29, [], .int (nI 48)) :: x34_29
theorem ox34_27 : sx_oks 34 x34_27 := ⟨sx_k_bipush (sx_dd bb_34 dX3_sortOf_27) (by decide +kernel), ox34_29⟩
def x34_26 : List sx_E := (.iload 0, 26, 27, [], .null) :: x34_27
theorem ox34_26 : sx_oks 34 x34_26 := ⟨Or.inr ⟨_, (sx_dd bb_34 dX3_sortOf_26), rfl, rfl⟩, ox34_27⟩
def x34_23 : List sx_E := (.goto (20), 23, 26, [43], .null) :: x34_26
theorem ox34_23 : sx_oks 34 x34_23 := ⟨⟨(sx_dd bb_34 dX3_sortOf_23), sx_t1 (by decide +kernel)⟩, ox34_26⟩
def x34_22 : List sx_E := (.nop, 22, 23, [], .int (nI 1)) :: x34_23
theorem ox34_22 : sx_oks 34 x34_22 := ⟨sx_k_iconst (sx_dd bb_34 dX3_sortOf_22) (by decide +kernel), ox34_23⟩
def x34_19 : List sx_E := (.if_icmp .gt (7), 19, 22, [26], .null) :: x34_22
theorem ox34_19 : sx_oks 34 x34_19 := ⟨⟨(sx_dd bb_34 dX3_sortOf_19), rfl, sx_t1 (by decide +kernel)⟩, ox34_22⟩
def x34_17 : List sx_E := (.nop, 17, 19, [], .int (nI 122)) :: x34_19
theorem ox34_17 : sx_oks 34 x34_17 := ⟨sx_k_bipush (sx_dd bb_34 dX3_sortOf_17) (by decide +kernel), ox34_19⟩
def x34_16 : List sx_E := (.iload 0, 16, 17, [], .null) :: x34_17
theorem ox34_16 : sx_oks 34 x34_16 := ⟨Or.inr ⟨_, (sx_dd bb_34 dX3_sortOf_16), rfl, rfl⟩, ox34_17⟩
def x34_13 : List sx_E := (.if_icmp .lt (13), 13, 16, [26], .null) :: x34_16
theorem ox34_13 : sx_oks 34 x34_13 := ⟨⟨(sx_dd bb_34 dX3_sortOf_13), rfl, sx_t1 (by decide +kernel)⟩, ox34_16⟩
def x34_11 : List sx_E := (.nop, 11, 13, [], .int (nI 97)) :: x34_13
theorem ox34_11 : sx_oks 34 x34_11 := ⟨sx_k_bipush (sx_dd bb_34 dX3_sortOf_11) (by decide +kernel), ox34_13⟩
def x34_10 : List sx_E := (.iload 0, 10, 11, [], .null) :: x34_11
theorem ox34_10 : sx_oks 34 x34_10 := ⟨Or.inr ⟨_, (sx_dd bb_34 dX3_sortOf_10), rfl, rfl⟩, ox34_11⟩
def x34_7 : List sx_E := (.goto (36), 7, 10, [43], .null) :: x34_10
theorem ox34_7 : sx_oks 34 x34_7 := ⟨⟨(sx_dd bb_34 dX3_sortOf_7), sx_t1 (by decide +kernel)⟩, ox34_10⟩
def x34_6 : List sx_E := (.nop, 6, 7, [], .int (nI 0)) :: x34_7
theorem ox34_6 : sx_oks 34 x34_6 := ⟨sx_k_iconst (sx_dd bb_34 dX3_sortOf_6) (by decide +kernel), ox34_7⟩
def x34_3 : List sx_E := (.if_icmp .ne (7), 3, 6, [10], .null) :: x34_6
theorem ox34_3 : sx_oks 34 x34_3 := ⟨⟨(sx_dd bb_34 dX3_sortOf_3), rfl, sx_t1 (by decide +kernel)⟩, ox34_6⟩
def x34_1 : List sx_E := (.nop, 1, 3, [], .int (nI 32)) :: x34_3
theorem ox34_1 : sx_oks 34 x34_1 := ⟨sx_k_bipush (sx_dd bb_34 dX3_sortOf_1) (by decide +kernel), ox34_3⟩
def x34_0 : List sx_E := (.iload 0, 0, 1, [], .null) :: x34_1
theorem ox34_0 : sx_oks 34 x34_0 := ⟨Or.inr ⟨_, (sx_dd bb_34 dX3_sortOf_0), rfl, rfl⟩, ox34_1⟩
theorem m34 : sx_mok 34 x34_0 := ⟨ox34_0, by decide +kernel⟩
theorem bb_35 : sx_by 35 = cX3_placeBehindBlanks := rfl
theorem oo_35 : (sx_nm 35).cls = "StrawGarrison$Reader" := rfl
theorem mm_35 : sx_ml 35 = 4 := rfl
theorem rr_35 : sx_rt 35 = (some .int) := rfl
def x35_23 : List sx_E := (.ireturn, 23, 24, [0], .null) :: []
theorem ox35_23 : sx_oks 35 x35_23 := ⟨sx_q_iret0 (sx_dd bb_35 dX3_placeBehindBlanks_23) rr_35, trivial⟩
def x35_22 : List sx_E := (.iload 3, 22, 23, [], .null) :: x35_23
theorem ox35_22 : sx_oks 35 x35_22 := ⟨Or.inr ⟨_, (sx_dd bb_35 dX3_placeBehindBlanks_22), rfl, rfl⟩, ox35_23⟩
def x35_19 : List sx_E := (.goto (-17), 19, 22, [2], .null) :: x35_22
theorem ox35_19 : sx_oks 35 x35_19 := ⟨⟨(sx_dd bb_35 dX3_placeBehindBlanks_19), sx_t1 (by decide +kernel)⟩, ox35_22⟩
def x35_16 : List sx_E := (.iinc 3 (1), 16, 19, [], .int (nI 1)) :: x35_19
theorem ox35_16 : sx_oks 35 x35_16 := ⟨⟨sx_lt mm_35 (Nat.le_of_ble_eq_true rfl), (sx_dd bb_35 dX3_placeBehindBlanks_16), rfl, by decide +kernel⟩, ox35_19⟩
def x35_13 : List sx_E := (.ifCond .ne (9), 13, 16, [22], .null) :: x35_16
theorem ox35_13 : sx_oks 35 x35_13 := ⟨⟨(sx_dd bb_35 dX3_placeBehindBlanks_13), rfl, sx_t1 (by decide +kernel)⟩, ox35_16⟩
def x35_10 : List sx_E := (.invokestatic 40, 10, 13, [34, 1, 0, 0], .null) :: x35_13
theorem ox35_10 : sx_oks 35 x35_10 := ⟨sx_q_S (sx_dd bb_35 dX3_placeBehindBlanks_10) oo_35 lk_StrawGarrison_Reader_40_S ft_34_h, ox35_13⟩
def x35_9 : List sx_E := (.baload, 9, 10, [], .null) :: x35_10
theorem ox35_9 : sx_oks 35 x35_9 := ⟨⟨(sx_dd bb_35 dX3_placeBehindBlanks_9), rfl⟩, ox35_10⟩
def x35_8 : List sx_E := (.iload 3, 8, 9, [], .null) :: x35_9
theorem ox35_8 : sx_oks 35 x35_8 := ⟨Or.inr ⟨_, (sx_dd bb_35 dX3_placeBehindBlanks_8), rfl, rfl⟩, ox35_9⟩
def x35_7 : List sx_E := (.aload 0, 7, 8, [], .null) :: x35_8
theorem ox35_7 : sx_oks 35 x35_7 := ⟨Or.inr ⟨_, (sx_dd bb_35 dX3_placeBehindBlanks_7), rfl, rfl⟩, ox35_8⟩
def x35_4 : List sx_E := (.if_icmp .ge (18), 4, 7, [22], .null) :: x35_7
theorem ox35_4 : sx_oks 35 x35_4 := ⟨⟨(sx_dd bb_35 dX3_placeBehindBlanks_4), rfl, sx_t1 (by decide +kernel)⟩, ox35_7⟩
def x35_3 : List sx_E := (.iload 2, 3, 4, [], .null) :: x35_4
theorem ox35_3 : sx_oks 35 x35_3 := ⟨Or.inr ⟨_, (sx_dd bb_35 dX3_placeBehindBlanks_3), rfl, rfl⟩, ox35_4⟩
def x35_2 : List sx_E := (.iload 3, 2, 3, [], .null) :: x35_3
theorem ox35_2 : sx_oks 35 x35_2 := ⟨Or.inr ⟨_, (sx_dd bb_35 dX3_placeBehindBlanks_2), rfl, rfl⟩, ox35_3⟩
def x35_2h : List sx_E := (.monitorenter, 2, 2, [0, 2, 3], .null) :: x35_2
theorem ox35_2h : sx_oks 35 x35_2h := ⟨trivial, ox35_2⟩
def x35_1 : List sx_E := (.istore 3, 1, 2, [], .null) :: x35_2h
theorem ox35_1 : sx_oks 35 x35_1 := ⟨⟨sx_lt mm_35 (Nat.le_of_ble_eq_true rfl), Or.inr ⟨_, (sx_dd bb_35 dX3_placeBehindBlanks_1), rfl, rfl⟩⟩, ox35_2h⟩
def x35_0 : List sx_E := (.iload 1, 0, 1, [], .null) :: x35_1
theorem ox35_0 : sx_oks 35 x35_0 := ⟨Or.inr ⟨_, (sx_dd bb_35 dX3_placeBehindBlanks_0), rfl, rfl⟩, ox35_1⟩
theorem m35 : sx_mok 35 x35_0 := ⟨ox35_0, by decide +kernel⟩
theorem bb_36 : sx_by 36 = cX3_endOf := rfl
theorem oo_36 : (sx_nm 36).cls = "StrawGarrison$Reader" := rfl
theorem mm_36 : sx_ml 36 = 5 := rfl
theorem rr_36 : sx_rt 36 = (some .int) := rfl
def x36_49 : List sx_E := (.ireturn, 49, 50, [0], .null) :: []
theorem ox36_49 : sx_oks 36 x36_49 := ⟨sx_q_iret0 (sx_dd bb_36 dX3_endOf_49) rr_36, trivial⟩
def x36_47 : List sx_E := (.iload 4, 47, 49, [], .null) :: x36_49
theorem ox36_47 : sx_oks 36 x36_47 := ⟨Or.inl ⟨(sx_dd bb_36 dX3_endOf_47), rfl⟩, ox36_49⟩
def x36_44 : List sx_E := (.goto (-25), 44, 47, [19], .null) :: x36_47
theorem ox36_44 : sx_oks 36 x36_44 := ⟨⟨(sx_dd bb_36 dX3_endOf_44), sx_t1 (by decide +kernel)⟩, ox36_47⟩
def x36_41 : List sx_E := (.iinc 4 (1), 41, 44, [], .int (nI 1)) :: x36_44
theorem ox36_41 : sx_oks 36 x36_41 := ⟨⟨sx_lt mm_36 (Nat.le_of_ble_eq_true rfl), (sx_dd bb_36 dX3_endOf_41), rfl, by decide +kernel⟩, ox36_44⟩
def x36_38 : List sx_E := (.if_icmp .ne (9), 38, 41, [47], .null) :: x36_41
theorem ox36_38 : sx_oks 36 x36_38 := ⟨⟨(sx_dd bb_36 dX3_endOf_38), rfl, sx_t1 (by decide +kernel)⟩, ox36_41⟩
def x36_37 : List sx_E := (.iload 3, 37, 38, [], .null) :: x36_38
theorem ox36_37 : sx_oks 36 x36_37 := ⟨Or.inr ⟨_, (sx_dd bb_36 dX3_endOf_37), rfl, rfl⟩, ox36_38⟩
def x36_34 : List sx_E := (.invokestatic 40, 34, 37, [34, 1, 0, 0], .null) :: x36_37
theorem ox36_34 : sx_oks 36 x36_34 := ⟨sx_q_S (sx_dd bb_36 dX3_endOf_34) oo_36 lk_StrawGarrison_Reader_40_S ft_34_h, ox36_37⟩
def x36_33 : List sx_E := (.baload, 33, 34, [], .null) :: x36_34
theorem ox36_33 : sx_oks 36 x36_33 := ⟨⟨(sx_dd bb_36 dX3_endOf_33), rfl⟩, ox36_34⟩
def x36_31 : List sx_E := (.iload 4, 31, 33, [], .null) :: x36_33
theorem ox36_31 : sx_oks 36 x36_31 := ⟨Or.inl ⟨(sx_dd bb_36 dX3_endOf_31), rfl⟩, ox36_33⟩
def x36_30 : List sx_E := (.aload 0, 30, 31, [], .null) :: x36_31
theorem ox36_30 : sx_oks 36 x36_30 := ⟨Or.inr ⟨_, (sx_dd bb_36 dX3_endOf_30), rfl, rfl⟩, ox36_31⟩
def x36_27 : List sx_E := (.if_icmp .ge (20), 27, 30, [47], .null) :: x36_30
theorem ox36_27 : sx_oks 36 x36_27 := ⟨⟨(sx_dd bb_36 dX3_endOf_27), rfl, sx_t1 (by decide +kernel)⟩, ox36_30⟩
def x36_26 : List sx_E := (.iload 2, 26, 27, [], .null) :: x36_27
theorem ox36_26 : sx_oks 36 x36_26 := ⟨Or.inr ⟨_, (sx_dd bb_36 dX3_endOf_26), rfl, rfl⟩, ox36_27⟩
def x36_24 : List sx_E := (.iload 4, 24, 26, [], .null) :: x36_26
theorem ox36_24 : sx_oks 36 x36_24 := ⟨Or.inl ⟨(sx_dd bb_36 dX3_endOf_24), rfl⟩, ox36_26⟩
def x36_21 : List sx_E := (.if_icmp .eq (26), 21, 24, [47], .null) :: x36_24
theorem ox36_21 : sx_oks 36 x36_21 := ⟨⟨(sx_dd bb_36 dX3_endOf_21), rfl, sx_t1 (by decide +kernel)⟩, ox36_24⟩
def x36_20 : List sx_E := (.nop, 20, 21, [], .int (nI 3)) :: x36_21
theorem ox36_20 : sx_oks 36 x36_20 := ⟨sx_k_iconst (sx_dd bb_36 dX3_endOf_20) (by decide +kernel), ox36_21⟩
def x36_19 : List sx_E := (.iload 3, 19, 20, [], .null) :: x36_20
theorem ox36_19 : sx_oks 36 x36_19 := ⟨Or.inr ⟨_, (sx_dd bb_36 dX3_endOf_19), rfl, rfl⟩, ox36_20⟩
def x36_19h : List sx_E := (.monitorenter, 19, 19, [0, 2, 3, 4], .null) :: x36_19
theorem ox36_19h : sx_oks 36 x36_19h := ⟨trivial, ox36_19⟩
def x36_17 : List sx_E := (.istore 4, 17, 19, [], .null) :: x36_19h
theorem ox36_17 : sx_oks 36 x36_17 := ⟨⟨sx_lt mm_36 (Nat.le_of_ble_eq_true rfl), Or.inl ⟨(sx_dd bb_36 dX3_endOf_17), rfl⟩⟩, ox36_19h⟩
def x36_16 : List sx_E := (.iadd, 16, 17, [], .null) :: x36_17
theorem ox36_16 : sx_oks 36 x36_16 := ⟨⟨(sx_dd bb_36 dX3_endOf_16), rfl⟩, ox36_17⟩
def x36_15 : List sx_E := (.nop, 15, 16, [], .int (nI 1)) :: x36_16
theorem ox36_15 : sx_oks 36 x36_15 := ⟨sx_k_iconst (sx_dd bb_36 dX3_endOf_15) (by decide +kernel), ox36_16⟩
def x36_14 : List sx_E := (.iload 1, 14, 15, [], .null) :: x36_15
theorem ox36_14 : sx_oks 36 x36_14 := ⟨Or.inr ⟨_, (sx_dd bb_36 dX3_endOf_14), rfl, rfl⟩, ox36_15⟩
def x36_13 : List sx_E := (.istore 3, 13, 14, [], .null) :: x36_14
theorem ox36_13 : sx_oks 36 x36_13 := ⟨⟨sx_lt mm_36 (Nat.le_of_ble_eq_true rfl), Or.inr ⟨_, (sx_dd bb_36 dX3_endOf_13), rfl, rfl⟩⟩, ox36_14⟩
def x36_10 : List sx_E := (.invokestatic 40, 10, 13, [34, 1, 0, 0], .null) :: x36_13
theorem ox36_10 : sx_oks 36 x36_10 := ⟨sx_q_S (sx_dd bb_36 dX3_endOf_10) oo_36 lk_StrawGarrison_Reader_40_S ft_34_h, ox36_13⟩
def x36_9 : List sx_E := (.baload, 9, 10, [], .null) :: x36_10
theorem ox36_9 : sx_oks 36 x36_9 := ⟨⟨(sx_dd bb_36 dX3_endOf_9), rfl⟩, ox36_10⟩
def x36_8 : List sx_E := (.iload 1, 8, 9, [], .null) :: x36_9
theorem ox36_8 : sx_oks 36 x36_8 := ⟨Or.inr ⟨_, (sx_dd bb_36 dX3_endOf_8), rfl, rfl⟩, ox36_9⟩
def x36_7 : List sx_E := (.aload 0, 7, 8, [], .null) :: x36_8
theorem ox36_7 : sx_oks 36 x36_7 := ⟨Or.inr ⟨_, (sx_dd bb_36 dX3_endOf_7), rfl, rfl⟩, ox36_8⟩
def x36_6 : List sx_E := (.ireturn, 6, 7, [0], .null) :: x36_7
theorem ox36_6 : sx_oks 36 x36_6 := ⟨sx_q_iret0 (sx_dd bb_36 dX3_endOf_6) rr_36, ox36_7⟩
def x36_5 : List sx_E := (.iload 2, 5, 6, [], .null) :: x36_6
theorem ox36_5 : sx_oks 36 x36_5 := ⟨Or.inr ⟨_, (sx_dd bb_36 dX3_endOf_5), rfl, rfl⟩, ox36_6⟩
def x36_2 : List sx_E := (.if_icmp .lt (5), 2, 5, [7], .null) :: x36_5
theorem ox36_2 : sx_oks 36 x36_2 := ⟨⟨(sx_dd bb_36 dX3_endOf_2), rfl, sx_t1 (by decide +kernel)⟩, ox36_5⟩
def x36_1 : List sx_E := (.iload 2, 1, 2, [], .null) :: x36_2
theorem ox36_1 : sx_oks 36 x36_1 := ⟨Or.inr ⟨_, (sx_dd bb_36 dX3_endOf_1), rfl, rfl⟩, ox36_2⟩
def x36_0 : List sx_E := (.iload 1, 0, 1, [], .null) :: x36_1
theorem ox36_0 : sx_oks 36 x36_0 := ⟨Or.inr ⟨_, (sx_dd bb_36 dX3_endOf_0), rfl, rfl⟩, ox36_1⟩
theorem m36 : sx_mok 36 x36_0 := ⟨ox36_0, by decide +kernel⟩
theorem bb_37 : sx_by 37 = cX3_keyOf := rfl
theorem oo_37 : (sx_nm 37).cls = "StrawGarrison$Reader" := rfl
theorem mm_37 : sx_ml 37 = 3 := rfl
theorem rr_37 : sx_rt 37 = (some .int) := rfl
def x37_43 : List sx_E := (.ireturn, 43, 44, [0], .null) :: []
theorem ox37_43 : sx_oks 37 x37_43 := ⟨sx_q_iret0 (sx_dd bb_37 dX3_keyOf_43) rr_37, trivial⟩
def x37_41 : List sx_E := (.nop, 41, 43, [], .int ((-1000000005))) :: x37_43
theorem ox37_41 : sx_oks 37 x37_41 := ⟨sx_k_ldc (sx_dd bb_37 dX3_keyOf_41) (sx_ow1 oo_37 kc_StrawGarrison_Reader_39), ox37_43⟩
def x37_38 : List sx_E := (.goto (5), 38, 41, [43], .null) :: x37_41
theorem ox37_38 : sx_oks 37 x37_38 := ⟨⟨(sx_dd bb_37 dX3_keyOf_38), sx_t1 (by decide +kernel)⟩, ox37_41⟩
def x37_37 : List sx_E := (.nop, 37, 38, [], .int (nI 2)) :: x37_38
theorem ox37_37 : sx_oks 37 x37_37 := ⟨sx_k_iconst (sx_dd bb_37 dX3_keyOf_37) (by decide +kernel), ox37_38⟩
def x37_34 : List sx_E := (.ifCond .eq (7), 34, 37, [41], .null) :: x37_37
theorem ox37_34 : sx_oks 37 x37_34 := ⟨⟨(sx_dd bb_37 dX3_keyOf_34), rfl, sx_t1 (by decide +kernel)⟩, ox37_37⟩
def x37_31 : List sx_E := (.invokestatic 73, 31, 34, [38, 4, 0, 0], .null) :: x37_34
theorem ox37_31 : sx_oks 37 x37_31 := ⟨sx_q_S (sx_dd bb_37 dX3_keyOf_31) oo_37 lk_StrawGarrison_Reader_73_S ft_38_h, ox37_34⟩
def x37_29 : List sx_E := (.nop, 29, 31, [], .ref 4) :: x37_31
theorem ox37_29 : sx_oks 37 x37_29 := ⟨sx_k_str (i := 2) (Nat.le_of_ble_eq_true rfl) (sx_dd bb_37 dX3_keyOf_29) oo_37, ox37_31⟩
def x37_28 : List sx_E := (.iload 2, 28, 29, [], .null) :: x37_29
theorem ox37_28 : sx_oks 37 x37_28 := ⟨Or.inr ⟨_, (sx_dd bb_37 dX3_keyOf_28), rfl, rfl⟩, ox37_29⟩
def x37_27 : List sx_E := (.iload 1, 27, 28, [], .null) :: x37_28
theorem ox37_27 : sx_oks 37 x37_27 := ⟨Or.inr ⟨_, (sx_dd bb_37 dX3_keyOf_27), rfl, rfl⟩, ox37_28⟩
def x37_26 : List sx_E := (.aload 0, 26, 27, [], .null) :: x37_27
theorem ox37_26 : sx_oks 37 x37_26 := ⟨Or.inr ⟨_, (sx_dd bb_37 dX3_keyOf_26), rfl, rfl⟩, ox37_27⟩
def x37_25 : List sx_E := (.ireturn, 25, 26, [0], .null) :: x37_26
theorem ox37_25 : sx_oks 37 x37_25 := ⟨sx_q_iret0 (sx_dd bb_37 dX3_keyOf_25) rr_37, ox37_26⟩
def x37_24 : List sx_E := (.nop, 24, 25, [], .int (nI 1)) :: x37_25
theorem ox37_24 : sx_oks 37 x37_24 := ⟨sx_k_iconst (sx_dd bb_37 dX3_keyOf_24) (by decide +kernel), ox37_25⟩
def x37_21 : List sx_E := (.ifCond .eq (5), 21, 24, [26], .null) :: x37_24
theorem ox37_21 : sx_oks 37 x37_21 := ⟨⟨(sx_dd bb_37 dX3_keyOf_21), rfl, sx_t1 (by decide +kernel)⟩, ox37_24⟩
def x37_18 : List sx_E := (.invokestatic 73, 18, 21, [38, 4, 0, 0], .null) :: x37_21
theorem ox37_18 : sx_oks 37 x37_18 := ⟨sx_q_S (sx_dd bb_37 dX3_keyOf_18) oo_37 lk_StrawGarrison_Reader_73_S ft_38_h, ox37_21⟩
def x37_16 : List sx_E := (.nop, 16, 18, [], .ref 3) :: x37_18
theorem ox37_16 : sx_oks 37 x37_16 := ⟨sx_k_str (i := 1) (Nat.le_of_ble_eq_true rfl) (sx_dd bb_37 dX3_keyOf_16) oo_37, ox37_18⟩
def x37_15 : List sx_E := (.iload 2, 15, 16, [], .null) :: x37_16
theorem ox37_15 : sx_oks 37 x37_15 := ⟨Or.inr ⟨_, (sx_dd bb_37 dX3_keyOf_15), rfl, rfl⟩, ox37_16⟩
def x37_14 : List sx_E := (.iload 1, 14, 15, [], .null) :: x37_15
theorem ox37_14 : sx_oks 37 x37_14 := ⟨Or.inr ⟨_, (sx_dd bb_37 dX3_keyOf_14), rfl, rfl⟩, ox37_15⟩
def x37_13 : List sx_E := (.aload 0, 13, 14, [], .null) :: x37_14
theorem ox37_13 : sx_oks 37 x37_13 := ⟨Or.inr ⟨_, (sx_dd bb_37 dX3_keyOf_13), rfl, rfl⟩, ox37_14⟩
def x37_12 : List sx_E := (.ireturn, 12, 13, [0], .null) :: x37_13
theorem ox37_12 : sx_oks 37 x37_12 := ⟨sx_q_iret0 (sx_dd bb_37 dX3_keyOf_12) rr_37, ox37_13⟩
def x37_11 : List sx_E := (.nop, 11, 12, [], .int (nI 0)) :: x37_12
theorem ox37_11 : sx_oks 37 x37_11 := ⟨sx_k_iconst (sx_dd bb_37 dX3_keyOf_11) (by decide +kernel), ox37_12⟩
def x37_8 : List sx_E := (.ifCond .eq (5), 8, 11, [13], .null) :: x37_11
theorem ox37_8 : sx_oks 37 x37_8 := ⟨⟨(sx_dd bb_37 dX3_keyOf_8), rfl, sx_t1 (by decide +kernel)⟩, ox37_11⟩
def x37_5 : List sx_E := (.invokestatic 73, 5, 8, [38, 4, 0, 0], .null) :: x37_8
theorem ox37_5 : sx_oks 37 x37_5 := ⟨sx_q_S (sx_dd bb_37 dX3_keyOf_5) oo_37 lk_StrawGarrison_Reader_73_S ft_38_h, ox37_8⟩
def x37_3 : List sx_E := (.nop, 3, 5, [], .ref 2) :: x37_5
theorem ox37_3 : sx_oks 37 x37_3 := ⟨sx_k_str (i := 0) (Nat.le_of_ble_eq_true rfl) (sx_dd bb_37 dX3_keyOf_3) oo_37, ox37_5⟩
def x37_2 : List sx_E := (.iload 2, 2, 3, [], .null) :: x37_3
theorem ox37_2 : sx_oks 37 x37_2 := ⟨Or.inr ⟨_, (sx_dd bb_37 dX3_keyOf_2), rfl, rfl⟩, ox37_3⟩
def x37_1 : List sx_E := (.iload 1, 1, 2, [], .null) :: x37_2
theorem ox37_1 : sx_oks 37 x37_1 := ⟨Or.inr ⟨_, (sx_dd bb_37 dX3_keyOf_1), rfl, rfl⟩, ox37_2⟩
def x37_0 : List sx_E := (.aload 0, 0, 1, [], .null) :: x37_1
theorem ox37_0 : sx_oks 37 x37_0 := ⟨Or.inr ⟨_, (sx_dd bb_37 dX3_keyOf_0), rfl, rfl⟩, ox37_1⟩
theorem m37 : sx_mok 37 x37_0 := ⟨ox37_0, by decide +kernel⟩
theorem bb_38 : sx_by 38 = cX3_isWord := rfl
theorem oo_38 : (sx_nm 38).cls = "StrawGarrison$Reader" := rfl
theorem mm_38 : sx_ml 38 = 5 := rfl
theorem rr_38 : sx_rt 38 = (some .boolean) := rfl
def x38_48 : List sx_E := (.ireturn, 48, 49, [1], .null) :: []
theorem ox38_48 : sx_oks 38 x38_48 := ⟨sx_q_iret1 (sx_dd bb_38 dX3_isWord_48) rr_38, trivial⟩
def x38_47 : List sx_E := (.nop, 47, 48, [], .int (nI 1)) :: x38_48
theorem ox38_47 : sx_oks 38 x38_47 := ⟨sx_k_iconst (sx_dd bb_38 dX3_isWord_47) (by decide +kernel), ox38_48⟩
def x38_44 : List sx_E := (.goto (-29), 44, 47, [15], .null) :: x38_47
theorem ox38_44 : sx_oks 38 x38_44 := ⟨⟨(sx_dd bb_38 dX3_isWord_44), sx_t1 (by decide +kernel)⟩, ox38_47⟩
def x38_41 : List sx_E := (.iinc 4 (1), 41, 44, [], .int (nI 1)) :: x38_44
theorem ox38_41 : sx_oks 38 x38_41 := ⟨⟨sx_lt mm_38 (Nat.le_of_ble_eq_true rfl), (sx_dd bb_38 dX3_isWord_41), rfl, by decide +kernel⟩, ox38_44⟩
def x38_40 : List sx_E := (.ireturn, 40, 41, [1], .null) :: x38_41
theorem ox38_40 : sx_oks 38 x38_40 := ⟨sx_q_iret1 (sx_dd bb_38 dX3_isWord_40) rr_38, ox38_41⟩
def x38_39 : List sx_E := (.nop, 39, 40, [], .int (nI 0)) :: x38_40
theorem ox38_39 : sx_oks 38 x38_39 := ⟨sx_k_iconst (sx_dd bb_38 dX3_isWord_39) (by decide +kernel), ox38_40⟩
def x38_36 : List sx_E := (.if_icmp .eq (5), 36, 39, [41], .null) :: x38_39
theorem ox38_36 : sx_oks 38 x38_36 := ⟨⟨(sx_dd bb_38 dX3_isWord_36), rfl, sx_t1 (by decide +kernel)⟩, ox38_39⟩
def x38_33 : List sx_E := (.invokevirtual 86, 33, 36, [216, 2, 0, 0, 100], .null) :: x38_36
theorem ox38_33 : sx_oks 38 x38_33 := ⟨sx_q_Vs (sx_dd bb_38 dX3_isWord_33) oo_38 lk_StrawGarrison_Reader_86_V ft_216_h rfl, ox38_36⟩
def x38_31 : List sx_E := (.iload 4, 31, 33, [], .null) :: x38_33
theorem ox38_31 : sx_oks 38 x38_31 := ⟨Or.inl ⟨(sx_dd bb_38 dX3_isWord_31), rfl⟩, ox38_33⟩
def x38_30 : List sx_E := (.aload 3, 30, 31, [], .null) :: x38_31
theorem ox38_30 : sx_oks 38 x38_30 := ⟨Or.inr ⟨_, (sx_dd bb_38 dX3_isWord_30), rfl, rfl⟩, ox38_31⟩
def x38_29 : List sx_E := (.baload, 29, 30, [], .null) :: x38_30
theorem ox38_29 : sx_oks 38 x38_29 := ⟨⟨(sx_dd bb_38 dX3_isWord_29), rfl⟩, ox38_30⟩
def x38_28 : List sx_E := (.iadd, 28, 29, [], .null) :: x38_29
theorem ox38_28 : sx_oks 38 x38_28 := ⟨⟨(sx_dd bb_38 dX3_isWord_28), rfl⟩, ox38_29⟩
def x38_26 : List sx_E := (.iload 4, 26, 28, [], .null) :: x38_28
theorem ox38_26 : sx_oks 38 x38_26 := ⟨Or.inl ⟨(sx_dd bb_38 dX3_isWord_26), rfl⟩, ox38_28⟩
def x38_25 : List sx_E := (.iload 1, 25, 26, [], .null) :: x38_26
theorem ox38_25 : sx_oks 38 x38_25 := ⟨Or.inr ⟨_, (sx_dd bb_38 dX3_isWord_25), rfl, rfl⟩, ox38_26⟩
def x38_24 : List sx_E := (.aload 0, 24, 25, [], .null) :: x38_25
theorem ox38_24 : sx_oks 38 x38_24 := ⟨Or.inr ⟨_, (sx_dd bb_38 dX3_isWord_24), rfl, rfl⟩, ox38_25⟩
def x38_21 : List sx_E := (.if_icmp .ge (26), 21, 24, [47], .null) :: x38_24
theorem ox38_21 : sx_oks 38 x38_21 := ⟨⟨(sx_dd bb_38 dX3_isWord_21), rfl, sx_t1 (by decide +kernel)⟩, ox38_24⟩
def x38_18 : List sx_E := (.invokevirtual 81, 18, 21, [215, 1, 0, 0, 100], .null) :: x38_21
theorem ox38_18 : sx_oks 38 x38_18 := ⟨sx_q_Vs (sx_dd bb_38 dX3_isWord_18) oo_38 lk_StrawGarrison_Reader_81_V ft_215_h rfl, ox38_21⟩
def x38_17 : List sx_E := (.aload 3, 17, 18, [], .null) :: x38_18
theorem ox38_17 : sx_oks 38 x38_17 := ⟨Or.inr ⟨_, (sx_dd bb_38 dX3_isWord_17), rfl, rfl⟩, ox38_18⟩
def x38_15 : List sx_E := (.iload 4, 15, 17, [], .null) :: x38_17
theorem ox38_15 : sx_oks 38 x38_15 := ⟨Or.inl ⟨(sx_dd bb_38 dX3_isWord_15), rfl⟩, ox38_17⟩
def x38_15h : List sx_E := (.monitorenter, 15, 15, [0, 1, 3, 4], .null) :: x38_15
theorem ox38_15h : sx_oks 38 x38_15h := ⟨trivial, ox38_15⟩
def x38_13 : List sx_E := (.istore 4, 13, 15, [], .null) :: x38_15h
theorem ox38_13 : sx_oks 38 x38_13 := ⟨⟨sx_lt mm_38 (Nat.le_of_ble_eq_true rfl), Or.inl ⟨(sx_dd bb_38 dX3_isWord_13), rfl⟩⟩, ox38_15h⟩
def x38_12 : List sx_E := (.nop, 12, 13, [], .int (nI 0)) :: x38_13
theorem ox38_12 : sx_oks 38 x38_12 := ⟨sx_k_iconst (sx_dd bb_38 dX3_isWord_12) (by decide +kernel), ox38_13⟩
def x38_11 : List sx_E := (.ireturn, 11, 12, [1], .null) :: x38_12
theorem ox38_11 : sx_oks 38 x38_11 := ⟨sx_q_iret1 (sx_dd bb_38 dX3_isWord_11) rr_38, ox38_12⟩
def x38_10 : List sx_E := (.nop, 10, 11, [], .int (nI 0)) :: x38_11
theorem ox38_10 : sx_oks 38 x38_10 := ⟨sx_k_iconst (sx_dd bb_38 dX3_isWord_10) (by decide +kernel), ox38_11⟩
def x38_7 : List sx_E := (.if_icmp .eq (5), 7, 10, [12], .null) :: x38_10
theorem ox38_7 : sx_oks 38 x38_7 := ⟨⟨(sx_dd bb_38 dX3_isWord_7), rfl, sx_t1 (by decide +kernel)⟩, ox38_10⟩
def x38_4 : List sx_E := (.invokevirtual 81, 4, 7, [215, 1, 0, 0, 100], .null) :: x38_7
theorem ox38_4 : sx_oks 38 x38_4 := ⟨sx_q_Vs (sx_dd bb_38 dX3_isWord_4) oo_38 lk_StrawGarrison_Reader_81_V ft_215_h rfl, ox38_7⟩
def x38_3 : List sx_E := (.aload 3, 3, 4, [], .null) :: x38_4
theorem ox38_3 : sx_oks 38 x38_3 := ⟨Or.inr ⟨_, (sx_dd bb_38 dX3_isWord_3), rfl, rfl⟩, ox38_4⟩
def x38_2 : List sx_E := (.isub, 2, 3, [], .null) :: x38_3
theorem ox38_2 : sx_oks 38 x38_2 := ⟨⟨(sx_dd bb_38 dX3_isWord_2), rfl⟩, ox38_3⟩
def x38_1 : List sx_E := (.iload 1, 1, 2, [], .null) :: x38_2
theorem ox38_1 : sx_oks 38 x38_1 := ⟨Or.inr ⟨_, (sx_dd bb_38 dX3_isWord_1), rfl, rfl⟩, ox38_2⟩
def x38_0 : List sx_E := (.iload 2, 0, 1, [], .null) :: x38_1
theorem ox38_0 : sx_oks 38 x38_0 := ⟨Or.inr ⟨_, (sx_dd bb_38 dX3_isWord_0), rfl, rfl⟩, ox38_1⟩
theorem m38 : sx_mok 38 x38_0 := ⟨ox38_0, by decide +kernel⟩
theorem bb_39 : sx_by 39 = cX3_goesOnWith := rfl
theorem oo_39 : (sx_nm 39).cls = "StrawGarrison$Reader" := rfl
theorem mm_39 : sx_ml 39 = 4 := rfl
theorem rr_39 : sx_rt 39 = (some .boolean) := rfl
def x39_124 : List sx_E := (.ireturn, 124, 125, [1], .null) :: []
theorem ox39_124 : sx_oks 39 x39_124 := ⟨sx_q_iret1 (sx_dd bb_39 dX3_goesOnWith_124) rr_39, trivial⟩
def x39_121 : List sx_E := (.invokevirtual 104, 121, 124, [46, 2, 0, 0, 2], .null) :: x39_124
theorem ox39_121 : sx_oks 39 x39_121 := ⟨sx_q_V (w := (RX3, TX3, 10)) (sx_dd bb_39 dX3_goesOnWith_121) oo_39 lk_StrawGarrison_Reader_104_V ft_46_h (Nat.le_of_ble_eq_true rfl) rfl rfl, ox39_124⟩
def x39_120 : List sx_E := (.baload, 120, 121, [], .null) :: x39_121
theorem ox39_120 : sx_oks 39 x39_120 := ⟨⟨(sx_dd bb_39 dX3_goesOnWith_120), rfl⟩, ox39_121⟩
def x39_119 : List sx_E := (.iload 2, 119, 120, [], .null) :: x39_120
theorem ox39_119 : sx_oks 39 x39_119 := ⟨Or.inr ⟨_, (sx_dd bb_39 dX3_goesOnWith_119), rfl, rfl⟩, ox39_120⟩
def x39_118 : List sx_E := (.aload 1, 118, 119, [], .null) :: x39_119
theorem ox39_118 : sx_oks 39 x39_118 := ⟨Or.inr ⟨_, (sx_dd bb_39 dX3_goesOnWith_118), rfl, rfl⟩, ox39_119⟩
def x39_117 : List sx_E := (.aload 0, 117, 118, [], .null) :: x39_118
theorem ox39_117 : sx_oks 39 x39_117 := ⟨Or.inr ⟨_, (sx_dd bb_39 dX3_goesOnWith_117), rfl, rfl⟩, ox39_118⟩
def x39_114 : List sx_E := (.goto (10), 114, 117, [124], .null) :: x39_117
theorem ox39_114 : sx_oks 39 x39_114 := ⟨⟨(sx_dd bb_39 dX3_goesOnWith_114), sx_t1 (by decide +kernel)⟩, ox39_117⟩
def x39_111 : List sx_E := (.invokevirtual 100, 111, 114, [44, 1, 0, 0, 2], .null) :: x39_114
theorem ox39_111 : sx_oks 39 x39_111 := ⟨sx_q_V (w := (RX3, TX3, 10)) (sx_dd bb_39 dX3_goesOnWith_111) oo_39 lk_StrawGarrison_Reader_100_V ft_44_h (Nat.le_of_ble_eq_true rfl) rfl rfl, ox39_114⟩
def x39_110 : List sx_E := (.aload 0, 110, 111, [], .null) :: x39_111
theorem ox39_110 : sx_oks 39 x39_110 := ⟨Or.inr ⟨_, (sx_dd bb_39 dX3_goesOnWith_110), rfl, rfl⟩, ox39_111⟩
def x39_107 : List sx_E := (.if_icmp .ne (10), 107, 110, [117], .null) :: x39_110
theorem ox39_107 : sx_oks 39 x39_107 := ⟨⟨(sx_dd bb_39 dX3_goesOnWith_107), rfl, sx_t1 (by decide +kernel)⟩, ox39_110⟩
def x39_105 : List sx_E := (.nop, 105, 107, [], .int (nI 41)) :: x39_107
theorem ox39_105 : sx_oks 39 x39_105 := ⟨sx_k_bipush (sx_dd bb_39 dX3_goesOnWith_105) (by decide +kernel), ox39_107⟩
def x39_104 : List sx_E := (.baload, 104, 105, [], .null) :: x39_105
theorem ox39_104 : sx_oks 39 x39_104 := ⟨⟨(sx_dd bb_39 dX3_goesOnWith_104), rfl⟩, ox39_105⟩
def x39_103 : List sx_E := (.iload 2, 103, 104, [], .null) :: x39_104
theorem ox39_103 : sx_oks 39 x39_103 := ⟨Or.inr ⟨_, (sx_dd bb_39 dX3_goesOnWith_103), rfl, rfl⟩, ox39_104⟩
def x39_102 : List sx_E := (.aload 1, 102, 103, [], .null) :: x39_103
theorem ox39_102 : sx_oks 39 x39_102 := ⟨Or.inr ⟨_, (sx_dd bb_39 dX3_goesOnWith_102), rfl, rfl⟩, ox39_103⟩
def x39_99 : List sx_E := (.goto (25), 99, 102, [124], .null) :: x39_102
theorem ox39_99 : sx_oks 39 x39_99 := ⟨⟨(sx_dd bb_39 dX3_goesOnWith_99), sx_t1 (by decide +kernel)⟩, ox39_102⟩
def x39_96 : List sx_E := (.invokevirtual 97, 96, 99, [43, 2, 0, 0, 2], .null) :: x39_99
theorem ox39_96 : sx_oks 39 x39_96 := ⟨sx_q_V (w := (RX3, TX3, 10)) (sx_dd bb_39 dX3_goesOnWith_96) oo_39 lk_StrawGarrison_Reader_97_V ft_43_h (Nat.le_of_ble_eq_true rfl) rfl rfl, ox39_99⟩
def x39_95 : List sx_E := (.baload, 95, 96, [], .null) :: x39_96
theorem ox39_95 : sx_oks 39 x39_95 := ⟨⟨(sx_dd bb_39 dX3_goesOnWith_95), rfl⟩, ox39_96⟩
def x39_94 : List sx_E := (.iload 2, 94, 95, [], .null) :: x39_95
theorem ox39_94 : sx_oks 39 x39_94 := ⟨Or.inr ⟨_, (sx_dd bb_39 dX3_goesOnWith_94), rfl, rfl⟩, ox39_95⟩
def x39_93 : List sx_E := (.aload 1, 93, 94, [], .null) :: x39_94
theorem ox39_93 : sx_oks 39 x39_93 := ⟨Or.inr ⟨_, (sx_dd bb_39 dX3_goesOnWith_93), rfl, rfl⟩, ox39_94⟩
def x39_92 : List sx_E := (.aload 0, 92, 93, [], .null) :: x39_93
theorem ox39_92 : sx_oks 39 x39_92 := ⟨Or.inr ⟨_, (sx_dd bb_39 dX3_goesOnWith_92), rfl, rfl⟩, ox39_93⟩
def x39_89 : List sx_E := (.ifCond .eq (13), 89, 92, [102], .null) :: x39_92
theorem ox39_89 : sx_oks 39 x39_89 := ⟨⟨(sx_dd bb_39 dX3_goesOnWith_89), rfl, sx_t1 (by decide +kernel)⟩, ox39_92⟩
def x39_86 : List sx_E := (.getfield 48, 86, 89, [2, 8, 2], .null) :: x39_89
theorem ox39_86 : sx_oks 39 x39_86 := ⟨sx_q_get (w := (RX3, TX3, 10)) (sx_dd bb_39 dX3_goesOnWith_86) rfl rfl (Nat.le_of_ble_eq_true rfl) cu_2 (sx_ow3 oo_39 fl_StrawGarrison_Reader_48) (by decide +kernel), ox39_89⟩
def x39_85 : List sx_E := (.aload 0, 85, 86, [], .null) :: x39_86
theorem ox39_85 : sx_oks 39 x39_85 := ⟨Or.inr ⟨_, (sx_dd bb_39 dX3_goesOnWith_85), rfl, rfl⟩, ox39_86⟩
def x39_84 : List sx_E := (.ireturn, 84, 85, [1], .null) :: x39_85
theorem ox39_84 : sx_oks 39 x39_84 := ⟨sx_q_iret1 (sx_dd bb_39 dX3_goesOnWith_84) rr_39, ox39_85⟩
def x39_83 : List sx_E := (.nop, 83, 84, [], .int (nI 0)) :: x39_84
theorem ox39_83 : sx_oks 39 x39_83 := ⟨sx_k_iconst (sx_dd bb_39 dX3_goesOnWith_83) (by decide +kernel), ox39_84⟩
def x39_80 : List sx_E := (.goto (4), 80, 83, [84], .null) :: x39_83
theorem ox39_80 : sx_oks 39 x39_80 := ⟨⟨(sx_dd bb_39 dX3_goesOnWith_80), sx_t1 (by decide +kernel)⟩, ox39_83⟩
def x39_79 : List sx_E := (.nop, 79, 80, [], .int (nI 1)) :: x39_80
theorem ox39_79 : sx_oks 39 x39_79 := ⟨sx_k_iconst (sx_dd bb_39 dX3_goesOnWith_79) (by decide +kernel), ox39_80⟩
def x39_76 : List sx_E := (.ifCond .eq (7), 76, 79, [83], .null) :: x39_79
theorem ox39_76 : sx_oks 39 x39_76 := ⟨⟨(sx_dd bb_39 dX3_goesOnWith_76), rfl, sx_t1 (by decide +kernel)⟩, ox39_79⟩
def x39_73 : List sx_E := (.invokevirtual 93, 73, 76, [41, 2, 0, 0, 2], .null) :: x39_76
theorem ox39_73 : sx_oks 39 x39_73 := ⟨sx_q_V (w := (RX3, TX3, 10)) (sx_dd bb_39 dX3_goesOnWith_73) oo_39 lk_StrawGarrison_Reader_93_V ft_41_h (Nat.le_of_ble_eq_true rfl) rfl rfl, ox39_76⟩
def x39_72 : List sx_E := (.baload, 72, 73, [], .null) :: x39_73
theorem ox39_72 : sx_oks 39 x39_72 := ⟨⟨(sx_dd bb_39 dX3_goesOnWith_72), rfl⟩, ox39_73⟩
def x39_71 : List sx_E := (.iload 2, 71, 72, [], .null) :: x39_72
theorem ox39_71 : sx_oks 39 x39_71 := ⟨Or.inr ⟨_, (sx_dd bb_39 dX3_goesOnWith_71), rfl, rfl⟩, ox39_72⟩
def x39_70 : List sx_E := (.aload 1, 70, 71, [], .null) :: x39_71
theorem ox39_70 : sx_oks 39 x39_70 := ⟨Or.inr ⟨_, (sx_dd bb_39 dX3_goesOnWith_70), rfl, rfl⟩, ox39_71⟩
def x39_69 : List sx_E := (.aload 0, 69, 70, [], .null) :: x39_70
theorem ox39_69 : sx_oks 39 x39_69 := ⟨Or.inr ⟨_, (sx_dd bb_39 dX3_goesOnWith_69), rfl, rfl⟩, ox39_70⟩
def x39_66 : List sx_E := (.if_icmp .ne (17), 66, 69, [83], .null) :: x39_69
theorem ox39_66 : sx_oks 39 x39_66 := ⟨⟨(sx_dd bb_39 dX3_goesOnWith_66), rfl, sx_t1 (by decide +kernel)⟩, ox39_69⟩
def x39_65 : List sx_E := (.nop, 65, 66, [], .int (nI 1)) :: x39_66
theorem ox39_65 : sx_oks 39 x39_65 := ⟨sx_k_iconst (sx_dd bb_39 dX3_goesOnWith_65) (by decide +kernel), ox39_66⟩
def x39_64 : List sx_E := (.isub, 64, 65, [], .null) :: x39_65
theorem ox39_64 : sx_oks 39 x39_64 := ⟨⟨(sx_dd bb_39 dX3_goesOnWith_64), rfl⟩, ox39_65⟩
def x39_63 : List sx_E := (.iload 2, 63, 64, [], .null) :: x39_64
theorem ox39_63 : sx_oks 39 x39_63 := ⟨Or.inr ⟨_, (sx_dd bb_39 dX3_goesOnWith_63), rfl, rfl⟩, ox39_64⟩
def x39_62 : List sx_E := (.iload 3, 62, 63, [], .null) :: x39_63
theorem ox39_62 : sx_oks 39 x39_62 := ⟨Or.inr ⟨_, (sx_dd bb_39 dX3_goesOnWith_62), rfl, rfl⟩, ox39_63⟩
def x39_59 : List sx_E := (.ifCond .eq (24), 59, 62, [83], .null) :: x39_62
theorem ox39_59 : sx_oks 39 x39_59 := ⟨⟨(sx_dd bb_39 dX3_goesOnWith_59), rfl, sx_t1 (by decide +kernel)⟩, ox39_62⟩
def x39_56 : List sx_E := (.getfield 48, 56, 59, [2, 8, 2], .null) :: x39_59
theorem ox39_56 : sx_oks 39 x39_56 := ⟨sx_q_get (w := (RX3, TX3, 10)) (sx_dd bb_39 dX3_goesOnWith_56) rfl rfl (Nat.le_of_ble_eq_true rfl) cu_2 (sx_ow3 oo_39 fl_StrawGarrison_Reader_48) (by decide +kernel), ox39_59⟩
def x39_55 : List sx_E := (.aload 0, 55, 56, [], .null) :: x39_56
theorem ox39_55 : sx_oks 39 x39_55 := ⟨Or.inr ⟨_, (sx_dd bb_39 dX3_goesOnWith_55), rfl, rfl⟩, ox39_56⟩
def x39_54 : List sx_E := (.ireturn, 54, 55, [1], .null) :: x39_55
theorem ox39_54 : sx_oks 39 x39_54 := ⟨sx_q_iret1 (sx_dd bb_39 dX3_goesOnWith_54) rr_39, ox39_55⟩
def x39_53 : List sx_E := (.nop, 53, 54, [], .int (nI 0)) :: x39_54
theorem ox39_53 : sx_oks 39 x39_53 := ⟨sx_k_iconst (sx_dd bb_39 dX3_goesOnWith_53) (by decide +kernel), ox39_54⟩
def x39_50 : List sx_E := (.goto (4), 50, 53, [54], .null) :: x39_53
theorem ox39_50 : sx_oks 39 x39_50 := ⟨⟨(sx_dd bb_39 dX3_goesOnWith_50), sx_t1 (by decide +kernel)⟩, ox39_53⟩
def x39_49 : List sx_E := (.nop, 49, 50, [], .int (nI 1)) :: x39_50
theorem ox39_49 : sx_oks 39 x39_49 := ⟨sx_k_iconst (sx_dd bb_39 dX3_goesOnWith_49) (by decide +kernel), ox39_50⟩
def x39_46 : List sx_E := (.ifCond .eq (7), 46, 49, [53], .null) :: x39_49
theorem ox39_46 : sx_oks 39 x39_46 := ⟨⟨(sx_dd bb_39 dX3_goesOnWith_46), rfl, sx_t1 (by decide +kernel)⟩, ox39_49⟩
def x39_43 : List sx_E := (.invokevirtual 90, 43, 46, [40, 4, 0, 0, 2], .null) :: x39_46
theorem ox39_43 : sx_oks 39 x39_43 := ⟨sx_q_V (w := (RX3, TX3, 10)) (sx_dd bb_39 dX3_goesOnWith_43) oo_39 lk_StrawGarrison_Reader_90_V ft_40_h (Nat.le_of_ble_eq_true rfl) rfl rfl, ox39_46⟩
def x39_42 : List sx_E := (.iload 3, 42, 43, [], .null) :: x39_43
theorem ox39_42 : sx_oks 39 x39_42 := ⟨Or.inr ⟨_, (sx_dd bb_39 dX3_goesOnWith_42), rfl, rfl⟩, ox39_43⟩
def x39_41 : List sx_E := (.iload 2, 41, 42, [], .null) :: x39_42
theorem ox39_41 : sx_oks 39 x39_41 := ⟨Or.inr ⟨_, (sx_dd bb_39 dX3_goesOnWith_41), rfl, rfl⟩, ox39_42⟩
def x39_40 : List sx_E := (.aload 1, 40, 41, [], .null) :: x39_41
theorem ox39_40 : sx_oks 39 x39_40 := ⟨Or.inr ⟨_, (sx_dd bb_39 dX3_goesOnWith_40), rfl, rfl⟩, ox39_41⟩
def x39_39 : List sx_E := (.aload 0, 39, 40, [], .null) :: x39_40
theorem ox39_39 : sx_oks 39 x39_39 := ⟨Or.inr ⟨_, (sx_dd bb_39 dX3_goesOnWith_39), rfl, rfl⟩, ox39_40⟩
def x39_36 : List sx_E := (.ifCond .eq (17), 36, 39, [53], .null) :: x39_39
theorem ox39_36 : sx_oks 39 x39_36 := ⟨⟨(sx_dd bb_39 dX3_goesOnWith_36), rfl, sx_t1 (by decide +kernel)⟩, ox39_39⟩
def x39_33 : List sx_E := (.getfield 48, 33, 36, [2, 8, 2], .null) :: x39_36
theorem ox39_33 : sx_oks 39 x39_33 := ⟨sx_q_get (w := (RX3, TX3, 10)) (sx_dd bb_39 dX3_goesOnWith_33) rfl rfl (Nat.le_of_ble_eq_true rfl) cu_2 (sx_ow3 oo_39 fl_StrawGarrison_Reader_48) (by decide +kernel), ox39_36⟩
def x39_32 : List sx_E := (.aload 0, 32, 33, [], .null) :: x39_33
theorem ox39_32 : sx_oks 39 x39_32 := ⟨Or.inr ⟨_, (sx_dd bb_39 dX3_goesOnWith_32), rfl, rfl⟩, ox39_33⟩
def x39_6 : List sx_E := (.lookupswitch 79 #[(1, 49), (2, 26)], 6, 32, [85, 1, 55, 2, 32], .null) :: x39_32
theorem ox39_6 : sx_oks 39 x39_6 := ⟨⟨⟨_, (sx_dd bb_39 dX3_goesOnWith_6)⟩, by decide +kernel, sx_t3 (by decide +kernel) (by decide +kernel)⟩, ox39_32⟩
def x39_3 : List sx_E := (.invokestatic 40, 3, 6, [34, 1, 0, 0], .null) :: x39_6
theorem ox39_3 : sx_oks 39 x39_3 := ⟨sx_q_S (sx_dd bb_39 dX3_goesOnWith_3) oo_39 lk_StrawGarrison_Reader_40_S ft_34_h, ox39_6⟩
def x39_2 : List sx_E := (.baload, 2, 3, [], .null) :: x39_3
theorem ox39_2 : sx_oks 39 x39_2 := ⟨⟨(sx_dd bb_39 dX3_goesOnWith_2), rfl⟩, ox39_3⟩
def x39_1 : List sx_E := (.iload 2, 1, 2, [], .null) :: x39_2
theorem ox39_1 : sx_oks 39 x39_1 := ⟨Or.inr ⟨_, (sx_dd bb_39 dX3_goesOnWith_1), rfl, rfl⟩, ox39_2⟩
def x39_0 : List sx_E := (.aload 1, 0, 1, [], .null) :: x39_1
theorem ox39_0 : sx_oks 39 x39_0 := ⟨Or.inr ⟨_, (sx_dd bb_39 dX3_goesOnWith_0), rfl, rfl⟩, ox39_1⟩
theorem m39 : sx_mok 39 x39_0 := ⟨ox39_0, by decide +kernel⟩
theorem bb_40 : sx_by 40 = cX3_takesNumber := rfl
theorem oo_40 : (sx_nm 40).cls = "StrawGarrison$Reader" := rfl
theorem mm_40 : sx_ml 40 = 6 := rfl
theorem rr_40 : sx_rt 40 = (some .boolean) := rfl
def x40_49 : List sx_E := (.ireturn, 49, 50, [1], .null) :: []
theorem ox40_49 : sx_oks 40 x40_49 := ⟨sx_q_iret1 (sx_dd bb_40 dX3_takesNumber_49) rr_40, trivial⟩
def x40_48 : List sx_E := (.nop, 48, 49, [], .int (nI 1)) :: x40_49
theorem ox40_48 : sx_oks 40 x40_48 := ⟨sx_k_iconst (sx_dd bb_40 dX3_takesNumber_48) (by decide +kernel), ox40_49⟩
def x40_45 : List sx_E := (.invokevirtual 107, 45, 48, [42, 2, 0, 0, 2], .null) :: x40_48
theorem ox40_45 : sx_oks 40 x40_45 := ⟨sx_q_V (w := (RX3, TX3, 10)) (sx_dd bb_40 dX3_takesNumber_45) oo_40 lk_StrawGarrison_Reader_107_V ft_42_h (Nat.le_of_ble_eq_true rfl) rfl rfl, ox40_48⟩
def x40_43 : List sx_E := (.iload 4, 43, 45, [], .null) :: x40_45
theorem ox40_43 : sx_oks 40 x40_43 := ⟨Or.inl ⟨(sx_dd bb_40 dX3_takesNumber_43), rfl⟩, ox40_45⟩
def x40_42 : List sx_E := (.aload 0, 42, 43, [], .null) :: x40_43
theorem ox40_42 : sx_oks 40 x40_42 := ⟨Or.inr ⟨_, (sx_dd bb_40 dX3_takesNumber_42), rfl, rfl⟩, ox40_43⟩
def x40_39 : List sx_E := (.goto (-24), 39, 42, [15], .null) :: x40_42
theorem ox40_39 : sx_oks 40 x40_39 := ⟨⟨(sx_dd bb_40 dX3_takesNumber_39), sx_t1 (by decide +kernel)⟩, ox40_42⟩
def x40_36 : List sx_E := (.iinc 5 (1), 36, 39, [], .int (nI 1)) :: x40_39
theorem ox40_36 : sx_oks 40 x40_36 := ⟨⟨sx_lt mm_40 (Nat.le_of_ble_eq_true rfl), (sx_dd bb_40 dX3_takesNumber_36), rfl, by decide +kernel⟩, ox40_39⟩
def x40_34 : List sx_E := (.istore 4, 34, 36, [], .null) :: x40_36
theorem ox40_34 : sx_oks 40 x40_34 := ⟨⟨sx_lt mm_40 (Nat.le_of_ble_eq_true rfl), Or.inl ⟨(sx_dd bb_40 dX3_takesNumber_34), rfl⟩⟩, ox40_36⟩
def x40_33 : List sx_E := (.iadd, 33, 34, [], .null) :: x40_34
theorem ox40_33 : sx_oks 40 x40_33 := ⟨⟨(sx_dd bb_40 dX3_takesNumber_33), rfl⟩, ox40_34⟩
def x40_32 : List sx_E := (.isub, 32, 33, [], .null) :: x40_33
theorem ox40_32 : sx_oks 40 x40_32 := ⟨⟨(sx_dd bb_40 dX3_takesNumber_32), rfl⟩, ox40_33⟩
def x40_30 : List sx_E := (.nop, 30, 32, [], .int (nI 48)) :: x40_32
theorem ox40_30 : sx_oks 40 x40_30 := ⟨sx_k_bipush (sx_dd bb_40 dX3_takesNumber_30) (by decide +kernel), ox40_32⟩
def x40_29 : List sx_E := (.baload, 29, 30, [], .null) :: x40_30
theorem ox40_29 : sx_oks 40 x40_29 := ⟨⟨(sx_dd bb_40 dX3_takesNumber_29), rfl⟩, ox40_30⟩
def x40_27 : List sx_E := (.iload 5, 27, 29, [], .null) :: x40_29
theorem ox40_27 : sx_oks 40 x40_27 := ⟨Or.inl ⟨(sx_dd bb_40 dX3_takesNumber_27), rfl⟩, ox40_29⟩
def x40_26 : List sx_E := (.aload 1, 26, 27, [], .null) :: x40_27
theorem ox40_26 : sx_oks 40 x40_26 := ⟨Or.inr ⟨_, (sx_dd bb_40 dX3_takesNumber_26), rfl, rfl⟩, ox40_27⟩
def x40_25 : List sx_E := (.imul, 25, 26, [], .null) :: x40_26
theorem ox40_25 : sx_oks 40 x40_25 := ⟨⟨(sx_dd bb_40 dX3_takesNumber_25), rfl⟩, ox40_26⟩
def x40_23 : List sx_E := (.iload 4, 23, 25, [], .null) :: x40_25
theorem ox40_23 : sx_oks 40 x40_23 := ⟨Or.inl ⟨(sx_dd bb_40 dX3_takesNumber_23), rfl⟩, ox40_25⟩
def x40_21 : List sx_E := (.nop, 21, 23, [], .int (nI 10)) :: x40_23
theorem ox40_21 : sx_oks 40 x40_21 := ⟨sx_k_bipush (sx_dd bb_40 dX3_takesNumber_21) (by decide +kernel), ox40_23⟩
def x40_18 : List sx_E := (.if_icmp .ge (24), 18, 21, [42], .null) :: x40_21
theorem ox40_18 : sx_oks 40 x40_18 := ⟨⟨(sx_dd bb_40 dX3_takesNumber_18), rfl, sx_t1 (by decide +kernel)⟩, ox40_21⟩
def x40_17 : List sx_E := (.iload 3, 17, 18, [], .null) :: x40_18
theorem ox40_17 : sx_oks 40 x40_17 := ⟨Or.inr ⟨_, (sx_dd bb_40 dX3_takesNumber_17), rfl, rfl⟩, ox40_18⟩
def x40_15 : List sx_E := (.iload 5, 15, 17, [], .null) :: x40_17
theorem ox40_15 : sx_oks 40 x40_15 := ⟨Or.inl ⟨(sx_dd bb_40 dX3_takesNumber_15), rfl⟩, ox40_17⟩
def x40_15h : List sx_E := (.monitorenter, 15, 15, [0, 1, 3, 4, 5], .null) :: x40_15
theorem ox40_15h : sx_oks 40 x40_15h := ⟨trivial, ox40_15⟩
def x40_13 : List sx_E := (.istore 5, 13, 15, [], .null) :: x40_15h
theorem ox40_13 : sx_oks 40 x40_13 := ⟨⟨sx_lt mm_40 (Nat.le_of_ble_eq_true rfl), Or.inl ⟨(sx_dd bb_40 dX3_takesNumber_13), rfl⟩⟩, ox40_15h⟩
def x40_12 : List sx_E := (.iload 2, 12, 13, [], .null) :: x40_13
theorem ox40_12 : sx_oks 40 x40_12 := ⟨Or.inr ⟨_, (sx_dd bb_40 dX3_takesNumber_12), rfl, rfl⟩, ox40_13⟩
def x40_10 : List sx_E := (.istore 4, 10, 12, [], .null) :: x40_12
theorem ox40_10 : sx_oks 40 x40_10 := ⟨⟨sx_lt mm_40 (Nat.le_of_ble_eq_true rfl), Or.inl ⟨(sx_dd bb_40 dX3_takesNumber_10), rfl⟩⟩, ox40_12⟩
def x40_9 : List sx_E := (.nop, 9, 10, [], .int (nI 0)) :: x40_10
theorem ox40_9 : sx_oks 40 x40_9 := ⟨sx_k_iconst (sx_dd bb_40 dX3_takesNumber_9) (by decide +kernel), ox40_10⟩
def x40_8 : List sx_E := (.ireturn, 8, 9, [1], .null) :: x40_9
theorem ox40_8 : sx_oks 40 x40_8 := ⟨sx_q_iret1 (sx_dd bb_40 dX3_takesNumber_8) rr_40, ox40_9⟩
def x40_7 : List sx_E := (.nop, 7, 8, [], .int (nI 0)) :: x40_8
theorem ox40_7 : sx_oks 40 x40_7 := ⟨sx_k_iconst (sx_dd bb_40 dX3_takesNumber_7) (by decide +kernel), ox40_8⟩
def x40_4 : List sx_E := (.if_icmp .le (5), 4, 7, [9], .null) :: x40_7
theorem ox40_4 : sx_oks 40 x40_4 := ⟨⟨(sx_dd bb_40 dX3_takesNumber_4), rfl, sx_t1 (by decide +kernel)⟩, ox40_7⟩
def x40_3 : List sx_E := (.nop, 3, 4, [], .int (nI 4)) :: x40_4
theorem ox40_3 : sx_oks 40 x40_3 := ⟨sx_k_iconst (sx_dd bb_40 dX3_takesNumber_3) (by decide +kernel), ox40_4⟩
def x40_2 : List sx_E := (.isub, 2, 3, [], .null) :: x40_3
theorem ox40_2 : sx_oks 40 x40_2 := ⟨⟨(sx_dd bb_40 dX3_takesNumber_2), rfl⟩, ox40_3⟩
def x40_1 : List sx_E := (.iload 2, 1, 2, [], .null) :: x40_2
theorem ox40_1 : sx_oks 40 x40_1 := ⟨Or.inr ⟨_, (sx_dd bb_40 dX3_takesNumber_1), rfl, rfl⟩, ox40_2⟩
def x40_0 : List sx_E := (.iload 3, 0, 1, [], .null) :: x40_1
theorem ox40_0 : sx_oks 40 x40_0 := ⟨Or.inr ⟨_, (sx_dd bb_40 dX3_takesNumber_0), rfl, rfl⟩, ox40_1⟩
theorem m40 : sx_mok 40 x40_0 := ⟨ox40_0, by decide +kernel⟩
theorem bb_41 : sx_by 41 = cX3_takesName := rfl
theorem oo_41 : (sx_nm 41).cls = "StrawGarrison$Reader" := rfl
theorem mm_41 : sx_ml 41 = 4 := rfl
theorem rr_41 : sx_rt 41 = (some .boolean) := rfl
def x41_49 : List sx_E := (.ireturn, 49, 50, [1], .null) :: []
theorem ox41_49 : sx_oks 41 x41_49 := ⟨sx_q_iret1 (sx_dd bb_41 dX3_takesName_49) rr_41, trivial⟩
def x41_48 : List sx_E := (.nop, 48, 49, [], .int (nI 1)) :: x41_49
theorem ox41_48 : sx_oks 41 x41_48 := ⟨sx_k_iconst (sx_dd bb_41 dX3_takesName_48) (by decide +kernel), ox41_49⟩
def x41_45 : List sx_E := (.invokevirtual 107, 45, 48, [42, 2, 0, 0, 2], .null) :: x41_48
theorem ox41_45 : sx_oks 41 x41_45 := ⟨sx_q_V (w := (RX3, TX3, 10)) (sx_dd bb_41 dX3_takesName_45) oo_41 lk_StrawGarrison_Reader_107_V ft_42_h (Nat.le_of_ble_eq_true rfl) rfl rfl, ox41_48⟩
def x41_44 : List sx_E := (.isub, 44, 45, [], .null) :: x41_45
theorem ox41_44 : sx_oks 41 x41_44 := ⟨⟨(sx_dd bb_41 dX3_takesName_44), rfl⟩, ox41_45⟩
def x41_43 : List sx_E := (.iload 3, 43, 44, [], .null) :: x41_44
theorem ox41_43 : sx_oks 41 x41_43 := ⟨Or.inr ⟨_, (sx_dd bb_41 dX3_takesName_43), rfl, rfl⟩, ox41_44⟩
def x41_42 : List sx_E := (.nop, 42, 43, [], .int ((-1))) :: x41_43
theorem ox41_42 : sx_oks 41 x41_42 := ⟨sx_k_iconst (sx_dd bb_41 dX3_takesName_42) (by decide +kernel), ox41_43⟩
def x41_41 : List sx_E := (.aload 0, 41, 42, [], .null) :: x41_42
theorem ox41_41 : sx_oks 41 x41_41 := ⟨Or.inr ⟨_, (sx_dd bb_41 dX3_takesName_41), rfl, rfl⟩, ox41_42⟩
def x41_40 : List sx_E := (.ireturn, 40, 41, [1], .null) :: x41_41
theorem ox41_40 : sx_oks 41 x41_40 := ⟨sx_q_iret1 (sx_dd bb_41 dX3_takesName_40) rr_41, ox41_41⟩
def x41_39 : List sx_E := (.nop, 39, 40, [], .int (nI 0)) :: x41_40
theorem ox41_39 : sx_oks 41 x41_39 := ⟨sx_k_iconst (sx_dd bb_41 dX3_takesName_39) (by decide +kernel), ox41_40⟩
def x41_36 : List sx_E := (.ifCond .ge (5), 36, 39, [41], .null) :: x41_39
theorem ox41_36 : sx_oks 41 x41_36 := ⟨⟨(sx_dd bb_41 dX3_takesName_36), rfl, sx_t1 (by decide +kernel)⟩, ox41_39⟩
def x41_35 : List sx_E := (.iload 3, 35, 36, [], .null) :: x41_36
theorem ox41_35 : sx_oks 41 x41_35 := ⟨Or.inr ⟨_, (sx_dd bb_41 dX3_takesName_35), rfl, rfl⟩, ox41_36⟩
def x41_34 : List sx_E := (.istore 3, 34, 35, [], .null) :: x41_35
theorem ox41_34 : sx_oks 41 x41_34 := ⟨⟨sx_lt mm_41 (Nat.le_of_ble_eq_true rfl), Or.inr ⟨_, (sx_dd bb_41 dX3_takesName_34), rfl, rfl⟩⟩, ox41_35⟩
def x41_31 : List sx_E := (.invokevirtual 116, 31, 34, [217, 2, 0, 0, 100], .null) :: x41_34
theorem ox41_31 : sx_oks 41 x41_31 := ⟨sx_q_Vs (sx_dd bb_41 dX3_takesName_31) oo_41 lk_StrawGarrison_Reader_116_V ft_217_h rfl, ox41_34⟩
def x41_30 : List sx_E := (.i2c, 30, 31, [], .null) :: x41_31
theorem ox41_30 : sx_oks 41 x41_30 := ⟨⟨(sx_dd bb_41 dX3_takesName_30), rfl⟩, ox41_31⟩
def x41_29 : List sx_E := (.iload 1, 29, 30, [], .null) :: x41_30
theorem ox41_29 : sx_oks 41 x41_29 := ⟨Or.inr ⟨_, (sx_dd bb_41 dX3_takesName_29), rfl, rfl⟩, ox41_30⟩
def x41_28 : List sx_E := (.aload 2, 28, 29, [], .null) :: x41_29
theorem ox41_28 : sx_oks 41 x41_28 := ⟨Or.inr ⟨_, (sx_dd bb_41 dX3_takesName_28), rfl, rfl⟩, ox41_29⟩
def x41_27 : List sx_E := (.astore 2, 27, 28, [], .null) :: x41_28
theorem ox41_27 : sx_oks 41 x41_27 := ⟨⟨sx_lt mm_41 (Nat.le_of_ble_eq_true rfl), Or.inr ⟨_, (sx_dd bb_41 dX3_takesName_27), rfl, rfl⟩⟩, ox41_28⟩
def x41_25 : List sx_E := (.nop, 25, 27, [], .ref 7) :: x41_27
theorem ox41_25 : sx_oks 41 x41_25 := ⟨sx_k_str (i := 5) (Nat.le_of_ble_eq_true rfl) (sx_dd bb_41 dX3_takesName_25) oo_41, ox41_27⟩
def x41_22 : List sx_E := (.goto (5), 22, 25, [27], .null) :: x41_25
theorem ox41_22 : sx_oks 41 x41_22 := ⟨⟨(sx_dd bb_41 dX3_takesName_22), sx_t1 (by decide +kernel)⟩, ox41_25⟩
def x41_20 : List sx_E := (.nop, 20, 22, [], .ref 6) :: x41_22
theorem ox41_20 : sx_oks 41 x41_20 := ⟨sx_k_str (i := 4) (Nat.le_of_ble_eq_true rfl) (sx_dd bb_41 dX3_takesName_20) oo_41, ox41_22⟩
def x41_17 : List sx_E := (.if_icmp .ne (8), 17, 20, [25], .null) :: x41_20
theorem ox41_17 : sx_oks 41 x41_17 := ⟨⟨(sx_dd bb_41 dX3_takesName_17), rfl, sx_t1 (by decide +kernel)⟩, ox41_20⟩
def x41_16 : List sx_E := (.nop, 16, 17, [], .int (nI 1)) :: x41_17
theorem ox41_16 : sx_oks 41 x41_16 := ⟨sx_k_iconst (sx_dd bb_41 dX3_takesName_16) (by decide +kernel), ox41_17⟩
def x41_13 : List sx_E := (.getfield 35, 13, 16, [2, 0, 0], .null) :: x41_16
theorem ox41_13 : sx_oks 41 x41_13 := ⟨sx_q_get (w := (RX3, TX3, 10)) (sx_dd bb_41 dX3_takesName_13) rfl rfl (Nat.le_of_ble_eq_true rfl) cu_2 (sx_ow3 oo_41 fl_StrawGarrison_Reader_35) (by decide +kernel), ox41_16⟩
def x41_12 : List sx_E := (.aload 0, 12, 13, [], .null) :: x41_13
theorem ox41_12 : sx_oks 41 x41_12 := ⟨Or.inr ⟨_, (sx_dd bb_41 dX3_takesName_12), rfl, rfl⟩, ox41_13⟩
def x41_9 : List sx_E := (.goto (18), 9, 12, [27], .null) :: x41_12
theorem ox41_9 : sx_oks 41 x41_9 := ⟨⟨(sx_dd bb_41 dX3_takesName_9), sx_t1 (by decide +kernel)⟩, ox41_12⟩
def x41_7 : List sx_E := (.nop, 7, 9, [], .ref 5) :: x41_9
theorem ox41_7 : sx_oks 41 x41_7 := ⟨sx_k_str (i := 3) (Nat.le_of_ble_eq_true rfl) (sx_dd bb_41 dX3_takesName_7) oo_41, ox41_9⟩
def x41_4 : List sx_E := (.ifCond .ne (8), 4, 7, [12], .null) :: x41_7
theorem ox41_4 : sx_oks 41 x41_4 := ⟨⟨(sx_dd bb_41 dX3_takesName_4), rfl, sx_t1 (by decide +kernel)⟩, ox41_7⟩
def x41_1 : List sx_E := (.getfield 35, 1, 4, [2, 0, 0], .null) :: x41_4
theorem ox41_1 : sx_oks 41 x41_1 := ⟨sx_q_get (w := (RX3, TX3, 10)) (sx_dd bb_41 dX3_takesName_1) rfl rfl (Nat.le_of_ble_eq_true rfl) cu_2 (sx_ow3 oo_41 fl_StrawGarrison_Reader_35) (by decide +kernel), ox41_4⟩
def x41_0 : List sx_E := (.aload 0, 0, 1, [], .null) :: x41_1
theorem ox41_0 : sx_oks 41 x41_0 := ⟨Or.inr ⟨_, (sx_dd bb_41 dX3_takesName_0), rfl, rfl⟩, ox41_1⟩
theorem m41 : sx_mok 41 x41_0 := ⟨ox41_0, by decide +kernel⟩
theorem bb_42 : sx_by 42 = cX3_takePiece := rfl
theorem oo_42 : (sx_nm 42).cls = "StrawGarrison$Reader" := rfl
theorem mm_42 : sx_ml 42 = 2 := rfl
theorem rr_42 : sx_rt 42 = none := rfl
def x42_19 : List sx_E := (.return_, 19, 20, [], .null) :: []
theorem ox42_19 : sx_oks 42 x42_19 := ⟨⟨(sx_dd bb_42 dX3_takePiece_19), rr_42⟩, trivial⟩
def x42_16 : List sx_E := (.invokevirtual 123, 16, 19, [45, 1, 0, 0, 2], .null) :: x42_19
theorem ox42_16 : sx_oks 42 x42_16 := ⟨sx_q_V (w := (RX3, TX3, 10)) (sx_dd bb_42 dX3_takePiece_16) oo_42 lk_StrawGarrison_Reader_123_V ft_45_h (Nat.le_of_ble_eq_true rfl) rfl rfl, ox42_19⟩
def x42_15 : List sx_E := (.aload 0, 15, 16, [], .null) :: x42_16
theorem ox42_15 : sx_oks 42 x42_15 := ⟨Or.inr ⟨_, (sx_dd bb_42 dX3_takePiece_15), rfl, rfl⟩, ox42_16⟩
def x42_12 : List sx_E := (.invokevirtual 120, 12, 15, [49, 2, 0, 0, 2], .null) :: x42_15
theorem ox42_12 : sx_oks 42 x42_12 := ⟨sx_q_V (w := (RX3, TX3, 10)) (sx_dd bb_42 dX3_takePiece_12) oo_42 lk_StrawGarrison_Reader_120_V ft_49_h (Nat.le_of_ble_eq_true rfl) rfl rfl, ox42_15⟩
def x42_11 : List sx_E := (.iload 1, 11, 12, [], .null) :: x42_12
theorem ox42_11 : sx_oks 42 x42_11 := ⟨Or.inr ⟨_, (sx_dd bb_42 dX3_takePiece_11), rfl, rfl⟩, ox42_12⟩
def x42_10 : List sx_E := (.aload 0, 10, 11, [], .null) :: x42_11
theorem ox42_10 : sx_oks 42 x42_10 := ⟨Or.inr ⟨_, (sx_dd bb_42 dX3_takePiece_10), rfl, rfl⟩, ox42_11⟩
def x42_7 : List sx_E := (.putfield 59, 7, 10, [2, 1, 0], .null) :: x42_10
theorem ox42_7 : sx_oks 42 x42_7 := ⟨sx_q_put (w := (RX3, TX3, 10)) (ty0 := tyX3) (sx_dd bb_42 dX3_takePiece_7) rfl (Nat.le_of_ble_eq_true rfl) cu_2 (sx_ow3 oo_42 fl_StrawGarrison_Reader_59) (by decide +kernel) tyX3_ok nmX3 (Or.inl rfl) (fun _ => rfl) (fun h => absurd h (by decide)) (fun h => absurd h (by decide)), ox42_10⟩
def x42_6 : List sx_E := (.iadd, 6, 7, [], .null) :: x42_7
theorem ox42_6 : sx_oks 42 x42_6 := ⟨⟨(sx_dd bb_42 dX3_takePiece_6), rfl⟩, ox42_7⟩
def x42_5 : List sx_E := (.nop, 5, 6, [], .int (nI 1)) :: x42_6
theorem ox42_5 : sx_oks 42 x42_5 := ⟨sx_k_iconst (sx_dd bb_42 dX3_takePiece_5) (by decide +kernel), ox42_6⟩
def x42_2 : List sx_E := (.getfield 59, 2, 5, [2, 1, 0], .null) :: x42_5
theorem ox42_2 : sx_oks 42 x42_2 := ⟨sx_q_get (w := (RX3, TX3, 10)) (sx_dd bb_42 dX3_takePiece_2) rfl rfl (Nat.le_of_ble_eq_true rfl) cu_2 (sx_ow3 oo_42 fl_StrawGarrison_Reader_59) (by decide +kernel), ox42_5⟩
def x42_1 : List sx_E := (.dup, 1, 2, [], .null) :: x42_2
theorem ox42_1 : sx_oks 42 x42_1 := ⟨⟨(sx_dd bb_42 dX3_takePiece_1), rfl⟩, ox42_2⟩
def x42_0 : List sx_E := (.aload 0, 0, 1, [], .null) :: x42_1
theorem ox42_0 : sx_oks 42 x42_0 := ⟨Or.inr ⟨_, (sx_dd bb_42 dX3_takePiece_0), rfl, rfl⟩, ox42_1⟩
theorem m42 : sx_mok 42 x42_0 := ⟨ox42_0, by decide +kernel⟩
theorem bb_43 : sx_by 43 = cX3_opens := rfl
theorem oo_43 : (sx_nm 43).cls = "StrawGarrison$Reader" := rfl
theorem mm_43 : sx_ml 43 = 2 := rfl
theorem rr_43 : sx_rt 43 = (some .boolean) := rfl
def x43_75 : List sx_E := (.ireturn, 75, 76, [1], .null) :: []
theorem ox43_75 : sx_oks 43 x43_75 := ⟨sx_q_iret1 (sx_dd bb_43 dX3_opens_75) rr_43, trivial⟩
def x43_74 : List sx_E := (.nop, 74, 75, [], .int (nI 0)) :: x43_75
theorem ox43_74 : sx_oks 43 x43_74 := ⟨sx_k_iconst (sx_dd bb_43 dX3_opens_74) (by decide +kernel), ox43_75⟩
def x43_73 : List sx_E := (.ireturn, 73, 74, [1], .null) :: x43_74
theorem ox43_73 : sx_oks 43 x43_73 := ⟨sx_q_iret1 (sx_dd bb_43 dX3_opens_73) rr_43, ox43_74⟩
def x43_72 : List sx_E := (.nop, 72, 73, [], .int (nI 1)) :: x43_73
theorem ox43_72 : sx_oks 43 x43_72 := ⟨sx_k_iconst (sx_dd bb_43 dX3_opens_72) (by decide +kernel), ox43_73⟩
def x43_69 : List sx_E := (.invokevirtual 126, 69, 72, [50, 2, 0, 0, 2], .null) :: x43_72
theorem ox43_69 : sx_oks 43 x43_69 := ⟨sx_q_V (w := (RX3, TX3, 10)) (sx_dd bb_43 dX3_opens_69) oo_43 lk_StrawGarrison_Reader_126_V ft_50_h (Nat.le_of_ble_eq_true rfl) rfl rfl, ox43_72⟩
def x43_68 : List sx_E := (.iload 1, 68, 69, [], .null) :: x43_69
theorem ox43_68 : sx_oks 43 x43_68 := ⟨Or.inr ⟨_, (sx_dd bb_43 dX3_opens_68), rfl, rfl⟩, ox43_69⟩
def x43_67 : List sx_E := (.aload 0, 67, 68, [], .null) :: x43_68
theorem ox43_67 : sx_oks 43 x43_67 := ⟨Or.inr ⟨_, (sx_dd bb_43 dX3_opens_67), rfl, rfl⟩, ox43_68⟩
def x43_66 : List sx_E := (.bastore, 66, 67, [], .null) :: x43_67
theorem ox43_66 : sx_oks 43 x43_66 := ⟨⟨(sx_dd bb_43 dX3_opens_66), rfl⟩, ox43_67⟩
def x43_65 : List sx_E := (.nop, 65, 66, [], .int (nI 0)) :: x43_66
theorem ox43_65 : sx_oks 43 x43_65 := ⟨sx_k_iconst (sx_dd bb_43 dX3_opens_65) (by decide +kernel), ox43_66⟩
def x43_62 : List sx_E := (.getfield 52, 62, 65, [2, 6, 0], .null) :: x43_65
theorem ox43_62 : sx_oks 43 x43_62 := ⟨sx_q_get (w := (RX3, TX3, 10)) (sx_dd bb_43 dX3_opens_62) rfl rfl (Nat.le_of_ble_eq_true rfl) cu_2 (sx_ow3 oo_43 fl_StrawGarrison_Reader_52) (by decide +kernel), ox43_65⟩
def x43_61 : List sx_E := (.aload 0, 61, 62, [], .null) :: x43_62
theorem ox43_61 : sx_oks 43 x43_61 := ⟨Or.inr ⟨_, (sx_dd bb_43 dX3_opens_61), rfl, rfl⟩, ox43_62⟩
def x43_58 : List sx_E := (.getfield 18, 58, 61, [2, 9, 1], .null) :: x43_61
theorem ox43_58 : sx_oks 43 x43_58 := ⟨sx_q_get (w := (RX3, TX3, 10)) (sx_dd bb_43 dX3_opens_58) rfl rfl (Nat.le_of_ble_eq_true rfl) cu_2 (sx_ow3 oo_43 fl_StrawGarrison_Reader_18) (by decide +kernel), ox43_61⟩
def x43_57 : List sx_E := (.aload 0, 57, 58, [], .null) :: x43_58
theorem ox43_57 : sx_oks 43 x43_57 := ⟨Or.inr ⟨_, (sx_dd bb_43 dX3_opens_57), rfl, rfl⟩, ox43_58⟩
def x43_54 : List sx_E := (.putfield 52, 54, 57, [2, 6, 0], .null) :: x43_57
theorem ox43_54 : sx_oks 43 x43_54 := ⟨sx_q_put (w := (RX3, TX3, 10)) (ty0 := tyX3) (sx_dd bb_43 dX3_opens_54) rfl (Nat.le_of_ble_eq_true rfl) cu_2 (sx_ow3 oo_43 fl_StrawGarrison_Reader_52) (by decide +kernel) tyX3_ok nmX3 (Or.inl rfl) (fun _ => rfl) (fun h => absurd h (by decide)) (fun h => absurd h (by decide)), ox43_57⟩
def x43_53 : List sx_E := (.iadd, 53, 54, [], .null) :: x43_54
theorem ox43_53 : sx_oks 43 x43_53 := ⟨⟨(sx_dd bb_43 dX3_opens_53), rfl⟩, ox43_54⟩
def x43_52 : List sx_E := (.nop, 52, 53, [], .int (nI 1)) :: x43_53
theorem ox43_52 : sx_oks 43 x43_52 := ⟨sx_k_iconst (sx_dd bb_43 dX3_opens_52) (by decide +kernel), ox43_53⟩
def x43_49 : List sx_E := (.getfield 52, 49, 52, [2, 6, 0], .null) :: x43_52
theorem ox43_49 : sx_oks 43 x43_49 := ⟨sx_q_get (w := (RX3, TX3, 10)) (sx_dd bb_43 dX3_opens_49) rfl rfl (Nat.le_of_ble_eq_true rfl) cu_2 (sx_ow3 oo_43 fl_StrawGarrison_Reader_52) (by decide +kernel), ox43_52⟩
def x43_48 : List sx_E := (.dup, 48, 49, [], .null) :: x43_49
theorem ox43_48 : sx_oks 43 x43_48 := ⟨⟨(sx_dd bb_43 dX3_opens_48), rfl⟩, ox43_49⟩
def x43_47 : List sx_E := (.aload 0, 47, 48, [], .null) :: x43_48
theorem ox43_47 : sx_oks 43 x43_47 := ⟨Or.inr ⟨_, (sx_dd bb_43 dX3_opens_47), rfl, rfl⟩, ox43_48⟩
def x43_44 : List sx_E := (.if_icmp .ge (30), 44, 47, [74], .null) :: x43_47
theorem ox43_44 : sx_oks 43 x43_44 := ⟨⟨(sx_dd bb_43 dX3_opens_44), rfl, sx_t1 (by decide +kernel)⟩, ox43_47⟩
def x43_42 : List sx_E := (.nop, 42, 44, [], .int (nI 8)) :: x43_44
theorem ox43_42 : sx_oks 43 x43_42 := ⟨sx_k_bipush (sx_dd bb_43 dX3_opens_42) (by decide +kernel), ox43_44⟩
def x43_39 : List sx_E := (.getfield 52, 39, 42, [2, 6, 0], .null) :: x43_42
theorem ox43_39 : sx_oks 43 x43_39 := ⟨sx_q_get (w := (RX3, TX3, 10)) (sx_dd bb_43 dX3_opens_39) rfl rfl (Nat.le_of_ble_eq_true rfl) cu_2 (sx_ow3 oo_43 fl_StrawGarrison_Reader_52) (by decide +kernel), ox43_42⟩
def x43_38 : List sx_E := (.aload 0, 38, 39, [], .null) :: x43_39
theorem ox43_38 : sx_oks 43 x43_38 := ⟨Or.inr ⟨_, (sx_dd bb_43 dX3_opens_38), rfl, rfl⟩, ox43_39⟩
def x43_35 : List sx_E := (.if_icmp .ne (39), 35, 38, [74], .null) :: x43_38
theorem ox43_35 : sx_oks 43 x43_35 := ⟨⟨(sx_dd bb_43 dX3_opens_35), rfl, sx_t1 (by decide +kernel)⟩, ox43_38⟩
def x43_33 : List sx_E := (.nop, 33, 35, [], .int (nI 40)) :: x43_35
theorem ox43_33 : sx_oks 43 x43_33 := ⟨sx_k_bipush (sx_dd bb_43 dX3_opens_33) (by decide +kernel), ox43_35⟩
def x43_32 : List sx_E := (.iload 1, 32, 33, [], .null) :: x43_33
theorem ox43_32 : sx_oks 43 x43_32 := ⟨Or.inr ⟨_, (sx_dd bb_43 dX3_opens_32), rfl, rfl⟩, ox43_33⟩
def x43_31 : List sx_E := (.ireturn, 31, 32, [1], .null) :: x43_32
theorem ox43_31 : sx_oks 43 x43_31 := ⟨sx_q_iret1 (sx_dd bb_43 dX3_opens_31) rr_43, ox43_32⟩
def x43_30 : List sx_E := (.nop, 30, 31, [], .int (nI 1)) :: x43_31
theorem ox43_30 : sx_oks 43 x43_30 := ⟨sx_k_iconst (sx_dd bb_43 dX3_opens_30) (by decide +kernel), ox43_31⟩
def x43_27 : List sx_E := (.invokevirtual 126, 27, 30, [50, 2, 0, 0, 2], .null) :: x43_30
theorem ox43_27 : sx_oks 43 x43_27 := ⟨sx_q_V (w := (RX3, TX3, 10)) (sx_dd bb_43 dX3_opens_27) oo_43 lk_StrawGarrison_Reader_126_V ft_50_h (Nat.le_of_ble_eq_true rfl) rfl rfl, ox43_30⟩
def x43_26 : List sx_E := (.iload 1, 26, 27, [], .null) :: x43_27
theorem ox43_26 : sx_oks 43 x43_26 := ⟨Or.inr ⟨_, (sx_dd bb_43 dX3_opens_26), rfl, rfl⟩, ox43_27⟩
def x43_25 : List sx_E := (.aload 0, 25, 26, [], .null) :: x43_26
theorem ox43_25 : sx_oks 43 x43_25 := ⟨Or.inr ⟨_, (sx_dd bb_43 dX3_opens_25), rfl, rfl⟩, ox43_26⟩
def x43_22 : List sx_E := (.putfield 68, 22, 25, [2, 7, 0], .null) :: x43_25
theorem ox43_22 : sx_oks 43 x43_22 := ⟨sx_q_put (w := (RX3, TX3, 10)) (ty0 := tyX3) (sx_dd bb_43 dX3_opens_22) rfl (Nat.le_of_ble_eq_true rfl) cu_2 (sx_ow3 oo_43 fl_StrawGarrison_Reader_68) (by decide +kernel) tyX3_ok nmX3 (Or.inl rfl) (fun _ => rfl) (fun h => absurd h (by decide)) (fun h => absurd h (by decide)), ox43_25⟩
def x43_21 : List sx_E := (.iadd, 21, 22, [], .null) :: x43_22
theorem ox43_21 : sx_oks 43 x43_21 := ⟨⟨(sx_dd bb_43 dX3_opens_21), rfl⟩, ox43_22⟩
def x43_20 : List sx_E := (.nop, 20, 21, [], .int (nI 1)) :: x43_21
theorem ox43_20 : sx_oks 43 x43_20 := ⟨sx_k_iconst (sx_dd bb_43 dX3_opens_20) (by decide +kernel), ox43_21⟩
def x43_17 : List sx_E := (.getfield 68, 17, 20, [2, 7, 0], .null) :: x43_20
theorem ox43_17 : sx_oks 43 x43_17 := ⟨sx_q_get (w := (RX3, TX3, 10)) (sx_dd bb_43 dX3_opens_17) rfl rfl (Nat.le_of_ble_eq_true rfl) cu_2 (sx_ow3 oo_43 fl_StrawGarrison_Reader_68) (by decide +kernel), ox43_20⟩
def x43_16 : List sx_E := (.dup, 16, 17, [], .null) :: x43_17
theorem ox43_16 : sx_oks 43 x43_16 := ⟨⟨(sx_dd bb_43 dX3_opens_16), rfl⟩, ox43_17⟩
def x43_15 : List sx_E := (.aload 0, 15, 16, [], .null) :: x43_16
theorem ox43_15 : sx_oks 43 x43_15 := ⟨Or.inr ⟨_, (sx_dd bb_43 dX3_opens_15), rfl, rfl⟩, ox43_16⟩
def x43_12 : List sx_E := (.if_icmp .ge (20), 12, 15, [32], .null) :: x43_15
theorem ox43_12 : sx_oks 43 x43_12 := ⟨⟨(sx_dd bb_43 dX3_opens_12), rfl, sx_t1 (by decide +kernel)⟩, ox43_15⟩
def x43_10 : List sx_E := (.nop, 10, 12, [], .int (nI 8)) :: x43_12
theorem ox43_10 : sx_oks 43 x43_10 := ⟨sx_k_bipush (sx_dd bb_43 dX3_opens_10) (by decide +kernel), ox43_12⟩
def x43_7 : List sx_E := (.getfield 68, 7, 10, [2, 7, 0], .null) :: x43_10
theorem ox43_7 : sx_oks 43 x43_7 := ⟨sx_q_get (w := (RX3, TX3, 10)) (sx_dd bb_43 dX3_opens_7) rfl rfl (Nat.le_of_ble_eq_true rfl) cu_2 (sx_ow3 oo_43 fl_StrawGarrison_Reader_68) (by decide +kernel), ox43_10⟩
def x43_6 : List sx_E := (.aload 0, 6, 7, [], .null) :: x43_7
theorem ox43_6 : sx_oks 43 x43_6 := ⟨Or.inr ⟨_, (sx_dd bb_43 dX3_opens_6), rfl, rfl⟩, ox43_7⟩
def x43_3 : List sx_E := (.if_icmp .ne (29), 3, 6, [32], .null) :: x43_6
theorem ox43_3 : sx_oks 43 x43_3 := ⟨⟨(sx_dd bb_43 dX3_opens_3), rfl, sx_t1 (by decide +kernel)⟩, ox43_6⟩
def x43_1 : List sx_E := (.nop, 1, 3, [], .int (nI 33)) :: x43_3
theorem ox43_1 : sx_oks 43 x43_1 := ⟨sx_k_bipush (sx_dd bb_43 dX3_opens_1) (by decide +kernel), ox43_3⟩
def x43_0 : List sx_E := (.iload 1, 0, 1, [], .null) :: x43_1
theorem ox43_0 : sx_oks 43 x43_0 := ⟨Or.inr ⟨_, (sx_dd bb_43 dX3_opens_0), rfl, rfl⟩, ox43_1⟩
theorem m43 : sx_mok 43 x43_0 := ⟨ox43_0, by decide +kernel⟩
theorem bb_44 : sx_by 44 = cX3_closes := rfl
theorem oo_44 : (sx_nm 44).cls = "StrawGarrison$Reader" := rfl
theorem mm_44 : sx_ml 44 = 1 := rfl
theorem rr_44 : sx_rt 44 = (some .boolean) := rfl
def x44_46 : List sx_E := (.ireturn, 46, 47, [1], .null) :: []
theorem ox44_46 : sx_oks 44 x44_46 := ⟨sx_q_iret1 (sx_dd bb_44 dX3_closes_46) rr_44, trivial⟩
def x44_45 : List sx_E := (.nop, 45, 46, [], .int (nI 1)) :: x44_46
theorem ox44_45 : sx_oks 44 x44_45 := ⟨sx_k_iconst (sx_dd bb_44 dX3_closes_45) (by decide +kernel), ox44_46⟩
def x44_42 : List sx_E := (.invokevirtual 123, 42, 45, [45, 1, 0, 0, 2], .null) :: x44_45
theorem ox44_42 : sx_oks 44 x44_42 := ⟨sx_q_V (w := (RX3, TX3, 10)) (sx_dd bb_44 dX3_closes_42) oo_44 lk_StrawGarrison_Reader_123_V ft_45_h (Nat.le_of_ble_eq_true rfl) rfl rfl, ox44_45⟩
def x44_41 : List sx_E := (.aload 0, 41, 42, [], .null) :: x44_42
theorem ox44_41 : sx_oks 44 x44_41 := ⟨Or.inr ⟨_, (sx_dd bb_44 dX3_closes_41), rfl, rfl⟩, ox44_42⟩
def x44_38 : List sx_E := (.putfield 52, 38, 41, [2, 6, 0], .null) :: x44_41
theorem ox44_38 : sx_oks 44 x44_38 := ⟨sx_q_put (w := (RX3, TX3, 10)) (ty0 := tyX3) (sx_dd bb_44 dX3_closes_38) rfl (Nat.le_of_ble_eq_true rfl) cu_2 (sx_ow3 oo_44 fl_StrawGarrison_Reader_52) (by decide +kernel) tyX3_ok nmX3 (Or.inl rfl) (fun _ => rfl) (fun h => absurd h (by decide)) (fun h => absurd h (by decide)), ox44_41⟩
def x44_37 : List sx_E := (.isub, 37, 38, [], .null) :: x44_38
theorem ox44_37 : sx_oks 44 x44_37 := ⟨⟨(sx_dd bb_44 dX3_closes_37), rfl⟩, ox44_38⟩
def x44_36 : List sx_E := (.nop, 36, 37, [], .int (nI 1)) :: x44_37
theorem ox44_36 : sx_oks 44 x44_36 := ⟨sx_k_iconst (sx_dd bb_44 dX3_closes_36) (by decide +kernel), ox44_37⟩
def x44_33 : List sx_E := (.getfield 52, 33, 36, [2, 6, 0], .null) :: x44_36
theorem ox44_33 : sx_oks 44 x44_33 := ⟨sx_q_get (w := (RX3, TX3, 10)) (sx_dd bb_44 dX3_closes_33) rfl rfl (Nat.le_of_ble_eq_true rfl) cu_2 (sx_ow3 oo_44 fl_StrawGarrison_Reader_52) (by decide +kernel), ox44_36⟩
def x44_32 : List sx_E := (.dup, 32, 33, [], .null) :: x44_33
theorem ox44_32 : sx_oks 44 x44_32 := ⟨⟨(sx_dd bb_44 dX3_closes_32), rfl⟩, ox44_33⟩
def x44_31 : List sx_E := (.aload 0, 31, 32, [], .null) :: x44_32
theorem ox44_31 : sx_oks 44 x44_31 := ⟨Or.inr ⟨_, (sx_dd bb_44 dX3_closes_31), rfl, rfl⟩, ox44_32⟩
def x44_28 : List sx_E := (.putfield 65, 28, 31, [2, 5, 0], .null) :: x44_31
theorem ox44_28 : sx_oks 44 x44_28 := ⟨sx_q_put (w := (RX3, TX3, 10)) (ty0 := tyX3) (sx_dd bb_44 dX3_closes_28) rfl (Nat.le_of_ble_eq_true rfl) cu_2 (sx_ow3 oo_44 fl_StrawGarrison_Reader_65) (by decide +kernel) tyX3_ok nmX3 (Or.inl rfl) (fun _ => rfl) (fun h => absurd h (by decide)) (fun h => absurd h (by decide)), ox44_31⟩
def x44_27 : List sx_E := (.isub, 27, 28, [], .null) :: x44_28
theorem ox44_27 : sx_oks 44 x44_27 := ⟨⟨(sx_dd bb_44 dX3_closes_27), rfl⟩, ox44_28⟩
def x44_26 : List sx_E := (.nop, 26, 27, [], .int (nI 1)) :: x44_27
theorem ox44_26 : sx_oks 44 x44_26 := ⟨sx_k_iconst (sx_dd bb_44 dX3_closes_26) (by decide +kernel), ox44_27⟩
def x44_23 : List sx_E := (.getfield 65, 23, 26, [2, 5, 0], .null) :: x44_26
theorem ox44_23 : sx_oks 44 x44_23 := ⟨sx_q_get (w := (RX3, TX3, 10)) (sx_dd bb_44 dX3_closes_23) rfl rfl (Nat.le_of_ble_eq_true rfl) cu_2 (sx_ow3 oo_44 fl_StrawGarrison_Reader_65) (by decide +kernel), ox44_26⟩
def x44_22 : List sx_E := (.dup, 22, 23, [], .null) :: x44_23
theorem ox44_22 : sx_oks 44 x44_22 := ⟨⟨(sx_dd bb_44 dX3_closes_22), rfl⟩, ox44_23⟩
def x44_21 : List sx_E := (.aload 0, 21, 22, [], .null) :: x44_22
theorem ox44_21 : sx_oks 44 x44_21 := ⟨Or.inr ⟨_, (sx_dd bb_44 dX3_closes_21), rfl, rfl⟩, ox44_22⟩
def x44_18 : List sx_E := (.ifCond .le (13), 18, 21, [31], .null) :: x44_21
theorem ox44_18 : sx_oks 44 x44_18 := ⟨⟨(sx_dd bb_44 dX3_closes_18), rfl, sx_t1 (by decide +kernel)⟩, ox44_21⟩
def x44_15 : List sx_E := (.getfield 65, 15, 18, [2, 5, 0], .null) :: x44_18
theorem ox44_15 : sx_oks 44 x44_15 := ⟨sx_q_get (w := (RX3, TX3, 10)) (sx_dd bb_44 dX3_closes_15) rfl rfl (Nat.le_of_ble_eq_true rfl) cu_2 (sx_ow3 oo_44 fl_StrawGarrison_Reader_65) (by decide +kernel), ox44_18⟩
def x44_14 : List sx_E := (.aload 0, 14, 15, [], .null) :: x44_15
theorem ox44_14 : sx_oks 44 x44_14 := ⟨Or.inr ⟨_, (sx_dd bb_44 dX3_closes_14), rfl, rfl⟩, ox44_15⟩
def x44_11 : List sx_E := (.invokevirtual 55, 11, 14, [48, 2, 0, 0, 2], .null) :: x44_14
theorem ox44_11 : sx_oks 44 x44_11 := ⟨sx_q_V (w := (RX3, TX3, 10)) (sx_dd bb_44 dX3_closes_11) oo_44 lk_StrawGarrison_Reader_55_V ft_48_h (Nat.le_of_ble_eq_true rfl) rfl rfl, ox44_14⟩
def x44_10 : List sx_E := (.nop, 10, 11, [], .int (nI 0)) :: x44_11
theorem ox44_10 : sx_oks 44 x44_10 := ⟨sx_k_iconst (sx_dd bb_44 dX3_closes_10) (by decide +kernel), ox44_11⟩
def x44_9 : List sx_E := (.aload 0, 9, 10, [], .null) :: x44_10
theorem ox44_9 : sx_oks 44 x44_9 := ⟨Or.inr ⟨_, (sx_dd bb_44 dX3_closes_9), rfl, rfl⟩, ox44_10⟩
def x44_8 : List sx_E := (.ireturn, 8, 9, [1], .null) :: x44_9
theorem ox44_8 : sx_oks 44 x44_8 := ⟨sx_q_iret1 (sx_dd bb_44 dX3_closes_8) rr_44, ox44_9⟩
def x44_7 : List sx_E := (.nop, 7, 8, [], .int (nI 0)) :: x44_8
theorem ox44_7 : sx_oks 44 x44_7 := ⟨sx_k_iconst (sx_dd bb_44 dX3_closes_7) (by decide +kernel), ox44_8⟩
def x44_4 : List sx_E := (.ifCond .ne (5), 4, 7, [9], .null) :: x44_7
theorem ox44_4 : sx_oks 44 x44_4 := ⟨⟨(sx_dd bb_44 dX3_closes_4), rfl, sx_t1 (by decide +kernel)⟩, ox44_7⟩
def x44_1 : List sx_E := (.getfield 52, 1, 4, [2, 6, 0], .null) :: x44_4
theorem ox44_1 : sx_oks 44 x44_1 := ⟨sx_q_get (w := (RX3, TX3, 10)) (sx_dd bb_44 dX3_closes_1) rfl rfl (Nat.le_of_ble_eq_true rfl) cu_2 (sx_ow3 oo_44 fl_StrawGarrison_Reader_52) (by decide +kernel), ox44_4⟩
def x44_0 : List sx_E := (.aload 0, 0, 1, [], .null) :: x44_1
theorem ox44_0 : sx_oks 44 x44_0 := ⟨Or.inr ⟨_, (sx_dd bb_44 dX3_closes_0), rfl, rfl⟩, ox44_1⟩
theorem m44 : sx_mok 44 x44_0 := ⟨ox44_0, by decide +kernel⟩
theorem bb_45 : sx_by 45 = cX3_endPiece := rfl
theorem oo_45 : (sx_nm 45).cls = "StrawGarrison$Reader" := rfl
theorem mm_45 : sx_ml 45 = 1 := rfl
theorem rr_45 : sx_rt 45 = none := rfl
def x45_57 : List sx_E := (.return_, 57, 58, [], .null) :: []
theorem ox45_57 : sx_oks 45 x45_57 := ⟨⟨(sx_dd bb_45 dX3_endPiece_57), rr_45⟩, trivial⟩
def x45_54 : List sx_E := (.putfield 48, 54, 57, [2, 8, 2], .null) :: x45_57
theorem ox45_54 : sx_oks 45 x45_54 := ⟨sx_q_put (w := (RX3, TX3, 10)) (ty0 := tyX3) (sx_dd bb_45 dX3_endPiece_54) rfl (Nat.le_of_ble_eq_true rfl) cu_2 (sx_ow3 oo_45 fl_StrawGarrison_Reader_48) (by decide +kernel) tyX3_ok nmX3 (Or.inl rfl) (fun h => absurd h (by decide)) (fun _ => rfl) (fun h => absurd h (by decide)), ox45_57⟩
def x45_53 : List sx_E := (.nop, 53, 54, [], .int (nI 0)) :: x45_54
theorem ox45_53 : sx_oks 45 x45_53 := ⟨sx_k_iconst (sx_dd bb_45 dX3_endPiece_53) (by decide +kernel), ox45_54⟩
def x45_52 : List sx_E := (.aload 0, 52, 53, [], .null) :: x45_53
theorem ox45_52 : sx_oks 45 x45_52 := ⟨Or.inr ⟨_, (sx_dd bb_45 dX3_endPiece_52), rfl, rfl⟩, ox45_53⟩
def x45_49 : List sx_E := (.goto (-49), 49, 52, [0], .null) :: x45_52
theorem ox45_49 : sx_oks 45 x45_49 := ⟨⟨(sx_dd bb_45 dX3_endPiece_49), sx_t1 (by decide +kernel)⟩, ox45_52⟩
def x45_46 : List sx_E := (.invokevirtual 120, 46, 49, [49, 2, 0, 0, 2], .null) :: x45_49
theorem ox45_46 : sx_oks 45 x45_46 := ⟨sx_q_V (w := (RX3, TX3, 10)) (sx_dd bb_45 dX3_endPiece_46) oo_45 lk_StrawGarrison_Reader_120_V ft_49_h (Nat.le_of_ble_eq_true rfl) rfl rfl, ox45_49⟩
def x45_44 : List sx_E := (.nop, 44, 46, [], .int ((-33))) :: x45_46
theorem ox45_44 : sx_oks 45 x45_44 := ⟨sx_k_bipush (sx_dd bb_45 dX3_endPiece_44) (by decide +kernel), ox45_46⟩
def x45_43 : List sx_E := (.aload 0, 43, 44, [], .null) :: x45_44
theorem ox45_43 : sx_oks 45 x45_43 := ⟨Or.inr ⟨_, (sx_dd bb_45 dX3_endPiece_43), rfl, rfl⟩, ox45_44⟩
def x45_40 : List sx_E := (.putfield 68, 40, 43, [2, 7, 0], .null) :: x45_43
theorem ox45_40 : sx_oks 45 x45_40 := ⟨sx_q_put (w := (RX3, TX3, 10)) (ty0 := tyX3) (sx_dd bb_45 dX3_endPiece_40) rfl (Nat.le_of_ble_eq_true rfl) cu_2 (sx_ow3 oo_45 fl_StrawGarrison_Reader_68) (by decide +kernel) tyX3_ok nmX3 (Or.inl rfl) (fun _ => rfl) (fun h => absurd h (by decide)) (fun h => absurd h (by decide)), ox45_43⟩
def x45_39 : List sx_E := (.isub, 39, 40, [], .null) :: x45_40
theorem ox45_39 : sx_oks 45 x45_39 := ⟨⟨(sx_dd bb_45 dX3_endPiece_39), rfl⟩, ox45_40⟩
def x45_38 : List sx_E := (.nop, 38, 39, [], .int (nI 1)) :: x45_39
theorem ox45_38 : sx_oks 45 x45_38 := ⟨sx_k_iconst (sx_dd bb_45 dX3_endPiece_38) (by decide +kernel), ox45_39⟩
def x45_35 : List sx_E := (.getfield 68, 35, 38, [2, 7, 0], .null) :: x45_38
theorem ox45_35 : sx_oks 45 x45_35 := ⟨sx_q_get (w := (RX3, TX3, 10)) (sx_dd bb_45 dX3_endPiece_35) rfl rfl (Nat.le_of_ble_eq_true rfl) cu_2 (sx_ow3 oo_45 fl_StrawGarrison_Reader_68) (by decide +kernel), ox45_38⟩
def x45_34 : List sx_E := (.dup, 34, 35, [], .null) :: x45_35
theorem ox45_34 : sx_oks 45 x45_34 := ⟨⟨(sx_dd bb_45 dX3_endPiece_34), rfl⟩, ox45_35⟩
def x45_33 : List sx_E := (.aload 0, 33, 34, [], .null) :: x45_34
theorem ox45_33 : sx_oks 45 x45_33 := ⟨Or.inr ⟨_, (sx_dd bb_45 dX3_endPiece_33), rfl, rfl⟩, ox45_34⟩
def x45_30 : List sx_E := (.putfield 65, 30, 33, [2, 5, 0], .null) :: x45_33
theorem ox45_30 : sx_oks 45 x45_30 := ⟨sx_q_put (w := (RX3, TX3, 10)) (ty0 := tyX3) (sx_dd bb_45 dX3_endPiece_30) rfl (Nat.le_of_ble_eq_true rfl) cu_2 (sx_ow3 oo_45 fl_StrawGarrison_Reader_65) (by decide +kernel) tyX3_ok nmX3 (Or.inl rfl) (fun _ => rfl) (fun h => absurd h (by decide)) (fun h => absurd h (by decide)), ox45_33⟩
def x45_29 : List sx_E := (.isub, 29, 30, [], .null) :: x45_30
theorem ox45_29 : sx_oks 45 x45_29 := ⟨⟨(sx_dd bb_45 dX3_endPiece_29), rfl⟩, ox45_30⟩
def x45_28 : List sx_E := (.nop, 28, 29, [], .int (nI 1)) :: x45_29
theorem ox45_28 : sx_oks 45 x45_28 := ⟨sx_k_iconst (sx_dd bb_45 dX3_endPiece_28) (by decide +kernel), ox45_29⟩
def x45_25 : List sx_E := (.getfield 65, 25, 28, [2, 5, 0], .null) :: x45_28
theorem ox45_25 : sx_oks 45 x45_25 := ⟨sx_q_get (w := (RX3, TX3, 10)) (sx_dd bb_45 dX3_endPiece_25) rfl rfl (Nat.le_of_ble_eq_true rfl) cu_2 (sx_ow3 oo_45 fl_StrawGarrison_Reader_65) (by decide +kernel), ox45_28⟩
def x45_24 : List sx_E := (.dup, 24, 25, [], .null) :: x45_25
theorem ox45_24 : sx_oks 45 x45_24 := ⟨⟨(sx_dd bb_45 dX3_endPiece_24), rfl⟩, ox45_25⟩
def x45_23 : List sx_E := (.aload 0, 23, 24, [], .null) :: x45_24
theorem ox45_23 : sx_oks 45 x45_23 := ⟨Or.inr ⟨_, (sx_dd bb_45 dX3_endPiece_23), rfl, rfl⟩, ox45_24⟩
def x45_20 : List sx_E := (.if_icmp .ne (32), 20, 23, [52], .null) :: x45_23
theorem ox45_20 : sx_oks 45 x45_20 := ⟨⟨(sx_dd bb_45 dX3_endPiece_20), rfl, sx_t1 (by decide +kernel)⟩, ox45_23⟩
def x45_18 : List sx_E := (.nop, 18, 20, [], .int (nI 33)) :: x45_20
theorem ox45_18 : sx_oks 45 x45_18 := ⟨sx_k_bipush (sx_dd bb_45 dX3_endPiece_18) (by decide +kernel), ox45_20⟩
def x45_17 : List sx_E := (.iaload, 17, 18, [], .null) :: x45_18
theorem ox45_17 : sx_oks 45 x45_17 := ⟨⟨(sx_dd bb_45 dX3_endPiece_17), rfl⟩, ox45_18⟩
def x45_16 : List sx_E := (.isub, 16, 17, [], .null) :: x45_17
theorem ox45_16 : sx_oks 45 x45_16 := ⟨⟨(sx_dd bb_45 dX3_endPiece_16), rfl⟩, ox45_17⟩
def x45_15 : List sx_E := (.nop, 15, 16, [], .int (nI 1)) :: x45_16
theorem ox45_15 : sx_oks 45 x45_15 := ⟨sx_k_iconst (sx_dd bb_45 dX3_endPiece_15) (by decide +kernel), ox45_16⟩
def x45_12 : List sx_E := (.getfield 65, 12, 15, [2, 5, 0], .null) :: x45_15
theorem ox45_12 : sx_oks 45 x45_12 := ⟨sx_q_get (w := (RX3, TX3, 10)) (sx_dd bb_45 dX3_endPiece_12) rfl rfl (Nat.le_of_ble_eq_true rfl) cu_2 (sx_ow3 oo_45 fl_StrawGarrison_Reader_65) (by decide +kernel), ox45_15⟩
def x45_11 : List sx_E := (.aload 0, 11, 12, [], .null) :: x45_12
theorem ox45_11 : sx_oks 45 x45_11 := ⟨Or.inr ⟨_, (sx_dd bb_45 dX3_endPiece_11), rfl, rfl⟩, ox45_12⟩
def x45_8 : List sx_E := (.getfield 15, 8, 11, [2, 4, 1], .null) :: x45_11
theorem ox45_8 : sx_oks 45 x45_8 := ⟨sx_q_get (w := (RX3, TX3, 10)) (sx_dd bb_45 dX3_endPiece_8) rfl rfl (Nat.le_of_ble_eq_true rfl) cu_2 (sx_ow3 oo_45 fl_StrawGarrison_Reader_15) (by decide +kernel), ox45_11⟩
def x45_7 : List sx_E := (.aload 0, 7, 8, [], .null) :: x45_8
theorem ox45_7 : sx_oks 45 x45_7 := ⟨Or.inr ⟨_, (sx_dd bb_45 dX3_endPiece_7), rfl, rfl⟩, ox45_8⟩
def x45_4 : List sx_E := (.ifCond .le (48), 4, 7, [52], .null) :: x45_7
theorem ox45_4 : sx_oks 45 x45_4 := ⟨⟨(sx_dd bb_45 dX3_endPiece_4), rfl, sx_t1 (by decide +kernel)⟩, ox45_7⟩
def x45_1 : List sx_E := (.getfield 65, 1, 4, [2, 5, 0], .null) :: x45_4
theorem ox45_1 : sx_oks 45 x45_1 := ⟨sx_q_get (w := (RX3, TX3, 10)) (sx_dd bb_45 dX3_endPiece_1) rfl rfl (Nat.le_of_ble_eq_true rfl) cu_2 (sx_ow3 oo_45 fl_StrawGarrison_Reader_65) (by decide +kernel), ox45_4⟩
def x45_0 : List sx_E := (.aload 0, 0, 1, [], .null) :: x45_1
theorem ox45_0 : sx_oks 45 x45_0 := ⟨Or.inr ⟨_, (sx_dd bb_45 dX3_endPiece_0), rfl, rfl⟩, ox45_1⟩
def x45_0h : List sx_E := (.monitorenter, 0, 0, [0], .null) :: x45_0
theorem ox45_0h : sx_oks 45 x45_0h := ⟨trivial, ox45_0⟩
theorem m45 : sx_mok 45 x45_0h := ⟨ox45_0h, by decide +kernel⟩
theorem bb_46 : sx_by 46 = cX3_joins := rfl
theorem oo_46 : (sx_nm 46).cls = "StrawGarrison$Reader" := rfl
theorem mm_46 : sx_ml 46 = 4 := rfl
theorem rr_46 : sx_rt 46 = (some .boolean) := rfl
def x46_69 : List sx_E := (.ireturn, 69, 70, [1], .null) :: []
theorem ox46_69 : sx_oks 46 x46_69 := ⟨sx_q_iret1 (sx_dd bb_46 dX3_joins_69) rr_46, trivial⟩
def x46_68 : List sx_E := (.nop, 68, 69, [], .int (nI 1)) :: x46_69
theorem ox46_68 : sx_oks 46 x46_68 := ⟨sx_k_iconst (sx_dd bb_46 dX3_joins_68) (by decide +kernel), ox46_69⟩
def x46_65 : List sx_E := (.putfield 48, 65, 68, [2, 8, 2], .null) :: x46_68
theorem ox46_65 : sx_oks 46 x46_65 := ⟨sx_q_put (w := (RX3, TX3, 10)) (ty0 := tyX3) (sx_dd bb_46 dX3_joins_65) rfl (Nat.le_of_ble_eq_true rfl) cu_2 (sx_ow3 oo_46 fl_StrawGarrison_Reader_48) (by decide +kernel) tyX3_ok nmX3 (Or.inl rfl) (fun h => absurd h (by decide)) (fun _ => rfl) (fun h => absurd h (by decide)), ox46_68⟩
def x46_64 : List sx_E := (.nop, 64, 65, [], .int (nI 1)) :: x46_65
theorem ox46_64 : sx_oks 46 x46_64 := ⟨sx_k_iconst (sx_dd bb_46 dX3_joins_64) (by decide +kernel), ox46_65⟩
def x46_63 : List sx_E := (.aload 0, 63, 64, [], .null) :: x46_64
theorem ox46_63 : sx_oks 46 x46_63 := ⟨Or.inr ⟨_, (sx_dd bb_46 dX3_joins_63), rfl, rfl⟩, ox46_64⟩
def x46_62 : List sx_E := (.bastore, 62, 63, [], .null) :: x46_63
theorem ox46_62 : sx_oks 46 x46_62 := ⟨⟨(sx_dd bb_46 dX3_joins_62), rfl⟩, ox46_63⟩
def x46_61 : List sx_E := (.iload 3, 61, 62, [], .null) :: x46_62
theorem ox46_61 : sx_oks 46 x46_61 := ⟨Or.inr ⟨_, (sx_dd bb_46 dX3_joins_61), rfl, rfl⟩, ox46_62⟩
def x46_58 : List sx_E := (.getfield 52, 58, 61, [2, 6, 0], .null) :: x46_61
theorem ox46_58 : sx_oks 46 x46_58 := ⟨sx_q_get (w := (RX3, TX3, 10)) (sx_dd bb_46 dX3_joins_58) rfl rfl (Nat.le_of_ble_eq_true rfl) cu_2 (sx_ow3 oo_46 fl_StrawGarrison_Reader_52) (by decide +kernel), ox46_61⟩
def x46_57 : List sx_E := (.aload 0, 57, 58, [], .null) :: x46_58
theorem ox46_57 : sx_oks 46 x46_57 := ⟨Or.inr ⟨_, (sx_dd bb_46 dX3_joins_57), rfl, rfl⟩, ox46_58⟩
def x46_54 : List sx_E := (.getfield 18, 54, 57, [2, 9, 1], .null) :: x46_57
theorem ox46_54 : sx_oks 46 x46_54 := ⟨sx_q_get (w := (RX3, TX3, 10)) (sx_dd bb_46 dX3_joins_54) rfl rfl (Nat.le_of_ble_eq_true rfl) cu_2 (sx_ow3 oo_46 fl_StrawGarrison_Reader_18) (by decide +kernel), ox46_57⟩
def x46_53 : List sx_E := (.aload 0, 53, 54, [], .null) :: x46_54
theorem ox46_53 : sx_oks 46 x46_53 := ⟨Or.inr ⟨_, (sx_dd bb_46 dX3_joins_53), rfl, rfl⟩, ox46_54⟩
def x46_50 : List sx_E := (.if_icmp .gt (13), 50, 53, [63], .null) :: x46_53
theorem ox46_50 : sx_oks 46 x46_50 := ⟨⟨(sx_dd bb_46 dX3_joins_50), rfl, sx_t1 (by decide +kernel)⟩, ox46_53⟩
def x46_49 : List sx_E := (.nop, 49, 50, [], .int (nI 3)) :: x46_50
theorem ox46_49 : sx_oks 46 x46_49 := ⟨sx_k_iconst (sx_dd bb_46 dX3_joins_49) (by decide +kernel), ox46_50⟩
def x46_48 : List sx_E := (.iload 2, 48, 49, [], .null) :: x46_49
theorem ox46_48 : sx_oks 46 x46_48 := ⟨Or.inr ⟨_, (sx_dd bb_46 dX3_joins_48), rfl, rfl⟩, ox46_49⟩
def x46_45 : List sx_E := (.invokevirtual 126, 45, 48, [50, 2, 0, 0, 2], .null) :: x46_48
theorem ox46_45 : sx_oks 46 x46_45 := ⟨sx_q_V (w := (RX3, TX3, 10)) (sx_dd bb_46 dX3_joins_45) oo_46 lk_StrawGarrison_Reader_126_V ft_50_h (Nat.le_of_ble_eq_true rfl) rfl rfl, ox46_48⟩
def x46_44 : List sx_E := (.iload 1, 44, 45, [], .null) :: x46_45
theorem ox46_44 : sx_oks 46 x46_44 := ⟨Or.inr ⟨_, (sx_dd bb_46 dX3_joins_44), rfl, rfl⟩, ox46_45⟩
def x46_43 : List sx_E := (.aload 0, 43, 44, [], .null) :: x46_44
theorem ox46_43 : sx_oks 46 x46_43 := ⟨Or.inr ⟨_, (sx_dd bb_46 dX3_joins_43), rfl, rfl⟩, ox46_44⟩
def x46_40 : List sx_E := (.invokevirtual 55, 40, 43, [48, 2, 0, 0, 2], .null) :: x46_43
theorem ox46_40 : sx_oks 46 x46_40 := ⟨sx_q_V (w := (RX3, TX3, 10)) (sx_dd bb_46 dX3_joins_40) oo_46 lk_StrawGarrison_Reader_55_V ft_48_h (Nat.le_of_ble_eq_true rfl) rfl rfl, ox46_43⟩
def x46_39 : List sx_E := (.iload 2, 39, 40, [], .null) :: x46_40
theorem ox46_39 : sx_oks 46 x46_39 := ⟨Or.inr ⟨_, (sx_dd bb_46 dX3_joins_39), rfl, rfl⟩, ox46_40⟩
def x46_38 : List sx_E := (.aload 0, 38, 39, [], .null) :: x46_39
theorem ox46_38 : sx_oks 46 x46_38 := ⟨Or.inr ⟨_, (sx_dd bb_46 dX3_joins_38), rfl, rfl⟩, ox46_39⟩
def x46_38h : List sx_E := (.monitorenter, 38, 38, [0, 1, 2, 3], .null) :: x46_38
theorem ox46_38h : sx_oks 46 x46_38h := ⟨trivial, ox46_38⟩
def x46_37 : List sx_E := (.ireturn, 37, 38, [1], .null) :: x46_38h
theorem ox46_37 : sx_oks 46 x46_37 := ⟨sx_q_iret1 (sx_dd bb_46 dX3_joins_37) rr_46, ox46_38h⟩
def x46_36 : List sx_E := (.nop, 36, 37, [], .int (nI 0)) :: x46_37
theorem ox46_36 : sx_oks 46 x46_36 := ⟨sx_k_iconst (sx_dd bb_46 dX3_joins_36) (by decide +kernel), ox46_37⟩
def x46_33 : List sx_E := (.ifCond .eq (5), 33, 36, [38], .null) :: x46_36
theorem ox46_33 : sx_oks 46 x46_33 := ⟨⟨(sx_dd bb_46 dX3_joins_33), rfl, sx_t1 (by decide +kernel)⟩, ox46_36⟩
def x46_32 : List sx_E := (.baload, 32, 33, [], .null) :: x46_33
theorem ox46_32 : sx_oks 46 x46_32 := ⟨⟨(sx_dd bb_46 dX3_joins_32), rfl⟩, ox46_33⟩
def x46_29 : List sx_E := (.getfield 52, 29, 32, [2, 6, 0], .null) :: x46_32
theorem ox46_29 : sx_oks 46 x46_29 := ⟨sx_q_get (w := (RX3, TX3, 10)) (sx_dd bb_46 dX3_joins_29) rfl rfl (Nat.le_of_ble_eq_true rfl) cu_2 (sx_ow3 oo_46 fl_StrawGarrison_Reader_52) (by decide +kernel), ox46_32⟩
def x46_28 : List sx_E := (.aload 0, 28, 29, [], .null) :: x46_29
theorem ox46_28 : sx_oks 46 x46_28 := ⟨Or.inr ⟨_, (sx_dd bb_46 dX3_joins_28), rfl, rfl⟩, ox46_29⟩
def x46_25 : List sx_E := (.getfield 18, 25, 28, [2, 9, 1], .null) :: x46_28
theorem ox46_25 : sx_oks 46 x46_25 := ⟨sx_q_get (w := (RX3, TX3, 10)) (sx_dd bb_46 dX3_joins_25) rfl rfl (Nat.le_of_ble_eq_true rfl) cu_2 (sx_ow3 oo_46 fl_StrawGarrison_Reader_18) (by decide +kernel), ox46_28⟩
def x46_24 : List sx_E := (.aload 0, 24, 25, [], .null) :: x46_25
theorem ox46_24 : sx_oks 46 x46_24 := ⟨Or.inr ⟨_, (sx_dd bb_46 dX3_joins_24), rfl, rfl⟩, ox46_25⟩
def x46_21 : List sx_E := (.ifCond .eq (17), 21, 24, [38], .null) :: x46_24
theorem ox46_21 : sx_oks 46 x46_21 := ⟨⟨(sx_dd bb_46 dX3_joins_21), rfl, sx_t1 (by decide +kernel)⟩, ox46_24⟩
def x46_20 : List sx_E := (.iload 3, 20, 21, [], .null) :: x46_21
theorem ox46_20 : sx_oks 46 x46_20 := ⟨Or.inr ⟨_, (sx_dd bb_46 dX3_joins_20), rfl, rfl⟩, ox46_21⟩
def x46_17 : List sx_E := (.ifCond .eq (19), 17, 20, [36], .null) :: x46_20
theorem ox46_17 : sx_oks 46 x46_17 := ⟨⟨(sx_dd bb_46 dX3_joins_17), rfl, sx_t1 (by decide +kernel)⟩, ox46_20⟩
def x46_16 : List sx_E := (.iload 2, 16, 17, [], .null) :: x46_17
theorem ox46_16 : sx_oks 46 x46_16 := ⟨Or.inr ⟨_, (sx_dd bb_46 dX3_joins_16), rfl, rfl⟩, ox46_17⟩
def x46_16h : List sx_E := (.monitorenter, 16, 16, [0, 1, 2, 3], .null) :: x46_16
theorem ox46_16h : sx_oks 46 x46_16h := ⟨trivial, ox46_16⟩
def x46_15 : List sx_E := (.istore 3, 15, 16, [], .null) :: x46_16h
theorem ox46_15 : sx_oks 46 x46_15 := ⟨⟨sx_lt mm_46 (Nat.le_of_ble_eq_true rfl), Or.inr ⟨_, (sx_dd bb_46 dX3_joins_15), rfl, rfl⟩⟩, ox46_16h⟩
def x46_14 : List sx_E := (.nop, 14, 15, [], .int (nI 0)) :: x46_15
theorem ox46_14 : sx_oks 46 x46_14 := ⟨sx_k_iconst (sx_dd bb_46 dX3_joins_14) (by decide +kernel), ox46_15⟩
def x46_11 : List sx_E := (.goto (4), 11, 14, [15], .null) :: x46_14
theorem ox46_11 : sx_oks 46 x46_11 := ⟨⟨(sx_dd bb_46 dX3_joins_11), sx_t1 (by decide +kernel)⟩, ox46_14⟩
def x46_10 : List sx_E := (.nop, 10, 11, [], .int (nI 1)) :: x46_11
theorem ox46_10 : sx_oks 46 x46_10 := ⟨sx_k_iconst (sx_dd bb_46 dX3_joins_10) (by decide +kernel), ox46_11⟩
def x46_7 : List sx_E := (.if_icmp .ne (7), 7, 10, [14], .null) :: x46_10
theorem ox46_7 : sx_oks 46 x46_7 := ⟨⟨(sx_dd bb_46 dX3_joins_7), rfl, sx_t1 (by decide +kernel)⟩, ox46_10⟩
def x46_6 : List sx_E := (.nop, 6, 7, [], .int (nI 3)) :: x46_7
theorem ox46_6 : sx_oks 46 x46_6 := ⟨sx_k_iconst (sx_dd bb_46 dX3_joins_6) (by decide +kernel), ox46_7⟩
def x46_5 : List sx_E := (.iload 2, 5, 6, [], .null) :: x46_6
theorem ox46_5 : sx_oks 46 x46_5 := ⟨Or.inr ⟨_, (sx_dd bb_46 dX3_joins_5), rfl, rfl⟩, ox46_6⟩
def x46_4 : List sx_E := (.istore 2, 4, 5, [], .null) :: x46_5
theorem ox46_4 : sx_oks 46 x46_4 := ⟨⟨sx_lt mm_46 (Nat.le_of_ble_eq_true rfl), Or.inr ⟨_, (sx_dd bb_46 dX3_joins_4), rfl, rfl⟩⟩, ox46_5⟩
def x46_1 : List sx_E := (.invokestatic 129, 1, 4, [47, 1, 0, 0], .null) :: x46_4
theorem ox46_1 : sx_oks 46 x46_1 := ⟨sx_q_S (sx_dd bb_46 dX3_joins_1) oo_46 lk_StrawGarrison_Reader_129_S ft_47_h, ox46_4⟩
def x46_0 : List sx_E := (.iload 1, 0, 1, [], .null) :: x46_1
theorem ox46_0 : sx_oks 46 x46_0 := ⟨Or.inr ⟨_, (sx_dd bb_46 dX3_joins_0), rfl, rfl⟩, ox46_1⟩
theorem m46 : sx_mok 46 x46_0 := ⟨ox46_0, by decide +kernel⟩
theorem bb_47 : sx_by 47 = cX3_tightnessOf := rfl
theorem oo_47 : (sx_nm 47).cls = "StrawGarrison$Reader" := rfl
theorem mm_47 : sx_ml 47 = 1 := rfl
theorem rr_47 : sx_rt 47 = (some .int) := rfl
def x47_95 : List sx_E := (.ireturn, 95, 96, [0], .null) :: []
theorem ox47_95 : sx_oks 47 x47_95 := ⟨sx_q_iret0 (sx_dd bb_47 dX3_tightnessOf_95) rr_47, trivial⟩
def x47_94 : List sx_E := (.nop, 94, 95, [], .int (nI 0)) :: x47_95
theorem ox47_94 : sx_oks 47 x47_94 := ⟨sx_k_iconst (sx_dd bb_47 dX3_tightnessOf_94) (by decide +kernel), ox47_95⟩
def x47_93 : List sx_E := (.ireturn, 93, 94, [0], .null) :: x47_94
theorem ox47_93 : sx_oks 47 x47_93 := ⟨sx_q_iret0 (sx_dd bb_47 dX3_tightnessOf_93) rr_47, ox47_94⟩
def x47_92 : List sx_E := (.nop, 92, 93, [], .int (nI 5)) :: x47_93
theorem ox47_92 : sx_oks 47 x47_92 := ⟨sx_k_iconst (sx_dd bb_47 dX3_tightnessOf_92) (by decide +kernel), ox47_93⟩
def x47_91 : List sx_E := (.ireturn, 91, 92, [0], .null) :: x47_92
theorem ox47_91 : sx_oks 47 x47_91 := ⟨sx_q_iret0 (sx_dd bb_47 dX3_tightnessOf_91) rr_47, ox47_92⟩
def x47_90 : List sx_E := (.nop, 90, 91, [], .int (nI 4)) :: x47_91
theorem ox47_90 : sx_oks 47 x47_90 := ⟨sx_k_iconst (sx_dd bb_47 dX3_tightnessOf_90) (by decide +kernel), ox47_91⟩
def x47_89 : List sx_E := (.ireturn, 89, 90, [0], .null) :: x47_90
theorem ox47_89 : sx_oks 47 x47_89 := ⟨sx_q_iret0 (sx_dd bb_47 dX3_tightnessOf_89) rr_47, ox47_90⟩
def x47_88 : List sx_E := (.nop, 88, 89, [], .int (nI 3)) :: x47_89
theorem ox47_88 : sx_oks 47 x47_88 := ⟨sx_k_iconst (sx_dd bb_47 dX3_tightnessOf_88) (by decide +kernel), ox47_89⟩
def x47_87 : List sx_E := (.ireturn, 87, 88, [0], .null) :: x47_88
theorem ox47_87 : sx_oks 47 x47_87 := ⟨sx_q_iret0 (sx_dd bb_47 dX3_tightnessOf_87) rr_47, ox47_88⟩
def x47_86 : List sx_E := (.nop, 86, 87, [], .int (nI 2)) :: x47_87
theorem ox47_86 : sx_oks 47 x47_86 := ⟨sx_k_iconst (sx_dd bb_47 dX3_tightnessOf_86) (by decide +kernel), ox47_87⟩
def x47_85 : List sx_E := (.ireturn, 85, 86, [0], .null) :: x47_86
theorem ox47_85 : sx_oks 47 x47_85 := ⟨sx_q_iret0 (sx_dd bb_47 dX3_tightnessOf_85) rr_47, ox47_86⟩
def x47_84 : List sx_E := (.nop, 84, 85, [], .int (nI 1)) :: x47_85
theorem ox47_84 : sx_oks 47 x47_84 := ⟨sx_k_iconst (sx_dd bb_47 dX3_tightnessOf_84) (by decide +kernel), ox47_85⟩
def x47_1 : List sx_E := (.lookupswitch 93 #[(38, 85), (42, 91), (43, 89), (45, 89), (47, 91), (60, 87), (61, 87), (62, 87), (124, 83)], 1, 84, [94, 38, 86, 42, 92, 43, 90, 45, 90, 47, 92, 60, 88, 61, 88, 62, 88, 124, 84], .null) :: x47_84
theorem ox47_1 : sx_oks 47 x47_1 := ⟨⟨⟨_, (sx_dd bb_47 dX3_tightnessOf_1)⟩, by decide +kernel, sx_t3 (by decide +kernel) (by decide +kernel)⟩, ox47_84⟩
def x47_0 : List sx_E := (.iload 0, 0, 1, [], .null) :: x47_1
theorem ox47_0 : sx_oks 47 x47_0 := ⟨Or.inr ⟨_, (sx_dd bb_47 dX3_tightnessOf_0), rfl, rfl⟩, ox47_1⟩
theorem m47 : sx_mok 47 x47_0 := ⟨ox47_0, by decide +kernel⟩
theorem bb_48 : sx_by 48 = cX3_putDownFrom := rfl
theorem oo_48 : (sx_nm 48).cls = "StrawGarrison$Reader" := rfl
theorem mm_48 : sx_ml 48 = 2 := rfl
theorem rr_48 : sx_rt 48 = none := rfl
def x48_68 : List sx_E := (.return_, 68, 69, [], .null) :: []
theorem ox48_68 : sx_oks 48 x48_68 := ⟨⟨(sx_dd bb_48 dX3_putDownFrom_68), rr_48⟩, trivial⟩
def x48_65 : List sx_E := (.goto (-65), 65, 68, [0], .null) :: x48_68
theorem ox48_65 : sx_oks 48 x48_65 := ⟨⟨(sx_dd bb_48 dX3_putDownFrom_65), sx_t1 (by decide +kernel)⟩, ox48_68⟩
def x48_62 : List sx_E := (.invokevirtual 120, 62, 65, [49, 2, 0, 0, 2], .null) :: x48_65
theorem ox48_62 : sx_oks 48 x48_62 := ⟨sx_q_V (w := (RX3, TX3, 10)) (sx_dd bb_48 dX3_putDownFrom_62) oo_48 lk_StrawGarrison_Reader_120_V ft_49_h (Nat.le_of_ble_eq_true rfl) rfl rfl, ox48_65⟩
def x48_61 : List sx_E := (.ineg, 61, 62, [], .null) :: x48_62
theorem ox48_61 : sx_oks 48 x48_61 := ⟨⟨(sx_dd bb_48 dX3_putDownFrom_61), rfl⟩, ox48_62⟩
def x48_60 : List sx_E := (.iaload, 60, 61, [], .null) :: x48_61
theorem ox48_60 : sx_oks 48 x48_60 := ⟨⟨(sx_dd bb_48 dX3_putDownFrom_60), rfl⟩, ox48_61⟩
def x48_57 : List sx_E := (.getfield 65, 57, 60, [2, 5, 0], .null) :: x48_60
theorem ox48_57 : sx_oks 48 x48_57 := ⟨sx_q_get (w := (RX3, TX3, 10)) (sx_dd bb_48 dX3_putDownFrom_57) rfl rfl (Nat.le_of_ble_eq_true rfl) cu_2 (sx_ow3 oo_48 fl_StrawGarrison_Reader_65) (by decide +kernel), ox48_60⟩
def x48_56 : List sx_E := (.aload 0, 56, 57, [], .null) :: x48_57
theorem ox48_56 : sx_oks 48 x48_56 := ⟨Or.inr ⟨_, (sx_dd bb_48 dX3_putDownFrom_56), rfl, rfl⟩, ox48_57⟩
def x48_53 : List sx_E := (.getfield 15, 53, 56, [2, 4, 1], .null) :: x48_56
theorem ox48_53 : sx_oks 48 x48_53 := ⟨sx_q_get (w := (RX3, TX3, 10)) (sx_dd bb_48 dX3_putDownFrom_53) rfl rfl (Nat.le_of_ble_eq_true rfl) cu_2 (sx_ow3 oo_48 fl_StrawGarrison_Reader_15) (by decide +kernel), ox48_56⟩
def x48_52 : List sx_E := (.aload 0, 52, 53, [], .null) :: x48_53
theorem ox48_52 : sx_oks 48 x48_52 := ⟨Or.inr ⟨_, (sx_dd bb_48 dX3_putDownFrom_52), rfl, rfl⟩, ox48_53⟩
def x48_51 : List sx_E := (.aload 0, 51, 52, [], .null) :: x48_52
theorem ox48_51 : sx_oks 48 x48_51 := ⟨Or.inr ⟨_, (sx_dd bb_48 dX3_putDownFrom_51), rfl, rfl⟩, ox48_52⟩
def x48_48 : List sx_E := (.putfield 65, 48, 51, [2, 5, 0], .null) :: x48_51
theorem ox48_48 : sx_oks 48 x48_48 := ⟨sx_q_put (w := (RX3, TX3, 10)) (ty0 := tyX3) (sx_dd bb_48 dX3_putDownFrom_48) rfl (Nat.le_of_ble_eq_true rfl) cu_2 (sx_ow3 oo_48 fl_StrawGarrison_Reader_65) (by decide +kernel) tyX3_ok nmX3 (Or.inl rfl) (fun _ => rfl) (fun h => absurd h (by decide)) (fun h => absurd h (by decide)), ox48_51⟩
def x48_47 : List sx_E := (.isub, 47, 48, [], .null) :: x48_48
theorem ox48_47 : sx_oks 48 x48_47 := ⟨⟨(sx_dd bb_48 dX3_putDownFrom_47), rfl⟩, ox48_48⟩
def x48_46 : List sx_E := (.nop, 46, 47, [], .int (nI 1)) :: x48_47
theorem ox48_46 : sx_oks 48 x48_46 := ⟨sx_k_iconst (sx_dd bb_48 dX3_putDownFrom_46) (by decide +kernel), ox48_47⟩
def x48_43 : List sx_E := (.getfield 65, 43, 46, [2, 5, 0], .null) :: x48_46
theorem ox48_43 : sx_oks 48 x48_43 := ⟨sx_q_get (w := (RX3, TX3, 10)) (sx_dd bb_48 dX3_putDownFrom_43) rfl rfl (Nat.le_of_ble_eq_true rfl) cu_2 (sx_ow3 oo_48 fl_StrawGarrison_Reader_65) (by decide +kernel), ox48_46⟩
def x48_42 : List sx_E := (.dup, 42, 43, [], .null) :: x48_43
theorem ox48_42 : sx_oks 48 x48_42 := ⟨⟨(sx_dd bb_48 dX3_putDownFrom_42), rfl⟩, ox48_43⟩
def x48_41 : List sx_E := (.aload 0, 41, 42, [], .null) :: x48_42
theorem ox48_41 : sx_oks 48 x48_41 := ⟨Or.inr ⟨_, (sx_dd bb_48 dX3_putDownFrom_41), rfl, rfl⟩, ox48_42⟩
def x48_38 : List sx_E := (.if_icmp .lt (30), 38, 41, [68], .null) :: x48_41
theorem ox48_38 : sx_oks 48 x48_38 := ⟨⟨(sx_dd bb_48 dX3_putDownFrom_38), rfl, sx_t1 (by decide +kernel)⟩, ox48_41⟩
def x48_37 : List sx_E := (.iload 1, 37, 38, [], .null) :: x48_38
theorem ox48_37 : sx_oks 48 x48_37 := ⟨Or.inr ⟨_, (sx_dd bb_48 dX3_putDownFrom_37), rfl, rfl⟩, ox48_38⟩
def x48_34 : List sx_E := (.invokestatic 129, 34, 37, [47, 1, 0, 0], .null) :: x48_37
theorem ox48_34 : sx_oks 48 x48_34 := ⟨sx_q_S (sx_dd bb_48 dX3_putDownFrom_34) oo_48 lk_StrawGarrison_Reader_129_S ft_47_h, ox48_37⟩
def x48_33 : List sx_E := (.iaload, 33, 34, [], .null) :: x48_34
theorem ox48_33 : sx_oks 48 x48_33 := ⟨⟨(sx_dd bb_48 dX3_putDownFrom_33), rfl⟩, ox48_34⟩
def x48_32 : List sx_E := (.isub, 32, 33, [], .null) :: x48_33
theorem ox48_32 : sx_oks 48 x48_32 := ⟨⟨(sx_dd bb_48 dX3_putDownFrom_32), rfl⟩, ox48_33⟩
def x48_31 : List sx_E := (.nop, 31, 32, [], .int (nI 1)) :: x48_32
theorem ox48_31 : sx_oks 48 x48_31 := ⟨sx_k_iconst (sx_dd bb_48 dX3_putDownFrom_31) (by decide +kernel), ox48_32⟩
def x48_28 : List sx_E := (.getfield 65, 28, 31, [2, 5, 0], .null) :: x48_31
theorem ox48_28 : sx_oks 48 x48_28 := ⟨sx_q_get (w := (RX3, TX3, 10)) (sx_dd bb_48 dX3_putDownFrom_28) rfl rfl (Nat.le_of_ble_eq_true rfl) cu_2 (sx_ow3 oo_48 fl_StrawGarrison_Reader_65) (by decide +kernel), ox48_31⟩
def x48_27 : List sx_E := (.aload 0, 27, 28, [], .null) :: x48_28
theorem ox48_27 : sx_oks 48 x48_27 := ⟨Or.inr ⟨_, (sx_dd bb_48 dX3_putDownFrom_27), rfl, rfl⟩, ox48_28⟩
def x48_24 : List sx_E := (.getfield 15, 24, 27, [2, 4, 1], .null) :: x48_27
theorem ox48_24 : sx_oks 48 x48_24 := ⟨sx_q_get (w := (RX3, TX3, 10)) (sx_dd bb_48 dX3_putDownFrom_24) rfl rfl (Nat.le_of_ble_eq_true rfl) cu_2 (sx_ow3 oo_48 fl_StrawGarrison_Reader_15) (by decide +kernel), ox48_27⟩
def x48_23 : List sx_E := (.aload 0, 23, 24, [], .null) :: x48_24
theorem ox48_23 : sx_oks 48 x48_23 := ⟨Or.inr ⟨_, (sx_dd bb_48 dX3_putDownFrom_23), rfl, rfl⟩, ox48_24⟩
def x48_20 : List sx_E := (.if_icmp .eq (48), 20, 23, [68], .null) :: x48_23
theorem ox48_20 : sx_oks 48 x48_20 := ⟨⟨(sx_dd bb_48 dX3_putDownFrom_20), rfl, sx_t1 (by decide +kernel)⟩, ox48_23⟩
def x48_18 : List sx_E := (.nop, 18, 20, [], .int (nI 40)) :: x48_20
theorem ox48_18 : sx_oks 48 x48_18 := ⟨sx_k_bipush (sx_dd bb_48 dX3_putDownFrom_18) (by decide +kernel), ox48_20⟩
def x48_17 : List sx_E := (.iaload, 17, 18, [], .null) :: x48_18
theorem ox48_17 : sx_oks 48 x48_17 := ⟨⟨(sx_dd bb_48 dX3_putDownFrom_17), rfl⟩, ox48_18⟩
def x48_16 : List sx_E := (.isub, 16, 17, [], .null) :: x48_17
theorem ox48_16 : sx_oks 48 x48_16 := ⟨⟨(sx_dd bb_48 dX3_putDownFrom_16), rfl⟩, ox48_17⟩
def x48_15 : List sx_E := (.nop, 15, 16, [], .int (nI 1)) :: x48_16
theorem ox48_15 : sx_oks 48 x48_15 := ⟨sx_k_iconst (sx_dd bb_48 dX3_putDownFrom_15) (by decide +kernel), ox48_16⟩
def x48_12 : List sx_E := (.getfield 65, 12, 15, [2, 5, 0], .null) :: x48_15
theorem ox48_12 : sx_oks 48 x48_12 := ⟨sx_q_get (w := (RX3, TX3, 10)) (sx_dd bb_48 dX3_putDownFrom_12) rfl rfl (Nat.le_of_ble_eq_true rfl) cu_2 (sx_ow3 oo_48 fl_StrawGarrison_Reader_65) (by decide +kernel), ox48_15⟩
def x48_11 : List sx_E := (.aload 0, 11, 12, [], .null) :: x48_12
theorem ox48_11 : sx_oks 48 x48_11 := ⟨Or.inr ⟨_, (sx_dd bb_48 dX3_putDownFrom_11), rfl, rfl⟩, ox48_12⟩
def x48_8 : List sx_E := (.getfield 15, 8, 11, [2, 4, 1], .null) :: x48_11
theorem ox48_8 : sx_oks 48 x48_8 := ⟨sx_q_get (w := (RX3, TX3, 10)) (sx_dd bb_48 dX3_putDownFrom_8) rfl rfl (Nat.le_of_ble_eq_true rfl) cu_2 (sx_ow3 oo_48 fl_StrawGarrison_Reader_15) (by decide +kernel), ox48_11⟩
def x48_7 : List sx_E := (.aload 0, 7, 8, [], .null) :: x48_8
theorem ox48_7 : sx_oks 48 x48_7 := ⟨Or.inr ⟨_, (sx_dd bb_48 dX3_putDownFrom_7), rfl, rfl⟩, ox48_8⟩
def x48_4 : List sx_E := (.ifCond .le (64), 4, 7, [68], .null) :: x48_7
theorem ox48_4 : sx_oks 48 x48_4 := ⟨⟨(sx_dd bb_48 dX3_putDownFrom_4), rfl, sx_t1 (by decide +kernel)⟩, ox48_7⟩
def x48_1 : List sx_E := (.getfield 65, 1, 4, [2, 5, 0], .null) :: x48_4
theorem ox48_1 : sx_oks 48 x48_1 := ⟨sx_q_get (w := (RX3, TX3, 10)) (sx_dd bb_48 dX3_putDownFrom_1) rfl rfl (Nat.le_of_ble_eq_true rfl) cu_2 (sx_ow3 oo_48 fl_StrawGarrison_Reader_65) (by decide +kernel), ox48_4⟩
def x48_0 : List sx_E := (.aload 0, 0, 1, [], .null) :: x48_1
theorem ox48_0 : sx_oks 48 x48_0 := ⟨Or.inr ⟨_, (sx_dd bb_48 dX3_putDownFrom_0), rfl, rfl⟩, ox48_1⟩
def x48_0h : List sx_E := (.monitorenter, 0, 0, [0, 1], .null) :: x48_0
theorem ox48_0h : sx_oks 48 x48_0h := ⟨trivial, ox48_0⟩
theorem m48 : sx_mok 48 x48_0h := ⟨ox48_0h, by decide +kernel⟩
theorem bb_49 : sx_by 49 = cX3_putDown := rfl
theorem oo_49 : (sx_nm 49).cls = "StrawGarrison$Reader" := rfl
theorem mm_49 : sx_ml 49 = 2 := rfl
theorem rr_49 : sx_rt 49 = none := rfl
def x49_32 : List sx_E := (.return_, 32, 33, [], .null) :: []
theorem ox49_32 : sx_oks 49 x49_32 := ⟨⟨(sx_dd bb_49 dX3_putDown_32), rr_49⟩, trivial⟩
def x49_29 : List sx_E := (.putfield 62, 29, 32, [2, 3, 0], .null) :: x49_32
theorem ox49_29 : sx_oks 49 x49_29 := ⟨sx_q_put (w := (RX3, TX3, 10)) (ty0 := tyX3) (sx_dd bb_49 dX3_putDown_29) rfl (Nat.le_of_ble_eq_true rfl) cu_2 (sx_ow3 oo_49 fl_StrawGarrison_Reader_62) (by decide +kernel) tyX3_ok nmX3 (Or.inl rfl) (fun _ => rfl) (fun h => absurd h (by decide)) (fun h => absurd h (by decide)), ox49_32⟩
def x49_28 : List sx_E := (.iadd, 28, 29, [], .null) :: x49_29
theorem ox49_28 : sx_oks 49 x49_28 := ⟨⟨(sx_dd bb_49 dX3_putDown_28), rfl⟩, ox49_29⟩
def x49_27 : List sx_E := (.nop, 27, 28, [], .int (nI 1)) :: x49_28
theorem ox49_27 : sx_oks 49 x49_27 := ⟨sx_k_iconst (sx_dd bb_49 dX3_putDown_27) (by decide +kernel), ox49_28⟩
def x49_24 : List sx_E := (.getfield 62, 24, 27, [2, 3, 0], .null) :: x49_27
theorem ox49_24 : sx_oks 49 x49_24 := ⟨sx_q_get (w := (RX3, TX3, 10)) (sx_dd bb_49 dX3_putDown_24) rfl rfl (Nat.le_of_ble_eq_true rfl) cu_2 (sx_ow3 oo_49 fl_StrawGarrison_Reader_62) (by decide +kernel), ox49_27⟩
def x49_23 : List sx_E := (.dup, 23, 24, [], .null) :: x49_24
theorem ox49_23 : sx_oks 49 x49_23 := ⟨⟨(sx_dd bb_49 dX3_putDown_23), rfl⟩, ox49_24⟩
def x49_22 : List sx_E := (.aload 0, 22, 23, [], .null) :: x49_23
theorem ox49_22 : sx_oks 49 x49_22 := ⟨Or.inr ⟨_, (sx_dd bb_49 dX3_putDown_22), rfl, rfl⟩, ox49_23⟩
def x49_21 : List sx_E := (.iastore, 21, 22, [], .null) :: x49_22
theorem ox49_21 : sx_oks 49 x49_21 := ⟨⟨(sx_dd bb_49 dX3_putDown_21), rfl⟩, ox49_22⟩
def x49_20 : List sx_E := (.iload 1, 20, 21, [], .null) :: x49_21
theorem ox49_20 : sx_oks 49 x49_20 := ⟨Or.inr ⟨_, (sx_dd bb_49 dX3_putDown_20), rfl, rfl⟩, ox49_21⟩
def x49_17 : List sx_E := (.getfield 62, 17, 20, [2, 3, 0], .null) :: x49_20
theorem ox49_17 : sx_oks 49 x49_17 := ⟨sx_q_get (w := (RX3, TX3, 10)) (sx_dd bb_49 dX3_putDown_17) rfl rfl (Nat.le_of_ble_eq_true rfl) cu_2 (sx_ow3 oo_49 fl_StrawGarrison_Reader_62) (by decide +kernel), ox49_20⟩
def x49_16 : List sx_E := (.aload 0, 16, 17, [], .null) :: x49_17
theorem ox49_16 : sx_oks 49 x49_16 := ⟨Or.inr ⟨_, (sx_dd bb_49 dX3_putDown_16), rfl, rfl⟩, ox49_17⟩
def x49_13 : List sx_E := (.getfield 9, 13, 16, [2, 2, 1], .null) :: x49_16
theorem ox49_13 : sx_oks 49 x49_13 := ⟨sx_q_get (w := (RX3, TX3, 10)) (sx_dd bb_49 dX3_putDown_13) rfl rfl (Nat.le_of_ble_eq_true rfl) cu_2 (sx_ow3 oo_49 fl_StrawGarrison_Reader_9) (by decide +kernel), ox49_16⟩
def x49_12 : List sx_E := (.aload 0, 12, 13, [], .null) :: x49_13
theorem ox49_12 : sx_oks 49 x49_12 := ⟨Or.inr ⟨_, (sx_dd bb_49 dX3_putDown_12), rfl, rfl⟩, ox49_13⟩
def x49_9 : List sx_E := (.if_icmp .ge (23), 9, 12, [32], .null) :: x49_12
theorem ox49_9 : sx_oks 49 x49_9 := ⟨⟨(sx_dd bb_49 dX3_putDown_9), rfl, sx_t1 (by decide +kernel)⟩, ox49_12⟩
def x49_8 : List sx_E := (.arraylength, 8, 9, [], .null) :: x49_9
theorem ox49_8 : sx_oks 49 x49_8 := ⟨⟨(sx_dd bb_49 dX3_putDown_8), rfl⟩, ox49_9⟩
def x49_5 : List sx_E := (.getfield 9, 5, 8, [2, 2, 1], .null) :: x49_8
theorem ox49_5 : sx_oks 49 x49_5 := ⟨sx_q_get (w := (RX3, TX3, 10)) (sx_dd bb_49 dX3_putDown_5) rfl rfl (Nat.le_of_ble_eq_true rfl) cu_2 (sx_ow3 oo_49 fl_StrawGarrison_Reader_9) (by decide +kernel), ox49_8⟩
def x49_4 : List sx_E := (.aload 0, 4, 5, [], .null) :: x49_5
theorem ox49_4 : sx_oks 49 x49_4 := ⟨Or.inr ⟨_, (sx_dd bb_49 dX3_putDown_4), rfl, rfl⟩, ox49_5⟩
def x49_1 : List sx_E := (.getfield 62, 1, 4, [2, 3, 0], .null) :: x49_4
theorem ox49_1 : sx_oks 49 x49_1 := ⟨sx_q_get (w := (RX3, TX3, 10)) (sx_dd bb_49 dX3_putDown_1) rfl rfl (Nat.le_of_ble_eq_true rfl) cu_2 (sx_ow3 oo_49 fl_StrawGarrison_Reader_62) (by decide +kernel), ox49_4⟩
def x49_0 : List sx_E := (.aload 0, 0, 1, [], .null) :: x49_1
theorem ox49_0 : sx_oks 49 x49_0 := ⟨Or.inr ⟨_, (sx_dd bb_49 dX3_putDown_0), rfl, rfl⟩, ox49_1⟩
theorem m49 : sx_mok 49 x49_0 := ⟨ox49_0, by decide +kernel⟩
theorem bb_50 : sx_by 50 = cX3_push := rfl
theorem oo_50 : (sx_nm 50).cls = "StrawGarrison$Reader" := rfl
theorem mm_50 : sx_ml 50 = 2 := rfl
theorem rr_50 : sx_rt 50 = none := rfl
def x50_32 : List sx_E := (.return_, 32, 33, [], .null) :: []
theorem ox50_32 : sx_oks 50 x50_32 := ⟨⟨(sx_dd bb_50 dX3_push_32), rr_50⟩, trivial⟩
def x50_29 : List sx_E := (.putfield 65, 29, 32, [2, 5, 0], .null) :: x50_32
theorem ox50_29 : sx_oks 50 x50_29 := ⟨sx_q_put (w := (RX3, TX3, 10)) (ty0 := tyX3) (sx_dd bb_50 dX3_push_29) rfl (Nat.le_of_ble_eq_true rfl) cu_2 (sx_ow3 oo_50 fl_StrawGarrison_Reader_65) (by decide +kernel) tyX3_ok nmX3 (Or.inl rfl) (fun _ => rfl) (fun h => absurd h (by decide)) (fun h => absurd h (by decide)), ox50_32⟩
def x50_28 : List sx_E := (.iadd, 28, 29, [], .null) :: x50_29
theorem ox50_28 : sx_oks 50 x50_28 := ⟨⟨(sx_dd bb_50 dX3_push_28), rfl⟩, ox50_29⟩
def x50_27 : List sx_E := (.nop, 27, 28, [], .int (nI 1)) :: x50_28
theorem ox50_27 : sx_oks 50 x50_27 := ⟨sx_k_iconst (sx_dd bb_50 dX3_push_27) (by decide +kernel), ox50_28⟩
def x50_24 : List sx_E := (.getfield 65, 24, 27, [2, 5, 0], .null) :: x50_27
theorem ox50_24 : sx_oks 50 x50_24 := ⟨sx_q_get (w := (RX3, TX3, 10)) (sx_dd bb_50 dX3_push_24) rfl rfl (Nat.le_of_ble_eq_true rfl) cu_2 (sx_ow3 oo_50 fl_StrawGarrison_Reader_65) (by decide +kernel), ox50_27⟩
def x50_23 : List sx_E := (.dup, 23, 24, [], .null) :: x50_24
theorem ox50_23 : sx_oks 50 x50_23 := ⟨⟨(sx_dd bb_50 dX3_push_23), rfl⟩, ox50_24⟩
def x50_22 : List sx_E := (.aload 0, 22, 23, [], .null) :: x50_23
theorem ox50_22 : sx_oks 50 x50_22 := ⟨Or.inr ⟨_, (sx_dd bb_50 dX3_push_22), rfl, rfl⟩, ox50_23⟩
def x50_21 : List sx_E := (.iastore, 21, 22, [], .null) :: x50_22
theorem ox50_21 : sx_oks 50 x50_21 := ⟨⟨(sx_dd bb_50 dX3_push_21), rfl⟩, ox50_22⟩
def x50_20 : List sx_E := (.iload 1, 20, 21, [], .null) :: x50_21
theorem ox50_20 : sx_oks 50 x50_20 := ⟨Or.inr ⟨_, (sx_dd bb_50 dX3_push_20), rfl, rfl⟩, ox50_21⟩
def x50_17 : List sx_E := (.getfield 65, 17, 20, [2, 5, 0], .null) :: x50_20
theorem ox50_17 : sx_oks 50 x50_17 := ⟨sx_q_get (w := (RX3, TX3, 10)) (sx_dd bb_50 dX3_push_17) rfl rfl (Nat.le_of_ble_eq_true rfl) cu_2 (sx_ow3 oo_50 fl_StrawGarrison_Reader_65) (by decide +kernel), ox50_20⟩
def x50_16 : List sx_E := (.aload 0, 16, 17, [], .null) :: x50_17
theorem ox50_16 : sx_oks 50 x50_16 := ⟨Or.inr ⟨_, (sx_dd bb_50 dX3_push_16), rfl, rfl⟩, ox50_17⟩
def x50_13 : List sx_E := (.getfield 15, 13, 16, [2, 4, 1], .null) :: x50_16
theorem ox50_13 : sx_oks 50 x50_13 := ⟨sx_q_get (w := (RX3, TX3, 10)) (sx_dd bb_50 dX3_push_13) rfl rfl (Nat.le_of_ble_eq_true rfl) cu_2 (sx_ow3 oo_50 fl_StrawGarrison_Reader_15) (by decide +kernel), ox50_16⟩
def x50_12 : List sx_E := (.aload 0, 12, 13, [], .null) :: x50_13
theorem ox50_12 : sx_oks 50 x50_12 := ⟨Or.inr ⟨_, (sx_dd bb_50 dX3_push_12), rfl, rfl⟩, ox50_13⟩
def x50_9 : List sx_E := (.if_icmp .ge (23), 9, 12, [32], .null) :: x50_12
theorem ox50_9 : sx_oks 50 x50_9 := ⟨⟨(sx_dd bb_50 dX3_push_9), rfl, sx_t1 (by decide +kernel)⟩, ox50_12⟩
def x50_8 : List sx_E := (.arraylength, 8, 9, [], .null) :: x50_9
theorem ox50_8 : sx_oks 50 x50_8 := ⟨⟨(sx_dd bb_50 dX3_push_8), rfl⟩, ox50_9⟩
def x50_5 : List sx_E := (.getfield 15, 5, 8, [2, 4, 1], .null) :: x50_8
theorem ox50_5 : sx_oks 50 x50_5 := ⟨sx_q_get (w := (RX3, TX3, 10)) (sx_dd bb_50 dX3_push_5) rfl rfl (Nat.le_of_ble_eq_true rfl) cu_2 (sx_ow3 oo_50 fl_StrawGarrison_Reader_15) (by decide +kernel), ox50_8⟩
def x50_4 : List sx_E := (.aload 0, 4, 5, [], .null) :: x50_5
theorem ox50_4 : sx_oks 50 x50_4 := ⟨Or.inr ⟨_, (sx_dd bb_50 dX3_push_4), rfl, rfl⟩, ox50_5⟩
def x50_1 : List sx_E := (.getfield 65, 1, 4, [2, 5, 0], .null) :: x50_4
theorem ox50_1 : sx_oks 50 x50_1 := ⟨sx_q_get (w := (RX3, TX3, 10)) (sx_dd bb_50 dX3_push_1) rfl rfl (Nat.le_of_ble_eq_true rfl) cu_2 (sx_ow3 oo_50 fl_StrawGarrison_Reader_65) (by decide +kernel), ox50_4⟩
def x50_0 : List sx_E := (.aload 0, 0, 1, [], .null) :: x50_1
theorem ox50_0 : sx_oks 50 x50_0 := ⟨Or.inr ⟨_, (sx_dd bb_50 dX3_push_0), rfl, rfl⟩, ox50_1⟩
theorem m50 : sx_mok 50 x50_0 := ⟨ox50_0, by decide +kernel⟩
theorem bb_51 : sx_by 51 = cX4_init := rfl
theorem oo_51 : (sx_nm 51).cls = "StrawGarrison$Sheet" := rfl
theorem mm_51 : sx_ml 51 = 1 := rfl
theorem rr_51 : sx_rt 51 = none := rfl
theorem cc_51 : sx_ct 51 := rfl
def x51_22 : List sx_E := (.return_, 22, 23, [], .null) :: []
theorem ox51_22 : sx_oks 51 x51_22 := ⟨⟨(sx_dd bb_51 dX4_init_22), rr_51⟩, trivial⟩
def x51_19 : List sx_E := (.putfield 18, 19, 22, [3, 2, 1], .null) :: x51_22
theorem ox51_19 : sx_oks 51 x51_19 := ⟨sx_q_put (w := (RX4, TX4, 3)) (ty0 := tyX4) (sx_dd bb_51 dX4_init_19) rfl (Nat.le_of_ble_eq_true rfl) cu_3 (sx_ow3 oo_51 fl_StrawGarrison_Sheet_18) (by decide +kernel) tyX4_ok nmX4 (Or.inr ⟨rfl, cc_51, sx_ow0 oo_51 rfl⟩) (fun h => absurd h (by decide)) (fun h => absurd h (by decide)) (fun _ => Or.inr ⟨_, rfl⟩), ox51_22⟩
def x51_17 : List sx_E := (.newarray .int, 17, 19, [0, 24], .null) :: x51_19
theorem ox51_17 : sx_oks 51 x51_17 := ⟨sx_q_newa (sx_dd bb_51 dX4_init_17) (Nat.le_of_ble_eq_true rfl) (Or.inl ⟨rfl, rfl⟩) ca_0, ox51_19⟩
def x51_15 : List sx_E := (.nop, 15, 17, [], .int (nI 24)) :: x51_17
theorem ox51_15 : sx_oks 51 x51_15 := ⟨sx_k_bipush (sx_dd bb_51 dX4_init_15) (by decide +kernel), ox51_17⟩
def x51_14 : List sx_E := (.aload 0, 14, 15, [], .null) :: x51_15
theorem ox51_14 : sx_oks 51 x51_14 := ⟨Or.inr ⟨_, (sx_dd bb_51 dX4_init_14), rfl, rfl⟩, ox51_15⟩
def x51_11 : List sx_E := (.putfield 15, 11, 14, [3, 1, 0], .null) :: x51_14
theorem ox51_11 : sx_oks 51 x51_11 := ⟨sx_q_put (w := (RX4, TX4, 3)) (ty0 := tyX4) (sx_dd bb_51 dX4_init_11) rfl (Nat.le_of_ble_eq_true rfl) cu_3 (sx_ow3 oo_51 fl_StrawGarrison_Sheet_15) (by decide +kernel) tyX4_ok nmX4 (Or.inl rfl) (fun _ => rfl) (fun h => absurd h (by decide)) (fun h => absurd h (by decide)), ox51_14⟩
def x51_10 : List sx_E := (.nop, 10, 11, [], .int (nI 0)) :: x51_11
theorem ox51_10 : sx_oks 51 x51_10 := ⟨sx_k_iconst (sx_dd bb_51 dX4_init_10) (by decide +kernel), ox51_11⟩
def x51_9 : List sx_E := (.aload 0, 9, 10, [], .null) :: x51_10
theorem ox51_9 : sx_oks 51 x51_9 := ⟨Or.inr ⟨_, (sx_dd bb_51 dX4_init_9), rfl, rfl⟩, ox51_10⟩
def x51_6 : List sx_E := (.putfield 9, 6, 9, [3, 0, 0], .null) :: x51_9
theorem ox51_6 : sx_oks 51 x51_6 := ⟨sx_q_put (w := (RX4, TX4, 3)) (ty0 := tyX4) (sx_dd bb_51 dX4_init_6) rfl (Nat.le_of_ble_eq_true rfl) cu_3 (sx_ow3 oo_51 fl_StrawGarrison_Sheet_9) (by decide +kernel) tyX4_ok nmX4 (Or.inl rfl) (fun _ => rfl) (fun h => absurd h (by decide)) (fun h => absurd h (by decide)), ox51_9⟩
def x51_5 : List sx_E := (.nop, 5, 6, [], .int ((-1))) :: x51_6
theorem ox51_5 : sx_oks 51 x51_5 := ⟨sx_k_iconst (sx_dd bb_51 dX4_init_5) (by decide +kernel), ox51_6⟩
def x51_4 : List sx_E := (.aload 0, 4, 5, [], .null) :: x51_5
theorem ox51_4 : sx_oks 51 x51_4 := ⟨Or.inr ⟨_, (sx_dd bb_51 dX4_init_4), rfl, rfl⟩, ox51_5⟩
def x51_1 : List sx_E := (.jsr 0, 1, 4, [], .null) :: x51_4
theorem ox51_1 : sx_oks 51 x51_1 := ⟨⟨3, (sx_dd bb_51 dX4_init_1), rfl, sx_ow5 oo_51 ob_StrawGarrison_Sheet_3, ob_i, ob_c⟩, ox51_4⟩
def x51_0 : List sx_E := (.aload 0, 0, 1, [], .null) :: x51_1
theorem ox51_0 : sx_oks 51 x51_0 := ⟨Or.inr ⟨_, (sx_dd bb_51 dX4_init_0), rfl, rfl⟩, ox51_1⟩
theorem m51 : sx_mok 51 x51_0 := ⟨ox51_0, by decide +kernel⟩
theorem bb_52 : sx_by 52 = cX4_start := rfl
theorem oo_52 : (sx_nm 52).cls = "StrawGarrison$Sheet" := rfl
theorem mm_52 : sx_ml 52 = 3 := rfl
theorem rr_52 : sx_rt 52 = none := rfl
def x52_18 : List sx_E := (.return_, 18, 19, [], .null) :: []
theorem ox52_18 : sx_oks 52 x52_18 := ⟨⟨(sx_dd bb_52 dX4_start_18), rr_52⟩, trivial⟩
def x52_15 : List sx_E := (.invokestatic 22, 15, 18, [226, 2, 0, 0], .null) :: x52_18
theorem ox52_15 : sx_oks 52 x52_15 := ⟨sx_q_S (sx_dd bb_52 dX4_start_15) oo_52 lk_StrawGarrison_Sheet_22_S ft_226_h, ox52_18⟩
def x52_14 : List sx_E := (.nop, 14, 15, [], .int (nI 0)) :: x52_15
theorem ox52_14 : sx_oks 52 x52_14 := ⟨sx_k_iconst (sx_dd bb_52 dX4_start_14) (by decide +kernel), ox52_15⟩
def x52_11 : List sx_E := (.getfield 18, 11, 14, [3, 2, 1], .null) :: x52_14
theorem ox52_11 : sx_oks 52 x52_11 := ⟨sx_q_get (w := (RX4, TX4, 3)) (sx_dd bb_52 dX4_start_11) rfl rfl (Nat.le_of_ble_eq_true rfl) cu_3 (sx_ow3 oo_52 fl_StrawGarrison_Sheet_18) (by decide +kernel), ox52_14⟩
def x52_10 : List sx_E := (.aload 0, 10, 11, [], .null) :: x52_11
theorem ox52_10 : sx_oks 52 x52_10 := ⟨Or.inr ⟨_, (sx_dd bb_52 dX4_start_10), rfl, rfl⟩, ox52_11⟩
def x52_7 : List sx_E := (.putfield 15, 7, 10, [3, 1, 0], .null) :: x52_10
theorem ox52_7 : sx_oks 52 x52_7 := ⟨sx_q_put (w := (RX4, TX4, 3)) (ty0 := tyX4) (sx_dd bb_52 dX4_start_7) rfl (Nat.le_of_ble_eq_true rfl) cu_3 (sx_ow3 oo_52 fl_StrawGarrison_Sheet_15) (by decide +kernel) tyX4_ok nmX4 (Or.inl rfl) (fun _ => rfl) (fun h => absurd h (by decide)) (fun h => absurd h (by decide)), ox52_10⟩
def x52_6 : List sx_E := (.iload 2, 6, 7, [], .null) :: x52_7
theorem ox52_6 : sx_oks 52 x52_6 := ⟨Or.inr ⟨_, (sx_dd bb_52 dX4_start_6), rfl, rfl⟩, ox52_7⟩
def x52_5 : List sx_E := (.aload 0, 5, 6, [], .null) :: x52_6
theorem ox52_5 : sx_oks 52 x52_5 := ⟨Or.inr ⟨_, (sx_dd bb_52 dX4_start_5), rfl, rfl⟩, ox52_6⟩
def x52_2 : List sx_E := (.putfield 9, 2, 5, [3, 0, 0], .null) :: x52_5
theorem ox52_2 : sx_oks 52 x52_2 := ⟨sx_q_put (w := (RX4, TX4, 3)) (ty0 := tyX4) (sx_dd bb_52 dX4_start_2) rfl (Nat.le_of_ble_eq_true rfl) cu_3 (sx_ow3 oo_52 fl_StrawGarrison_Sheet_9) (by decide +kernel) tyX4_ok nmX4 (Or.inl rfl) (fun _ => rfl) (fun h => absurd h (by decide)) (fun h => absurd h (by decide)), ox52_5⟩
def x52_1 : List sx_E := (.iload 1, 1, 2, [], .null) :: x52_2
theorem ox52_1 : sx_oks 52 x52_1 := ⟨Or.inr ⟨_, (sx_dd bb_52 dX4_start_1), rfl, rfl⟩, ox52_2⟩
def x52_0 : List sx_E := (.aload 0, 0, 1, [], .null) :: x52_1
theorem ox52_0 : sx_oks 52 x52_0 := ⟨Or.inr ⟨_, (sx_dd bb_52 dX4_start_0), rfl, rfl⟩, ox52_1⟩
theorem m52 : sx_mok 52 x52_0 := ⟨ox52_0, by decide +kernel⟩
theorem bb_53 : sx_by 53 = cX4_become := rfl
theorem oo_53 : (sx_nm 53).cls = "StrawGarrison$Sheet" := rfl
theorem mm_53 : sx_ml 53 = 2 := rfl
theorem rr_53 : sx_rt 53 = none := rfl
def x53_31 : List sx_E := (.return_, 31, 32, [], .null) :: []
theorem ox53_31 : sx_oks 53 x53_31 := ⟨⟨(sx_dd bb_53 dX4_become_31), rr_53⟩, trivial⟩
def x53_28 : List sx_E := (.ret 28, 28, 31, [], .null) :: x53_31
theorem ox53_28 : sx_oks 53 x53_28 := ⟨⟨(sx_dd bb_53 dX4_become_28), rfl, sx_ow5 oo_53 ac_StrawGarrison_Sheet_28, ac_n, ac_s, ac_i⟩, ox53_31⟩
def x53_26 : List sx_E := (.nop, 26, 28, [], .int (nI 24)) :: x53_28
theorem ox53_26 : sx_oks 53 x53_26 := ⟨sx_k_bipush (sx_dd bb_53 dX4_become_26) (by decide +kernel), ox53_28⟩
def x53_25 : List sx_E := (.nop, 25, 26, [], .int (nI 0)) :: x53_26
theorem ox53_25 : sx_oks 53 x53_25 := ⟨sx_k_iconst (sx_dd bb_53 dX4_become_25) (by decide +kernel), ox53_26⟩
def x53_22 : List sx_E := (.getfield 18, 22, 25, [3, 2, 1], .null) :: x53_25
theorem ox53_22 : sx_oks 53 x53_22 := ⟨sx_q_get (w := (RX4, TX4, 3)) (sx_dd bb_53 dX4_become_22) rfl rfl (Nat.le_of_ble_eq_true rfl) cu_3 (sx_ow3 oo_53 fl_StrawGarrison_Sheet_18) (by decide +kernel), ox53_25⟩
def x53_21 : List sx_E := (.aload 0, 21, 22, [], .null) :: x53_22
theorem ox53_21 : sx_oks 53 x53_21 := ⟨Or.inr ⟨_, (sx_dd bb_53 dX4_become_21), rfl, rfl⟩, ox53_22⟩
def x53_20 : List sx_E := (.nop, 20, 21, [], .int (nI 0)) :: x53_21
theorem ox53_20 : sx_oks 53 x53_20 := ⟨sx_k_iconst (sx_dd bb_53 dX4_become_20) (by decide +kernel), ox53_21⟩
def x53_17 : List sx_E := (.getfield 18, 17, 20, [3, 2, 1], .null) :: x53_20
theorem ox53_17 : sx_oks 53 x53_17 := ⟨sx_q_get (w := (RX4, TX4, 3)) (sx_dd bb_53 dX4_become_17) rfl rfl (Nat.le_of_ble_eq_true rfl) cu_3 (sx_ow3 oo_53 fl_StrawGarrison_Sheet_18) (by decide +kernel), ox53_20⟩
def x53_16 : List sx_E := (.aload 1, 16, 17, [], .null) :: x53_17
theorem ox53_16 : sx_oks 53 x53_16 := ⟨Or.inr ⟨_, (sx_dd bb_53 dX4_become_16), rfl, rfl⟩, ox53_17⟩
def x53_13 : List sx_E := (.putfield 15, 13, 16, [3, 1, 0], .null) :: x53_16
theorem ox53_13 : sx_oks 53 x53_13 := ⟨sx_q_put (w := (RX4, TX4, 3)) (ty0 := tyX4) (sx_dd bb_53 dX4_become_13) rfl (Nat.le_of_ble_eq_true rfl) cu_3 (sx_ow3 oo_53 fl_StrawGarrison_Sheet_15) (by decide +kernel) tyX4_ok nmX4 (Or.inl rfl) (fun _ => rfl) (fun h => absurd h (by decide)) (fun h => absurd h (by decide)), ox53_16⟩
def x53_10 : List sx_E := (.getfield 15, 10, 13, [3, 1, 0], .null) :: x53_13
theorem ox53_10 : sx_oks 53 x53_10 := ⟨sx_q_get (w := (RX4, TX4, 3)) (sx_dd bb_53 dX4_become_10) rfl rfl (Nat.le_of_ble_eq_true rfl) cu_3 (sx_ow3 oo_53 fl_StrawGarrison_Sheet_15) (by decide +kernel), ox53_13⟩
def x53_9 : List sx_E := (.aload 1, 9, 10, [], .null) :: x53_10
theorem ox53_9 : sx_oks 53 x53_9 := ⟨Or.inr ⟨_, (sx_dd bb_53 dX4_become_9), rfl, rfl⟩, ox53_10⟩
def x53_8 : List sx_E := (.aload 0, 8, 9, [], .null) :: x53_9
theorem ox53_8 : sx_oks 53 x53_8 := ⟨Or.inr ⟨_, (sx_dd bb_53 dX4_become_8), rfl, rfl⟩, ox53_9⟩
def x53_5 : List sx_E := (.putfield 9, 5, 8, [3, 0, 0], .null) :: x53_8
theorem ox53_5 : sx_oks 53 x53_5 := ⟨sx_q_put (w := (RX4, TX4, 3)) (ty0 := tyX4) (sx_dd bb_53 dX4_become_5) rfl (Nat.le_of_ble_eq_true rfl) cu_3 (sx_ow3 oo_53 fl_StrawGarrison_Sheet_9) (by decide +kernel) tyX4_ok nmX4 (Or.inl rfl) (fun _ => rfl) (fun h => absurd h (by decide)) (fun h => absurd h (by decide)), ox53_8⟩
def x53_2 : List sx_E := (.getfield 9, 2, 5, [3, 0, 0], .null) :: x53_5
theorem ox53_2 : sx_oks 53 x53_2 := ⟨sx_q_get (w := (RX4, TX4, 3)) (sx_dd bb_53 dX4_become_2) rfl rfl (Nat.le_of_ble_eq_true rfl) cu_3 (sx_ow3 oo_53 fl_StrawGarrison_Sheet_9) (by decide +kernel), ox53_5⟩
def x53_1 : List sx_E := (.aload 1, 1, 2, [], .null) :: x53_2
theorem ox53_1 : sx_oks 53 x53_1 := ⟨Or.inr ⟨_, (sx_dd bb_53 dX4_become_1), rfl, rfl⟩, ox53_2⟩
def x53_0 : List sx_E := (.aload 0, 0, 1, [], .null) :: x53_1
theorem ox53_0 : sx_oks 53 x53_0 := ⟨Or.inr ⟨_, (sx_dd bb_53 dX4_become_0), rfl, rfl⟩, ox53_1⟩
theorem m53 : sx_mok 53 x53_0 := ⟨ox53_0, by decide +kernel⟩
theorem bb_54 : sx_by 54 = cX4_isNumber := rfl
theorem oo_54 : (sx_nm 54).cls = "StrawGarrison$Sheet" := rfl
theorem mm_54 : sx_ml 54 = 2 := rfl
theorem rr_54 : sx_rt 54 = (some .boolean) := rfl
def x54_16 : List sx_E := (.ireturn, 16, 17, [1], .null) :: []
theorem ox54_16 : sx_oks 54 x54_16 := ⟨sx_q_iret1 (sx_dd bb_54 dX4_isNumber_16) rr_54, trivial⟩
def x54_15 : List sx_E := (.nop, 15, 16, [], .int (nI 0)) :: x54_16
theorem ox54_15 : sx_oks 54 x54_15 := ⟨sx_k_iconst (sx_dd bb_54 dX4_isNumber_15) (by decide +kernel), ox54_16⟩
def x54_12 : List sx_E := (.goto (4), 12, 15, [16], .null) :: x54_15
theorem ox54_12 : sx_oks 54 x54_12 := ⟨⟨(sx_dd bb_54 dX4_isNumber_12), sx_t1 (by decide +kernel)⟩, ox54_15⟩
def x54_11 : List sx_E := (.nop, 11, 12, [], .int (nI 1)) :: x54_12
theorem ox54_11 : sx_oks 54 x54_11 := ⟨sx_k_iconst (sx_dd bb_54 dX4_isNumber_11) (by decide +kernel), ox54_12⟩
def x54_8 : List sx_E := (.if_icmp .eq (7), 8, 11, [15], .null) :: x54_11
theorem ox54_8 : sx_oks 54 x54_8 := ⟨⟨(sx_dd bb_54 dX4_isNumber_8), rfl, sx_t1 (by decide +kernel)⟩, ox54_11⟩
def x54_6 : List sx_E := (.nop, 6, 8, [], .int ((-1000000005))) :: x54_8
theorem ox54_6 : sx_oks 54 x54_6 := ⟨sx_k_ldc (sx_dd bb_54 dX4_isNumber_6) (sx_ow1 oo_54 kc_StrawGarrison_Sheet_34), ox54_8⟩
def x54_5 : List sx_E := (.iaload, 5, 6, [], .null) :: x54_6
theorem ox54_5 : sx_oks 54 x54_5 := ⟨⟨(sx_dd bb_54 dX4_isNumber_5), rfl⟩, ox54_6⟩
def x54_4 : List sx_E := (.iload 1, 4, 5, [], .null) :: x54_5
theorem ox54_4 : sx_oks 54 x54_4 := ⟨Or.inr ⟨_, (sx_dd bb_54 dX4_isNumber_4), rfl, rfl⟩, ox54_5⟩
def x54_1 : List sx_E := (.getfield 18, 1, 4, [3, 2, 1], .null) :: x54_4
theorem ox54_1 : sx_oks 54 x54_1 := ⟨sx_q_get (w := (RX4, TX4, 3)) (sx_dd bb_54 dX4_isNumber_1) rfl rfl (Nat.le_of_ble_eq_true rfl) cu_3 (sx_ow3 oo_54 fl_StrawGarrison_Sheet_18) (by decide +kernel), ox54_4⟩
def x54_0 : List sx_E := (.aload 0, 0, 1, [], .null) :: x54_1
theorem ox54_0 : sx_oks 54 x54_0 := ⟨Or.inr ⟨_, (sx_dd bb_54 dX4_isNumber_0), rfl, rfl⟩, ox54_1⟩
theorem m54 : sx_mok 54 x54_0 := ⟨ox54_0, by decide +kernel⟩
theorem bb_55 : sx_by 55 = cX4_hasPlaces := rfl
theorem oo_55 : (sx_nm 55).cls = "StrawGarrison$Sheet" := rfl
theorem mm_55 : sx_ml 55 = 3 := rfl
theorem rr_55 : sx_rt 55 = (some .boolean) := rfl
def x55_31 : List sx_E := (.ireturn, 31, 32, [1], .null) :: []
theorem ox55_31 : sx_oks 55 x55_31 := ⟨sx_q_iret1 (sx_dd bb_55 dX4_hasPlaces_31) rr_55, trivial⟩
def x55_30 : List sx_E := (.nop, 30, 31, [], .int (nI 0)) :: x55_31
theorem ox55_30 : sx_oks 55 x55_30 := ⟨sx_k_iconst (sx_dd bb_55 dX4_hasPlaces_30) (by decide +kernel), ox55_31⟩
def x55_27 : List sx_E := (.goto (4), 27, 30, [31], .null) :: x55_30
theorem ox55_27 : sx_oks 55 x55_27 := ⟨⟨(sx_dd bb_55 dX4_hasPlaces_27), sx_t1 (by decide +kernel)⟩, ox55_30⟩
def x55_26 : List sx_E := (.nop, 26, 27, [], .int (nI 1)) :: x55_27
theorem ox55_26 : sx_oks 55 x55_26 := ⟨sx_k_iconst (sx_dd bb_55 dX4_hasPlaces_26) (by decide +kernel), ox55_27⟩
def x55_23 : List sx_E := (.if_icmp .gt (7), 23, 26, [30], .null) :: x55_26
theorem ox55_23 : sx_oks 55 x55_23 := ⟨⟨(sx_dd bb_55 dX4_hasPlaces_23), rfl, sx_t1 (by decide +kernel)⟩, ox55_26⟩
def x55_22 : List sx_E := (.isub, 22, 23, [], .null) :: x55_23
theorem ox55_22 : sx_oks 55 x55_22 := ⟨⟨(sx_dd bb_55 dX4_hasPlaces_22), rfl⟩, ox55_23⟩
def x55_21 : List sx_E := (.iload 1, 21, 22, [], .null) :: x55_22
theorem ox55_21 : sx_oks 55 x55_21 := ⟨Or.inr ⟨_, (sx_dd bb_55 dX4_hasPlaces_21), rfl, rfl⟩, ox55_22⟩
def x55_18 : List sx_E := (.getfield 15, 18, 21, [3, 1, 0], .null) :: x55_21
theorem ox55_18 : sx_oks 55 x55_18 := ⟨sx_q_get (w := (RX4, TX4, 3)) (sx_dd bb_55 dX4_hasPlaces_18) rfl rfl (Nat.le_of_ble_eq_true rfl) cu_3 (sx_ow3 oo_55 fl_StrawGarrison_Sheet_15) (by decide +kernel), ox55_21⟩
def x55_17 : List sx_E := (.aload 0, 17, 18, [], .null) :: x55_18
theorem ox55_17 : sx_oks 55 x55_17 := ⟨Or.inr ⟨_, (sx_dd bb_55 dX4_hasPlaces_17), rfl, rfl⟩, ox55_18⟩
def x55_16 : List sx_E := (.iload 2, 16, 17, [], .null) :: x55_17
theorem ox55_16 : sx_oks 55 x55_16 := ⟨Or.inr ⟨_, (sx_dd bb_55 dX4_hasPlaces_16), rfl, rfl⟩, ox55_17⟩
def x55_13 : List sx_E := (.if_icmp .gt (17), 13, 16, [30], .null) :: x55_16
theorem ox55_13 : sx_oks 55 x55_13 := ⟨⟨(sx_dd bb_55 dX4_hasPlaces_13), rfl, sx_t1 (by decide +kernel)⟩, ox55_16⟩
def x55_10 : List sx_E := (.getfield 15, 10, 13, [3, 1, 0], .null) :: x55_13
theorem ox55_10 : sx_oks 55 x55_10 := ⟨sx_q_get (w := (RX4, TX4, 3)) (sx_dd bb_55 dX4_hasPlaces_10) rfl rfl (Nat.le_of_ble_eq_true rfl) cu_3 (sx_ow3 oo_55 fl_StrawGarrison_Sheet_15) (by decide +kernel), ox55_13⟩
def x55_9 : List sx_E := (.aload 0, 9, 10, [], .null) :: x55_10
theorem ox55_9 : sx_oks 55 x55_9 := ⟨Or.inr ⟨_, (sx_dd bb_55 dX4_hasPlaces_9), rfl, rfl⟩, ox55_10⟩
def x55_8 : List sx_E := (.iload 1, 8, 9, [], .null) :: x55_9
theorem ox55_8 : sx_oks 55 x55_8 := ⟨Or.inr ⟨_, (sx_dd bb_55 dX4_hasPlaces_8), rfl, rfl⟩, ox55_9⟩
def x55_5 : List sx_E := (.ifCond .lt (25), 5, 8, [30], .null) :: x55_8
theorem ox55_5 : sx_oks 55 x55_5 := ⟨⟨(sx_dd bb_55 dX4_hasPlaces_5), rfl, sx_t1 (by decide +kernel)⟩, ox55_8⟩
def x55_4 : List sx_E := (.iload 2, 4, 5, [], .null) :: x55_5
theorem ox55_4 : sx_oks 55 x55_4 := ⟨Or.inr ⟨_, (sx_dd bb_55 dX4_hasPlaces_4), rfl, rfl⟩, ox55_5⟩
def x55_1 : List sx_E := (.ifCond .lt (29), 1, 4, [30], .null) :: x55_4
theorem ox55_1 : sx_oks 55 x55_1 := ⟨⟨(sx_dd bb_55 dX4_hasPlaces_1), rfl, sx_t1 (by decide +kernel)⟩, ox55_4⟩
def x55_0 : List sx_E := (.iload 1, 0, 1, [], .null) :: x55_1
theorem ox55_0 : sx_oks 55 x55_0 := ⟨Or.inr ⟨_, (sx_dd bb_55 dX4_hasPlaces_0), rfl, rfl⟩, ox55_1⟩
theorem m55 : sx_mok 55 x55_0 := ⟨ox55_0, by decide +kernel⟩
theorem bb_56 : sx_by 56 = cX5_init := rfl
theorem oo_56 : (sx_nm 56).cls = "StrawGarrison$Slot" := rfl
theorem mm_56 : sx_ml 56 = 1 := rfl
theorem rr_56 : sx_rt 56 = none := rfl
theorem cc_56 : sx_ct 56 := rfl
def x56_35 : List sx_E := (.return_, 35, 36, [], .null) :: []
theorem ox56_35 : sx_oks 56 x56_35 := ⟨⟨(sx_dd bb_56 dX5_init_35), rr_56⟩, trivial⟩
def x56_32 : List sx_E := (.putfield 27, 32, 35, [4, 4, 1], .null) :: x56_35
theorem ox56_32 : sx_oks 56 x56_32 := ⟨sx_q_put (w := (RX5, TX5, 5)) (ty0 := tyX5) (sx_dd bb_56 dX5_init_32) rfl (Nat.le_of_ble_eq_true rfl) cu_4 (sx_ow3 oo_56 fl_StrawGarrison_Slot_27) (by decide +kernel) tyX5_ok nmX5 (Or.inr ⟨rfl, cc_56, sx_ow0 oo_56 rfl⟩) (fun h => absurd h (by decide)) (fun h => absurd h (by decide)) (fun _ => Or.inl ⟨_, rfl⟩), ox56_35⟩
def x56_29 : List sx_E := (.invokespecial 26, 29, 32, [51, 1, 1, 24], .null) :: x56_32
theorem ox56_29 : sx_oks 56 x56_29 := ⟨sx_q_I (sx_dd bb_56 dX5_init_29) oo_56 lk_StrawGarrison_Slot_26_I ft_51_h, ox56_32⟩
def x56_28 : List sx_E := (.dup, 28, 29, [], .null) :: x56_29
theorem ox56_28 : sx_oks 56 x56_28 := ⟨⟨(sx_dd bb_56 dX5_init_28), rfl⟩, ox56_29⟩
def x56_25 : List sx_E := (.new 24, 25, 28, [3, 3], .null) :: x56_28
theorem ox56_25 : sx_oks 56 x56_25 := ⟨sx_q_new (w := (RX4, TX4, 3)) (ty0 := tyX4) (sx_dd bb_56 dX5_init_25) rfl rfl cu_3 tyX4_ok (sx_ow4 oo_56 cl_StrawGarrison_Slot_24) ci_3 cn_3 (by decide +kernel), ox56_28⟩
def x56_24 : List sx_E := (.aload 0, 24, 25, [], .null) :: x56_25
theorem ox56_24 : sx_oks 56 x56_24 := ⟨Or.inr ⟨_, (sx_dd bb_56 dX5_init_24), rfl, rfl⟩, ox56_25⟩
def x56_21 : List sx_E := (.putfield 21, 21, 24, [4, 3, 0], .null) :: x56_24
theorem ox56_21 : sx_oks 56 x56_21 := ⟨sx_q_put (w := (RX5, TX5, 5)) (ty0 := tyX5) (sx_dd bb_56 dX5_init_21) rfl (Nat.le_of_ble_eq_true rfl) cu_4 (sx_ow3 oo_56 fl_StrawGarrison_Slot_21) (by decide +kernel) tyX5_ok nmX5 (Or.inl rfl) (fun _ => rfl) (fun h => absurd h (by decide)) (fun h => absurd h (by decide)), ox56_24⟩
def x56_20 : List sx_E := (.nop, 20, 21, [], .int (nI 0)) :: x56_21
theorem ox56_20 : sx_oks 56 x56_20 := ⟨sx_k_iconst (sx_dd bb_56 dX5_init_20) (by decide +kernel), ox56_21⟩
def x56_19 : List sx_E := (.aload 0, 19, 20, [], .null) :: x56_20
theorem ox56_19 : sx_oks 56 x56_19 := ⟨Or.inr ⟨_, (sx_dd bb_56 dX5_init_19), rfl, rfl⟩, ox56_20⟩
def x56_16 : List sx_E := (.putfield 18, 16, 19, [4, 2, 0], .null) :: x56_19
theorem ox56_16 : sx_oks 56 x56_16 := ⟨sx_q_put (w := (RX5, TX5, 5)) (ty0 := tyX5) (sx_dd bb_56 dX5_init_16) rfl (Nat.le_of_ble_eq_true rfl) cu_4 (sx_ow3 oo_56 fl_StrawGarrison_Slot_18) (by decide +kernel) tyX5_ok nmX5 (Or.inl rfl) (fun _ => rfl) (fun h => absurd h (by decide)) (fun h => absurd h (by decide)), ox56_19⟩
def x56_15 : List sx_E := (.nop, 15, 16, [], .int (nI 0)) :: x56_16
theorem ox56_15 : sx_oks 56 x56_15 := ⟨sx_k_iconst (sx_dd bb_56 dX5_init_15) (by decide +kernel), ox56_16⟩
def x56_14 : List sx_E := (.aload 0, 14, 15, [], .null) :: x56_15
theorem ox56_14 : sx_oks 56 x56_14 := ⟨Or.inr ⟨_, (sx_dd bb_56 dX5_init_14), rfl, rfl⟩, ox56_15⟩
def x56_11 : List sx_E := (.putfield 15, 11, 14, [4, 1, 0], .null) :: x56_14
theorem ox56_11 : sx_oks 56 x56_11 := ⟨sx_q_put (w := (RX5, TX5, 5)) (ty0 := tyX5) (sx_dd bb_56 dX5_init_11) rfl (Nat.le_of_ble_eq_true rfl) cu_4 (sx_ow3 oo_56 fl_StrawGarrison_Slot_15) (by decide +kernel) tyX5_ok nmX5 (Or.inl rfl) (fun _ => rfl) (fun h => absurd h (by decide)) (fun h => absurd h (by decide)), ox56_14⟩
def x56_10 : List sx_E := (.nop, 10, 11, [], .int (nI 0)) :: x56_11
theorem ox56_10 : sx_oks 56 x56_10 := ⟨sx_k_iconst (sx_dd bb_56 dX5_init_10) (by decide +kernel), ox56_11⟩
def x56_9 : List sx_E := (.aload 0, 9, 10, [], .null) :: x56_10
theorem ox56_9 : sx_oks 56 x56_9 := ⟨Or.inr ⟨_, (sx_dd bb_56 dX5_init_9), rfl, rfl⟩, ox56_10⟩
def x56_6 : List sx_E := (.putfield 9, 6, 9, [4, 0, 0], .null) :: x56_9
theorem ox56_6 : sx_oks 56 x56_6 := ⟨sx_q_put (w := (RX5, TX5, 5)) (ty0 := tyX5) (sx_dd bb_56 dX5_init_6) rfl (Nat.le_of_ble_eq_true rfl) cu_4 (sx_ow3 oo_56 fl_StrawGarrison_Slot_9) (by decide +kernel) tyX5_ok nmX5 (Or.inl rfl) (fun _ => rfl) (fun h => absurd h (by decide)) (fun h => absurd h (by decide)), ox56_9⟩
def x56_5 : List sx_E := (.nop, 5, 6, [], .int (nI 0)) :: x56_6
theorem ox56_5 : sx_oks 56 x56_5 := ⟨sx_k_iconst (sx_dd bb_56 dX5_init_5) (by decide +kernel), ox56_6⟩
def x56_4 : List sx_E := (.aload 0, 4, 5, [], .null) :: x56_5
theorem ox56_4 : sx_oks 56 x56_4 := ⟨Or.inr ⟨_, (sx_dd bb_56 dX5_init_4), rfl, rfl⟩, ox56_5⟩
def x56_1 : List sx_E := (.jsr 0, 1, 4, [], .null) :: x56_4
theorem ox56_1 : sx_oks 56 x56_1 := ⟨⟨3, (sx_dd bb_56 dX5_init_1), rfl, sx_ow5 oo_56 ob_StrawGarrison_Slot_3, ob_i, ob_c⟩, ox56_4⟩
def x56_0 : List sx_E := (.aload 0, 0, 1, [], .null) :: x56_1
theorem ox56_0 : sx_oks 56 x56_0 := ⟨Or.inr ⟨_, (sx_dd bb_56 dX5_init_0), rfl, rfl⟩, ox56_1⟩
theorem m56 : sx_mok 56 x56_0 := ⟨ox56_0, by decide +kernel⟩
theorem bb_57 : sx_by 57 = cX6_init := rfl
theorem oo_57 : (sx_nm 57).cls = "StrawGarrison$Text" := rfl
theorem mm_57 : sx_ml 57 = 2 := rfl
theorem rr_57 : sx_rt 57 = none := rfl
theorem cc_57 : sx_ct 57 := rfl
def x57_46 : List sx_E := (.return_, 46, 47, [], .null) :: []
theorem ox57_46 : sx_oks 57 x57_46 := ⟨⟨(sx_dd bb_57 dX6_init_46), rr_57⟩, trivial⟩
def x57_43 : List sx_E := (.putfield 34, 43, 46, [5, 3, 1], .null) :: x57_46
theorem ox57_43 : sx_oks 57 x57_43 := ⟨sx_q_put (w := (RX6, TX6, 4)) (ty0 := tyX6) (sx_dd bb_57 dX6_init_43) rfl (Nat.le_of_ble_eq_true rfl) cu_5 (sx_ow3 oo_57 fl_StrawGarrison_Text_34) (by decide +kernel) tyX6_ok nmX6 (Or.inr ⟨rfl, cc_57, sx_ow0 oo_57 rfl⟩) (fun h => absurd h (by decide)) (fun h => absurd h (by decide)) (fun _ => Or.inr ⟨_, rfl⟩), ox57_46⟩
def x57_41 : List sx_E := (.newarray .int, 41, 43, [0, 96], .null) :: x57_43
theorem ox57_41 : sx_oks 57 x57_41 := ⟨sx_q_newa (sx_dd bb_57 dX6_init_41) (Nat.le_of_ble_eq_true rfl) (Or.inl ⟨rfl, rfl⟩) ca_0, ox57_43⟩
def x57_40 : List sx_E := (.arraylength, 40, 41, [], .null) :: x57_41
theorem ox57_40 : sx_oks 57 x57_40 := ⟨⟨(sx_dd bb_57 dX6_init_40), rfl⟩, ox57_41⟩
def x57_37 : List sx_E := (.getfield 33, 37, 40, [5, 2, 1], .null) :: x57_40
theorem ox57_37 : sx_oks 57 x57_37 := ⟨sx_q_get (w := (RX6, TX6, 4)) (sx_dd bb_57 dX6_init_37) rfl rfl (Nat.le_of_ble_eq_true rfl) cu_5 (sx_ow3 oo_57 fl_StrawGarrison_Text_33) (by decide +kernel), ox57_40⟩
def x57_36 : List sx_E := (.aload 0, 36, 37, [], .null) :: x57_37
theorem ox57_36 : sx_oks 57 x57_36 := ⟨Or.inr ⟨_, (sx_dd bb_57 dX6_init_36), rfl, rfl⟩, ox57_37⟩
def x57_35 : List sx_E := (.aload 0, 35, 36, [], .null) :: x57_36
theorem ox57_35 : sx_oks 57 x57_35 := ⟨Or.inr ⟨_, (sx_dd bb_57 dX6_init_35), rfl, rfl⟩, ox57_36⟩
def x57_32 : List sx_E := (.putfield 33, 32, 35, [5, 2, 1], .null) :: x57_35
theorem ox57_32 : sx_oks 57 x57_32 := ⟨sx_q_put (w := (RX6, TX6, 4)) (ty0 := tyX6) (sx_dd bb_57 dX6_init_32) rfl (Nat.le_of_ble_eq_true rfl) cu_5 (sx_ow3 oo_57 fl_StrawGarrison_Text_33) (by decide +kernel) tyX6_ok nmX6 (Or.inr ⟨rfl, cc_57, sx_ow0 oo_57 rfl⟩) (fun h => absurd h (by decide)) (fun h => absurd h (by decide)) (fun _ => Or.inr ⟨_, rfl⟩), ox57_35⟩
def x57_29 : List sx_E := (.invokestatic 27, 29, 32, [227, 2, 1, 96], .null) :: x57_32
theorem ox57_29 : sx_oks 57 x57_29 := ⟨sx_q_S (sx_dd bb_57 dX6_init_29) oo_57 lk_StrawGarrison_Text_27_S ft_227_h, ox57_32⟩
def x57_26 : List sx_E := (.getfield 24, 26, 29, [2, 3, 0], .null) :: x57_29
theorem ox57_26 : sx_oks 57 x57_26 := ⟨sx_q_get (w := (RX3, TX3, 10)) (sx_dd bb_57 dX6_init_26) rfl rfl (Nat.le_of_ble_eq_true rfl) cu_2 (sx_ow3 oo_57 fl_StrawGarrison_Text_24) (by decide +kernel), ox57_29⟩
def x57_25 : List sx_E := (.aload 1, 25, 26, [], .null) :: x57_26
theorem ox57_25 : sx_oks 57 x57_25 := ⟨Or.inr ⟨_, (sx_dd bb_57 dX6_init_25), rfl, rfl⟩, ox57_26⟩
def x57_22 : List sx_E := (.getfield 20, 22, 25, [2, 2, 1], .null) :: x57_25
theorem ox57_22 : sx_oks 57 x57_22 := ⟨sx_q_get (w := (RX3, TX3, 10)) (sx_dd bb_57 dX6_init_22) rfl rfl (Nat.le_of_ble_eq_true rfl) cu_2 (sx_ow3 oo_57 fl_StrawGarrison_Text_20) (by decide +kernel), ox57_25⟩
def x57_21 : List sx_E := (.aload 1, 21, 22, [], .null) :: x57_22
theorem ox57_21 : sx_oks 57 x57_21 := ⟨Or.inr ⟨_, (sx_dd bb_57 dX6_init_21), rfl, rfl⟩, ox57_22⟩
def x57_20 : List sx_E := (.aload 0, 20, 21, [], .null) :: x57_21
theorem ox57_20 : sx_oks 57 x57_20 := ⟨Or.inr ⟨_, (sx_dd bb_57 dX6_init_20), rfl, rfl⟩, ox57_21⟩
def x57_17 : List sx_E := (.putfield 19, 17, 20, [5, 1, 0], .null) :: x57_20
theorem ox57_17 : sx_oks 57 x57_17 := ⟨sx_q_put (w := (RX6, TX6, 4)) (ty0 := tyX6) (sx_dd bb_57 dX6_init_17) rfl (Nat.le_of_ble_eq_true rfl) cu_5 (sx_ow3 oo_57 fl_StrawGarrison_Text_19) (by decide +kernel) tyX6_ok nmX6 (Or.inr ⟨rfl, cc_57, sx_ow0 oo_57 rfl⟩) (fun _ => rfl) (fun h => absurd h (by decide)) (fun h => absurd h (by decide)), ox57_20⟩
def x57_14 : List sx_E := (.getfield 16, 14, 17, [2, 1, 0], .null) :: x57_17
theorem ox57_14 : sx_oks 57 x57_14 := ⟨sx_q_get (w := (RX3, TX3, 10)) (sx_dd bb_57 dX6_init_14) rfl rfl (Nat.le_of_ble_eq_true rfl) cu_2 (sx_ow3 oo_57 fl_StrawGarrison_Text_16) (by decide +kernel), ox57_17⟩
def x57_13 : List sx_E := (.aload 1, 13, 14, [], .null) :: x57_14
theorem ox57_13 : sx_oks 57 x57_13 := ⟨Or.inr ⟨_, (sx_dd bb_57 dX6_init_13), rfl, rfl⟩, ox57_14⟩
def x57_12 : List sx_E := (.aload 0, 12, 13, [], .null) :: x57_13
theorem ox57_12 : sx_oks 57 x57_12 := ⟨Or.inr ⟨_, (sx_dd bb_57 dX6_init_12), rfl, rfl⟩, ox57_13⟩
def x57_9 : List sx_E := (.putfield 13, 9, 12, [5, 0, 0], .null) :: x57_12
theorem ox57_9 : sx_oks 57 x57_9 := ⟨sx_q_put (w := (RX6, TX6, 4)) (ty0 := tyX6) (sx_dd bb_57 dX6_init_9) rfl (Nat.le_of_ble_eq_true rfl) cu_5 (sx_ow3 oo_57 fl_StrawGarrison_Text_13) (by decide +kernel) tyX6_ok nmX6 (Or.inr ⟨rfl, cc_57, sx_ow0 oo_57 rfl⟩) (fun _ => rfl) (fun h => absurd h (by decide)) (fun h => absurd h (by decide)), ox57_12⟩
def x57_6 : List sx_E := (.getfield 7, 6, 9, [2, 0, 0], .null) :: x57_9
theorem ox57_6 : sx_oks 57 x57_6 := ⟨sx_q_get (w := (RX3, TX3, 10)) (sx_dd bb_57 dX6_init_6) rfl rfl (Nat.le_of_ble_eq_true rfl) cu_2 (sx_ow3 oo_57 fl_StrawGarrison_Text_7) (by decide +kernel), ox57_9⟩
def x57_5 : List sx_E := (.aload 1, 5, 6, [], .null) :: x57_6
theorem ox57_5 : sx_oks 57 x57_5 := ⟨Or.inr ⟨_, (sx_dd bb_57 dX6_init_5), rfl, rfl⟩, ox57_6⟩
def x57_4 : List sx_E := (.aload 0, 4, 5, [], .null) :: x57_5
theorem ox57_4 : sx_oks 57 x57_4 := ⟨Or.inr ⟨_, (sx_dd bb_57 dX6_init_4), rfl, rfl⟩, ox57_5⟩
def x57_1 : List sx_E := (.jsr 0, 1, 4, [], .null) :: x57_4
theorem ox57_1 : sx_oks 57 x57_1 := ⟨⟨1, (sx_dd bb_57 dX6_init_1), rfl, sx_ow5 oo_57 ob_StrawGarrison_Text_1, ob_i, ob_c⟩, ox57_4⟩
def x57_0 : List sx_E := (.aload 0, 0, 1, [], .null) :: x57_1
theorem ox57_0 : sx_oks 57 x57_0 := ⟨Or.inr ⟨_, (sx_dd bb_57 dX6_init_0), rfl, rfl⟩, ox57_1⟩
theorem m57 : sx_mok 57 x57_0 := ⟨ox57_0, by decide +kernel⟩
theorem bb_58 : sx_by 58 = cX7_init := rfl
theorem oo_58 : (sx_nm 58).cls = "StrawGarrison" := rfl
theorem mm_58 : sx_ml 58 = 2 := rfl
theorem rr_58 : sx_rt 58 = none := rfl
theorem cc_58 : sx_ct 58 := rfl
def x58_155 : List sx_E := (.return_, 155, 156, [], .null) :: []
theorem ox58_155 : sx_oks 58 x58_155 := ⟨⟨(sx_dd bb_58 dX7_init_155), rr_58⟩, trivial⟩
def x58_152 : List sx_E := (.goto (-21), 152, 155, [131], .null) :: x58_155
theorem ox58_152 : sx_oks 58 x58_152 := ⟨⟨(sx_dd bb_58 dX7_init_152), sx_t1 (by decide +kernel)⟩, ox58_155⟩
def x58_149 : List sx_E := (.iinc 1 (1), 149, 152, [], .int (nI 1)) :: x58_152
theorem ox58_149 : sx_oks 58 x58_149 := ⟨⟨sx_lt mm_58 (Nat.le_of_ble_eq_true rfl), (sx_dd bb_58 dX7_init_149), rfl, by decide +kernel⟩, ox58_152⟩
def x58_148 : List sx_E := (.aastore, 148, 149, [], .null) :: x58_149
theorem ox58_148 : sx_oks 58 x58_148 := ⟨⟨(sx_dd bb_58 dX7_init_148), rfl⟩, ox58_149⟩
def x58_145 : List sx_E := (.invokespecial 64, 145, 148, [56, 1, 2, 27], .null) :: x58_148
theorem ox58_145 : sx_oks 58 x58_145 := ⟨sx_q_I (sx_dd bb_58 dX7_init_145) oo_58 lk_StrawGarrison_64_I ft_56_h, ox58_148⟩
def x58_144 : List sx_E := (.dup, 144, 145, [], .null) :: x58_145
theorem ox58_144 : sx_oks 58 x58_144 := ⟨⟨(sx_dd bb_58 dX7_init_144), rfl⟩, ox58_145⟩
def x58_141 : List sx_E := (.new 47, 141, 144, [4, 5], .null) :: x58_144
theorem ox58_141 : sx_oks 58 x58_141 := ⟨sx_q_new (w := (RX5, TX5, 5)) (ty0 := tyX5) (sx_dd bb_58 dX7_init_141) rfl rfl cu_4 tyX5_ok (sx_ow4 oo_58 cl_StrawGarrison_47) ci_4 cn_4 (by decide +kernel), ox58_144⟩
def x58_140 : List sx_E := (.iload 1, 140, 141, [], .null) :: x58_141
theorem ox58_140 : sx_oks 58 x58_140 := ⟨Or.inr ⟨_, (sx_dd bb_58 dX7_init_140), rfl, rfl⟩, ox58_141⟩
def x58_137 : List sx_E := (.getfield 49, 137, 140, [6, 9, 1], .null) :: x58_140
theorem ox58_137 : sx_oks 58 x58_137 := ⟨sx_q_get (w := (RX7, TX7, 12)) (sx_dd bb_58 dX7_init_137) rfl rfl (Nat.le_of_ble_eq_true rfl) cu_6 (sx_ow3 oo_58 fl_StrawGarrison_49) (by decide +kernel), ox58_140⟩
def x58_136 : List sx_E := (.aload 0, 136, 137, [], .null) :: x58_137
theorem ox58_136 : sx_oks 58 x58_136 := ⟨Or.inr ⟨_, (sx_dd bb_58 dX7_init_136), rfl, rfl⟩, ox58_137⟩
def x58_133 : List sx_E := (.if_icmp .ge (22), 133, 136, [155], .null) :: x58_136
theorem ox58_133 : sx_oks 58 x58_133 := ⟨⟨(sx_dd bb_58 dX7_init_133), rfl, sx_t1 (by decide +kernel)⟩, ox58_136⟩
def x58_132 : List sx_E := (.nop, 132, 133, [], .int (nI 5)) :: x58_133
theorem ox58_132 : sx_oks 58 x58_132 := ⟨sx_k_iconst (sx_dd bb_58 dX7_init_132) (by decide +kernel), ox58_133⟩
def x58_131 : List sx_E := (.iload 1, 131, 132, [], .null) :: x58_132
theorem ox58_131 : sx_oks 58 x58_131 := ⟨Or.inr ⟨_, (sx_dd bb_58 dX7_init_131), rfl, rfl⟩, ox58_132⟩
def x58_131h : List sx_E := (.monitorenter, 131, 131, [0, 1], .null) :: x58_131
theorem ox58_131h : sx_oks 58 x58_131h := ⟨trivial, ox58_131⟩
def x58_130 : List sx_E := (.istore 1, 130, 131, [], .null) :: x58_131h
theorem ox58_130 : sx_oks 58 x58_130 := ⟨⟨sx_lt mm_58 (Nat.le_of_ble_eq_true rfl), Or.inr ⟨_, (sx_dd bb_58 dX7_init_130), rfl, rfl⟩⟩, ox58_131h⟩
def x58_129 : List sx_E := (.nop, 129, 130, [], .int (nI 0)) :: x58_130
theorem ox58_129 : sx_oks 58 x58_129 := ⟨sx_k_iconst (sx_dd bb_58 dX7_init_129) (by decide +kernel), ox58_130⟩
def x58_126 : List sx_E := (.goto (-21), 126, 129, [105], .null) :: x58_129
theorem ox58_126 : sx_oks 58 x58_126 := ⟨⟨(sx_dd bb_58 dX7_init_126), sx_t1 (by decide +kernel)⟩, ox58_129⟩
def x58_123 : List sx_E := (.iinc 1 (1), 123, 126, [], .int (nI 1)) :: x58_126
theorem ox58_123 : sx_oks 58 x58_123 := ⟨⟨sx_lt mm_58 (Nat.le_of_ble_eq_true rfl), (sx_dd bb_58 dX7_init_123), rfl, by decide +kernel⟩, ox58_126⟩
def x58_122 : List sx_E := (.aastore, 122, 123, [], .null) :: x58_123
theorem ox58_122 : sx_oks 58 x58_122 := ⟨⟨(sx_dd bb_58 dX7_init_122), rfl⟩, ox58_123⟩
def x58_119 : List sx_E := (.invokespecial 63, 119, 122, [51, 1, 1, 24], .null) :: x58_122
theorem ox58_119 : sx_oks 58 x58_119 := ⟨sx_q_I (sx_dd bb_58 dX7_init_119) oo_58 lk_StrawGarrison_63_I ft_51_h, ox58_122⟩
def x58_118 : List sx_E := (.dup, 118, 119, [], .null) :: x58_119
theorem ox58_118 : sx_oks 58 x58_118 := ⟨⟨(sx_dd bb_58 dX7_init_118), rfl⟩, ox58_119⟩
def x58_115 : List sx_E := (.new 41, 115, 118, [3, 3], .null) :: x58_118
theorem ox58_115 : sx_oks 58 x58_115 := ⟨sx_q_new (w := (RX4, TX4, 3)) (ty0 := tyX4) (sx_dd bb_58 dX7_init_115) rfl rfl cu_3 tyX4_ok (sx_ow4 oo_58 cl_StrawGarrison_41) ci_3 cn_3 (by decide +kernel), ox58_118⟩
def x58_114 : List sx_E := (.iload 1, 114, 115, [], .null) :: x58_115
theorem ox58_114 : sx_oks 58 x58_114 := ⟨Or.inr ⟨_, (sx_dd bb_58 dX7_init_114), rfl, rfl⟩, ox58_115⟩
def x58_111 : List sx_E := (.getfield 43, 111, 114, [6, 8, 1], .null) :: x58_114
theorem ox58_111 : sx_oks 58 x58_111 := ⟨sx_q_get (w := (RX7, TX7, 12)) (sx_dd bb_58 dX7_init_111) rfl rfl (Nat.le_of_ble_eq_true rfl) cu_6 (sx_ow3 oo_58 fl_StrawGarrison_43) (by decide +kernel), ox58_114⟩
def x58_110 : List sx_E := (.aload 0, 110, 111, [], .null) :: x58_111
theorem ox58_110 : sx_oks 58 x58_110 := ⟨Or.inr ⟨_, (sx_dd bb_58 dX7_init_110), rfl, rfl⟩, ox58_111⟩
def x58_107 : List sx_E := (.if_icmp .ge (22), 107, 110, [129], .null) :: x58_110
theorem ox58_107 : sx_oks 58 x58_107 := ⟨⟨(sx_dd bb_58 dX7_init_107), rfl, sx_t1 (by decide +kernel)⟩, ox58_110⟩
def x58_106 : List sx_E := (.nop, 106, 107, [], .int (nI 4)) :: x58_107
theorem ox58_106 : sx_oks 58 x58_106 := ⟨sx_k_iconst (sx_dd bb_58 dX7_init_106) (by decide +kernel), ox58_107⟩
def x58_105 : List sx_E := (.iload 1, 105, 106, [], .null) :: x58_106
theorem ox58_105 : sx_oks 58 x58_105 := ⟨Or.inr ⟨_, (sx_dd bb_58 dX7_init_105), rfl, rfl⟩, ox58_106⟩
def x58_105h : List sx_E := (.monitorenter, 105, 105, [0, 1], .null) :: x58_105
theorem ox58_105h : sx_oks 58 x58_105h := ⟨trivial, ox58_105⟩
def x58_104 : List sx_E := (.istore 1, 104, 105, [], .null) :: x58_105h
theorem ox58_104 : sx_oks 58 x58_104 := ⟨⟨sx_lt mm_58 (Nat.le_of_ble_eq_true rfl), Or.inr ⟨_, (sx_dd bb_58 dX7_init_104), rfl, rfl⟩⟩, ox58_105h⟩
def x58_103 : List sx_E := (.nop, 103, 104, [], .int (nI 0)) :: x58_104
theorem ox58_103 : sx_oks 58 x58_103 := ⟨sx_k_iconst (sx_dd bb_58 dX7_init_103) (by decide +kernel), ox58_104⟩
def x58_100 : List sx_E := (.putfield 60, 100, 103, [6, 0, 1], .null) :: x58_103
theorem ox58_100 : sx_oks 58 x58_100 := ⟨sx_q_put (w := (RX7, TX7, 12)) (ty0 := tyX7) (sx_dd bb_58 dX7_init_100) rfl (Nat.le_of_ble_eq_true rfl) cu_6 (sx_ow3 oo_58 fl_StrawGarrison_60) (by decide +kernel) tyX7_ok nmX7 (Or.inr ⟨rfl, cc_58, sx_ow0 oo_58 rfl⟩) (fun h => absurd h (by decide)) (fun h => absurd h (by decide)) (fun _ => Or.inr ⟨_, rfl⟩), ox58_103⟩
def x58_98 : List sx_E := (.newarray .int, 98, 100, [0, 10], .null) :: x58_100
theorem ox58_98 : sx_oks 58 x58_98 := ⟨sx_q_newa (sx_dd bb_58 dX7_init_98) (Nat.le_of_ble_eq_true rfl) (Or.inl ⟨rfl, rfl⟩) ca_0, ox58_100⟩
def x58_96 : List sx_E := (.nop, 96, 98, [], .int (nI 10)) :: x58_98
theorem ox58_96 : sx_oks 58 x58_96 := ⟨sx_k_bipush (sx_dd bb_58 dX7_init_96) (by decide +kernel), ox58_98⟩
def x58_95 : List sx_E := (.aload 0, 95, 96, [], .null) :: x58_96
theorem ox58_95 : sx_oks 58 x58_95 := ⟨Or.inr ⟨_, (sx_dd bb_58 dX7_init_95), rfl, rfl⟩, ox58_96⟩
def x58_92 : List sx_E := (.putfield 57, 92, 95, [6, 11, 0], .null) :: x58_95
theorem ox58_92 : sx_oks 58 x58_92 := ⟨sx_q_put (w := (RX7, TX7, 12)) (ty0 := tyX7) (sx_dd bb_58 dX7_init_92) rfl (Nat.le_of_ble_eq_true rfl) cu_6 (sx_ow3 oo_58 fl_StrawGarrison_57) (by decide +kernel) tyX7_ok nmX7 (Or.inl rfl) (fun _ => rfl) (fun h => absurd h (by decide)) (fun h => absurd h (by decide)), ox58_95⟩
def x58_91 : List sx_E := (.nop, 91, 92, [], .int (nI 0)) :: x58_92
theorem ox58_91 : sx_oks 58 x58_91 := ⟨sx_k_iconst (sx_dd bb_58 dX7_init_91) (by decide +kernel), ox58_92⟩
def x58_90 : List sx_E := (.aload 0, 90, 91, [], .null) :: x58_91
theorem ox58_90 : sx_oks 58 x58_90 := ⟨Or.inr ⟨_, (sx_dd bb_58 dX7_init_90), rfl, rfl⟩, ox58_91⟩
def x58_87 : List sx_E := (.putfield 53, 87, 90, [6, 10, 1], .null) :: x58_90
theorem ox58_87 : sx_oks 58 x58_87 := ⟨sx_q_put (w := (RX7, TX7, 12)) (ty0 := tyX7) (sx_dd bb_58 dX7_init_87) rfl (Nat.le_of_ble_eq_true rfl) cu_6 (sx_ow3 oo_58 fl_StrawGarrison_53) (by decide +kernel) tyX7_ok nmX7 (Or.inr ⟨rfl, cc_58, sx_ow0 oo_58 rfl⟩) (fun h => absurd h (by decide)) (fun h => absurd h (by decide)) (fun _ => Or.inr ⟨_, rfl⟩), ox58_90⟩
def x58_85 : List sx_E := (.newarray .int, 85, 87, [0, 60], .null) :: x58_87
theorem ox58_85 : sx_oks 58 x58_85 := ⟨sx_q_newa (sx_dd bb_58 dX7_init_85) (Nat.le_of_ble_eq_true rfl) (Or.inl ⟨rfl, rfl⟩) ca_0, ox58_87⟩
def x58_83 : List sx_E := (.nop, 83, 85, [], .int (nI 60)) :: x58_85
theorem ox58_83 : sx_oks 58 x58_83 := ⟨sx_k_bipush (sx_dd bb_58 dX7_init_83) (by decide +kernel), ox58_85⟩
def x58_82 : List sx_E := (.aload 0, 82, 83, [], .null) :: x58_83
theorem ox58_82 : sx_oks 58 x58_82 := ⟨Or.inr ⟨_, (sx_dd bb_58 dX7_init_82), rfl, rfl⟩, ox58_83⟩
def x58_79 : List sx_E := (.putfield 49, 79, 82, [6, 9, 1], .null) :: x58_82
theorem ox58_79 : sx_oks 58 x58_79 := ⟨sx_q_put (w := (RX7, TX7, 12)) (ty0 := tyX7) (sx_dd bb_58 dX7_init_79) rfl (Nat.le_of_ble_eq_true rfl) cu_6 (sx_ow3 oo_58 fl_StrawGarrison_49) (by decide +kernel) tyX7_ok nmX7 (Or.inr ⟨rfl, cc_58, sx_ow0 oo_58 rfl⟩) (fun h => absurd h (by decide)) (fun h => absurd h (by decide)) (fun _ => Or.inr ⟨_, rfl⟩), ox58_82⟩
def x58_76 : List sx_E := (.anewarray 47, 76, 79, [5, 5], .null) :: x58_79
theorem ox58_76 : sx_oks 58 x58_76 := ⟨sx_q_anewa (sx_dd bb_58 dX7_init_76) (Nat.le_of_ble_eq_true rfl) (Or.inr (Or.inr ⟨rfl, sx_ow4 oo_58 cl_StrawGarrison_47_s⟩)), ox58_79⟩
def x58_75 : List sx_E := (.nop, 75, 76, [], .int (nI 5)) :: x58_76
theorem ox58_75 : sx_oks 58 x58_75 := ⟨sx_k_iconst (sx_dd bb_58 dX7_init_75) (by decide +kernel), ox58_76⟩
def x58_74 : List sx_E := (.aload 0, 74, 75, [], .null) :: x58_75
theorem ox58_74 : sx_oks 58 x58_74 := ⟨Or.inr ⟨_, (sx_dd bb_58 dX7_init_74), rfl, rfl⟩, ox58_75⟩
def x58_71 : List sx_E := (.putfield 43, 71, 74, [6, 8, 1], .null) :: x58_74
theorem ox58_71 : sx_oks 58 x58_71 := ⟨sx_q_put (w := (RX7, TX7, 12)) (ty0 := tyX7) (sx_dd bb_58 dX7_init_71) rfl (Nat.le_of_ble_eq_true rfl) cu_6 (sx_ow3 oo_58 fl_StrawGarrison_43) (by decide +kernel) tyX7_ok nmX7 (Or.inr ⟨rfl, cc_58, sx_ow0 oo_58 rfl⟩) (fun h => absurd h (by decide)) (fun h => absurd h (by decide)) (fun _ => Or.inr ⟨_, rfl⟩), ox58_74⟩
def x58_68 : List sx_E := (.anewarray 41, 68, 71, [4, 4], .null) :: x58_71
theorem ox58_68 : sx_oks 58 x58_68 := ⟨sx_q_anewa (sx_dd bb_58 dX7_init_68) (Nat.le_of_ble_eq_true rfl) (Or.inr (Or.inl ⟨rfl, sx_ow4 oo_58 cl_StrawGarrison_41_s⟩)), ox58_71⟩
def x58_67 : List sx_E := (.nop, 67, 68, [], .int (nI 4)) :: x58_68
theorem ox58_67 : sx_oks 58 x58_67 := ⟨sx_k_iconst (sx_dd bb_58 dX7_init_67) (by decide +kernel), ox58_68⟩
def x58_66 : List sx_E := (.aload 0, 66, 67, [], .null) :: x58_67
theorem ox58_66 : sx_oks 58 x58_66 := ⟨Or.inr ⟨_, (sx_dd bb_58 dX7_init_66), rfl, rfl⟩, ox58_67⟩
def x58_63 : List sx_E := (.putfield 37, 63, 66, [6, 7, 0], .null) :: x58_66
theorem ox58_63 : sx_oks 58 x58_63 := ⟨sx_q_put (w := (RX7, TX7, 12)) (ty0 := tyX7) (sx_dd bb_58 dX7_init_63) rfl (Nat.le_of_ble_eq_true rfl) cu_6 (sx_ow3 oo_58 fl_StrawGarrison_37) (by decide +kernel) tyX7_ok nmX7 (Or.inl rfl) (fun _ => rfl) (fun h => absurd h (by decide)) (fun h => absurd h (by decide)), ox58_66⟩
def x58_62 : List sx_E := (.nop, 62, 63, [], .int (nI 0)) :: x58_63
theorem ox58_62 : sx_oks 58 x58_62 := ⟨sx_k_iconst (sx_dd bb_58 dX7_init_62) (by decide +kernel), ox58_63⟩
def x58_61 : List sx_E := (.aload 0, 61, 62, [], .null) :: x58_62
theorem ox58_61 : sx_oks 58 x58_61 := ⟨Or.inr ⟨_, (sx_dd bb_58 dX7_init_61), rfl, rfl⟩, ox58_62⟩
def x58_58 : List sx_E := (.putfield 33, 58, 61, [6, 6, 1], .null) :: x58_61
theorem ox58_58 : sx_oks 58 x58_58 := ⟨sx_q_put (w := (RX7, TX7, 12)) (ty0 := tyX7) (sx_dd bb_58 dX7_init_58) rfl (Nat.le_of_ble_eq_true rfl) cu_6 (sx_ow3 oo_58 fl_StrawGarrison_33) (by decide +kernel) tyX7_ok nmX7 (Or.inr ⟨rfl, cc_58, sx_ow0 oo_58 rfl⟩) (fun h => absurd h (by decide)) (fun h => absurd h (by decide)) (fun _ => Or.inr ⟨_, rfl⟩), ox58_61⟩
def x58_56 : List sx_E := (.newarray .byte, 56, 58, [1, 96], .null) :: x58_58
theorem ox58_56 : sx_oks 58 x58_56 := ⟨sx_q_newa (sx_dd bb_58 dX7_init_56) (Nat.le_of_ble_eq_true rfl) (Or.inr (Or.inl ⟨rfl, rfl⟩)) ca_1, ox58_58⟩
def x58_54 : List sx_E := (.nop, 54, 56, [], .int (nI 96)) :: x58_56
theorem ox58_54 : sx_oks 58 x58_54 := ⟨sx_k_bipush (sx_dd bb_58 dX7_init_54) (by decide +kernel), ox58_56⟩
def x58_53 : List sx_E := (.aload 0, 53, 54, [], .null) :: x58_54
theorem ox58_53 : sx_oks 58 x58_53 := ⟨Or.inr ⟨_, (sx_dd bb_58 dX7_init_53), rfl, rfl⟩, ox58_54⟩
def x58_50 : List sx_E := (.putfield 29, 50, 53, [6, 5, 1], .null) :: x58_53
theorem ox58_50 : sx_oks 58 x58_50 := ⟨sx_q_put (w := (RX7, TX7, 12)) (ty0 := tyX7) (sx_dd bb_58 dX7_init_50) rfl (Nat.le_of_ble_eq_true rfl) cu_6 (sx_ow3 oo_58 fl_StrawGarrison_29) (by decide +kernel) tyX7_ok nmX7 (Or.inr ⟨rfl, cc_58, sx_ow0 oo_58 rfl⟩) (fun h => absurd h (by decide)) (fun h => absurd h (by decide)) (fun _ => Or.inl ⟨_, rfl⟩), ox58_53⟩
def x58_47 : List sx_E := (.invokespecial 28, 47, 50, [31, 1, 3, 201], .null) :: x58_50
theorem ox58_47 : sx_oks 58 x58_47 := ⟨sx_q_I (sx_dd bb_58 dX7_init_47) oo_58 lk_StrawGarrison_28_I ft_31_h, ox58_50⟩
def x58_46 : List sx_E := (.dup, 46, 47, [], .null) :: x58_47
theorem ox58_46 : sx_oks 58 x58_46 := ⟨⟨(sx_dd bb_58 dX7_init_46), rfl⟩, ox58_47⟩
def x58_43 : List sx_E := (.new 26, 43, 46, [2, 10], .null) :: x58_46
theorem ox58_43 : sx_oks 58 x58_43 := ⟨sx_q_new (w := (RX3, TX3, 10)) (ty0 := tyX3) (sx_dd bb_58 dX7_init_43) rfl rfl cu_2 tyX3_ok (sx_ow4 oo_58 cl_StrawGarrison_26) ci_2 cn_2 (by decide +kernel), ox58_46⟩
def x58_42 : List sx_E := (.aload 0, 42, 43, [], .null) :: x58_43
theorem ox58_42 : sx_oks 58 x58_42 := ⟨Or.inr ⟨_, (sx_dd bb_58 dX7_init_42), rfl, rfl⟩, ox58_43⟩
def x58_39 : List sx_E := (.putfield 22, 39, 42, [6, 4, 2], .null) :: x58_42
theorem ox58_39 : sx_oks 58 x58_39 := ⟨sx_q_put (w := (RX7, TX7, 12)) (ty0 := tyX7) (sx_dd bb_58 dX7_init_39) rfl (Nat.le_of_ble_eq_true rfl) cu_6 (sx_ow3 oo_58 fl_StrawGarrison_22) (by decide +kernel) tyX7_ok nmX7 (Or.inl rfl) (fun h => absurd h (by decide)) (fun _ => rfl) (fun h => absurd h (by decide)), ox58_42⟩
def x58_38 : List sx_E := (.nop, 38, 39, [], .int (nI 0)) :: x58_39
theorem ox58_38 : sx_oks 58 x58_38 := ⟨sx_k_iconst (sx_dd bb_58 dX7_init_38) (by decide +kernel), ox58_39⟩
def x58_37 : List sx_E := (.aload 0, 37, 38, [], .null) :: x58_38
theorem ox58_37 : sx_oks 58 x58_37 := ⟨Or.inr ⟨_, (sx_dd bb_58 dX7_init_37), rfl, rfl⟩, ox58_38⟩
def x58_34 : List sx_E := (.putfield 19, 34, 37, [6, 3, 1], .null) :: x58_37
theorem ox58_34 : sx_oks 58 x58_34 := ⟨sx_q_put (w := (RX7, TX7, 12)) (ty0 := tyX7) (sx_dd bb_58 dX7_init_34) rfl (Nat.le_of_ble_eq_true rfl) cu_6 (sx_ow3 oo_58 fl_StrawGarrison_19) (by decide +kernel) tyX7_ok nmX7 (Or.inr ⟨rfl, cc_58, sx_ow0 oo_58 rfl⟩) (fun h => absurd h (by decide)) (fun h => absurd h (by decide)) (fun _ => Or.inl ⟨_, rfl⟩), ox58_37⟩
def x58_31 : List sx_E := (.invokespecial 9, 31, 34, [5, 1, 10, 77], .null) :: x58_34
theorem ox58_31 : sx_oks 58 x58_31 := ⟨sx_q_I (sx_dd bb_58 dX7_init_31) oo_58 lk_StrawGarrison_9_I ft_5_h, ox58_34⟩
def x58_30 : List sx_E := (.dup, 30, 31, [], .null) :: x58_31
theorem ox58_30 : sx_oks 58 x58_30 := ⟨⟨(sx_dd bb_58 dX7_init_30), rfl⟩, ox58_31⟩
def x58_27 : List sx_E := (.new 7, 27, 30, [1, 11], .null) :: x58_30
theorem ox58_27 : sx_oks 58 x58_27 := ⟨sx_q_new (w := (RX1, TX1, 11)) (ty0 := tyX1) (sx_dd bb_58 dX7_init_27) rfl rfl cu_1 tyX1_ok (sx_ow4 oo_58 cl_StrawGarrison_7) ci_1 cn_1 (by decide +kernel), ox58_30⟩
def x58_26 : List sx_E := (.aload 0, 26, 27, [], .null) :: x58_27
theorem ox58_26 : sx_oks 58 x58_26 := ⟨Or.inr ⟨_, (sx_dd bb_58 dX7_init_26), rfl, rfl⟩, ox58_27⟩
def x58_23 : List sx_E := (.putfield 16, 23, 26, [6, 2, 1], .null) :: x58_26
theorem ox58_23 : sx_oks 58 x58_23 := ⟨sx_q_put (w := (RX7, TX7, 12)) (ty0 := tyX7) (sx_dd bb_58 dX7_init_23) rfl (Nat.le_of_ble_eq_true rfl) cu_6 (sx_ow3 oo_58 fl_StrawGarrison_16) (by decide +kernel) tyX7_ok nmX7 (Or.inr ⟨rfl, cc_58, sx_ow0 oo_58 rfl⟩) (fun h => absurd h (by decide)) (fun h => absurd h (by decide)) (fun _ => Or.inl ⟨_, rfl⟩), ox58_26⟩
def x58_20 : List sx_E := (.invokespecial 9, 20, 23, [5, 1, 10, 77], .null) :: x58_23
theorem ox58_20 : sx_oks 58 x58_20 := ⟨sx_q_I (sx_dd bb_58 dX7_init_20) oo_58 lk_StrawGarrison_9_I ft_5_h, ox58_23⟩
def x58_19 : List sx_E := (.dup, 19, 20, [], .null) :: x58_20
theorem ox58_19 : sx_oks 58 x58_19 := ⟨⟨(sx_dd bb_58 dX7_init_19), rfl⟩, ox58_20⟩
def x58_16 : List sx_E := (.new 7, 16, 19, [1, 11], .null) :: x58_19
theorem ox58_16 : sx_oks 58 x58_16 := ⟨sx_q_new (w := (RX1, TX1, 11)) (ty0 := tyX1) (sx_dd bb_58 dX7_init_16) rfl rfl cu_1 tyX1_ok (sx_ow4 oo_58 cl_StrawGarrison_7) ci_1 cn_1 (by decide +kernel), ox58_19⟩
def x58_15 : List sx_E := (.aload 0, 15, 16, [], .null) :: x58_16
theorem ox58_15 : sx_oks 58 x58_15 := ⟨Or.inr ⟨_, (sx_dd bb_58 dX7_init_15), rfl, rfl⟩, ox58_16⟩
def x58_12 : List sx_E := (.putfield 10, 12, 15, [6, 1, 1], .null) :: x58_15
theorem ox58_12 : sx_oks 58 x58_12 := ⟨sx_q_put (w := (RX7, TX7, 12)) (ty0 := tyX7) (sx_dd bb_58 dX7_init_12) rfl (Nat.le_of_ble_eq_true rfl) cu_6 (sx_ow3 oo_58 fl_StrawGarrison_10) (by decide +kernel) tyX7_ok nmX7 (Or.inr ⟨rfl, cc_58, sx_ow0 oo_58 rfl⟩) (fun h => absurd h (by decide)) (fun h => absurd h (by decide)) (fun _ => Or.inl ⟨_, rfl⟩), ox58_15⟩
def x58_9 : List sx_E := (.invokespecial 9, 9, 12, [5, 1, 10, 77], .null) :: x58_12
theorem ox58_9 : sx_oks 58 x58_9 := ⟨sx_q_I (sx_dd bb_58 dX7_init_9) oo_58 lk_StrawGarrison_9_I ft_5_h, ox58_12⟩
def x58_8 : List sx_E := (.dup, 8, 9, [], .null) :: x58_9
theorem ox58_8 : sx_oks 58 x58_8 := ⟨⟨(sx_dd bb_58 dX7_init_8), rfl⟩, ox58_9⟩
def x58_5 : List sx_E := (.new 7, 5, 8, [1, 11], .null) :: x58_8
theorem ox58_5 : sx_oks 58 x58_5 := ⟨sx_q_new (w := (RX1, TX1, 11)) (ty0 := tyX1) (sx_dd bb_58 dX7_init_5) rfl rfl cu_1 tyX1_ok (sx_ow4 oo_58 cl_StrawGarrison_7) ci_1 cn_1 (by decide +kernel), ox58_8⟩
def x58_4 : List sx_E := (.aload 0, 4, 5, [], .null) :: x58_5
theorem ox58_4 : sx_oks 58 x58_4 := ⟨Or.inr ⟨_, (sx_dd bb_58 dX7_init_4), rfl, rfl⟩, ox58_5⟩
def x58_1 : List sx_E := (.jsr 0, 1, 4, [], .null) :: x58_4
theorem ox58_1 : sx_oks 58 x58_1 := ⟨⟨1, (sx_dd bb_58 dX7_init_1), rfl, sx_ow5 oo_58 ob_StrawGarrison_1, ob_i, ob_c⟩, ox58_4⟩
def x58_0 : List sx_E := (.aload 0, 0, 1, [], .null) :: x58_1
theorem ox58_0 : sx_oks 58 x58_0 := ⟨Or.inr ⟨_, (sx_dd bb_58 dX7_init_0), rfl, rfl⟩, ox58_1⟩
theorem m58 : sx_mok 58 x58_0 := ⟨ox58_0, by decide +kernel⟩
theorem bb_59 : sx_by 59 = cX7_guard := rfl
theorem oo_59 : (sx_nm 59).cls = "StrawGarrison" := rfl
theorem mm_59 : sx_ml 59 = 4 := rfl
theorem rr_59 : sx_rt 59 = (some .int) := rfl
def x59_68 : List sx_E := (.ireturn, 68, 69, [0], .null) :: []
theorem ox59_68 : sx_oks 59 x59_68 := ⟨sx_q_iret0 (sx_dd bb_59 dX7_guard_68) rr_59, trivial⟩
def x59_65 : List sx_E := (.invokevirtual 87, 65, 68, [7, 4, 0, 0, 1], .null) :: x59_68
theorem ox59_65 : sx_oks 59 x59_65 := ⟨sx_q_V (w := (RX1, TX1, 11)) (sx_dd bb_59 dX7_guard_65) oo_59 lk_StrawGarrison_87_V ft_7_h (Nat.le_of_ble_eq_true rfl) rfl rfl, ox59_68⟩
def x59_64 : List sx_E := (.iload 3, 64, 65, [], .null) :: x59_65
theorem ox59_64 : sx_oks 59 x59_64 := ⟨Or.inr ⟨_, (sx_dd bb_59 dX7_guard_64), rfl, rfl⟩, ox59_65⟩
def x59_63 : List sx_E := (.iload 2, 63, 64, [], .null) :: x59_64
theorem ox59_63 : sx_oks 59 x59_63 := ⟨Or.inr ⟨_, (sx_dd bb_59 dX7_guard_63), rfl, rfl⟩, ox59_64⟩
def x59_62 : List sx_E := (.iload 1, 62, 63, [], .null) :: x59_63
theorem ox59_62 : sx_oks 59 x59_62 := ⟨Or.inr ⟨_, (sx_dd bb_59 dX7_guard_62), rfl, rfl⟩, ox59_63⟩
def x59_59 : List sx_E := (.getfield 10, 59, 62, [6, 1, 1], .null) :: x59_62
theorem ox59_59 : sx_oks 59 x59_59 := ⟨sx_q_get (w := (RX7, TX7, 12)) (sx_dd bb_59 dX7_guard_59) rfl rfl (Nat.le_of_ble_eq_true rfl) cu_6 (sx_ow3 oo_59 fl_StrawGarrison_10) (by decide +kernel), ox59_62⟩
def x59_58 : List sx_E := (.aload 0, 58, 59, [], .null) :: x59_59
theorem ox59_58 : sx_oks 59 x59_58 := ⟨Or.inr ⟨_, (sx_dd bb_59 dX7_guard_58), rfl, rfl⟩, ox59_59⟩
def x59_57 : List sx_E := (.ireturn, 57, 58, [0], .null) :: x59_58
theorem ox59_57 : sx_oks 59 x59_57 := ⟨sx_q_iret0 (sx_dd bb_59 dX7_guard_57) rr_59, ox59_58⟩
def x59_55 : List sx_E := (.nop, 55, 57, [], .int ((-1000000003))) :: x59_57
theorem ox59_55 : sx_oks 59 x59_55 := ⟨sx_k_ldc (sx_dd bb_59 dX7_guard_55) (sx_ow1 oo_59 kc_StrawGarrison_86), ox59_57⟩
def x59_52 : List sx_E := (.if_icmp .lt (6), 52, 55, [58], .null) :: x59_55
theorem ox59_52 : sx_oks 59 x59_52 := ⟨⟨(sx_dd bb_59 dX7_guard_52), rfl, sx_t1 (by decide +kernel)⟩, ox59_55⟩
def x59_50 : List sx_E := (.nop, 50, 52, [], .int (nI 10)) :: x59_52
theorem ox59_50 : sx_oks 59 x59_50 := ⟨sx_k_bipush (sx_dd bb_59 dX7_guard_50) (by decide +kernel), ox59_52⟩
def x59_47 : List sx_E := (.getfield 83, 47, 50, [1, 1, 0], .null) :: x59_50
theorem ox59_47 : sx_oks 59 x59_47 := ⟨sx_q_get (w := (RX1, TX1, 11)) (sx_dd bb_59 dX7_guard_47) rfl rfl (Nat.le_of_ble_eq_true rfl) cu_1 (sx_ow3 oo_59 fl_StrawGarrison_83) (by decide +kernel), ox59_50⟩
def x59_44 : List sx_E := (.getfield 10, 44, 47, [6, 1, 1], .null) :: x59_47
theorem ox59_44 : sx_oks 59 x59_44 := ⟨sx_q_get (w := (RX7, TX7, 12)) (sx_dd bb_59 dX7_guard_44) rfl rfl (Nat.le_of_ble_eq_true rfl) cu_6 (sx_ow3 oo_59 fl_StrawGarrison_10) (by decide +kernel), ox59_47⟩
def x59_43 : List sx_E := (.aload 0, 43, 44, [], .null) :: x59_44
theorem ox59_43 : sx_oks 59 x59_43 := ⟨Or.inr ⟨_, (sx_dd bb_59 dX7_guard_43), rfl, rfl⟩, ox59_44⟩
def x59_42 : List sx_E := (.ireturn, 42, 43, [0], .null) :: x59_43
theorem ox59_42 : sx_oks 59 x59_42 := ⟨sx_q_iret0 (sx_dd bb_59 dX7_guard_42) rr_59, ox59_43⟩
def x59_40 : List sx_E := (.nop, 40, 42, [], .int ((-1000000002))) :: x59_42
theorem ox59_40 : sx_oks 59 x59_40 := ⟨sx_k_ldc (sx_dd bb_59 dX7_guard_40) (sx_ow1 oo_59 kc_StrawGarrison_82), ox59_42⟩
def x59_37 : List sx_E := (.if_icmp .eq (6), 37, 40, [43], .null) :: x59_40
theorem ox59_37 : sx_oks 59 x59_37 := ⟨⟨(sx_dd bb_59 dX7_guard_37), rfl, sx_t1 (by decide +kernel)⟩, ox59_40⟩
def x59_35 : List sx_E := (.nop, 35, 37, [], .int ((-1000000005))) :: x59_37
theorem ox59_35 : sx_oks 59 x59_35 := ⟨sx_k_ldc (sx_dd bb_59 dX7_guard_35) (sx_ow1 oo_59 kc_StrawGarrison_81), ox59_37⟩
def x59_32 : List sx_E := (.invokevirtual 77, 32, 35, [10, 2, 0, 0, 1], .null) :: x59_35
theorem ox59_32 : sx_oks 59 x59_32 := ⟨sx_q_V (w := (RX1, TX1, 11)) (sx_dd bb_59 dX7_guard_32) oo_59 lk_StrawGarrison_77_V ft_10_h (Nat.le_of_ble_eq_true rfl) rfl rfl, ox59_35⟩
def x59_31 : List sx_E := (.iload 2, 31, 32, [], .null) :: x59_32
theorem ox59_31 : sx_oks 59 x59_31 := ⟨Or.inr ⟨_, (sx_dd bb_59 dX7_guard_31), rfl, rfl⟩, ox59_32⟩
def x59_28 : List sx_E := (.getfield 10, 28, 31, [6, 1, 1], .null) :: x59_31
theorem ox59_28 : sx_oks 59 x59_28 := ⟨sx_q_get (w := (RX7, TX7, 12)) (sx_dd bb_59 dX7_guard_28) rfl rfl (Nat.le_of_ble_eq_true rfl) cu_6 (sx_ow3 oo_59 fl_StrawGarrison_10) (by decide +kernel), ox59_31⟩
def x59_27 : List sx_E := (.aload 0, 27, 28, [], .null) :: x59_28
theorem ox59_27 : sx_oks 59 x59_27 := ⟨Or.inr ⟨_, (sx_dd bb_59 dX7_guard_27), rfl, rfl⟩, ox59_28⟩
def x59_26 : List sx_E := (.ireturn, 26, 27, [0], .null) :: x59_27
theorem ox59_26 : sx_oks 59 x59_26 := ⟨sx_q_iret0 (sx_dd bb_59 dX7_guard_26) rr_59, ox59_27⟩
def x59_24 : List sx_E := (.nop, 24, 26, [], .int ((-1000000001))) :: x59_26
theorem ox59_24 : sx_oks 59 x59_24 := ⟨sx_k_ldc (sx_dd bb_59 dX7_guard_24) (sx_ow1 oo_59 kc_StrawGarrison_76), ox59_26⟩
def x59_21 : List sx_E := (.ifCond .ne (6), 21, 24, [27], .null) :: x59_24
theorem ox59_21 : sx_oks 59 x59_21 := ⟨⟨(sx_dd bb_59 dX7_guard_21), rfl, sx_t1 (by decide +kernel)⟩, ox59_24⟩
def x59_18 : List sx_E := (.invokestatic 72, 18, 21, [106, 3, 0, 0], .null) :: x59_21
theorem ox59_18 : sx_oks 59 x59_18 := ⟨sx_q_S (sx_dd bb_59 dX7_guard_18) oo_59 lk_StrawGarrison_72_S ft_106_h, ox59_21⟩
def x59_16 : List sx_E := (.nop, 16, 18, [], .int (nI 99)) :: x59_18
theorem ox59_16 : sx_oks 59 x59_16 := ⟨sx_k_bipush (sx_dd bb_59 dX7_guard_16) (by decide +kernel), ox59_18⟩
def x59_15 : List sx_E := (.nop, 15, 16, [], .int (nI 0)) :: x59_16
theorem ox59_15 : sx_oks 59 x59_15 := ⟨sx_k_iconst (sx_dd bb_59 dX7_guard_15) (by decide +kernel), ox59_16⟩
def x59_14 : List sx_E := (.iload 3, 14, 15, [], .null) :: x59_15
theorem ox59_14 : sx_oks 59 x59_14 := ⟨Or.inr ⟨_, (sx_dd bb_59 dX7_guard_14), rfl, rfl⟩, ox59_15⟩
def x59_11 : List sx_E := (.ifCond .eq (13), 11, 14, [24], .null) :: x59_14
theorem ox59_11 : sx_oks 59 x59_11 := ⟨⟨(sx_dd bb_59 dX7_guard_11), rfl, sx_t1 (by decide +kernel)⟩, ox59_14⟩
def x59_8 : List sx_E := (.invokestatic 69, 8, 11, [103, 1, 0, 0], .null) :: x59_11
theorem ox59_8 : sx_oks 59 x59_8 := ⟨sx_q_S (sx_dd bb_59 dX7_guard_8) oo_59 lk_StrawGarrison_69_S ft_103_h, ox59_11⟩
def x59_7 : List sx_E := (.iload 2, 7, 8, [], .null) :: x59_8
theorem ox59_7 : sx_oks 59 x59_7 := ⟨Or.inr ⟨_, (sx_dd bb_59 dX7_guard_7), rfl, rfl⟩, ox59_8⟩
def x59_4 : List sx_E := (.ifCond .eq (20), 4, 7, [24], .null) :: x59_7
theorem ox59_4 : sx_oks 59 x59_4 := ⟨⟨(sx_dd bb_59 dX7_guard_4), rfl, sx_t1 (by decide +kernel)⟩, ox59_7⟩
def x59_1 : List sx_E := (.invokestatic 65, 1, 4, [102, 1, 0, 0], .null) :: x59_4
theorem ox59_1 : sx_oks 59 x59_1 := ⟨sx_q_S (sx_dd bb_59 dX7_guard_1) oo_59 lk_StrawGarrison_65_S ft_102_h, ox59_4⟩
def x59_0 : List sx_E := (.iload 1, 0, 1, [], .null) :: x59_1
theorem ox59_0 : sx_oks 59 x59_0 := ⟨Or.inr ⟨_, (sx_dd bb_59 dX7_guard_0), rfl, rfl⟩, ox59_1⟩
theorem m59 : sx_mok 59 x59_0 := ⟨ox59_0, by decide +kernel⟩
theorem bb_60 : sx_by 60 = cX7_told := rfl
theorem oo_60 : (sx_nm 60).cls = "StrawGarrison" := rfl
theorem mm_60 : sx_ml 60 = 5 := rfl
theorem rr_60 : sx_rt 60 = (some .int) := rfl
def x60_149 : List sx_E := (.ireturn, 149, 150, [0], .null) :: []
theorem ox60_149 : sx_oks 60 x60_149 := ⟨sx_q_iret0 (sx_dd bb_60 dX7_told_149) rr_60, trivial⟩
def x60_147 : List sx_E := (.nop, 147, 149, [], .int ((-1000000001))) :: x60_149
theorem ox60_147 : sx_oks 60 x60_147 := ⟨sx_k_ldc (sx_dd bb_60 dX7_told_147) (sx_ow1 oo_60 kc_StrawGarrison_76), ox60_149⟩
def x60_146 : List sx_E := (.ireturn, 146, 147, [0], .null) :: x60_147
theorem ox60_146 : sx_oks 60 x60_146 := ⟨sx_q_iret0 (sx_dd bb_60 dX7_told_146) rr_60, ox60_147⟩
def x60_143 : List sx_E := (.invokestatic 121, 143, 146, [30, 2, 0, 0], .null) :: x60_146
theorem ox60_143 : sx_oks 60 x60_143 := ⟨sx_q_S (sx_dd bb_60 dX7_told_143) oo_60 lk_StrawGarrison_121_S ft_30_h, ox60_146⟩
def x60_141 : List sx_E := (.iload 4, 141, 143, [], .null) :: x60_143
theorem ox60_141 : sx_oks 60 x60_141 := ⟨Or.inl ⟨(sx_dd bb_60 dX7_told_141), rfl⟩, ox60_143⟩
def x60_140 : List sx_E := (.iload 3, 140, 141, [], .null) :: x60_141
theorem ox60_140 : sx_oks 60 x60_140 := ⟨Or.inr ⟨_, (sx_dd bb_60 dX7_told_140), rfl, rfl⟩, ox60_141⟩
def x60_139 : List sx_E := (.ireturn, 139, 140, [0], .null) :: x60_140
theorem ox60_139 : sx_oks 60 x60_139 := ⟨sx_q_iret0 (sx_dd bb_60 dX7_told_139) rr_60, ox60_140⟩
def x60_136 : List sx_E := (.invokestatic 118, 136, 139, [29, 1, 0, 0], .null) :: x60_139
theorem ox60_136 : sx_oks 60 x60_136 := ⟨sx_q_S (sx_dd bb_60 dX7_told_136) oo_60 lk_StrawGarrison_118_S ft_29_h, ox60_139⟩
def x60_135 : List sx_E := (.iload 3, 135, 136, [], .null) :: x60_136
theorem ox60_135 : sx_oks 60 x60_135 := ⟨Or.inr ⟨_, (sx_dd bb_60 dX7_told_135), rfl, rfl⟩, ox60_136⟩
def x60_134 : List sx_E := (.ireturn, 134, 135, [0], .null) :: x60_135
theorem ox60_134 : sx_oks 60 x60_134 := ⟨sx_q_iret0 (sx_dd bb_60 dX7_told_134) rr_60, ox60_135⟩
def x60_131 : List sx_E := (.invokestatic 112, 131, 134, [28, 2, 0, 0], .null) :: x60_134
theorem ox60_131 : sx_oks 60 x60_131 := ⟨sx_q_S (sx_dd bb_60 dX7_told_131) oo_60 lk_StrawGarrison_112_S ft_28_h, ox60_134⟩
def x60_129 : List sx_E := (.iload 4, 129, 131, [], .null) :: x60_131
theorem ox60_129 : sx_oks 60 x60_129 := ⟨Or.inl ⟨(sx_dd bb_60 dX7_told_129), rfl⟩, ox60_131⟩
def x60_128 : List sx_E := (.iload 3, 128, 129, [], .null) :: x60_129
theorem ox60_128 : sx_oks 60 x60_128 := ⟨Or.inr ⟨_, (sx_dd bb_60 dX7_told_128), rfl, rfl⟩, ox60_129⟩
def x60_127 : List sx_E := (.ireturn, 127, 128, [0], .null) :: x60_128
theorem ox60_127 : sx_oks 60 x60_127 := ⟨sx_q_iret0 (sx_dd bb_60 dX7_told_127) rr_60, ox60_128⟩
def x60_124 : List sx_E := (.invokevirtual 109, 124, 127, [13, 2, 0, 0, 1], .null) :: x60_127
theorem ox60_124 : sx_oks 60 x60_124 := ⟨sx_q_V (w := (RX1, TX1, 11)) (sx_dd bb_60 dX7_told_124) oo_60 lk_StrawGarrison_109_V ft_13_h (Nat.le_of_ble_eq_true rfl) rfl rfl, ox60_127⟩
def x60_123 : List sx_E := (.iload 1, 123, 124, [], .null) :: x60_124
theorem ox60_123 : sx_oks 60 x60_123 := ⟨Or.inr ⟨_, (sx_dd bb_60 dX7_told_123), rfl, rfl⟩, ox60_124⟩
def x60_120 : List sx_E := (.getfield 10, 120, 123, [6, 1, 1], .null) :: x60_123
theorem ox60_120 : sx_oks 60 x60_120 := ⟨sx_q_get (w := (RX7, TX7, 12)) (sx_dd bb_60 dX7_told_120) rfl rfl (Nat.le_of_ble_eq_true rfl) cu_6 (sx_ow3 oo_60 fl_StrawGarrison_10) (by decide +kernel), ox60_123⟩
def x60_119 : List sx_E := (.aload 0, 119, 120, [], .null) :: x60_120
theorem ox60_119 : sx_oks 60 x60_119 := ⟨Or.inr ⟨_, (sx_dd bb_60 dX7_told_119), rfl, rfl⟩, ox60_120⟩
def x60_118 : List sx_E := (.ireturn, 118, 119, [0], .null) :: x60_119
theorem ox60_118 : sx_oks 60 x60_118 := ⟨sx_q_iret0 (sx_dd bb_60 dX7_told_118) rr_60, ox60_119⟩
def x60_117 : List sx_E := (.iaload, 117, 118, [], .null) :: x60_118
theorem ox60_117 : sx_oks 60 x60_117 := ⟨⟨(sx_dd bb_60 dX7_told_117), rfl⟩, ox60_118⟩
def x60_116 : List sx_E := (.iload 1, 116, 117, [], .null) :: x60_117
theorem ox60_116 : sx_oks 60 x60_116 := ⟨Or.inr ⟨_, (sx_dd bb_60 dX7_told_116), rfl, rfl⟩, ox60_117⟩
def x60_113 : List sx_E := (.getfield 106, 113, 116, [1, 6, 1], .null) :: x60_116
theorem ox60_113 : sx_oks 60 x60_113 := ⟨sx_q_get (w := (RX1, TX1, 11)) (sx_dd bb_60 dX7_told_113) rfl rfl (Nat.le_of_ble_eq_true rfl) cu_1 (sx_ow3 oo_60 fl_StrawGarrison_106) (by decide +kernel), ox60_116⟩
def x60_110 : List sx_E := (.getfield 10, 110, 113, [6, 1, 1], .null) :: x60_113
theorem ox60_110 : sx_oks 60 x60_110 := ⟨sx_q_get (w := (RX7, TX7, 12)) (sx_dd bb_60 dX7_told_110) rfl rfl (Nat.le_of_ble_eq_true rfl) cu_6 (sx_ow3 oo_60 fl_StrawGarrison_10) (by decide +kernel), ox60_113⟩
def x60_109 : List sx_E := (.aload 0, 109, 110, [], .null) :: x60_110
theorem ox60_109 : sx_oks 60 x60_109 := ⟨Or.inr ⟨_, (sx_dd bb_60 dX7_told_109), rfl, rfl⟩, ox60_110⟩
def x60_108 : List sx_E := (.ireturn, 108, 109, [0], .null) :: x60_109
theorem ox60_108 : sx_oks 60 x60_108 := ⟨sx_q_iret0 (sx_dd bb_60 dX7_told_108) rr_60, ox60_109⟩
def x60_107 : List sx_E := (.iaload, 107, 108, [], .null) :: x60_108
theorem ox60_107 : sx_oks 60 x60_107 := ⟨⟨(sx_dd bb_60 dX7_told_107), rfl⟩, ox60_108⟩
def x60_106 : List sx_E := (.iload 1, 106, 107, [], .null) :: x60_107
theorem ox60_106 : sx_oks 60 x60_106 := ⟨Or.inr ⟨_, (sx_dd bb_60 dX7_told_106), rfl, rfl⟩, ox60_107⟩
def x60_103 : List sx_E := (.getfield 103, 103, 106, [1, 5, 1], .null) :: x60_106
theorem ox60_103 : sx_oks 60 x60_103 := ⟨sx_q_get (w := (RX1, TX1, 11)) (sx_dd bb_60 dX7_told_103) rfl rfl (Nat.le_of_ble_eq_true rfl) cu_1 (sx_ow3 oo_60 fl_StrawGarrison_103) (by decide +kernel), ox60_106⟩
def x60_100 : List sx_E := (.getfield 10, 100, 103, [6, 1, 1], .null) :: x60_103
theorem ox60_100 : sx_oks 60 x60_100 := ⟨sx_q_get (w := (RX7, TX7, 12)) (sx_dd bb_60 dX7_told_100) rfl rfl (Nat.le_of_ble_eq_true rfl) cu_6 (sx_ow3 oo_60 fl_StrawGarrison_10) (by decide +kernel), ox60_103⟩
def x60_99 : List sx_E := (.aload 0, 99, 100, [], .null) :: x60_100
theorem ox60_99 : sx_oks 60 x60_99 := ⟨Or.inr ⟨_, (sx_dd bb_60 dX7_told_99), rfl, rfl⟩, ox60_100⟩
def x60_98 : List sx_E := (.ireturn, 98, 99, [0], .null) :: x60_99
theorem ox60_98 : sx_oks 60 x60_98 := ⟨sx_q_iret0 (sx_dd bb_60 dX7_told_98) rr_60, ox60_99⟩
def x60_96 : List sx_E := (.iload 4, 96, 98, [], .null) :: x60_98
theorem ox60_96 : sx_oks 60 x60_96 := ⟨Or.inl ⟨(sx_dd bb_60 dX7_told_96), rfl⟩, ox60_98⟩
def x60_95 : List sx_E := (.ireturn, 95, 96, [0], .null) :: x60_96
theorem ox60_95 : sx_oks 60 x60_95 := ⟨sx_q_iret0 (sx_dd bb_60 dX7_told_95) rr_60, ox60_96⟩
def x60_94 : List sx_E := (.iaload, 94, 95, [], .null) :: x60_95
theorem ox60_94 : sx_oks 60 x60_94 := ⟨⟨(sx_dd bb_60 dX7_told_94), rfl⟩, ox60_95⟩
def x60_93 : List sx_E := (.iload 1, 93, 94, [], .null) :: x60_94
theorem ox60_93 : sx_oks 60 x60_93 := ⟨Or.inr ⟨_, (sx_dd bb_60 dX7_told_93), rfl, rfl⟩, ox60_94⟩
def x60_90 : List sx_E := (.getfield 100, 90, 93, [1, 3, 1], .null) :: x60_93
theorem ox60_90 : sx_oks 60 x60_90 := ⟨sx_q_get (w := (RX1, TX1, 11)) (sx_dd bb_60 dX7_told_90) rfl rfl (Nat.le_of_ble_eq_true rfl) cu_1 (sx_ow3 oo_60 fl_StrawGarrison_100) (by decide +kernel), ox60_93⟩
def x60_87 : List sx_E := (.getfield 10, 87, 90, [6, 1, 1], .null) :: x60_90
theorem ox60_87 : sx_oks 60 x60_87 := ⟨sx_q_get (w := (RX7, TX7, 12)) (sx_dd bb_60 dX7_told_87) rfl rfl (Nat.le_of_ble_eq_true rfl) cu_6 (sx_ow3 oo_60 fl_StrawGarrison_10) (by decide +kernel), ox60_90⟩
def x60_86 : List sx_E := (.aload 0, 86, 87, [], .null) :: x60_87
theorem ox60_86 : sx_oks 60 x60_86 := ⟨Or.inr ⟨_, (sx_dd bb_60 dX7_told_86), rfl, rfl⟩, ox60_87⟩
def x60_85 : List sx_E := (.ireturn, 85, 86, [0], .null) :: x60_86
theorem ox60_85 : sx_oks 60 x60_85 := ⟨sx_q_iret0 (sx_dd bb_60 dX7_told_85) rr_60, ox60_86⟩
def x60_84 : List sx_E := (.iload 3, 84, 85, [], .null) :: x60_85
theorem ox60_84 : sx_oks 60 x60_84 := ⟨Or.inr ⟨_, (sx_dd bb_60 dX7_told_84), rfl, rfl⟩, ox60_85⟩
def x60_33 : List sx_E := (.tableswitch 114 0 8 #[51, 53, 63, 66, 76, 86, 95, 102, 107], 33, 84, [0, 147, 84, 86, 96, 99, 109, 119, 128, 135, 140], .null) :: x60_84
theorem ox60_33 : sx_oks 60 x60_33 := ⟨⟨⟨_, (sx_dd bb_60 dX7_told_33)⟩, sx_t2 (by decide +kernel) (by decide +kernel) (Nat.le_of_ble_eq_true rfl) (by decide +kernel) (by decide +kernel)⟩, ox60_84⟩
def x60_32 : List sx_E := (.iload 2, 32, 33, [], .null) :: x60_33
theorem ox60_32 : sx_oks 60 x60_32 := ⟨Or.inr ⟨_, (sx_dd bb_60 dX7_told_32), rfl, rfl⟩, ox60_33⟩
def x60_30 : List sx_E := (.istore 4, 30, 32, [], .null) :: x60_32
theorem ox60_30 : sx_oks 60 x60_30 := ⟨⟨sx_lt mm_60 (Nat.le_of_ble_eq_true rfl), Or.inl ⟨(sx_dd bb_60 dX7_told_30), rfl⟩⟩, ox60_32⟩
def x60_29 : List sx_E := (.iaload, 29, 30, [], .null) :: x60_30
theorem ox60_29 : sx_oks 60 x60_29 := ⟨⟨(sx_dd bb_60 dX7_told_29), rfl⟩, ox60_30⟩
def x60_28 : List sx_E := (.iload 1, 28, 29, [], .null) :: x60_29
theorem ox60_28 : sx_oks 60 x60_28 := ⟨Or.inr ⟨_, (sx_dd bb_60 dX7_told_28), rfl, rfl⟩, ox60_29⟩
def x60_25 : List sx_E := (.getfield 97, 25, 28, [1, 4, 1], .null) :: x60_28
theorem ox60_25 : sx_oks 60 x60_25 := ⟨sx_q_get (w := (RX1, TX1, 11)) (sx_dd bb_60 dX7_told_25) rfl rfl (Nat.le_of_ble_eq_true rfl) cu_1 (sx_ow3 oo_60 fl_StrawGarrison_97) (by decide +kernel), ox60_28⟩
def x60_22 : List sx_E := (.getfield 10, 22, 25, [6, 1, 1], .null) :: x60_25
theorem ox60_22 : sx_oks 60 x60_22 := ⟨sx_q_get (w := (RX7, TX7, 12)) (sx_dd bb_60 dX7_told_22) rfl rfl (Nat.le_of_ble_eq_true rfl) cu_6 (sx_ow3 oo_60 fl_StrawGarrison_10) (by decide +kernel), ox60_25⟩
def x60_21 : List sx_E := (.aload 0, 21, 22, [], .null) :: x60_22
theorem ox60_21 : sx_oks 60 x60_21 := ⟨Or.inr ⟨_, (sx_dd bb_60 dX7_told_21), rfl, rfl⟩, ox60_22⟩
def x60_20 : List sx_E := (.istore 3, 20, 21, [], .null) :: x60_21
theorem ox60_20 : sx_oks 60 x60_20 := ⟨⟨sx_lt mm_60 (Nat.le_of_ble_eq_true rfl), Or.inr ⟨_, (sx_dd bb_60 dX7_told_20), rfl, rfl⟩⟩, ox60_21⟩
def x60_19 : List sx_E := (.iaload, 19, 20, [], .null) :: x60_20
theorem ox60_19 : sx_oks 60 x60_19 := ⟨⟨(sx_dd bb_60 dX7_told_19), rfl⟩, ox60_20⟩
def x60_18 : List sx_E := (.iload 1, 18, 19, [], .null) :: x60_19
theorem ox60_18 : sx_oks 60 x60_18 := ⟨Or.inr ⟨_, (sx_dd bb_60 dX7_told_18), rfl, rfl⟩, ox60_19⟩
def x60_15 : List sx_E := (.getfield 94, 15, 18, [1, 2, 1], .null) :: x60_18
theorem ox60_15 : sx_oks 60 x60_15 := ⟨sx_q_get (w := (RX1, TX1, 11)) (sx_dd bb_60 dX7_told_15) rfl rfl (Nat.le_of_ble_eq_true rfl) cu_1 (sx_ow3 oo_60 fl_StrawGarrison_94) (by decide +kernel), ox60_18⟩
def x60_12 : List sx_E := (.getfield 10, 12, 15, [6, 1, 1], .null) :: x60_15
theorem ox60_12 : sx_oks 60 x60_12 := ⟨sx_q_get (w := (RX7, TX7, 12)) (sx_dd bb_60 dX7_told_12) rfl rfl (Nat.le_of_ble_eq_true rfl) cu_6 (sx_ow3 oo_60 fl_StrawGarrison_10) (by decide +kernel), ox60_15⟩
def x60_11 : List sx_E := (.aload 0, 11, 12, [], .null) :: x60_12
theorem ox60_11 : sx_oks 60 x60_11 := ⟨Or.inr ⟨_, (sx_dd bb_60 dX7_told_11), rfl, rfl⟩, ox60_12⟩
def x60_10 : List sx_E := (.ireturn, 10, 11, [0], .null) :: x60_11
theorem ox60_10 : sx_oks 60 x60_10 := ⟨sx_q_iret0 (sx_dd bb_60 dX7_told_10) rr_60, ox60_11⟩
def x60_8 : List sx_E := (.nop, 8, 10, [], .int ((-1000000001))) :: x60_10
theorem ox60_8 : sx_oks 60 x60_8 := ⟨sx_k_ldc (sx_dd bb_60 dX7_told_8) (sx_ow1 oo_60 kc_StrawGarrison_76), ox60_10⟩
def x60_5 : List sx_E := (.ifCond .ne (6), 5, 8, [11], .null) :: x60_8
theorem ox60_5 : sx_oks 60 x60_5 := ⟨⟨(sx_dd bb_60 dX7_told_5), rfl, sx_t1 (by decide +kernel)⟩, ox60_8⟩
def x60_2 : List sx_E := (.invokevirtual 91, 2, 5, [101, 2, 0, 0, 6], .null) :: x60_5
theorem ox60_2 : sx_oks 60 x60_2 := ⟨sx_q_V (w := (RX7, TX7, 12)) (sx_dd bb_60 dX7_told_2) oo_60 lk_StrawGarrison_91_V ft_101_h (Nat.le_of_ble_eq_true rfl) rfl rfl, ox60_5⟩
def x60_1 : List sx_E := (.iload 1, 1, 2, [], .null) :: x60_2
theorem ox60_1 : sx_oks 60 x60_1 := ⟨Or.inr ⟨_, (sx_dd bb_60 dX7_told_1), rfl, rfl⟩, ox60_2⟩
def x60_0 : List sx_E := (.aload 0, 0, 1, [], .null) :: x60_1
theorem ox60_0 : sx_oks 60 x60_0 := ⟨Or.inr ⟨_, (sx_dd bb_60 dX7_told_0), rfl, rfl⟩, ox60_1⟩
theorem m60 : sx_mok 60 x60_0 := ⟨ox60_0, by decide +kernel⟩
theorem bb_61 : sx_by 61 = cX7_as := rfl
theorem oo_61 : (sx_nm 61).cls = "StrawGarrison" := rfl
theorem mm_61 : sx_ml 61 = 3 := rfl
theorem rr_61 : sx_rt 61 = (some .int) := rfl
def x61_48 : List sx_E := (.ireturn, 48, 49, [0], .null) :: []
theorem ox61_48 : sx_oks 61 x61_48 := ⟨sx_q_iret0 (sx_dd bb_61 dX7_as_48) rr_61, trivial⟩
def x61_46 : List sx_E := (.nop, 46, 48, [], .int ((-1000000012))) :: x61_48
theorem ox61_46 : sx_oks 61 x61_46 := ⟨sx_k_ldc (sx_dd bb_61 dX7_as_46) (sx_ow1 oo_61 kc_StrawGarrison_128), ox61_48⟩
def x61_43 : List sx_E := (.goto (5), 43, 46, [48], .null) :: x61_46
theorem ox61_43 : sx_oks 61 x61_43 := ⟨⟨(sx_dd bb_61 dX7_as_43), sx_t1 (by decide +kernel)⟩, ox61_46⟩
def x61_42 : List sx_E := (.iaload, 42, 43, [], .null) :: x61_43
theorem ox61_42 : sx_oks 61 x61_42 := ⟨⟨(sx_dd bb_61 dX7_as_42), rfl⟩, ox61_43⟩
def x61_41 : List sx_E := (.iload 1, 41, 42, [], .null) :: x61_42
theorem ox61_41 : sx_oks 61 x61_41 := ⟨Or.inr ⟨_, (sx_dd bb_61 dX7_as_41), rfl, rfl⟩, ox61_42⟩
def x61_38 : List sx_E := (.getfield 97, 38, 41, [1, 4, 1], .null) :: x61_41
theorem ox61_38 : sx_oks 61 x61_38 := ⟨sx_q_get (w := (RX1, TX1, 11)) (sx_dd bb_61 dX7_as_38) rfl rfl (Nat.le_of_ble_eq_true rfl) cu_1 (sx_ow3 oo_61 fl_StrawGarrison_97) (by decide +kernel), ox61_41⟩
def x61_35 : List sx_E := (.getfield 10, 35, 38, [6, 1, 1], .null) :: x61_38
theorem ox61_35 : sx_oks 61 x61_35 := ⟨sx_q_get (w := (RX7, TX7, 12)) (sx_dd bb_61 dX7_as_35) rfl rfl (Nat.le_of_ble_eq_true rfl) cu_6 (sx_ow3 oo_61 fl_StrawGarrison_10) (by decide +kernel), ox61_38⟩
def x61_34 : List sx_E := (.aload 0, 34, 35, [], .null) :: x61_35
theorem ox61_34 : sx_oks 61 x61_34 := ⟨Or.inr ⟨_, (sx_dd bb_61 dX7_as_34), rfl, rfl⟩, ox61_35⟩
def x61_31 : List sx_E := (.ifCond .eq (15), 31, 34, [46], .null) :: x61_34
theorem ox61_31 : sx_oks 61 x61_31 := ⟨⟨(sx_dd bb_61 dX7_as_31), rfl, sx_t1 (by decide +kernel)⟩, ox61_34⟩
def x61_28 : List sx_E := (.invokestatic 124, 28, 31, [25, 2, 0, 0], .null) :: x61_31
theorem ox61_28 : sx_oks 61 x61_28 := ⟨sx_q_S (sx_dd bb_61 dX7_as_28) oo_61 lk_StrawGarrison_124_S ft_25_h, ox61_31⟩
def x61_27 : List sx_E := (.iload 2, 27, 28, [], .null) :: x61_28
theorem ox61_27 : sx_oks 61 x61_27 := ⟨Or.inr ⟨_, (sx_dd bb_61 dX7_as_27), rfl, rfl⟩, ox61_28⟩
def x61_26 : List sx_E := (.iaload, 26, 27, [], .null) :: x61_27
theorem ox61_26 : sx_oks 61 x61_26 := ⟨⟨(sx_dd bb_61 dX7_as_26), rfl⟩, ox61_27⟩
def x61_25 : List sx_E := (.iload 1, 25, 26, [], .null) :: x61_26
theorem ox61_25 : sx_oks 61 x61_25 := ⟨Or.inr ⟨_, (sx_dd bb_61 dX7_as_25), rfl, rfl⟩, ox61_26⟩
def x61_22 : List sx_E := (.getfield 94, 22, 25, [1, 2, 1], .null) :: x61_25
theorem ox61_22 : sx_oks 61 x61_22 := ⟨sx_q_get (w := (RX1, TX1, 11)) (sx_dd bb_61 dX7_as_22) rfl rfl (Nat.le_of_ble_eq_true rfl) cu_1 (sx_ow3 oo_61 fl_StrawGarrison_94) (by decide +kernel), ox61_25⟩
def x61_19 : List sx_E := (.getfield 10, 19, 22, [6, 1, 1], .null) :: x61_22
theorem ox61_19 : sx_oks 61 x61_19 := ⟨sx_q_get (w := (RX7, TX7, 12)) (sx_dd bb_61 dX7_as_19) rfl rfl (Nat.le_of_ble_eq_true rfl) cu_6 (sx_ow3 oo_61 fl_StrawGarrison_10) (by decide +kernel), ox61_22⟩
def x61_18 : List sx_E := (.aload 0, 18, 19, [], .null) :: x61_19
theorem ox61_18 : sx_oks 61 x61_18 := ⟨Or.inr ⟨_, (sx_dd bb_61 dX7_as_18), rfl, rfl⟩, ox61_19⟩
def x61_17 : List sx_E := (.ireturn, 17, 18, [0], .null) :: x61_18
theorem ox61_17 : sx_oks 61 x61_17 := ⟨sx_q_iret0 (sx_dd bb_61 dX7_as_17) rr_61, ox61_18⟩
def x61_15 : List sx_E := (.nop, 15, 17, [], .int ((-1000000001))) :: x61_17
theorem ox61_15 : sx_oks 61 x61_15 := ⟨sx_k_ldc (sx_dd bb_61 dX7_as_15) (sx_ow1 oo_61 kc_StrawGarrison_76), ox61_17⟩
def x61_12 : List sx_E := (.ifCond .ne (6), 12, 15, [18], .null) :: x61_15
theorem ox61_12 : sx_oks 61 x61_12 := ⟨⟨(sx_dd bb_61 dX7_as_12), rfl, sx_t1 (by decide +kernel)⟩, ox61_15⟩
def x61_9 : List sx_E := (.invokestatic 65, 9, 12, [102, 1, 0, 0], .null) :: x61_12
theorem ox61_9 : sx_oks 61 x61_9 := ⟨sx_q_S (sx_dd bb_61 dX7_as_9) oo_61 lk_StrawGarrison_65_S ft_102_h, ox61_12⟩
def x61_8 : List sx_E := (.iload 2, 8, 9, [], .null) :: x61_9
theorem ox61_8 : sx_oks 61 x61_8 := ⟨Or.inr ⟨_, (sx_dd bb_61 dX7_as_8), rfl, rfl⟩, ox61_9⟩
def x61_5 : List sx_E := (.ifCond .eq (10), 5, 8, [15], .null) :: x61_8
theorem ox61_5 : sx_oks 61 x61_5 := ⟨⟨(sx_dd bb_61 dX7_as_5), rfl, sx_t1 (by decide +kernel)⟩, ox61_8⟩
def x61_2 : List sx_E := (.invokevirtual 91, 2, 5, [101, 2, 0, 0, 6], .null) :: x61_5
theorem ox61_2 : sx_oks 61 x61_2 := ⟨sx_q_V (w := (RX7, TX7, 12)) (sx_dd bb_61 dX7_as_2) oo_61 lk_StrawGarrison_91_V ft_101_h (Nat.le_of_ble_eq_true rfl) rfl rfl, ox61_5⟩
def x61_1 : List sx_E := (.iload 1, 1, 2, [], .null) :: x61_2
theorem ox61_1 : sx_oks 61 x61_1 := ⟨Or.inr ⟨_, (sx_dd bb_61 dX7_as_1), rfl, rfl⟩, ox61_2⟩
def x61_0 : List sx_E := (.aload 0, 0, 1, [], .null) :: x61_1
theorem ox61_0 : sx_oks 61 x61_0 := ⟨Or.inr ⟨_, (sx_dd bb_61 dX7_as_0), rfl, rfl⟩, ox61_1⟩
theorem m61 : sx_mok 61 x61_0 := ⟨ox61_0, by decide +kernel⟩
theorem bb_62 : sx_by 62 = cX7_turns := rfl
theorem oo_62 : (sx_nm 62).cls = "StrawGarrison" := rfl
theorem mm_62 : sx_ml 62 = 4 := rfl
theorem rr_62 : sx_rt 62 = (some .int) := rfl
def x62_39 : List sx_E := (.ireturn, 39, 40, [0], .null) :: []
theorem ox62_39 : sx_oks 62 x62_39 := ⟨sx_q_iret0 (sx_dd bb_62 dX7_turns_39) rr_62, trivial⟩
def x62_38 : List sx_E := (.iload 3, 38, 39, [], .null) :: x62_39
theorem ox62_38 : sx_oks 62 x62_38 := ⟨Or.inr ⟨_, (sx_dd bb_62 dX7_turns_38), rfl, rfl⟩, ox62_39⟩
def x62_37 : List sx_E := (.iastore, 37, 38, [], .null) :: x62_38
theorem ox62_37 : sx_oks 62 x62_37 := ⟨⟨(sx_dd bb_62 dX7_turns_37), rfl⟩, ox62_38⟩
def x62_36 : List sx_E := (.iload 2, 36, 37, [], .null) :: x62_37
theorem ox62_36 : sx_oks 62 x62_36 := ⟨Or.inr ⟨_, (sx_dd bb_62 dX7_turns_36), rfl, rfl⟩, ox62_37⟩
def x62_35 : List sx_E := (.iload 1, 35, 36, [], .null) :: x62_36
theorem ox62_35 : sx_oks 62 x62_35 := ⟨Or.inr ⟨_, (sx_dd bb_62 dX7_turns_35), rfl, rfl⟩, ox62_36⟩
def x62_32 : List sx_E := (.getfield 94, 32, 35, [1, 2, 1], .null) :: x62_35
theorem ox62_32 : sx_oks 62 x62_32 := ⟨sx_q_get (w := (RX1, TX1, 11)) (sx_dd bb_62 dX7_turns_32) rfl rfl (Nat.le_of_ble_eq_true rfl) cu_1 (sx_ow3 oo_62 fl_StrawGarrison_94) (by decide +kernel), ox62_35⟩
def x62_29 : List sx_E := (.getfield 10, 29, 32, [6, 1, 1], .null) :: x62_32
theorem ox62_29 : sx_oks 62 x62_29 := ⟨sx_q_get (w := (RX7, TX7, 12)) (sx_dd bb_62 dX7_turns_29) rfl rfl (Nat.le_of_ble_eq_true rfl) cu_6 (sx_ow3 oo_62 fl_StrawGarrison_10) (by decide +kernel), ox62_32⟩
def x62_28 : List sx_E := (.aload 0, 28, 29, [], .null) :: x62_29
theorem ox62_28 : sx_oks 62 x62_28 := ⟨Or.inr ⟨_, (sx_dd bb_62 dX7_turns_28), rfl, rfl⟩, ox62_29⟩
def x62_27 : List sx_E := (.istore 3, 27, 28, [], .null) :: x62_28
theorem ox62_27 : sx_oks 62 x62_27 := ⟨⟨sx_lt mm_62 (Nat.le_of_ble_eq_true rfl), Or.inr ⟨_, (sx_dd bb_62 dX7_turns_27), rfl, rfl⟩⟩, ox62_28⟩
def x62_26 : List sx_E := (.iaload, 26, 27, [], .null) :: x62_27
theorem ox62_26 : sx_oks 62 x62_26 := ⟨⟨(sx_dd bb_62 dX7_turns_26), rfl⟩, ox62_27⟩
def x62_25 : List sx_E := (.iload 1, 25, 26, [], .null) :: x62_26
theorem ox62_25 : sx_oks 62 x62_25 := ⟨Or.inr ⟨_, (sx_dd bb_62 dX7_turns_25), rfl, rfl⟩, ox62_26⟩
def x62_22 : List sx_E := (.getfield 94, 22, 25, [1, 2, 1], .null) :: x62_25
theorem ox62_22 : sx_oks 62 x62_22 := ⟨sx_q_get (w := (RX1, TX1, 11)) (sx_dd bb_62 dX7_turns_22) rfl rfl (Nat.le_of_ble_eq_true rfl) cu_1 (sx_ow3 oo_62 fl_StrawGarrison_94) (by decide +kernel), ox62_25⟩
def x62_19 : List sx_E := (.getfield 10, 19, 22, [6, 1, 1], .null) :: x62_22
theorem ox62_19 : sx_oks 62 x62_19 := ⟨sx_q_get (w := (RX7, TX7, 12)) (sx_dd bb_62 dX7_turns_19) rfl rfl (Nat.le_of_ble_eq_true rfl) cu_6 (sx_ow3 oo_62 fl_StrawGarrison_10) (by decide +kernel), ox62_22⟩
def x62_18 : List sx_E := (.aload 0, 18, 19, [], .null) :: x62_19
theorem ox62_18 : sx_oks 62 x62_18 := ⟨Or.inr ⟨_, (sx_dd bb_62 dX7_turns_18), rfl, rfl⟩, ox62_19⟩
def x62_17 : List sx_E := (.ireturn, 17, 18, [0], .null) :: x62_18
theorem ox62_17 : sx_oks 62 x62_17 := ⟨sx_q_iret0 (sx_dd bb_62 dX7_turns_17) rr_62, ox62_18⟩
def x62_15 : List sx_E := (.nop, 15, 17, [], .int ((-1000000001))) :: x62_17
theorem ox62_15 : sx_oks 62 x62_15 := ⟨sx_k_ldc (sx_dd bb_62 dX7_turns_15) (sx_ow1 oo_62 kc_StrawGarrison_76), ox62_17⟩
def x62_12 : List sx_E := (.ifCond .ne (6), 12, 15, [18], .null) :: x62_15
theorem ox62_12 : sx_oks 62 x62_12 := ⟨⟨(sx_dd bb_62 dX7_turns_12), rfl, sx_t1 (by decide +kernel)⟩, ox62_15⟩
def x62_9 : List sx_E := (.invokestatic 65, 9, 12, [102, 1, 0, 0], .null) :: x62_12
theorem ox62_9 : sx_oks 62 x62_9 := ⟨sx_q_S (sx_dd bb_62 dX7_turns_9) oo_62 lk_StrawGarrison_65_S ft_102_h, ox62_12⟩
def x62_8 : List sx_E := (.iload 2, 8, 9, [], .null) :: x62_9
theorem ox62_8 : sx_oks 62 x62_8 := ⟨Or.inr ⟨_, (sx_dd bb_62 dX7_turns_8), rfl, rfl⟩, ox62_9⟩
def x62_5 : List sx_E := (.ifCond .eq (10), 5, 8, [15], .null) :: x62_8
theorem ox62_5 : sx_oks 62 x62_5 := ⟨⟨(sx_dd bb_62 dX7_turns_5), rfl, sx_t1 (by decide +kernel)⟩, ox62_8⟩
def x62_2 : List sx_E := (.invokevirtual 91, 2, 5, [101, 2, 0, 0, 6], .null) :: x62_5
theorem ox62_2 : sx_oks 62 x62_2 := ⟨sx_q_V (w := (RX7, TX7, 12)) (sx_dd bb_62 dX7_turns_2) oo_62 lk_StrawGarrison_91_V ft_101_h (Nat.le_of_ble_eq_true rfl) rfl rfl, ox62_5⟩
def x62_1 : List sx_E := (.iload 1, 1, 2, [], .null) :: x62_2
theorem ox62_1 : sx_oks 62 x62_1 := ⟨Or.inr ⟨_, (sx_dd bb_62 dX7_turns_1), rfl, rfl⟩, ox62_2⟩
def x62_0 : List sx_E := (.aload 0, 0, 1, [], .null) :: x62_1
theorem ox62_0 : sx_oks 62 x62_0 := ⟨Or.inr ⟨_, (sx_dd bb_62 dX7_turns_0), rfl, rfl⟩, ox62_1⟩
theorem m62 : sx_mok 62 x62_0 := ⟨ox62_0, by decide +kernel⟩
theorem bb_63 : sx_by 63 = cX7_set := rfl
theorem oo_63 : (sx_nm 63).cls = "StrawGarrison" := rfl
theorem mm_63 : sx_ml 63 = 6 := rfl
theorem rr_63 : sx_rt 63 = (some .int) := rfl
def x63_91 : List sx_E := (.ireturn, 91, 92, [0], .null) :: []
theorem ox63_91 : sx_oks 63 x63_91 := ⟨sx_q_iret0 (sx_dd bb_63 dX7_set_91) rr_63, trivial⟩
def x63_89 : List sx_E := (.iload 5, 89, 91, [], .null) :: x63_91
theorem ox63_89 : sx_oks 63 x63_89 := ⟨Or.inl ⟨(sx_dd bb_63 dX7_set_89), rfl⟩, ox63_91⟩
def x63_88 : List sx_E := (.iastore, 88, 89, [], .null) :: x63_89
theorem ox63_88 : sx_oks 63 x63_88 := ⟨⟨(sx_dd bb_63 dX7_set_88), rfl⟩, ox63_89⟩
def x63_87 : List sx_E := (.iload 3, 87, 88, [], .null) :: x63_88
theorem ox63_87 : sx_oks 63 x63_87 := ⟨Or.inr ⟨_, (sx_dd bb_63 dX7_set_87), rfl, rfl⟩, ox63_88⟩
def x63_86 : List sx_E := (.iload 1, 86, 87, [], .null) :: x63_87
theorem ox63_86 : sx_oks 63 x63_86 := ⟨Or.inr ⟨_, (sx_dd bb_63 dX7_set_86), rfl, rfl⟩, ox63_87⟩
def x63_84 : List sx_E := (.aload 4, 84, 86, [], .null) :: x63_86
theorem ox63_84 : sx_oks 63 x63_84 := ⟨Or.inl ⟨(sx_dd bb_63 dX7_set_84), rfl⟩, ox63_86⟩
def x63_82 : List sx_E := (.istore 5, 82, 84, [], .null) :: x63_84
theorem ox63_82 : sx_oks 63 x63_82 := ⟨⟨sx_lt mm_63 (Nat.le_of_ble_eq_true rfl), Or.inl ⟨(sx_dd bb_63 dX7_set_82), rfl⟩⟩, ox63_84⟩
def x63_81 : List sx_E := (.iaload, 81, 82, [], .null) :: x63_82
theorem ox63_81 : sx_oks 63 x63_81 := ⟨⟨(sx_dd bb_63 dX7_set_81), rfl⟩, ox63_82⟩
def x63_80 : List sx_E := (.iload 1, 80, 81, [], .null) :: x63_81
theorem ox63_80 : sx_oks 63 x63_80 := ⟨Or.inr ⟨_, (sx_dd bb_63 dX7_set_80), rfl, rfl⟩, ox63_81⟩
def x63_78 : List sx_E := (.aload 4, 78, 80, [], .null) :: x63_80
theorem ox63_78 : sx_oks 63 x63_78 := ⟨Or.inl ⟨(sx_dd bb_63 dX7_set_78), rfl⟩, ox63_80⟩
def x63_76 : List sx_E := (.astore 4, 76, 78, [], .null) :: x63_78
theorem ox63_76 : sx_oks 63 x63_76 := ⟨⟨sx_lt mm_63 (Nat.le_of_ble_eq_true rfl), Or.inl ⟨(sx_dd bb_63 dX7_set_76), rfl⟩⟩, ox63_78⟩
def x63_73 : List sx_E := (.getfield 106, 73, 76, [1, 6, 1], .null) :: x63_76
theorem ox63_73 : sx_oks 63 x63_73 := ⟨sx_q_get (w := (RX1, TX1, 11)) (sx_dd bb_63 dX7_set_73) rfl rfl (Nat.le_of_ble_eq_true rfl) cu_1 (sx_ow3 oo_63 fl_StrawGarrison_106) (by decide +kernel), ox63_76⟩
def x63_70 : List sx_E := (.getfield 10, 70, 73, [6, 1, 1], .null) :: x63_73
theorem ox63_70 : sx_oks 63 x63_70 := ⟨sx_q_get (w := (RX7, TX7, 12)) (sx_dd bb_63 dX7_set_70) rfl rfl (Nat.le_of_ble_eq_true rfl) cu_6 (sx_ow3 oo_63 fl_StrawGarrison_10) (by decide +kernel), ox63_73⟩
def x63_69 : List sx_E := (.aload 0, 69, 70, [], .null) :: x63_70
theorem ox63_69 : sx_oks 63 x63_69 := ⟨Or.inr ⟨_, (sx_dd bb_63 dX7_set_69), rfl, rfl⟩, ox63_70⟩
def x63_66 : List sx_E := (.goto (10), 66, 69, [76], .null) :: x63_69
theorem ox63_66 : sx_oks 63 x63_66 := ⟨⟨(sx_dd bb_63 dX7_set_66), sx_t1 (by decide +kernel)⟩, ox63_69⟩
def x63_63 : List sx_E := (.getfield 103, 63, 66, [1, 5, 1], .null) :: x63_66
theorem ox63_63 : sx_oks 63 x63_63 := ⟨sx_q_get (w := (RX1, TX1, 11)) (sx_dd bb_63 dX7_set_63) rfl rfl (Nat.le_of_ble_eq_true rfl) cu_1 (sx_ow3 oo_63 fl_StrawGarrison_103) (by decide +kernel), ox63_66⟩
def x63_60 : List sx_E := (.getfield 10, 60, 63, [6, 1, 1], .null) :: x63_63
theorem ox63_60 : sx_oks 63 x63_60 := ⟨sx_q_get (w := (RX7, TX7, 12)) (sx_dd bb_63 dX7_set_60) rfl rfl (Nat.le_of_ble_eq_true rfl) cu_6 (sx_ow3 oo_63 fl_StrawGarrison_10) (by decide +kernel), ox63_63⟩
def x63_59 : List sx_E := (.aload 0, 59, 60, [], .null) :: x63_60
theorem ox63_59 : sx_oks 63 x63_59 := ⟨Or.inr ⟨_, (sx_dd bb_63 dX7_set_59), rfl, rfl⟩, ox63_60⟩
def x63_56 : List sx_E := (.if_icmp .ne (13), 56, 59, [69], .null) :: x63_59
theorem ox63_56 : sx_oks 63 x63_56 := ⟨⟨(sx_dd bb_63 dX7_set_56), rfl, sx_t1 (by decide +kernel)⟩, ox63_59⟩
def x63_55 : List sx_E := (.nop, 55, 56, [], .int (nI 3)) :: x63_56
theorem ox63_55 : sx_oks 63 x63_55 := ⟨sx_k_iconst (sx_dd bb_63 dX7_set_55) (by decide +kernel), ox63_56⟩
def x63_54 : List sx_E := (.iload 2, 54, 55, [], .null) :: x63_55
theorem ox63_54 : sx_oks 63 x63_54 := ⟨Or.inr ⟨_, (sx_dd bb_63 dX7_set_54), rfl, rfl⟩, ox63_55⟩
def x63_51 : List sx_E := (.goto (25), 51, 54, [76], .null) :: x63_54
theorem ox63_51 : sx_oks 63 x63_51 := ⟨⟨(sx_dd bb_63 dX7_set_51), sx_t1 (by decide +kernel)⟩, ox63_54⟩
def x63_48 : List sx_E := (.getfield 97, 48, 51, [1, 4, 1], .null) :: x63_51
theorem ox63_48 : sx_oks 63 x63_48 := ⟨sx_q_get (w := (RX1, TX1, 11)) (sx_dd bb_63 dX7_set_48) rfl rfl (Nat.le_of_ble_eq_true rfl) cu_1 (sx_ow3 oo_63 fl_StrawGarrison_97) (by decide +kernel), ox63_51⟩
def x63_45 : List sx_E := (.getfield 10, 45, 48, [6, 1, 1], .null) :: x63_48
theorem ox63_45 : sx_oks 63 x63_45 := ⟨sx_q_get (w := (RX7, TX7, 12)) (sx_dd bb_63 dX7_set_45) rfl rfl (Nat.le_of_ble_eq_true rfl) cu_6 (sx_ow3 oo_63 fl_StrawGarrison_10) (by decide +kernel), ox63_48⟩
def x63_44 : List sx_E := (.aload 0, 44, 45, [], .null) :: x63_45
theorem ox63_44 : sx_oks 63 x63_44 := ⟨Or.inr ⟨_, (sx_dd bb_63 dX7_set_44), rfl, rfl⟩, ox63_45⟩
def x63_41 : List sx_E := (.if_icmp .ne (13), 41, 44, [54], .null) :: x63_44
theorem ox63_41 : sx_oks 63 x63_41 := ⟨⟨(sx_dd bb_63 dX7_set_41), rfl, sx_t1 (by decide +kernel)⟩, ox63_44⟩
def x63_40 : List sx_E := (.nop, 40, 41, [], .int (nI 2)) :: x63_41
theorem ox63_40 : sx_oks 63 x63_40 := ⟨sx_k_iconst (sx_dd bb_63 dX7_set_40) (by decide +kernel), ox63_41⟩
def x63_39 : List sx_E := (.iload 2, 39, 40, [], .null) :: x63_40
theorem ox63_39 : sx_oks 63 x63_39 := ⟨Or.inr ⟨_, (sx_dd bb_63 dX7_set_39), rfl, rfl⟩, ox63_40⟩
def x63_38 : List sx_E := (.ireturn, 38, 39, [0], .null) :: x63_39
theorem ox63_38 : sx_oks 63 x63_38 := ⟨sx_q_iret0 (sx_dd bb_63 dX7_set_38) rr_63, ox63_39⟩
def x63_36 : List sx_E := (.nop, 36, 38, [], .int ((-1000000001))) :: x63_38
theorem ox63_36 : sx_oks 63 x63_36 := ⟨sx_k_ldc (sx_dd bb_63 dX7_set_36) (sx_ow1 oo_63 kc_StrawGarrison_76), ox63_38⟩
def x63_33 : List sx_E := (.ifCond .ne (6), 33, 36, [39], .null) :: x63_36
theorem ox63_33 : sx_oks 63 x63_33 := ⟨⟨(sx_dd bb_63 dX7_set_33), rfl, sx_t1 (by decide +kernel)⟩, ox63_36⟩
def x63_30 : List sx_E := (.invokestatic 72, 30, 33, [106, 3, 0, 0], .null) :: x63_33
theorem ox63_30 : sx_oks 63 x63_30 := ⟨sx_q_S (sx_dd bb_63 dX7_set_30) oo_63 lk_StrawGarrison_72_S ft_106_h, ox63_33⟩
def x63_28 : List sx_E := (.nop, 28, 30, [], .int (nI 99)) :: x63_30
theorem ox63_28 : sx_oks 63 x63_28 := ⟨sx_k_bipush (sx_dd bb_63 dX7_set_28) (by decide +kernel), ox63_30⟩
def x63_25 : List sx_E := (.goto (5), 25, 28, [30], .null) :: x63_28
theorem ox63_25 : sx_oks 63 x63_25 := ⟨⟨(sx_dd bb_63 dX7_set_25), sx_t1 (by decide +kernel)⟩, ox63_28⟩
def x63_24 : List sx_E := (.nop, 24, 25, [], .int (nI 1)) :: x63_25
theorem ox63_24 : sx_oks 63 x63_24 := ⟨sx_k_iconst (sx_dd bb_63 dX7_set_24) (by decide +kernel), ox63_25⟩
def x63_21 : List sx_E := (.if_icmp .ne (7), 21, 24, [28], .null) :: x63_24
theorem ox63_21 : sx_oks 63 x63_21 := ⟨⟨(sx_dd bb_63 dX7_set_21), rfl, sx_t1 (by decide +kernel)⟩, ox63_24⟩
def x63_20 : List sx_E := (.nop, 20, 21, [], .int (nI 4)) :: x63_21
theorem ox63_20 : sx_oks 63 x63_20 := ⟨sx_k_iconst (sx_dd bb_63 dX7_set_20) (by decide +kernel), ox63_21⟩
def x63_19 : List sx_E := (.iload 2, 19, 20, [], .null) :: x63_20
theorem ox63_19 : sx_oks 63 x63_19 := ⟨Or.inr ⟨_, (sx_dd bb_63 dX7_set_19), rfl, rfl⟩, ox63_20⟩
def x63_18 : List sx_E := (.nop, 18, 19, [], .int (nI 0)) :: x63_19
theorem ox63_18 : sx_oks 63 x63_18 := ⟨sx_k_iconst (sx_dd bb_63 dX7_set_18) (by decide +kernel), ox63_19⟩
def x63_17 : List sx_E := (.iload 3, 17, 18, [], .null) :: x63_18
theorem ox63_17 : sx_oks 63 x63_17 := ⟨Or.inr ⟨_, (sx_dd bb_63 dX7_set_17), rfl, rfl⟩, ox63_18⟩
def x63_14 : List sx_E := (.ifCond .eq (22), 14, 17, [36], .null) :: x63_17
theorem ox63_14 : sx_oks 63 x63_14 := ⟨⟨(sx_dd bb_63 dX7_set_14), rfl, sx_t1 (by decide +kernel)⟩, ox63_17⟩
def x63_11 : List sx_E := (.invokestatic 72, 11, 14, [106, 3, 0, 0], .null) :: x63_14
theorem ox63_11 : sx_oks 63 x63_11 := ⟨sx_q_S (sx_dd bb_63 dX7_set_11) oo_63 lk_StrawGarrison_72_S ft_106_h, ox63_14⟩
def x63_10 : List sx_E := (.nop, 10, 11, [], .int (nI 4)) :: x63_11
theorem ox63_10 : sx_oks 63 x63_10 := ⟨sx_k_iconst (sx_dd bb_63 dX7_set_10) (by decide +kernel), ox63_11⟩
def x63_9 : List sx_E := (.nop, 9, 10, [], .int (nI 2)) :: x63_10
theorem ox63_9 : sx_oks 63 x63_9 := ⟨sx_k_iconst (sx_dd bb_63 dX7_set_9) (by decide +kernel), ox63_10⟩
def x63_8 : List sx_E := (.iload 2, 8, 9, [], .null) :: x63_9
theorem ox63_8 : sx_oks 63 x63_8 := ⟨Or.inr ⟨_, (sx_dd bb_63 dX7_set_8), rfl, rfl⟩, ox63_9⟩
def x63_5 : List sx_E := (.ifCond .eq (31), 5, 8, [36], .null) :: x63_8
theorem ox63_5 : sx_oks 63 x63_5 := ⟨⟨(sx_dd bb_63 dX7_set_5), rfl, sx_t1 (by decide +kernel)⟩, ox63_8⟩
def x63_2 : List sx_E := (.invokevirtual 91, 2, 5, [101, 2, 0, 0, 6], .null) :: x63_5
theorem ox63_2 : sx_oks 63 x63_2 := ⟨sx_q_V (w := (RX7, TX7, 12)) (sx_dd bb_63 dX7_set_2) oo_63 lk_StrawGarrison_91_V ft_101_h (Nat.le_of_ble_eq_true rfl) rfl rfl, ox63_5⟩
def x63_1 : List sx_E := (.iload 1, 1, 2, [], .null) :: x63_2
theorem ox63_1 : sx_oks 63 x63_1 := ⟨Or.inr ⟨_, (sx_dd bb_63 dX7_set_1), rfl, rfl⟩, ox63_2⟩
def x63_0 : List sx_E := (.aload 0, 0, 1, [], .null) :: x63_1
theorem ox63_0 : sx_oks 63 x63_0 := ⟨Or.inr ⟨_, (sx_dd bb_63 dX7_set_0), rfl, rfl⟩, ox63_1⟩
theorem m63 : sx_mok 63 x63_0 := ⟨ox63_0, by decide +kernel⟩
theorem bb_64 : sx_by 64 = cX7_moves := rfl
theorem oo_64 : (sx_nm 64).cls = "StrawGarrison" := rfl
theorem mm_64 : sx_ml 64 = 4 := rfl
theorem rr_64 : sx_rt 64 = (some .int) := rfl
def x64_55 : List sx_E := (.ireturn, 55, 56, [0], .null) :: []
theorem ox64_55 : sx_oks 64 x64_55 := ⟨sx_q_iret0 (sx_dd bb_64 dX7_moves_55) rr_64, trivial⟩
def x64_54 : List sx_E := (.iload 3, 54, 55, [], .null) :: x64_55
theorem ox64_54 : sx_oks 64 x64_54 := ⟨Or.inr ⟨_, (sx_dd bb_64 dX7_moves_54), rfl, rfl⟩, ox64_55⟩
def x64_53 : List sx_E := (.iastore, 53, 54, [], .null) :: x64_54
theorem ox64_53 : sx_oks 64 x64_53 := ⟨⟨(sx_dd bb_64 dX7_moves_53), rfl⟩, ox64_54⟩
def x64_52 : List sx_E := (.iload 2, 52, 53, [], .null) :: x64_53
theorem ox64_52 : sx_oks 64 x64_52 := ⟨Or.inr ⟨_, (sx_dd bb_64 dX7_moves_52), rfl, rfl⟩, ox64_53⟩
def x64_51 : List sx_E := (.iload 1, 51, 52, [], .null) :: x64_52
theorem ox64_51 : sx_oks 64 x64_51 := ⟨Or.inr ⟨_, (sx_dd bb_64 dX7_moves_51), rfl, rfl⟩, ox64_52⟩
def x64_48 : List sx_E := (.getfield 100, 48, 51, [1, 3, 1], .null) :: x64_51
theorem ox64_48 : sx_oks 64 x64_48 := ⟨sx_q_get (w := (RX1, TX1, 11)) (sx_dd bb_64 dX7_moves_48) rfl rfl (Nat.le_of_ble_eq_true rfl) cu_1 (sx_ow3 oo_64 fl_StrawGarrison_100) (by decide +kernel), ox64_51⟩
def x64_45 : List sx_E := (.getfield 10, 45, 48, [6, 1, 1], .null) :: x64_48
theorem ox64_45 : sx_oks 64 x64_45 := ⟨sx_q_get (w := (RX7, TX7, 12)) (sx_dd bb_64 dX7_moves_45) rfl rfl (Nat.le_of_ble_eq_true rfl) cu_6 (sx_ow3 oo_64 fl_StrawGarrison_10) (by decide +kernel), ox64_48⟩
def x64_44 : List sx_E := (.aload 0, 44, 45, [], .null) :: x64_45
theorem ox64_44 : sx_oks 64 x64_44 := ⟨Or.inr ⟨_, (sx_dd bb_64 dX7_moves_44), rfl, rfl⟩, ox64_45⟩
def x64_43 : List sx_E := (.istore 3, 43, 44, [], .null) :: x64_44
theorem ox64_43 : sx_oks 64 x64_43 := ⟨⟨sx_lt mm_64 (Nat.le_of_ble_eq_true rfl), Or.inr ⟨_, (sx_dd bb_64 dX7_moves_43), rfl, rfl⟩⟩, ox64_44⟩
def x64_42 : List sx_E := (.iaload, 42, 43, [], .null) :: x64_43
theorem ox64_42 : sx_oks 64 x64_42 := ⟨⟨(sx_dd bb_64 dX7_moves_42), rfl⟩, ox64_43⟩
def x64_41 : List sx_E := (.iload 1, 41, 42, [], .null) :: x64_42
theorem ox64_41 : sx_oks 64 x64_41 := ⟨Or.inr ⟨_, (sx_dd bb_64 dX7_moves_41), rfl, rfl⟩, ox64_42⟩
def x64_38 : List sx_E := (.getfield 100, 38, 41, [1, 3, 1], .null) :: x64_41
theorem ox64_38 : sx_oks 64 x64_38 := ⟨sx_q_get (w := (RX1, TX1, 11)) (sx_dd bb_64 dX7_moves_38) rfl rfl (Nat.le_of_ble_eq_true rfl) cu_1 (sx_ow3 oo_64 fl_StrawGarrison_100) (by decide +kernel), ox64_41⟩
def x64_35 : List sx_E := (.getfield 10, 35, 38, [6, 1, 1], .null) :: x64_38
theorem ox64_35 : sx_oks 64 x64_35 := ⟨sx_q_get (w := (RX7, TX7, 12)) (sx_dd bb_64 dX7_moves_35) rfl rfl (Nat.le_of_ble_eq_true rfl) cu_6 (sx_ow3 oo_64 fl_StrawGarrison_10) (by decide +kernel), ox64_38⟩
def x64_34 : List sx_E := (.aload 0, 34, 35, [], .null) :: x64_35
theorem ox64_34 : sx_oks 64 x64_34 := ⟨Or.inr ⟨_, (sx_dd bb_64 dX7_moves_34), rfl, rfl⟩, ox64_35⟩
def x64_33 : List sx_E := (.ireturn, 33, 34, [0], .null) :: x64_34
theorem ox64_33 : sx_oks 64 x64_33 := ⟨sx_q_iret0 (sx_dd bb_64 dX7_moves_33) rr_64, ox64_34⟩
def x64_31 : List sx_E := (.nop, 31, 33, [], .int ((-1000000002))) :: x64_33
theorem ox64_31 : sx_oks 64 x64_31 := ⟨sx_k_ldc (sx_dd bb_64 dX7_moves_31) (sx_ow1 oo_64 kc_StrawGarrison_82), ox64_33⟩
def x64_28 : List sx_E := (.if_icmp .eq (6), 28, 31, [34], .null) :: x64_31
theorem ox64_28 : sx_oks 64 x64_28 := ⟨⟨(sx_dd bb_64 dX7_moves_28), rfl, sx_t1 (by decide +kernel)⟩, ox64_31⟩
def x64_26 : List sx_E := (.nop, 26, 28, [], .int ((-1000000005))) :: x64_28
theorem ox64_26 : sx_oks 64 x64_26 := ⟨sx_k_ldc (sx_dd bb_64 dX7_moves_26) (sx_ow1 oo_64 kc_StrawGarrison_81), ox64_28⟩
def x64_23 : List sx_E := (.invokevirtual 77, 23, 26, [10, 2, 0, 0, 1], .null) :: x64_26
theorem ox64_23 : sx_oks 64 x64_23 := ⟨sx_q_V (w := (RX1, TX1, 11)) (sx_dd bb_64 dX7_moves_23) oo_64 lk_StrawGarrison_77_V ft_10_h (Nat.le_of_ble_eq_true rfl) rfl rfl, ox64_26⟩
def x64_22 : List sx_E := (.iload 2, 22, 23, [], .null) :: x64_23
theorem ox64_22 : sx_oks 64 x64_22 := ⟨Or.inr ⟨_, (sx_dd bb_64 dX7_moves_22), rfl, rfl⟩, ox64_23⟩
def x64_19 : List sx_E := (.getfield 10, 19, 22, [6, 1, 1], .null) :: x64_22
theorem ox64_19 : sx_oks 64 x64_19 := ⟨sx_q_get (w := (RX7, TX7, 12)) (sx_dd bb_64 dX7_moves_19) rfl rfl (Nat.le_of_ble_eq_true rfl) cu_6 (sx_ow3 oo_64 fl_StrawGarrison_10) (by decide +kernel), ox64_22⟩
def x64_18 : List sx_E := (.aload 0, 18, 19, [], .null) :: x64_19
theorem ox64_18 : sx_oks 64 x64_18 := ⟨Or.inr ⟨_, (sx_dd bb_64 dX7_moves_18), rfl, rfl⟩, ox64_19⟩
def x64_17 : List sx_E := (.ireturn, 17, 18, [0], .null) :: x64_18
theorem ox64_17 : sx_oks 64 x64_17 := ⟨sx_q_iret0 (sx_dd bb_64 dX7_moves_17) rr_64, ox64_18⟩
def x64_15 : List sx_E := (.nop, 15, 17, [], .int ((-1000000001))) :: x64_17
theorem ox64_15 : sx_oks 64 x64_15 := ⟨sx_k_ldc (sx_dd bb_64 dX7_moves_15) (sx_ow1 oo_64 kc_StrawGarrison_76), ox64_17⟩
def x64_12 : List sx_E := (.ifCond .ne (6), 12, 15, [18], .null) :: x64_15
theorem ox64_12 : sx_oks 64 x64_12 := ⟨⟨(sx_dd bb_64 dX7_moves_12), rfl, sx_t1 (by decide +kernel)⟩, ox64_15⟩
def x64_9 : List sx_E := (.invokestatic 69, 9, 12, [103, 1, 0, 0], .null) :: x64_12
theorem ox64_9 : sx_oks 64 x64_9 := ⟨sx_q_S (sx_dd bb_64 dX7_moves_9) oo_64 lk_StrawGarrison_69_S ft_103_h, ox64_12⟩
def x64_8 : List sx_E := (.iload 2, 8, 9, [], .null) :: x64_9
theorem ox64_8 : sx_oks 64 x64_8 := ⟨Or.inr ⟨_, (sx_dd bb_64 dX7_moves_8), rfl, rfl⟩, ox64_9⟩
def x64_5 : List sx_E := (.ifCond .eq (10), 5, 8, [15], .null) :: x64_8
theorem ox64_5 : sx_oks 64 x64_5 := ⟨⟨(sx_dd bb_64 dX7_moves_5), rfl, sx_t1 (by decide +kernel)⟩, ox64_8⟩
def x64_2 : List sx_E := (.invokevirtual 91, 2, 5, [101, 2, 0, 0, 6], .null) :: x64_5
theorem ox64_2 : sx_oks 64 x64_2 := ⟨sx_q_V (w := (RX7, TX7, 12)) (sx_dd bb_64 dX7_moves_2) oo_64 lk_StrawGarrison_91_V ft_101_h (Nat.le_of_ble_eq_true rfl) rfl rfl, ox64_5⟩
def x64_1 : List sx_E := (.iload 1, 1, 2, [], .null) :: x64_2
theorem ox64_1 : sx_oks 64 x64_1 := ⟨Or.inr ⟨_, (sx_dd bb_64 dX7_moves_1), rfl, rfl⟩, ox64_2⟩
def x64_0 : List sx_E := (.aload 0, 0, 1, [], .null) :: x64_1
theorem ox64_0 : sx_oks 64 x64_0 := ⟨Or.inr ⟨_, (sx_dd bb_64 dX7_moves_0), rfl, rfl⟩, ox64_1⟩
theorem m64 : sx_mok 64 x64_0 := ⟨ox64_0, by decide +kernel⟩
theorem bb_65 : sx_by 65 = cX7_at := rfl
theorem oo_65 : (sx_nm 65).cls = "StrawGarrison" := rfl
theorem mm_65 : sx_ml 65 = 2 := rfl
theorem rr_65 : sx_rt 65 = (some .int) := rfl
def x65_20 : List sx_E := (.ireturn, 20, 21, [0], .null) :: []
theorem ox65_20 : sx_oks 65 x65_20 := ⟨sx_q_iret0 (sx_dd bb_65 dX7_at_20) rr_65, trivial⟩
def x65_18 : List sx_E := (.nop, 18, 20, [], .int ((-1000000001))) :: x65_20
theorem ox65_18 : sx_oks 65 x65_18 := ⟨sx_k_ldc (sx_dd bb_65 dX7_at_18) (sx_ow1 oo_65 kc_StrawGarrison_76), ox65_20⟩
def x65_15 : List sx_E := (.goto (5), 15, 18, [20], .null) :: x65_18
theorem ox65_15 : sx_oks 65 x65_15 := ⟨⟨(sx_dd bb_65 dX7_at_15), sx_t1 (by decide +kernel)⟩, ox65_18⟩
def x65_12 : List sx_E := (.invokevirtual 77, 12, 15, [10, 2, 0, 0, 1], .null) :: x65_15
theorem ox65_12 : sx_oks 65 x65_12 := ⟨sx_q_V (w := (RX1, TX1, 11)) (sx_dd bb_65 dX7_at_12) oo_65 lk_StrawGarrison_77_V ft_10_h (Nat.le_of_ble_eq_true rfl) rfl rfl, ox65_15⟩
def x65_11 : List sx_E := (.iload 1, 11, 12, [], .null) :: x65_12
theorem ox65_11 : sx_oks 65 x65_11 := ⟨Or.inr ⟨_, (sx_dd bb_65 dX7_at_11), rfl, rfl⟩, ox65_12⟩
def x65_8 : List sx_E := (.getfield 10, 8, 11, [6, 1, 1], .null) :: x65_11
theorem ox65_8 : sx_oks 65 x65_8 := ⟨sx_q_get (w := (RX7, TX7, 12)) (sx_dd bb_65 dX7_at_8) rfl rfl (Nat.le_of_ble_eq_true rfl) cu_6 (sx_ow3 oo_65 fl_StrawGarrison_10) (by decide +kernel), ox65_11⟩
def x65_7 : List sx_E := (.aload 0, 7, 8, [], .null) :: x65_8
theorem ox65_7 : sx_oks 65 x65_7 := ⟨Or.inr ⟨_, (sx_dd bb_65 dX7_at_7), rfl, rfl⟩, ox65_8⟩
def x65_4 : List sx_E := (.ifCond .eq (14), 4, 7, [18], .null) :: x65_7
theorem ox65_4 : sx_oks 65 x65_4 := ⟨⟨(sx_dd bb_65 dX7_at_4), rfl, sx_t1 (by decide +kernel)⟩, ox65_7⟩
def x65_1 : List sx_E := (.invokestatic 69, 1, 4, [103, 1, 0, 0], .null) :: x65_4
theorem ox65_1 : sx_oks 65 x65_1 := ⟨sx_q_S (sx_dd bb_65 dX7_at_1) oo_65 lk_StrawGarrison_69_S ft_103_h, ox65_4⟩
def x65_0 : List sx_E := (.iload 1, 0, 1, [], .null) :: x65_1
theorem ox65_0 : sx_oks 65 x65_0 := ⟨Or.inr ⟨_, (sx_dd bb_65 dX7_at_0), rfl, rfl⟩, ox65_1⟩
theorem m65 : sx_mok 65 x65_0 := ⟨ox65_0, by decide +kernel⟩
theorem bb_66 : sx_by 66 = cX7_rule := rfl
theorem oo_66 : (sx_nm 66).cls = "StrawGarrison" := rfl
theorem mm_66 : sx_ml 66 = 4 := rfl
theorem rr_66 : sx_rt 66 = (some .int) := rfl
def x66_46 : List sx_E := (.ireturn, 46, 47, [0], .null) :: []
theorem ox66_46 : sx_oks 66 x66_46 := ⟨sx_q_iret0 (sx_dd bb_66 dX7_rule_46) rr_66, trivial⟩
def x66_45 : List sx_E := (.iload 3, 45, 46, [], .null) :: x66_46
theorem ox66_45 : sx_oks 66 x66_45 := ⟨Or.inr ⟨_, (sx_dd bb_66 dX7_rule_45), rfl, rfl⟩, ox66_46⟩
def x66_44 : List sx_E := (.iastore, 44, 45, [], .null) :: x66_45
theorem ox66_44 : sx_oks 66 x66_44 := ⟨⟨(sx_dd bb_66 dX7_rule_44), rfl⟩, ox66_45⟩
def x66_43 : List sx_E := (.iload 2, 43, 44, [], .null) :: x66_44
theorem ox66_43 : sx_oks 66 x66_43 := ⟨Or.inr ⟨_, (sx_dd bb_66 dX7_rule_43), rfl, rfl⟩, ox66_44⟩
def x66_42 : List sx_E := (.iload 1, 42, 43, [], .null) :: x66_43
theorem ox66_42 : sx_oks 66 x66_42 := ⟨Or.inr ⟨_, (sx_dd bb_66 dX7_rule_42), rfl, rfl⟩, ox66_43⟩
def x66_39 : List sx_E := (.getfield 132, 39, 42, [1, 7, 1], .null) :: x66_42
theorem ox66_39 : sx_oks 66 x66_39 := ⟨sx_q_get (w := (RX1, TX1, 11)) (sx_dd bb_66 dX7_rule_39) rfl rfl (Nat.le_of_ble_eq_true rfl) cu_1 (sx_ow3 oo_66 fl_StrawGarrison_132) (by decide +kernel), ox66_42⟩
def x66_36 : List sx_E := (.getfield 10, 36, 39, [6, 1, 1], .null) :: x66_39
theorem ox66_36 : sx_oks 66 x66_36 := ⟨sx_q_get (w := (RX7, TX7, 12)) (sx_dd bb_66 dX7_rule_36) rfl rfl (Nat.le_of_ble_eq_true rfl) cu_6 (sx_ow3 oo_66 fl_StrawGarrison_10) (by decide +kernel), ox66_39⟩
def x66_35 : List sx_E := (.aload 0, 35, 36, [], .null) :: x66_36
theorem ox66_35 : sx_oks 66 x66_35 := ⟨Or.inr ⟨_, (sx_dd bb_66 dX7_rule_35), rfl, rfl⟩, ox66_36⟩
def x66_34 : List sx_E := (.istore 3, 34, 35, [], .null) :: x66_35
theorem ox66_34 : sx_oks 66 x66_34 := ⟨⟨sx_lt mm_66 (Nat.le_of_ble_eq_true rfl), Or.inr ⟨_, (sx_dd bb_66 dX7_rule_34), rfl, rfl⟩⟩, ox66_35⟩
def x66_33 : List sx_E := (.iaload, 33, 34, [], .null) :: x66_34
theorem ox66_33 : sx_oks 66 x66_33 := ⟨⟨(sx_dd bb_66 dX7_rule_33), rfl⟩, ox66_34⟩
def x66_32 : List sx_E := (.iload 1, 32, 33, [], .null) :: x66_33
theorem ox66_32 : sx_oks 66 x66_32 := ⟨Or.inr ⟨_, (sx_dd bb_66 dX7_rule_32), rfl, rfl⟩, ox66_33⟩
def x66_29 : List sx_E := (.getfield 132, 29, 32, [1, 7, 1], .null) :: x66_32
theorem ox66_29 : sx_oks 66 x66_29 := ⟨sx_q_get (w := (RX1, TX1, 11)) (sx_dd bb_66 dX7_rule_29) rfl rfl (Nat.le_of_ble_eq_true rfl) cu_1 (sx_ow3 oo_66 fl_StrawGarrison_132) (by decide +kernel), ox66_32⟩
def x66_26 : List sx_E := (.getfield 10, 26, 29, [6, 1, 1], .null) :: x66_29
theorem ox66_26 : sx_oks 66 x66_26 := ⟨sx_q_get (w := (RX7, TX7, 12)) (sx_dd bb_66 dX7_rule_26) rfl rfl (Nat.le_of_ble_eq_true rfl) cu_6 (sx_ow3 oo_66 fl_StrawGarrison_10) (by decide +kernel), ox66_29⟩
def x66_25 : List sx_E := (.aload 0, 25, 26, [], .null) :: x66_26
theorem ox66_25 : sx_oks 66 x66_25 := ⟨Or.inr ⟨_, (sx_dd bb_66 dX7_rule_25), rfl, rfl⟩, ox66_26⟩
def x66_24 : List sx_E := (.ireturn, 24, 25, [0], .null) :: x66_25
theorem ox66_24 : sx_oks 66 x66_24 := ⟨sx_q_iret0 (sx_dd bb_66 dX7_rule_24) rr_66, ox66_25⟩
def x66_22 : List sx_E := (.nop, 22, 24, [], .int ((-1000000001))) :: x66_24
theorem ox66_22 : sx_oks 66 x66_22 := ⟨sx_k_ldc (sx_dd bb_66 dX7_rule_22) (sx_ow1 oo_66 kc_StrawGarrison_76), ox66_24⟩
def x66_19 : List sx_E := (.ifCond .ne (6), 19, 22, [25], .null) :: x66_22
theorem ox66_19 : sx_oks 66 x66_19 := ⟨⟨(sx_dd bb_66 dX7_rule_19), rfl, sx_t1 (by decide +kernel)⟩, ox66_22⟩
def x66_16 : List sx_E := (.invokestatic 72, 16, 19, [106, 3, 0, 0], .null) :: x66_19
theorem ox66_16 : sx_oks 66 x66_16 := ⟨sx_q_S (sx_dd bb_66 dX7_rule_16) oo_66 lk_StrawGarrison_72_S ft_106_h, ox66_19⟩
def x66_15 : List sx_E := (.iaload, 15, 16, [], .null) :: x66_16
theorem ox66_15 : sx_oks 66 x66_15 := ⟨⟨(sx_dd bb_66 dX7_rule_15), rfl⟩, ox66_16⟩
def x66_14 : List sx_E := (.iload 1, 14, 15, [], .null) :: x66_15
theorem ox66_14 : sx_oks 66 x66_14 := ⟨Or.inr ⟨_, (sx_dd bb_66 dX7_rule_14), rfl, rfl⟩, ox66_15⟩
def x66_11 : List sx_E := (.nop, 11, 14, [], .ref 0) :: x66_14
theorem ox66_11 : sx_oks 66 x66_11 := ⟨sx_k_most (sx_dd bb_66 dX7_rule_11) (sx_ow3 oo_66 fs_StrawGarrison_129), ox66_14⟩
def x66_10 : List sx_E := (.nop, 10, 11, [], .int (nI 0)) :: x66_11
theorem ox66_10 : sx_oks 66 x66_10 := ⟨sx_k_iconst (sx_dd bb_66 dX7_rule_10) (by decide +kernel), ox66_11⟩
def x66_9 : List sx_E := (.iload 2, 9, 10, [], .null) :: x66_10
theorem ox66_9 : sx_oks 66 x66_9 := ⟨Or.inr ⟨_, (sx_dd bb_66 dX7_rule_9), rfl, rfl⟩, ox66_10⟩
def x66_6 : List sx_E := (.ifCond .eq (16), 6, 9, [22], .null) :: x66_9
theorem ox66_6 : sx_oks 66 x66_6 := ⟨⟨(sx_dd bb_66 dX7_rule_6), rfl, sx_t1 (by decide +kernel)⟩, ox66_9⟩
def x66_3 : List sx_E := (.invokestatic 72, 3, 6, [106, 3, 0, 0], .null) :: x66_6
theorem ox66_3 : sx_oks 66 x66_3 := ⟨sx_q_S (sx_dd bb_66 dX7_rule_3) oo_66 lk_StrawGarrison_72_S ft_106_h, ox66_6⟩
def x66_2 : List sx_E := (.nop, 2, 3, [], .int (nI 3)) :: x66_3
theorem ox66_2 : sx_oks 66 x66_2 := ⟨sx_k_iconst (sx_dd bb_66 dX7_rule_2) (by decide +kernel), ox66_3⟩
def x66_1 : List sx_E := (.nop, 1, 2, [], .int (nI 0)) :: x66_2
theorem ox66_1 : sx_oks 66 x66_1 := ⟨sx_k_iconst (sx_dd bb_66 dX7_rule_1) (by decide +kernel), ox66_2⟩
def x66_0 : List sx_E := (.iload 1, 0, 1, [], .null) :: x66_1
theorem ox66_0 : sx_oks 66 x66_0 := ⟨Or.inr ⟨_, (sx_dd bb_66 dX7_rule_0), rfl, rfl⟩, ox66_1⟩
theorem m66 : sx_mok 66 x66_0 := ⟨ox66_0, by decide +kernel⟩
theorem bb_67 : sx_by 67 = cX7_deal := rfl
theorem oo_67 : (sx_nm 67).cls = "StrawGarrison" := rfl
theorem mm_67 : sx_ml 67 = 4 := rfl
theorem rr_67 : sx_rt 67 = (some .int) := rfl
def x67_49 : List sx_E := (.ireturn, 49, 50, [0], .null) :: []
theorem ox67_49 : sx_oks 67 x67_49 := ⟨sx_q_iret0 (sx_dd bb_67 dX7_deal_49) rr_67, trivial⟩
def x67_48 : List sx_E := (.iload 2, 48, 49, [], .null) :: x67_49
theorem ox67_48 : sx_oks 67 x67_48 := ⟨Or.inr ⟨_, (sx_dd bb_67 dX7_deal_48), rfl, rfl⟩, ox67_49⟩
def x67_45 : List sx_E := (.goto (-15), 45, 48, [30], .null) :: x67_48
theorem ox67_45 : sx_oks 67 x67_45 := ⟨⟨(sx_dd bb_67 dX7_deal_45), sx_t1 (by decide +kernel)⟩, ox67_48⟩
def x67_42 : List sx_E := (.iinc 3 (1), 42, 45, [], .int (nI 1)) :: x67_45
theorem ox67_42 : sx_oks 67 x67_42 := ⟨⟨sx_lt mm_67 (Nat.le_of_ble_eq_true rfl), (sx_dd bb_67 dX7_deal_42), rfl, by decide +kernel⟩, ox67_45⟩
def x67_39 : List sx_E := (.invokevirtual 140, 39, 42, [8, 1, 0, 0, 1], .null) :: x67_42
theorem ox67_39 : sx_oks 67 x67_39 := ⟨sx_q_V (w := (RX1, TX1, 11)) (sx_dd bb_67 dX7_deal_39) oo_67 lk_StrawGarrison_140_V ft_8_h (Nat.le_of_ble_eq_true rfl) rfl rfl, ox67_42⟩
def x67_36 : List sx_E := (.getfield 10, 36, 39, [6, 1, 1], .null) :: x67_39
theorem ox67_36 : sx_oks 67 x67_36 := ⟨sx_q_get (w := (RX7, TX7, 12)) (sx_dd bb_67 dX7_deal_36) rfl rfl (Nat.le_of_ble_eq_true rfl) cu_6 (sx_ow3 oo_67 fl_StrawGarrison_10) (by decide +kernel), ox67_39⟩
def x67_35 : List sx_E := (.aload 0, 35, 36, [], .null) :: x67_36
theorem ox67_35 : sx_oks 67 x67_35 := ⟨Or.inr ⟨_, (sx_dd bb_67 dX7_deal_35), rfl, rfl⟩, ox67_36⟩
def x67_32 : List sx_E := (.if_icmp .ge (16), 32, 35, [48], .null) :: x67_35
theorem ox67_32 : sx_oks 67 x67_32 := ⟨⟨(sx_dd bb_67 dX7_deal_32), rfl, sx_t1 (by decide +kernel)⟩, ox67_35⟩
def x67_31 : List sx_E := (.iload 2, 31, 32, [], .null) :: x67_32
theorem ox67_31 : sx_oks 67 x67_31 := ⟨Or.inr ⟨_, (sx_dd bb_67 dX7_deal_31), rfl, rfl⟩, ox67_32⟩
def x67_30 : List sx_E := (.iload 3, 30, 31, [], .null) :: x67_31
theorem ox67_30 : sx_oks 67 x67_30 := ⟨Or.inr ⟨_, (sx_dd bb_67 dX7_deal_30), rfl, rfl⟩, ox67_31⟩
def x67_30h : List sx_E := (.monitorenter, 30, 30, [0, 2, 3], .null) :: x67_30
theorem ox67_30h : sx_oks 67 x67_30h := ⟨trivial, ox67_30⟩
def x67_29 : List sx_E := (.istore 3, 29, 30, [], .null) :: x67_30h
theorem ox67_29 : sx_oks 67 x67_29 := ⟨⟨sx_lt mm_67 (Nat.le_of_ble_eq_true rfl), Or.inr ⟨_, (sx_dd bb_67 dX7_deal_29), rfl, rfl⟩⟩, ox67_30h⟩
def x67_28 : List sx_E := (.nop, 28, 29, [], .int (nI 0)) :: x67_29
theorem ox67_28 : sx_oks 67 x67_28 := ⟨sx_k_iconst (sx_dd bb_67 dX7_deal_28) (by decide +kernel), ox67_29⟩
def x67_27 : List sx_E := (.istore 2, 27, 28, [], .null) :: x67_28
theorem ox67_27 : sx_oks 67 x67_27 := ⟨⟨sx_lt mm_67 (Nat.le_of_ble_eq_true rfl), Or.inr ⟨_, (sx_dd bb_67 dX7_deal_27), rfl, rfl⟩⟩, ox67_28⟩
def x67_24 : List sx_E := (.invokestatic 135, 24, 27, [214, 2, 0, 0], .null) :: x67_27
theorem ox67_24 : sx_oks 67 x67_24 := ⟨sx_q_S (sx_dd bb_67 dX7_deal_24) oo_67 lk_StrawGarrison_135_S ft_214_h, ox67_27⟩
def x67_23 : List sx_E := (.isub, 23, 24, [], .null) :: x67_24
theorem ox67_23 : sx_oks 67 x67_23 := ⟨⟨(sx_dd bb_67 dX7_deal_23), rfl⟩, ox67_24⟩
def x67_20 : List sx_E := (.getfield 83, 20, 23, [1, 1, 0], .null) :: x67_23
theorem ox67_20 : sx_oks 67 x67_20 := ⟨sx_q_get (w := (RX1, TX1, 11)) (sx_dd bb_67 dX7_deal_20) rfl rfl (Nat.le_of_ble_eq_true rfl) cu_1 (sx_ow3 oo_67 fl_StrawGarrison_83) (by decide +kernel), ox67_23⟩
def x67_17 : List sx_E := (.getfield 10, 17, 20, [6, 1, 1], .null) :: x67_20
theorem ox67_17 : sx_oks 67 x67_17 := ⟨sx_q_get (w := (RX7, TX7, 12)) (sx_dd bb_67 dX7_deal_17) rfl rfl (Nat.le_of_ble_eq_true rfl) cu_6 (sx_ow3 oo_67 fl_StrawGarrison_10) (by decide +kernel), ox67_20⟩
def x67_16 : List sx_E := (.aload 0, 16, 17, [], .null) :: x67_17
theorem ox67_16 : sx_oks 67 x67_16 := ⟨Or.inr ⟨_, (sx_dd bb_67 dX7_deal_16), rfl, rfl⟩, ox67_17⟩
def x67_14 : List sx_E := (.nop, 14, 16, [], .int (nI 10)) :: x67_16
theorem ox67_14 : sx_oks 67 x67_14 := ⟨sx_k_bipush (sx_dd bb_67 dX7_deal_14) (by decide +kernel), ox67_16⟩
def x67_13 : List sx_E := (.iload 1, 13, 14, [], .null) :: x67_14
theorem ox67_13 : sx_oks 67 x67_13 := ⟨Or.inr ⟨_, (sx_dd bb_67 dX7_deal_13), rfl, rfl⟩, ox67_14⟩
def x67_12 : List sx_E := (.ireturn, 12, 13, [0], .null) :: x67_13
theorem ox67_12 : sx_oks 67 x67_12 := ⟨sx_q_iret0 (sx_dd bb_67 dX7_deal_12) rr_67, ox67_13⟩
def x67_10 : List sx_E := (.nop, 10, 12, [], .int ((-1000000001))) :: x67_12
theorem ox67_10 : sx_oks 67 x67_10 := ⟨sx_k_ldc (sx_dd bb_67 dX7_deal_10) (sx_ow1 oo_67 kc_StrawGarrison_76), ox67_12⟩
def x67_7 : List sx_E := (.ifCond .ne (6), 7, 10, [13], .null) :: x67_10
theorem ox67_7 : sx_oks 67 x67_7 := ⟨⟨(sx_dd bb_67 dX7_deal_7), rfl, sx_t1 (by decide +kernel)⟩, ox67_10⟩
def x67_4 : List sx_E := (.invokestatic 72, 4, 7, [106, 3, 0, 0], .null) :: x67_7
theorem ox67_4 : sx_oks 67 x67_4 := ⟨sx_q_S (sx_dd bb_67 dX7_deal_4) oo_67 lk_StrawGarrison_72_S ft_106_h, ox67_7⟩
def x67_2 : List sx_E := (.nop, 2, 4, [], .int (nI 10)) :: x67_4
theorem ox67_2 : sx_oks 67 x67_2 := ⟨sx_k_bipush (sx_dd bb_67 dX7_deal_2) (by decide +kernel), ox67_4⟩
def x67_1 : List sx_E := (.nop, 1, 2, [], .int (nI 1)) :: x67_2
theorem ox67_1 : sx_oks 67 x67_1 := ⟨sx_k_iconst (sx_dd bb_67 dX7_deal_1) (by decide +kernel), ox67_2⟩
def x67_0 : List sx_E := (.iload 1, 0, 1, [], .null) :: x67_1
theorem ox67_0 : sx_oks 67 x67_0 := ⟨Or.inr ⟨_, (sx_dd bb_67 dX7_deal_0), rfl, rfl⟩, ox67_1⟩
theorem m67 : sx_mok 67 x67_0 := ⟨ox67_0, by decide +kernel⟩
theorem bb_68 : sx_by 68 = cX7_seed := rfl
theorem oo_68 : (sx_nm 68).cls = "StrawGarrison" := rfl
theorem mm_68 : sx_ml 68 = 3 := rfl
theorem rr_68 : sx_rt 68 = (some .int) := rfl
def x68_17 : List sx_E := (.ireturn, 17, 18, [0], .null) :: []
theorem ox68_17 : sx_oks 68 x68_17 := ⟨sx_q_iret0 (sx_dd bb_68 dX7_seed_17) rr_68, trivial⟩
def x68_16 : List sx_E := (.iload 2, 16, 17, [], .null) :: x68_17
theorem ox68_16 : sx_oks 68 x68_16 := ⟨Or.inr ⟨_, (sx_dd bb_68 dX7_seed_16), rfl, rfl⟩, ox68_17⟩
def x68_13 : List sx_E := (.putfield 143, 13, 16, [1, 10, 0], .null) :: x68_16
theorem ox68_13 : sx_oks 68 x68_13 := ⟨sx_q_put (w := (RX1, TX1, 11)) (ty0 := tyX1) (sx_dd bb_68 dX7_seed_13) rfl (Nat.le_of_ble_eq_true rfl) cu_1 (sx_ow3 oo_68 fl_StrawGarrison_143) (by decide +kernel) tyX1_ok nmX1 (Or.inl rfl) (fun _ => rfl) (fun h => absurd h (by decide)) (fun h => absurd h (by decide)), ox68_16⟩
def x68_12 : List sx_E := (.iload 1, 12, 13, [], .null) :: x68_13
theorem ox68_12 : sx_oks 68 x68_12 := ⟨Or.inr ⟨_, (sx_dd bb_68 dX7_seed_12), rfl, rfl⟩, ox68_13⟩
def x68_9 : List sx_E := (.getfield 10, 9, 12, [6, 1, 1], .null) :: x68_12
theorem ox68_9 : sx_oks 68 x68_9 := ⟨sx_q_get (w := (RX7, TX7, 12)) (sx_dd bb_68 dX7_seed_9) rfl rfl (Nat.le_of_ble_eq_true rfl) cu_6 (sx_ow3 oo_68 fl_StrawGarrison_10) (by decide +kernel), ox68_12⟩
def x68_8 : List sx_E := (.aload 0, 8, 9, [], .null) :: x68_9
theorem ox68_8 : sx_oks 68 x68_8 := ⟨Or.inr ⟨_, (sx_dd bb_68 dX7_seed_8), rfl, rfl⟩, ox68_9⟩
def x68_7 : List sx_E := (.istore 2, 7, 8, [], .null) :: x68_8
theorem ox68_7 : sx_oks 68 x68_7 := ⟨⟨sx_lt mm_68 (Nat.le_of_ble_eq_true rfl), Or.inr ⟨_, (sx_dd bb_68 dX7_seed_7), rfl, rfl⟩⟩, ox68_8⟩
def x68_4 : List sx_E := (.getfield 143, 4, 7, [1, 10, 0], .null) :: x68_7
theorem ox68_4 : sx_oks 68 x68_4 := ⟨sx_q_get (w := (RX1, TX1, 11)) (sx_dd bb_68 dX7_seed_4) rfl rfl (Nat.le_of_ble_eq_true rfl) cu_1 (sx_ow3 oo_68 fl_StrawGarrison_143) (by decide +kernel), ox68_7⟩
def x68_1 : List sx_E := (.getfield 10, 1, 4, [6, 1, 1], .null) :: x68_4
theorem ox68_1 : sx_oks 68 x68_1 := ⟨sx_q_get (w := (RX7, TX7, 12)) (sx_dd bb_68 dX7_seed_1) rfl rfl (Nat.le_of_ble_eq_true rfl) cu_6 (sx_ow3 oo_68 fl_StrawGarrison_10) (by decide +kernel), ox68_4⟩
def x68_0 : List sx_E := (.aload 0, 0, 1, [], .null) :: x68_1
theorem ox68_0 : sx_oks 68 x68_0 := ⟨Or.inr ⟨_, (sx_dd bb_68 dX7_seed_0), rfl, rfl⟩, ox68_1⟩
theorem m68 : sx_mok 68 x68_0 := ⟨ox68_0, by decide +kernel⟩
theorem bb_69 : sx_by 69 = cX7_seen := rfl
theorem oo_69 : (sx_nm 69).cls = "StrawGarrison" := rfl
theorem mm_69 : sx_ml 69 = 4 := rfl
theorem rr_69 : sx_rt 69 = (some .int) := rfl
def x69_50 : List sx_E := (.ireturn, 50, 51, [0], .null) :: []
theorem ox69_50 : sx_oks 69 x69_50 := ⟨sx_q_iret0 (sx_dd bb_69 dX7_seen_50) rr_69, trivial⟩
def x69_49 : List sx_E := (.iload 2, 49, 50, [], .null) :: x69_50
theorem ox69_49 : sx_oks 69 x69_49 := ⟨Or.inr ⟨_, (sx_dd bb_69 dX7_seen_49), rfl, rfl⟩, ox69_50⟩
def x69_46 : List sx_E := (.goto (-32), 46, 49, [14], .null) :: x69_49
theorem ox69_46 : sx_oks 69 x69_46 := ⟨⟨(sx_dd bb_69 dX7_seen_46), sx_t1 (by decide +kernel)⟩, ox69_49⟩
def x69_43 : List sx_E := (.iinc 3 (1), 43, 46, [], .int (nI 1)) :: x69_46
theorem ox69_43 : sx_oks 69 x69_43 := ⟨⟨sx_lt mm_69 (Nat.le_of_ble_eq_true rfl), (sx_dd bb_69 dX7_seen_43), rfl, by decide +kernel⟩, ox69_46⟩
def x69_42 : List sx_E := (.istore 2, 42, 43, [], .null) :: x69_43
theorem ox69_42 : sx_oks 69 x69_42 := ⟨⟨sx_lt mm_69 (Nat.le_of_ble_eq_true rfl), Or.inr ⟨_, (sx_dd bb_69 dX7_seen_42), rfl, rfl⟩⟩, ox69_43⟩
def x69_41 : List sx_E := (.ior, 41, 42, [], .null) :: x69_42
theorem ox69_41 : sx_oks 69 x69_41 := ⟨⟨(sx_dd bb_69 dX7_seen_41), rfl⟩, ox69_42⟩
def x69_40 : List sx_E := (.ishl, 40, 41, [], .null) :: x69_41
theorem ox69_40 : sx_oks 69 x69_40 := ⟨⟨(sx_dd bb_69 dX7_seen_40), rfl⟩, ox69_41⟩
def x69_39 : List sx_E := (.iload 3, 39, 40, [], .null) :: x69_40
theorem ox69_39 : sx_oks 69 x69_39 := ⟨Or.inr ⟨_, (sx_dd bb_69 dX7_seen_39), rfl, rfl⟩, ox69_40⟩
def x69_38 : List sx_E := (.nop, 38, 39, [], .int (nI 1)) :: x69_39
theorem ox69_38 : sx_oks 69 x69_38 := ⟨sx_k_iconst (sx_dd bb_69 dX7_seen_38) (by decide +kernel), ox69_39⟩
def x69_37 : List sx_E := (.iload 2, 37, 38, [], .null) :: x69_38
theorem ox69_37 : sx_oks 69 x69_37 := ⟨Or.inr ⟨_, (sx_dd bb_69 dX7_seen_37), rfl, rfl⟩, ox69_38⟩
def x69_34 : List sx_E := (.ifCond .eq (9), 34, 37, [43], .null) :: x69_37
theorem ox69_34 : sx_oks 69 x69_34 := ⟨⟨(sx_dd bb_69 dX7_seen_34), rfl, sx_t1 (by decide +kernel)⟩, ox69_37⟩
def x69_31 : List sx_E := (.invokevirtual 146, 31, 34, [11, 3, 0, 0, 1], .null) :: x69_34
theorem ox69_31 : sx_oks 69 x69_31 := ⟨sx_q_V (w := (RX1, TX1, 11)) (sx_dd bb_69 dX7_seen_31) oo_69 lk_StrawGarrison_146_V ft_11_h (Nat.le_of_ble_eq_true rfl) rfl rfl, ox69_34⟩
def x69_30 : List sx_E := (.iload 1, 30, 31, [], .null) :: x69_31
theorem ox69_30 : sx_oks 69 x69_30 := ⟨Or.inr ⟨_, (sx_dd bb_69 dX7_seen_30), rfl, rfl⟩, ox69_31⟩
def x69_29 : List sx_E := (.iload 3, 29, 30, [], .null) :: x69_30
theorem ox69_29 : sx_oks 69 x69_29 := ⟨Or.inr ⟨_, (sx_dd bb_69 dX7_seen_29), rfl, rfl⟩, ox69_30⟩
def x69_26 : List sx_E := (.getfield 10, 26, 29, [6, 1, 1], .null) :: x69_29
theorem ox69_26 : sx_oks 69 x69_26 := ⟨sx_q_get (w := (RX7, TX7, 12)) (sx_dd bb_69 dX7_seen_26) rfl rfl (Nat.le_of_ble_eq_true rfl) cu_6 (sx_ow3 oo_69 fl_StrawGarrison_10) (by decide +kernel), ox69_29⟩
def x69_25 : List sx_E := (.aload 0, 25, 26, [], .null) :: x69_26
theorem ox69_25 : sx_oks 69 x69_25 := ⟨Or.inr ⟨_, (sx_dd bb_69 dX7_seen_25), rfl, rfl⟩, ox69_26⟩
def x69_22 : List sx_E := (.if_icmp .ge (27), 22, 25, [49], .null) :: x69_25
theorem ox69_22 : sx_oks 69 x69_22 := ⟨⟨(sx_dd bb_69 dX7_seen_22), rfl, sx_t1 (by decide +kernel)⟩, ox69_25⟩
def x69_19 : List sx_E := (.getfield 83, 19, 22, [1, 1, 0], .null) :: x69_22
theorem ox69_19 : sx_oks 69 x69_19 := ⟨sx_q_get (w := (RX1, TX1, 11)) (sx_dd bb_69 dX7_seen_19) rfl rfl (Nat.le_of_ble_eq_true rfl) cu_1 (sx_ow3 oo_69 fl_StrawGarrison_83) (by decide +kernel), ox69_22⟩
def x69_16 : List sx_E := (.getfield 10, 16, 19, [6, 1, 1], .null) :: x69_19
theorem ox69_16 : sx_oks 69 x69_16 := ⟨sx_q_get (w := (RX7, TX7, 12)) (sx_dd bb_69 dX7_seen_16) rfl rfl (Nat.le_of_ble_eq_true rfl) cu_6 (sx_ow3 oo_69 fl_StrawGarrison_10) (by decide +kernel), ox69_19⟩
def x69_15 : List sx_E := (.aload 0, 15, 16, [], .null) :: x69_16
theorem ox69_15 : sx_oks 69 x69_15 := ⟨Or.inr ⟨_, (sx_dd bb_69 dX7_seen_15), rfl, rfl⟩, ox69_16⟩
def x69_14 : List sx_E := (.iload 3, 14, 15, [], .null) :: x69_15
theorem ox69_14 : sx_oks 69 x69_14 := ⟨Or.inr ⟨_, (sx_dd bb_69 dX7_seen_14), rfl, rfl⟩, ox69_15⟩
def x69_14h : List sx_E := (.monitorenter, 14, 14, [0, 1, 2, 3], .null) :: x69_14
theorem ox69_14h : sx_oks 69 x69_14h := ⟨trivial, ox69_14⟩
def x69_13 : List sx_E := (.istore 3, 13, 14, [], .null) :: x69_14h
theorem ox69_13 : sx_oks 69 x69_13 := ⟨⟨sx_lt mm_69 (Nat.le_of_ble_eq_true rfl), Or.inr ⟨_, (sx_dd bb_69 dX7_seen_13), rfl, rfl⟩⟩, ox69_14h⟩
def x69_12 : List sx_E := (.nop, 12, 13, [], .int (nI 0)) :: x69_13
theorem ox69_12 : sx_oks 69 x69_12 := ⟨sx_k_iconst (sx_dd bb_69 dX7_seen_12) (by decide +kernel), ox69_13⟩
def x69_11 : List sx_E := (.istore 2, 11, 12, [], .null) :: x69_12
theorem ox69_11 : sx_oks 69 x69_11 := ⟨⟨sx_lt mm_69 (Nat.le_of_ble_eq_true rfl), Or.inr ⟨_, (sx_dd bb_69 dX7_seen_11), rfl, rfl⟩⟩, ox69_12⟩
def x69_10 : List sx_E := (.nop, 10, 11, [], .int (nI 0)) :: x69_11
theorem ox69_10 : sx_oks 69 x69_10 := ⟨sx_k_iconst (sx_dd bb_69 dX7_seen_10) (by decide +kernel), ox69_11⟩
def x69_9 : List sx_E := (.ireturn, 9, 10, [0], .null) :: x69_10
theorem ox69_9 : sx_oks 69 x69_9 := ⟨sx_q_iret0 (sx_dd bb_69 dX7_seen_9) rr_69, ox69_10⟩
def x69_7 : List sx_E := (.nop, 7, 9, [], .int ((-1000000001))) :: x69_9
theorem ox69_7 : sx_oks 69 x69_7 := ⟨sx_k_ldc (sx_dd bb_69 dX7_seen_7) (sx_ow1 oo_69 kc_StrawGarrison_76), ox69_9⟩
def x69_4 : List sx_E := (.ifCond .ne (6), 4, 7, [10], .null) :: x69_7
theorem ox69_4 : sx_oks 69 x69_4 := ⟨⟨(sx_dd bb_69 dX7_seen_4), rfl, sx_t1 (by decide +kernel)⟩, ox69_7⟩
def x69_1 : List sx_E := (.invokestatic 69, 1, 4, [103, 1, 0, 0], .null) :: x69_4
theorem ox69_1 : sx_oks 69 x69_1 := ⟨sx_q_S (sx_dd bb_69 dX7_seen_1) oo_69 lk_StrawGarrison_69_S ft_103_h, ox69_4⟩
def x69_0 : List sx_E := (.iload 1, 0, 1, [], .null) :: x69_1
theorem ox69_0 : sx_oks 69 x69_0 := ⟨Or.inr ⟨_, (sx_dd bb_69 dX7_seen_0), rfl, rfl⟩, ox69_1⟩
theorem m69 : sx_mok 69 x69_0 := ⟨ox69_0, by decide +kernel⟩
theorem bb_70 : sx_by 70 = cX7_nights := rfl
theorem oo_70 : (sx_nm 70).cls = "StrawGarrison" := rfl
theorem mm_70 : sx_ml 70 = 5 := rfl
theorem rr_70 : sx_rt 70 = (some .int) := rfl
def x70_60 : List sx_E := (.ireturn, 60, 61, [0], .null) :: []
theorem ox70_60 : sx_oks 70 x70_60 := ⟨sx_q_iret0 (sx_dd bb_70 dX7_nights_60) rr_70, trivial⟩
def x70_59 : List sx_E := (.iload 3, 59, 60, [], .null) :: x70_60
theorem ox70_59 : sx_oks 70 x70_59 := ⟨Or.inr ⟨_, (sx_dd bb_70 dX7_nights_59), rfl, rfl⟩, ox70_60⟩
def x70_56 : List sx_E := (.goto (-22), 56, 59, [34], .null) :: x70_59
theorem ox70_56 : sx_oks 70 x70_56 := ⟨⟨(sx_dd bb_70 dX7_nights_56), sx_t1 (by decide +kernel)⟩, ox70_59⟩
def x70_53 : List sx_E := (.iinc 4 (1), 53, 56, [], .int (nI 1)) :: x70_56
theorem ox70_53 : sx_oks 70 x70_53 := ⟨⟨sx_lt mm_70 (Nat.le_of_ble_eq_true rfl), (sx_dd bb_70 dX7_nights_53), rfl, by decide +kernel⟩, ox70_56⟩
def x70_50 : List sx_E := (.iinc 3 (1), 50, 53, [], .int (nI 1)) :: x70_53
theorem ox70_50 : sx_oks 70 x70_50 := ⟨⟨sx_lt mm_70 (Nat.le_of_ble_eq_true rfl), (sx_dd bb_70 dX7_nights_50), rfl, by decide +kernel⟩, ox70_53⟩
def x70_47 : List sx_E := (.ifCond .eq (6), 47, 50, [53], .null) :: x70_50
theorem ox70_47 : sx_oks 70 x70_47 := ⟨⟨(sx_dd bb_70 dX7_nights_47), rfl, sx_t1 (by decide +kernel)⟩, ox70_50⟩
def x70_44 : List sx_E := (.invokevirtual 152, 44, 47, [19, 1, 0, 0, 1], .null) :: x70_47
theorem ox70_44 : sx_oks 70 x70_44 := ⟨sx_q_V (w := (RX1, TX1, 11)) (sx_dd bb_70 dX7_nights_44) oo_70 lk_StrawGarrison_152_V ft_19_h (Nat.le_of_ble_eq_true rfl) rfl rfl, ox70_47⟩
def x70_41 : List sx_E := (.getfield 10, 41, 44, [6, 1, 1], .null) :: x70_44
theorem ox70_41 : sx_oks 70 x70_41 := ⟨sx_q_get (w := (RX7, TX7, 12)) (sx_dd bb_70 dX7_nights_41) rfl rfl (Nat.le_of_ble_eq_true rfl) cu_6 (sx_ow3 oo_70 fl_StrawGarrison_10) (by decide +kernel), ox70_44⟩
def x70_40 : List sx_E := (.aload 0, 40, 41, [], .null) :: x70_41
theorem ox70_40 : sx_oks 70 x70_40 := ⟨Or.inr ⟨_, (sx_dd bb_70 dX7_nights_40), rfl, rfl⟩, ox70_41⟩
def x70_37 : List sx_E := (.if_icmp .ge (22), 37, 40, [59], .null) :: x70_40
theorem ox70_37 : sx_oks 70 x70_37 := ⟨⟨(sx_dd bb_70 dX7_nights_37), rfl, sx_t1 (by decide +kernel)⟩, ox70_40⟩
def x70_36 : List sx_E := (.iload 2, 36, 37, [], .null) :: x70_37
theorem ox70_36 : sx_oks 70 x70_36 := ⟨Or.inr ⟨_, (sx_dd bb_70 dX7_nights_36), rfl, rfl⟩, ox70_37⟩
def x70_34 : List sx_E := (.iload 4, 34, 36, [], .null) :: x70_36
theorem ox70_34 : sx_oks 70 x70_34 := ⟨Or.inl ⟨(sx_dd bb_70 dX7_nights_34), rfl⟩, ox70_36⟩
def x70_34h : List sx_E := (.monitorenter, 34, 34, [0, 2, 3, 4], .null) :: x70_34
theorem ox70_34h : sx_oks 70 x70_34h := ⟨trivial, ox70_34⟩
def x70_32 : List sx_E := (.istore 4, 32, 34, [], .null) :: x70_34h
theorem ox70_32 : sx_oks 70 x70_32 := ⟨⟨sx_lt mm_70 (Nat.le_of_ble_eq_true rfl), Or.inl ⟨(sx_dd bb_70 dX7_nights_32), rfl⟩⟩, ox70_34h⟩
def x70_31 : List sx_E := (.nop, 31, 32, [], .int (nI 0)) :: x70_32
theorem ox70_31 : sx_oks 70 x70_31 := ⟨sx_k_iconst (sx_dd bb_70 dX7_nights_31) (by decide +kernel), ox70_32⟩
def x70_30 : List sx_E := (.istore 3, 30, 31, [], .null) :: x70_31
theorem ox70_30 : sx_oks 70 x70_30 := ⟨⟨sx_lt mm_70 (Nat.le_of_ble_eq_true rfl), Or.inr ⟨_, (sx_dd bb_70 dX7_nights_30), rfl, rfl⟩⟩, ox70_31⟩
def x70_29 : List sx_E := (.nop, 29, 30, [], .int (nI 0)) :: x70_30
theorem ox70_29 : sx_oks 70 x70_29 := ⟨sx_k_iconst (sx_dd bb_70 dX7_nights_29) (by decide +kernel), ox70_30⟩
def x70_28 : List sx_E := (.istore 2, 28, 29, [], .null) :: x70_29
theorem ox70_28 : sx_oks 70 x70_28 := ⟨⟨sx_lt mm_70 (Nat.le_of_ble_eq_true rfl), Or.inr ⟨_, (sx_dd bb_70 dX7_nights_28), rfl, rfl⟩⟩, ox70_29⟩
def x70_25 : List sx_E := (.invokestatic 135, 25, 28, [214, 2, 0, 0], .null) :: x70_28
theorem ox70_25 : sx_oks 70 x70_25 := ⟨sx_q_S (sx_dd bb_70 dX7_nights_25) oo_70 lk_StrawGarrison_135_S ft_214_h, ox70_28⟩
def x70_24 : List sx_E := (.isub, 24, 25, [], .null) :: x70_25
theorem ox70_24 : sx_oks 70 x70_24 := ⟨⟨(sx_dd bb_70 dX7_nights_24), rfl⟩, ox70_25⟩
def x70_21 : List sx_E := (.getfield 149, 21, 24, [1, 9, 0], .null) :: x70_24
theorem ox70_21 : sx_oks 70 x70_21 := ⟨sx_q_get (w := (RX1, TX1, 11)) (sx_dd bb_70 dX7_nights_21) rfl rfl (Nat.le_of_ble_eq_true rfl) cu_1 (sx_ow3 oo_70 fl_StrawGarrison_149) (by decide +kernel), ox70_24⟩
def x70_18 : List sx_E := (.getfield 10, 18, 21, [6, 1, 1], .null) :: x70_21
theorem ox70_18 : sx_oks 70 x70_18 := ⟨sx_q_get (w := (RX7, TX7, 12)) (sx_dd bb_70 dX7_nights_18) rfl rfl (Nat.le_of_ble_eq_true rfl) cu_6 (sx_ow3 oo_70 fl_StrawGarrison_10) (by decide +kernel), ox70_21⟩
def x70_17 : List sx_E := (.aload 0, 17, 18, [], .null) :: x70_18
theorem ox70_17 : sx_oks 70 x70_17 := ⟨Or.inr ⟨_, (sx_dd bb_70 dX7_nights_17), rfl, rfl⟩, ox70_18⟩
def x70_14 : List sx_E := (.nop, 14, 17, [], .int (nI 9999)) :: x70_17
theorem ox70_14 : sx_oks 70 x70_14 := ⟨sx_k_sipush (sx_dd bb_70 dX7_nights_14) (by decide +kernel), ox70_17⟩
def x70_13 : List sx_E := (.iload 1, 13, 14, [], .null) :: x70_14
theorem ox70_13 : sx_oks 70 x70_13 := ⟨Or.inr ⟨_, (sx_dd bb_70 dX7_nights_13), rfl, rfl⟩, ox70_14⟩
def x70_12 : List sx_E := (.ireturn, 12, 13, [0], .null) :: x70_13
theorem ox70_12 : sx_oks 70 x70_12 := ⟨sx_q_iret0 (sx_dd bb_70 dX7_nights_12) rr_70, ox70_13⟩
def x70_10 : List sx_E := (.nop, 10, 12, [], .int ((-1000000001))) :: x70_12
theorem ox70_10 : sx_oks 70 x70_10 := ⟨sx_k_ldc (sx_dd bb_70 dX7_nights_10) (sx_ow1 oo_70 kc_StrawGarrison_76), ox70_12⟩
def x70_7 : List sx_E := (.ifCond .ne (6), 7, 10, [13], .null) :: x70_10
theorem ox70_7 : sx_oks 70 x70_7 := ⟨⟨(sx_dd bb_70 dX7_nights_7), rfl, sx_t1 (by decide +kernel)⟩, ox70_10⟩
def x70_4 : List sx_E := (.invokestatic 72, 4, 7, [106, 3, 0, 0], .null) :: x70_7
theorem ox70_4 : sx_oks 70 x70_4 := ⟨sx_q_S (sx_dd bb_70 dX7_nights_4) oo_70 lk_StrawGarrison_72_S ft_106_h, ox70_7⟩
def x70_2 : List sx_E := (.nop, 2, 4, [], .int (nI 100)) :: x70_4
theorem ox70_2 : sx_oks 70 x70_2 := ⟨sx_k_bipush (sx_dd bb_70 dX7_nights_2) (by decide +kernel), ox70_4⟩
def x70_1 : List sx_E := (.nop, 1, 2, [], .int (nI 1)) :: x70_2
theorem ox70_1 : sx_oks 70 x70_1 := ⟨sx_k_iconst (sx_dd bb_70 dX7_nights_1) (by decide +kernel), ox70_2⟩
def x70_0 : List sx_E := (.iload 1, 0, 1, [], .null) :: x70_1
theorem ox70_0 : sx_oks 70 x70_0 := ⟨Or.inr ⟨_, (sx_dd bb_70 dX7_nights_0), rfl, rfl⟩, ox70_1⟩
theorem m70 : sx_mok 70 x70_0 := ⟨ox70_0, by decide +kernel⟩
theorem bb_71 : sx_by 71 = cX7_border := rfl
theorem oo_71 : (sx_nm 71).cls = "StrawGarrison" := rfl
theorem mm_71 : sx_ml 71 = 2 := rfl
theorem rr_71 : sx_rt 71 = (some .int) := rfl
def x71_108 : List sx_E := (.ireturn, 108, 109, [0], .null) :: []
theorem ox71_108 : sx_oks 71 x71_108 := ⟨sx_q_iret0 (sx_dd bb_71 dX7_border_108) rr_71, trivial⟩
def x71_106 : List sx_E := (.nop, 106, 108, [], .int ((-1000000001))) :: x71_108
theorem ox71_106 : sx_oks 71 x71_106 := ⟨sx_k_ldc (sx_dd bb_71 dX7_border_106) (sx_ow1 oo_71 kc_StrawGarrison_76), ox71_108⟩
def x71_105 : List sx_E := (.ireturn, 105, 106, [0], .null) :: x71_106
theorem ox71_105 : sx_oks 71 x71_105 := ⟨sx_q_iret0 (sx_dd bb_71 dX7_border_105) rr_71, ox71_106⟩
def x71_102 : List sx_E := (.invokevirtual 169, 102, 105, [17, 1, 0, 0, 1], .null) :: x71_105
theorem ox71_102 : sx_oks 71 x71_102 := ⟨sx_q_V (w := (RX1, TX1, 11)) (sx_dd bb_71 dX7_border_102) oo_71 lk_StrawGarrison_169_V ft_17_h (Nat.le_of_ble_eq_true rfl) rfl rfl, ox71_105⟩
def x71_99 : List sx_E := (.getfield 10, 99, 102, [6, 1, 1], .null) :: x71_102
theorem ox71_99 : sx_oks 71 x71_99 := ⟨sx_q_get (w := (RX7, TX7, 12)) (sx_dd bb_71 dX7_border_99) rfl rfl (Nat.le_of_ble_eq_true rfl) cu_6 (sx_ow3 oo_71 fl_StrawGarrison_10) (by decide +kernel), ox71_102⟩
def x71_98 : List sx_E := (.aload 0, 98, 99, [], .null) :: x71_99
theorem ox71_98 : sx_oks 71 x71_98 := ⟨Or.inr ⟨_, (sx_dd bb_71 dX7_border_98), rfl, rfl⟩, ox71_99⟩
def x71_97 : List sx_E := (.ireturn, 97, 98, [0], .null) :: x71_98
theorem ox71_97 : sx_oks 71 x71_97 := ⟨sx_q_iret0 (sx_dd bb_71 dX7_border_97) rr_71, ox71_98⟩
def x71_94 : List sx_E := (.invokevirtual 166, 94, 97, [16, 1, 0, 0, 1], .null) :: x71_97
theorem ox71_94 : sx_oks 71 x71_94 := ⟨sx_q_V (w := (RX1, TX1, 11)) (sx_dd bb_71 dX7_border_94) oo_71 lk_StrawGarrison_166_V ft_16_h (Nat.le_of_ble_eq_true rfl) rfl rfl, ox71_97⟩
def x71_91 : List sx_E := (.getfield 10, 91, 94, [6, 1, 1], .null) :: x71_94
theorem ox71_91 : sx_oks 71 x71_91 := ⟨sx_q_get (w := (RX7, TX7, 12)) (sx_dd bb_71 dX7_border_91) rfl rfl (Nat.le_of_ble_eq_true rfl) cu_6 (sx_ow3 oo_71 fl_StrawGarrison_10) (by decide +kernel), ox71_94⟩
def x71_90 : List sx_E := (.aload 0, 90, 91, [], .null) :: x71_91
theorem ox71_90 : sx_oks 71 x71_90 := ⟨Or.inr ⟨_, (sx_dd bb_71 dX7_border_90), rfl, rfl⟩, ox71_91⟩
def x71_89 : List sx_E := (.ireturn, 89, 90, [0], .null) :: x71_90
theorem ox71_89 : sx_oks 71 x71_89 := ⟨sx_q_iret0 (sx_dd bb_71 dX7_border_89) rr_71, ox71_90⟩
def x71_86 : List sx_E := (.invokevirtual 163, 86, 89, [15, 1, 0, 0, 1], .null) :: x71_89
theorem ox71_86 : sx_oks 71 x71_86 := ⟨sx_q_V (w := (RX1, TX1, 11)) (sx_dd bb_71 dX7_border_86) oo_71 lk_StrawGarrison_163_V ft_15_h (Nat.le_of_ble_eq_true rfl) rfl rfl, ox71_89⟩
def x71_83 : List sx_E := (.getfield 10, 83, 86, [6, 1, 1], .null) :: x71_86
theorem ox71_83 : sx_oks 71 x71_83 := ⟨sx_q_get (w := (RX7, TX7, 12)) (sx_dd bb_71 dX7_border_83) rfl rfl (Nat.le_of_ble_eq_true rfl) cu_6 (sx_ow3 oo_71 fl_StrawGarrison_10) (by decide +kernel), ox71_86⟩
def x71_82 : List sx_E := (.aload 0, 82, 83, [], .null) :: x71_83
theorem ox71_82 : sx_oks 71 x71_82 := ⟨Or.inr ⟨_, (sx_dd bb_71 dX7_border_82), rfl, rfl⟩, ox71_83⟩
def x71_81 : List sx_E := (.ireturn, 81, 82, [0], .null) :: x71_82
theorem ox71_81 : sx_oks 71 x71_81 := ⟨sx_q_iret0 (sx_dd bb_71 dX7_border_81) rr_71, ox71_82⟩
def x71_78 : List sx_E := (.invokevirtual 159, 78, 81, [14, 1, 0, 0, 1], .null) :: x71_81
theorem ox71_78 : sx_oks 71 x71_78 := ⟨sx_q_V (w := (RX1, TX1, 11)) (sx_dd bb_71 dX7_border_78) oo_71 lk_StrawGarrison_159_V ft_14_h (Nat.le_of_ble_eq_true rfl) rfl rfl, ox71_81⟩
def x71_75 : List sx_E := (.getfield 10, 75, 78, [6, 1, 1], .null) :: x71_78
theorem ox71_75 : sx_oks 71 x71_75 := ⟨sx_q_get (w := (RX7, TX7, 12)) (sx_dd bb_71 dX7_border_75) rfl rfl (Nat.le_of_ble_eq_true rfl) cu_6 (sx_ow3 oo_71 fl_StrawGarrison_10) (by decide +kernel), ox71_78⟩
def x71_74 : List sx_E := (.aload 0, 74, 75, [], .null) :: x71_75
theorem ox71_74 : sx_oks 71 x71_74 := ⟨Or.inr ⟨_, (sx_dd bb_71 dX7_border_74), rfl, rfl⟩, ox71_75⟩
def x71_73 : List sx_E := (.ireturn, 73, 74, [0], .null) :: x71_74
theorem ox71_73 : sx_oks 71 x71_73 := ⟨sx_q_iret0 (sx_dd bb_71 dX7_border_73) rr_71, ox71_74⟩
def x71_72 : List sx_E := (.iaload, 72, 73, [], .null) :: x71_73
theorem ox71_72 : sx_oks 71 x71_72 := ⟨⟨(sx_dd bb_71 dX7_border_72), rfl⟩, ox71_73⟩
def x71_71 : List sx_E := (.nop, 71, 72, [], .int (nI 2)) :: x71_72
theorem ox71_71 : sx_oks 71 x71_71 := ⟨sx_k_iconst (sx_dd bb_71 dX7_border_71) (by decide +kernel), ox71_72⟩
def x71_68 : List sx_E := (.getfield 156, 68, 71, [1, 8, 1], .null) :: x71_71
theorem ox71_68 : sx_oks 71 x71_68 := ⟨sx_q_get (w := (RX1, TX1, 11)) (sx_dd bb_71 dX7_border_68) rfl rfl (Nat.le_of_ble_eq_true rfl) cu_1 (sx_ow3 oo_71 fl_StrawGarrison_156) (by decide +kernel), ox71_71⟩
def x71_65 : List sx_E := (.getfield 10, 65, 68, [6, 1, 1], .null) :: x71_68
theorem ox71_65 : sx_oks 71 x71_65 := ⟨sx_q_get (w := (RX7, TX7, 12)) (sx_dd bb_71 dX7_border_65) rfl rfl (Nat.le_of_ble_eq_true rfl) cu_6 (sx_ow3 oo_71 fl_StrawGarrison_10) (by decide +kernel), ox71_68⟩
def x71_64 : List sx_E := (.aload 0, 64, 65, [], .null) :: x71_65
theorem ox71_64 : sx_oks 71 x71_64 := ⟨Or.inr ⟨_, (sx_dd bb_71 dX7_border_64), rfl, rfl⟩, ox71_65⟩
def x71_63 : List sx_E := (.ireturn, 63, 64, [0], .null) :: x71_64
theorem ox71_63 : sx_oks 71 x71_63 := ⟨sx_q_iret0 (sx_dd bb_71 dX7_border_63) rr_71, ox71_64⟩
def x71_62 : List sx_E := (.iaload, 62, 63, [], .null) :: x71_63
theorem ox71_62 : sx_oks 71 x71_62 := ⟨⟨(sx_dd bb_71 dX7_border_62), rfl⟩, ox71_63⟩
def x71_61 : List sx_E := (.nop, 61, 62, [], .int (nI 1)) :: x71_62
theorem ox71_61 : sx_oks 71 x71_61 := ⟨sx_k_iconst (sx_dd bb_71 dX7_border_61) (by decide +kernel), ox71_62⟩
def x71_58 : List sx_E := (.getfield 156, 58, 61, [1, 8, 1], .null) :: x71_61
theorem ox71_58 : sx_oks 71 x71_58 := ⟨sx_q_get (w := (RX1, TX1, 11)) (sx_dd bb_71 dX7_border_58) rfl rfl (Nat.le_of_ble_eq_true rfl) cu_1 (sx_ow3 oo_71 fl_StrawGarrison_156) (by decide +kernel), ox71_61⟩
def x71_55 : List sx_E := (.getfield 10, 55, 58, [6, 1, 1], .null) :: x71_58
theorem ox71_55 : sx_oks 71 x71_55 := ⟨sx_q_get (w := (RX7, TX7, 12)) (sx_dd bb_71 dX7_border_55) rfl rfl (Nat.le_of_ble_eq_true rfl) cu_6 (sx_ow3 oo_71 fl_StrawGarrison_10) (by decide +kernel), ox71_58⟩
def x71_54 : List sx_E := (.aload 0, 54, 55, [], .null) :: x71_55
theorem ox71_54 : sx_oks 71 x71_54 := ⟨Or.inr ⟨_, (sx_dd bb_71 dX7_border_54), rfl, rfl⟩, ox71_55⟩
def x71_53 : List sx_E := (.ireturn, 53, 54, [0], .null) :: x71_54
theorem ox71_53 : sx_oks 71 x71_53 := ⟨sx_q_iret0 (sx_dd bb_71 dX7_border_53) rr_71, ox71_54⟩
def x71_52 : List sx_E := (.iaload, 52, 53, [], .null) :: x71_53
theorem ox71_52 : sx_oks 71 x71_52 := ⟨⟨(sx_dd bb_71 dX7_border_52), rfl⟩, ox71_53⟩
def x71_51 : List sx_E := (.nop, 51, 52, [], .int (nI 0)) :: x71_52
theorem ox71_51 : sx_oks 71 x71_51 := ⟨sx_k_iconst (sx_dd bb_71 dX7_border_51) (by decide +kernel), ox71_52⟩
def x71_48 : List sx_E := (.getfield 156, 48, 51, [1, 8, 1], .null) :: x71_51
theorem ox71_48 : sx_oks 71 x71_48 := ⟨sx_q_get (w := (RX1, TX1, 11)) (sx_dd bb_71 dX7_border_48) rfl rfl (Nat.le_of_ble_eq_true rfl) cu_1 (sx_ow3 oo_71 fl_StrawGarrison_156) (by decide +kernel), ox71_51⟩
def x71_45 : List sx_E := (.getfield 10, 45, 48, [6, 1, 1], .null) :: x71_48
theorem ox71_45 : sx_oks 71 x71_45 := ⟨sx_q_get (w := (RX7, TX7, 12)) (sx_dd bb_71 dX7_border_45) rfl rfl (Nat.le_of_ble_eq_true rfl) cu_6 (sx_ow3 oo_71 fl_StrawGarrison_10) (by decide +kernel), ox71_48⟩
def x71_44 : List sx_E := (.aload 0, 44, 45, [], .null) :: x71_45
theorem ox71_44 : sx_oks 71 x71_44 := ⟨Or.inr ⟨_, (sx_dd bb_71 dX7_border_44), rfl, rfl⟩, ox71_45⟩
def x71_1 : List sx_E := (.tableswitch 105 0 6 #[43, 53, 63, 73, 81, 89, 97], 1, 44, [0, 106, 44, 54, 64, 74, 82, 90, 98], .null) :: x71_44
theorem ox71_1 : sx_oks 71 x71_1 := ⟨⟨⟨_, (sx_dd bb_71 dX7_border_1)⟩, sx_t2 (by decide +kernel) (by decide +kernel) (Nat.le_of_ble_eq_true rfl) (by decide +kernel) (by decide +kernel)⟩, ox71_44⟩
def x71_0 : List sx_E := (.iload 1, 0, 1, [], .null) :: x71_1
theorem ox71_0 : sx_oks 71 x71_0 := ⟨Or.inr ⟨_, (sx_dd bb_71 dX7_border_0), rfl, rfl⟩, ox71_1⟩
theorem m71 : sx_mok 71 x71_0 := ⟨ox71_0, by decide +kernel⟩
