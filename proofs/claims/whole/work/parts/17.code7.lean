theorem bb_230 : sx_by 230 = cX0_take := rfl
theorem oo_230 : (sx_nm 230).cls = "StrawGarrison$Book" := rfl
theorem mm_230 : sx_ml 230 = 3 := rfl
theorem rr_230 : sx_rt 230 = (some .int) := rfl
def x230_52 : List sx_E := (.ireturn, 52, 53, [0], .null) :: []
theorem ox230_52 : sx_oks 230 x230_52 := ⟨sx_q_iret0 (sx_dd bb_230 dX0_take_52) rr_230, trivial⟩
def x230_51 : List sx_E := (.iload 2, 51, 52, [], .null) :: x230_52
theorem ox230_51 : sx_oks 230 x230_51 := ⟨Or.inr ⟨_, (sx_dd bb_230 dX0_take_51), rfl, rfl⟩, ox230_52⟩
def x230_48 : List sx_E := (.putfield 9, 48, 51, [0, 1, 0], .null) :: x230_51
theorem ox230_48 : sx_oks 230 x230_48 := ⟨sx_q_put (w := (RX0, TX0, 3)) (ty0 := tyX0) (sx_dd bb_230 dX0_take_48) rfl (Nat.le_of_ble_eq_true rfl) cu_0 (sx_ow3 oo_230 fl_StrawGarrison_Book_9) (by decide +kernel) tyX0_ok nmX0 (Or.inl rfl) (fun _ => rfl) (fun h => absurd h (by decide)) (fun h => absurd h (by decide)), ox230_51⟩
def x230_47 : List sx_E := (.iadd, 47, 48, [], .null) :: x230_48
theorem ox230_47 : sx_oks 230 x230_47 := ⟨⟨(sx_dd bb_230 dX0_take_47), rfl⟩, ox230_48⟩
def x230_46 : List sx_E := (.nop, 46, 47, [], .int (nI 1)) :: x230_47
theorem ox230_46 : sx_oks 230 x230_46 := ⟨sx_k_iconst (sx_dd bb_230 dX0_take_46) (by decide +kernel), ox230_47⟩
def x230_43 : List sx_E := (.getfield 9, 43, 46, [0, 1, 0], .null) :: x230_46
theorem ox230_43 : sx_oks 230 x230_43 := ⟨sx_q_get (w := (RX0, TX0, 3)) (sx_dd bb_230 dX0_take_43) rfl rfl (Nat.le_of_ble_eq_true rfl) cu_0 (sx_ow3 oo_230 fl_StrawGarrison_Book_9) (by decide +kernel), ox230_46⟩
def x230_42 : List sx_E := (.dup, 42, 43, [], .null) :: x230_43
theorem ox230_42 : sx_oks 230 x230_42 := ⟨⟨(sx_dd bb_230 dX0_take_42), rfl⟩, ox230_43⟩
def x230_41 : List sx_E := (.aload 0, 41, 42, [], .null) :: x230_42
theorem ox230_41 : sx_oks 230 x230_41 := ⟨Or.inr ⟨_, (sx_dd bb_230 dX0_take_41), rfl, rfl⟩, ox230_42⟩
def x230_40 : List sx_E := (.iastore, 40, 41, [], .null) :: x230_41
theorem ox230_40 : sx_oks 230 x230_40 := ⟨⟨(sx_dd bb_230 dX0_take_40), rfl⟩, ox230_41⟩
def x230_39 : List sx_E := (.iload 2, 39, 40, [], .null) :: x230_40
theorem ox230_39 : sx_oks 230 x230_39 := ⟨Or.inr ⟨_, (sx_dd bb_230 dX0_take_39), rfl, rfl⟩, ox230_40⟩
def x230_36 : List sx_E := (.getfield 36, 36, 39, [2, 0, 0], .null) :: x230_39
theorem ox230_36 : sx_oks 230 x230_36 := ⟨sx_q_get (w := (RX3, TX3, 10)) (sx_dd bb_230 dX0_take_36) rfl rfl (Nat.le_of_ble_eq_true rfl) cu_2 (sx_ow3 oo_230 fl_StrawGarrison_Book_36) (by decide +kernel), ox230_39⟩
def x230_35 : List sx_E := (.aload 1, 35, 36, [], .null) :: x230_36
theorem ox230_35 : sx_oks 230 x230_35 := ⟨Or.inr ⟨_, (sx_dd bb_230 dX0_take_35), rfl, rfl⟩, ox230_36⟩
def x230_32 : List sx_E := (.getfield 22, 32, 35, [0, 2, 1], .null) :: x230_35
theorem ox230_32 : sx_oks 230 x230_32 := ⟨sx_q_get (w := (RX0, TX0, 3)) (sx_dd bb_230 dX0_take_32) rfl rfl (Nat.le_of_ble_eq_true rfl) cu_0 (sx_ow3 oo_230 fl_StrawGarrison_Book_22) (by decide +kernel), ox230_35⟩
def x230_31 : List sx_E := (.aload 0, 31, 32, [], .null) :: x230_32
theorem ox230_31 : sx_oks 230 x230_31 := ⟨Or.inr ⟨_, (sx_dd bb_230 dX0_take_31), rfl, rfl⟩, ox230_32⟩
def x230_30 : List sx_E := (.aastore, 30, 31, [], .null) :: x230_31
theorem ox230_30 : sx_oks 230 x230_30 := ⟨⟨(sx_dd bb_230 dX0_take_30), rfl⟩, ox230_31⟩
def x230_27 : List sx_E := (.invokespecial 33, 27, 30, [57, 2, 2, 192], .null) :: x230_30
theorem ox230_27 : sx_oks 230 x230_27 := ⟨sx_q_I (sx_dd bb_230 dX0_take_27) oo_230 lk_StrawGarrison_Book_33_I ft_57_h, ox230_30⟩
def x230_26 : List sx_E := (.aload 1, 26, 27, [], .null) :: x230_27
theorem ox230_26 : sx_oks 230 x230_26 := ⟨Or.inr ⟨_, (sx_dd bb_230 dX0_take_26), rfl, rfl⟩, ox230_27⟩
def x230_25 : List sx_E := (.dup, 25, 26, [], .null) :: x230_26
theorem ox230_25 : sx_oks 230 x230_25 := ⟨⟨(sx_dd bb_230 dX0_take_25), rfl⟩, ox230_26⟩
def x230_22 : List sx_E := (.new 15, 22, 25, [5, 4], .null) :: x230_25
theorem ox230_22 : sx_oks 230 x230_22 := ⟨sx_q_new (w := (RX6, TX6, 4)) (ty0 := tyX6) (sx_dd bb_230 dX0_take_22) rfl rfl cu_5 tyX6_ok (sx_ow4 oo_230 cl_StrawGarrison_Book_15) ci_5 cn_5 (by decide +kernel), ox230_25⟩
def x230_21 : List sx_E := (.iload 2, 21, 22, [], .null) :: x230_22
theorem ox230_21 : sx_oks 230 x230_21 := ⟨Or.inr ⟨_, (sx_dd bb_230 dX0_take_21), rfl, rfl⟩, ox230_22⟩
def x230_18 : List sx_E := (.getfield 17, 18, 21, [0, 0, 1], .null) :: x230_21
theorem ox230_18 : sx_oks 230 x230_18 := ⟨sx_q_get (w := (RX0, TX0, 3)) (sx_dd bb_230 dX0_take_18) rfl rfl (Nat.le_of_ble_eq_true rfl) cu_0 (sx_ow3 oo_230 fl_StrawGarrison_Book_17) (by decide +kernel), ox230_21⟩
def x230_17 : List sx_E := (.aload 0, 17, 18, [], .null) :: x230_18
theorem ox230_17 : sx_oks 230 x230_17 := ⟨Or.inr ⟨_, (sx_dd bb_230 dX0_take_17), rfl, rfl⟩, ox230_18⟩
def x230_16 : List sx_E := (.istore 2, 16, 17, [], .null) :: x230_17
theorem ox230_16 : sx_oks 230 x230_16 := ⟨⟨sx_lt mm_230 (Nat.le_of_ble_eq_true rfl), Or.inr ⟨_, (sx_dd bb_230 dX0_take_16), rfl, rfl⟩⟩, ox230_17⟩
def x230_13 : List sx_E := (.getfield 9, 13, 16, [0, 1, 0], .null) :: x230_16
theorem ox230_13 : sx_oks 230 x230_13 := ⟨sx_q_get (w := (RX0, TX0, 3)) (sx_dd bb_230 dX0_take_13) rfl rfl (Nat.le_of_ble_eq_true rfl) cu_0 (sx_ow3 oo_230 fl_StrawGarrison_Book_9) (by decide +kernel), ox230_16⟩
def x230_12 : List sx_E := (.aload 0, 12, 13, [], .null) :: x230_13
theorem ox230_12 : sx_oks 230 x230_12 := ⟨Or.inr ⟨_, (sx_dd bb_230 dX0_take_12), rfl, rfl⟩, ox230_13⟩
def x230_11 : List sx_E := (.ireturn, 11, 12, [0], .null) :: x230_12
theorem ox230_11 : sx_oks 230 x230_11 := ⟨sx_q_iret0 (sx_dd bb_230 dX0_take_11) rr_230, ox230_12⟩
def x230_9 : List sx_E := (.nop, 9, 11, [], .int ((-1000000003))) :: x230_11
theorem ox230_9 : sx_oks 230 x230_9 := ⟨sx_k_ldc (sx_dd bb_230 dX0_take_9) (sx_ow1 oo_230 kc_StrawGarrison_Book_32), ox230_11⟩
def x230_6 : List sx_E := (.if_icmp .lt (6), 6, 9, [12], .null) :: x230_9
theorem ox230_6 : sx_oks 230 x230_6 := ⟨⟨(sx_dd bb_230 dX0_take_6), rfl, sx_t1 (by decide +kernel)⟩, ox230_9⟩
def x230_4 : List sx_E := (.nop, 4, 6, [], .int (nI 14)) :: x230_6
theorem ox230_4 : sx_oks 230 x230_4 := ⟨sx_k_bipush (sx_dd bb_230 dX0_take_4) (by decide +kernel), ox230_6⟩
def x230_1 : List sx_E := (.getfield 9, 1, 4, [0, 1, 0], .null) :: x230_4
theorem ox230_1 : sx_oks 230 x230_1 := ⟨sx_q_get (w := (RX0, TX0, 3)) (sx_dd bb_230 dX0_take_1) rfl rfl (Nat.le_of_ble_eq_true rfl) cu_0 (sx_ow3 oo_230 fl_StrawGarrison_Book_9) (by decide +kernel), ox230_4⟩
def x230_0 : List sx_E := (.aload 0, 0, 1, [], .null) :: x230_1
theorem ox230_0 : sx_oks 230 x230_0 := ⟨Or.inr ⟨_, (sx_dd bb_230 dX0_take_0), rfl, rfl⟩, ox230_1⟩
theorem m230 : sx_mok 230 x230_0 := ⟨ox230_0, by decide +kernel⟩
theorem bb_231 : sx_by 231 = cX0_textFor := rfl
theorem oo_231 : (sx_nm 231).cls = "StrawGarrison$Book" := rfl
theorem mm_231 : sx_ml 231 = 3 := rfl
theorem rr_231 : sx_rt 231 = (some (.object "StrawGarrison$Text")) := rfl
def x231_31 : List sx_E := (.areturn, 31, 32, [], .null) :: []
theorem ox231_31 : sx_oks 231 x231_31 := ⟨⟨(sx_dd bb_231 dX0_textFor_31), _, rr_231, Or.inl ⟨_, rfl⟩⟩, trivial⟩
def x231_30 : List sx_E := (.nop, 30, 31, [], .null) :: x231_31
theorem ox231_30 : sx_oks 231 x231_30 := ⟨sx_k_null (sx_dd bb_231 dX0_textFor_30), ox231_31⟩
def x231_27 : List sx_E := (.goto (4), 27, 30, [31], .null) :: x231_30
theorem ox231_27 : sx_oks 231 x231_27 := ⟨⟨(sx_dd bb_231 dX0_textFor_27), sx_t1 (by decide +kernel)⟩, ox231_30⟩
def x231_26 : List sx_E := (.aaload, 26, 27, [], .null) :: x231_27
theorem ox231_26 : sx_oks 231 x231_26 := ⟨⟨(sx_dd bb_231 dX0_textFor_26), rfl⟩, ox231_27⟩
def x231_25 : List sx_E := (.iload 2, 25, 26, [], .null) :: x231_26
theorem ox231_25 : sx_oks 231 x231_25 := ⟨Or.inr ⟨_, (sx_dd bb_231 dX0_textFor_25), rfl, rfl⟩, ox231_26⟩
def x231_22 : List sx_E := (.getfield 17, 22, 25, [0, 0, 1], .null) :: x231_25
theorem ox231_22 : sx_oks 231 x231_22 := ⟨sx_q_get (w := (RX0, TX0, 3)) (sx_dd bb_231 dX0_textFor_22) rfl rfl (Nat.le_of_ble_eq_true rfl) cu_0 (sx_ow3 oo_231 fl_StrawGarrison_Book_17) (by decide +kernel), ox231_25⟩
def x231_21 : List sx_E := (.aload 0, 21, 22, [], .null) :: x231_22
theorem ox231_21 : sx_oks 231 x231_21 := ⟨Or.inr ⟨_, (sx_dd bb_231 dX0_textFor_21), rfl, rfl⟩, ox231_22⟩
def x231_18 : List sx_E := (.ifCond .eq (12), 18, 21, [30], .null) :: x231_21
theorem ox231_18 : sx_oks 231 x231_18 := ⟨⟨(sx_dd bb_231 dX0_textFor_18), rfl, sx_t1 (by decide +kernel)⟩, ox231_21⟩
def x231_15 : List sx_E := (.invokestatic 41, 15, 18, [106, 3, 0, 0], .null) :: x231_18
theorem ox231_15 : sx_oks 231 x231_15 := ⟨sx_q_S (sx_dd bb_231 dX0_textFor_15) oo_231 lk_StrawGarrison_Book_41_S ft_106_h, ox231_18⟩
def x231_14 : List sx_E := (.isub, 14, 15, [], .null) :: x231_15
theorem ox231_14 : sx_oks 231 x231_14 := ⟨⟨(sx_dd bb_231 dX0_textFor_14), rfl⟩, ox231_15⟩
def x231_13 : List sx_E := (.nop, 13, 14, [], .int (nI 1)) :: x231_14
theorem ox231_13 : sx_oks 231 x231_13 := ⟨sx_k_iconst (sx_dd bb_231 dX0_textFor_13) (by decide +kernel), ox231_14⟩
def x231_10 : List sx_E := (.getfield 9, 10, 13, [0, 1, 0], .null) :: x231_13
theorem ox231_10 : sx_oks 231 x231_10 := ⟨sx_q_get (w := (RX0, TX0, 3)) (sx_dd bb_231 dX0_textFor_10) rfl rfl (Nat.le_of_ble_eq_true rfl) cu_0 (sx_ow3 oo_231 fl_StrawGarrison_Book_9) (by decide +kernel), ox231_13⟩
def x231_9 : List sx_E := (.aload 0, 9, 10, [], .null) :: x231_10
theorem ox231_9 : sx_oks 231 x231_9 := ⟨Or.inr ⟨_, (sx_dd bb_231 dX0_textFor_9), rfl, rfl⟩, ox231_10⟩
def x231_8 : List sx_E := (.nop, 8, 9, [], .int (nI 0)) :: x231_9
theorem ox231_8 : sx_oks 231 x231_8 := ⟨sx_k_iconst (sx_dd bb_231 dX0_textFor_8) (by decide +kernel), ox231_9⟩
def x231_7 : List sx_E := (.iload 2, 7, 8, [], .null) :: x231_8
theorem ox231_7 : sx_oks 231 x231_7 := ⟨Or.inr ⟨_, (sx_dd bb_231 dX0_textFor_7), rfl, rfl⟩, ox231_8⟩
def x231_6 : List sx_E := (.istore 2, 6, 7, [], .null) :: x231_7
theorem ox231_6 : sx_oks 231 x231_6 := ⟨⟨sx_lt mm_231 (Nat.le_of_ble_eq_true rfl), Or.inr ⟨_, (sx_dd bb_231 dX0_textFor_6), rfl, rfl⟩⟩, ox231_7⟩
def x231_5 : List sx_E := (.iaload, 5, 6, [], .null) :: x231_6
theorem ox231_5 : sx_oks 231 x231_5 := ⟨⟨(sx_dd bb_231 dX0_textFor_5), rfl⟩, ox231_6⟩
def x231_4 : List sx_E := (.iload 1, 4, 5, [], .null) :: x231_5
theorem ox231_4 : sx_oks 231 x231_4 := ⟨Or.inr ⟨_, (sx_dd bb_231 dX0_textFor_4), rfl, rfl⟩, ox231_5⟩
def x231_1 : List sx_E := (.getfield 22, 1, 4, [0, 2, 1], .null) :: x231_4
theorem ox231_1 : sx_oks 231 x231_1 := ⟨sx_q_get (w := (RX0, TX0, 3)) (sx_dd bb_231 dX0_textFor_1) rfl rfl (Nat.le_of_ble_eq_true rfl) cu_0 (sx_ow3 oo_231 fl_StrawGarrison_Book_22) (by decide +kernel), ox231_4⟩
def x231_0 : List sx_E := (.aload 0, 0, 1, [], .null) :: x231_1
theorem ox231_0 : sx_oks 231 x231_0 := ⟨Or.inr ⟨_, (sx_dd bb_231 dX0_textFor_0), rfl, rfl⟩, ox231_1⟩
theorem m231 : sx_mok 231 x231_0 := ⟨ox231_0, by decide +kernel⟩
