theorem bb_175 : sx_by 175 = cX8_isSign := rfl
theorem oo_175 : (sx_nm 175).cls = "StrawGarrisonModel" := rfl
theorem mm_175 : sx_ml 175 = 2 := rfl
theorem rr_175 : sx_rt 175 = (some .boolean) := rfl
def x175_21 : List sx_E := (.ireturn, 21, 22, [1], .null) :: []
theorem ox175_21 : sx_oks 175 x175_21 := ⟨sx_q_iret1 (sx_dd bb_175 dX8_isSign_21) rr_175, trivial⟩
def x175_20 : List sx_E := (.nop, 20, 21, [], .int (nI 0)) :: x175_21
theorem ox175_20 : sx_oks 175 x175_20 := ⟨sx_k_iconst (sx_dd bb_175 dX8_isSign_20) (by decide +kernel), ox175_21⟩
def x175_17 : List sx_E := (.goto (4), 17, 20, [21], .null) :: x175_20
theorem ox175_17 : sx_oks 175 x175_17 := ⟨⟨(sx_dd bb_175 dX8_isSign_17), sx_t1 (by decide +kernel)⟩, ox175_20⟩
def x175_16 : List sx_E := (.nop, 16, 17, [], .int (nI 1)) :: x175_17
theorem ox175_16 : sx_oks 175 x175_16 := ⟨sx_k_iconst (sx_dd bb_175 dX8_isSign_16) (by decide +kernel), ox175_17⟩
def x175_13 : List sx_E := (.if_icmp .ne (7), 13, 16, [20], .null) :: x175_16
theorem ox175_13 : sx_oks 175 x175_13 := ⟨⟨(sx_dd bb_175 dX8_isSign_13), rfl, sx_t1 (by decide +kernel)⟩, ox175_16⟩
def x175_12 : List sx_E := (.iload 1, 12, 13, [], .null) :: x175_13
theorem ox175_12 : sx_oks 175 x175_12 := ⟨Or.inr ⟨_, (sx_dd bb_175 dX8_isSign_12), rfl, rfl⟩, ox175_13⟩
def x175_9 : List sx_E := (.getfield 231, 9, 12, [7, 19, 0], .null) :: x175_12
theorem ox175_9 : sx_oks 175 x175_9 := ⟨sx_q_get (w := (RX8, TX8, 31)) (sx_dd bb_175 dX8_isSign_9) rfl rfl (Nat.le_of_ble_eq_true rfl) cu_7 (sx_ow3 oo_175 fl_StrawGarrisonModel_231) (by decide +kernel), ox175_12⟩
def x175_8 : List sx_E := (.aload 0, 8, 9, [], .null) :: x175_9
theorem ox175_8 : sx_oks 175 x175_8 := ⟨Or.inr ⟨_, (sx_dd bb_175 dX8_isSign_8), rfl, rfl⟩, ox175_9⟩
def x175_5 : List sx_E := (.if_icmp .ne (15), 5, 8, [20], .null) :: x175_8
theorem ox175_5 : sx_oks 175 x175_5 := ⟨⟨(sx_dd bb_175 dX8_isSign_5), rfl, sx_t1 (by decide +kernel)⟩, ox175_8⟩
def x175_4 : List sx_E := (.nop, 4, 5, [], .int (nI 3)) :: x175_5
theorem ox175_4 : sx_oks 175 x175_4 := ⟨sx_k_iconst (sx_dd bb_175 dX8_isSign_4) (by decide +kernel), ox175_5⟩
def x175_1 : List sx_E := (.getfield 222, 1, 4, [7, 17, 0], .null) :: x175_4
theorem ox175_1 : sx_oks 175 x175_1 := ⟨sx_q_get (w := (RX8, TX8, 31)) (sx_dd bb_175 dX8_isSign_1) rfl rfl (Nat.le_of_ble_eq_true rfl) cu_7 (sx_ow3 oo_175 fl_StrawGarrisonModel_222) (by decide +kernel), ox175_4⟩
def x175_0 : List sx_E := (.aload 0, 0, 1, [], .null) :: x175_1
theorem ox175_0 : sx_oks 175 x175_0 := ⟨Or.inr ⟨_, (sx_dd bb_175 dX8_isSign_0), rfl, rfl⟩, ox175_1⟩
theorem m175 : sx_mok 175 x175_0 := ⟨ox175_0, by decide +kernel⟩
theorem bb_176 : sx_by 176 = cX8_isWordAt := rfl
theorem oo_176 : (sx_nm 176).cls = "StrawGarrisonModel" := rfl
theorem mm_176 : sx_ml 176 = 6 := rfl
theorem rr_176 : sx_rt 176 = (some .boolean) := rfl
def x176_103 : List sx_E := (.ireturn, 103, 104, [1], .null) :: []
theorem ox176_103 : sx_oks 176 x176_103 := ⟨sx_q_iret1 (sx_dd bb_176 dX8_isWordAt_103) rr_176, trivial⟩
def x176_102 : List sx_E := (.nop, 102, 103, [], .int (nI 0)) :: x176_103
theorem ox176_102 : sx_oks 176 x176_102 := ⟨sx_k_iconst (sx_dd bb_176 dX8_isWordAt_102) (by decide +kernel), ox176_103⟩
def x176_99 : List sx_E := (.goto (4), 99, 102, [103], .null) :: x176_102
theorem ox176_99 : sx_oks 176 x176_99 := ⟨⟨(sx_dd bb_176 dX8_isWordAt_99), sx_t1 (by decide +kernel)⟩, ox176_102⟩
def x176_98 : List sx_E := (.nop, 98, 99, [], .int (nI 1)) :: x176_99
theorem ox176_98 : sx_oks 176 x176_98 := ⟨sx_k_iconst (sx_dd bb_176 dX8_isWordAt_98) (by decide +kernel), ox176_99⟩
def x176_95 : List sx_E := (.if_icmp .ne (7), 95, 98, [102], .null) :: x176_98
theorem ox176_95 : sx_oks 176 x176_95 := ⟨⟨(sx_dd bb_176 dX8_isWordAt_95), rfl, sx_t1 (by decide +kernel)⟩, ox176_98⟩
def x176_93 : List sx_E := (.iload 4, 93, 95, [], .null) :: x176_95
theorem ox176_93 : sx_oks 176 x176_93 := ⟨Or.inl ⟨(sx_dd bb_176 dX8_isWordAt_93), rfl⟩, ox176_95⟩
def x176_92 : List sx_E := (.iaload, 92, 93, [], .null) :: x176_93
theorem ox176_92 : sx_oks 176 x176_92 := ⟨⟨(sx_dd bb_176 dX8_isWordAt_92), rfl⟩, ox176_93⟩
def x176_91 : List sx_E := (.iadd, 91, 92, [], .null) :: x176_92
theorem ox176_91 : sx_oks 176 x176_91 := ⟨⟨(sx_dd bb_176 dX8_isWordAt_91), rfl⟩, ox176_92⟩
def x176_90 : List sx_E := (.nop, 90, 91, [], .int (nI 3)) :: x176_91
theorem ox176_90 : sx_oks 176 x176_90 := ⟨sx_k_iconst (sx_dd bb_176 dX8_isWordAt_90) (by decide +kernel), ox176_91⟩
def x176_87 : List sx_E := (.getfield 225, 87, 90, [7, 15, 0], .null) :: x176_90
theorem ox176_87 : sx_oks 176 x176_87 := ⟨sx_q_get (w := (RX8, TX8, 31)) (sx_dd bb_176 dX8_isWordAt_87) rfl rfl (Nat.le_of_ble_eq_true rfl) cu_7 (sx_ow3 oo_176 fl_StrawGarrisonModel_225) (by decide +kernel), ox176_90⟩
def x176_86 : List sx_E := (.aload 0, 86, 87, [], .null) :: x176_87
theorem ox176_86 : sx_oks 176 x176_86 := ⟨Or.inr ⟨_, (sx_dd bb_176 dX8_isWordAt_86), rfl, rfl⟩, ox176_87⟩
def x176_83 : List sx_E := (.getfield 46, 83, 86, [7, 13, 1], .null) :: x176_86
theorem ox176_83 : sx_oks 176 x176_83 := ⟨sx_q_get (w := (RX8, TX8, 31)) (sx_dd bb_176 dX8_isWordAt_83) rfl rfl (Nat.le_of_ble_eq_true rfl) cu_7 (sx_ow3 oo_176 fl_StrawGarrisonModel_46) (by decide +kernel), ox176_86⟩
def x176_82 : List sx_E := (.aload 0, 82, 83, [], .null) :: x176_83
theorem ox176_82 : sx_oks 176 x176_82 := ⟨Or.inr ⟨_, (sx_dd bb_176 dX8_isWordAt_82), rfl, rfl⟩, ox176_83⟩
def x176_79 : List sx_E := (.ifCond .eq (19), 79, 82, [98], .null) :: x176_82
theorem ox176_79 : sx_oks 176 x176_79 := ⟨⟨(sx_dd bb_176 dX8_isWordAt_79), rfl, sx_t1 (by decide +kernel)⟩, ox176_82⟩
def x176_77 : List sx_E := (.iload 4, 77, 79, [], .null) :: x176_79
theorem ox176_77 : sx_oks 176 x176_77 := ⟨Or.inl ⟨(sx_dd bb_176 dX8_isWordAt_77), rfl⟩, ox176_79⟩
def x176_74 : List sx_E := (.if_icmp .ne (28), 74, 77, [102], .null) :: x176_77
theorem ox176_74 : sx_oks 176 x176_74 := ⟨⟨(sx_dd bb_176 dX8_isWordAt_74), rfl, sx_t1 (by decide +kernel)⟩, ox176_77⟩
def x176_73 : List sx_E := (.iload 3, 73, 74, [], .null) :: x176_74
theorem ox176_73 : sx_oks 176 x176_73 := ⟨Or.inr ⟨_, (sx_dd bb_176 dX8_isWordAt_73), rfl, rfl⟩, ox176_74⟩
def x176_72 : List sx_E := (.iaload, 72, 73, [], .null) :: x176_73
theorem ox176_72 : sx_oks 176 x176_72 := ⟨⟨(sx_dd bb_176 dX8_isWordAt_72), rfl⟩, ox176_73⟩
def x176_71 : List sx_E := (.iadd, 71, 72, [], .null) :: x176_72
theorem ox176_71 : sx_oks 176 x176_71 := ⟨⟨(sx_dd bb_176 dX8_isWordAt_71), rfl⟩, ox176_72⟩
def x176_70 : List sx_E := (.nop, 70, 71, [], .int (nI 2)) :: x176_71
theorem ox176_70 : sx_oks 176 x176_70 := ⟨sx_k_iconst (sx_dd bb_176 dX8_isWordAt_70) (by decide +kernel), ox176_71⟩
def x176_67 : List sx_E := (.getfield 225, 67, 70, [7, 15, 0], .null) :: x176_70
theorem ox176_67 : sx_oks 176 x176_67 := ⟨sx_q_get (w := (RX8, TX8, 31)) (sx_dd bb_176 dX8_isWordAt_67) rfl rfl (Nat.le_of_ble_eq_true rfl) cu_7 (sx_ow3 oo_176 fl_StrawGarrisonModel_225) (by decide +kernel), ox176_70⟩
def x176_66 : List sx_E := (.aload 0, 66, 67, [], .null) :: x176_67
theorem ox176_66 : sx_oks 176 x176_66 := ⟨Or.inr ⟨_, (sx_dd bb_176 dX8_isWordAt_66), rfl, rfl⟩, ox176_67⟩
def x176_63 : List sx_E := (.getfield 46, 63, 66, [7, 13, 1], .null) :: x176_66
theorem ox176_63 : sx_oks 176 x176_63 := ⟨sx_q_get (w := (RX8, TX8, 31)) (sx_dd bb_176 dX8_isWordAt_63) rfl rfl (Nat.le_of_ble_eq_true rfl) cu_7 (sx_ow3 oo_176 fl_StrawGarrisonModel_46) (by decide +kernel), ox176_66⟩
def x176_62 : List sx_E := (.aload 0, 62, 63, [], .null) :: x176_63
theorem ox176_62 : sx_oks 176 x176_62 := ⟨Or.inr ⟨_, (sx_dd bb_176 dX8_isWordAt_62), rfl, rfl⟩, ox176_63⟩
def x176_59 : List sx_E := (.if_icmp .ne (43), 59, 62, [102], .null) :: x176_62
theorem ox176_59 : sx_oks 176 x176_59 := ⟨⟨(sx_dd bb_176 dX8_isWordAt_59), rfl, sx_t1 (by decide +kernel)⟩, ox176_62⟩
def x176_58 : List sx_E := (.iload 2, 58, 59, [], .null) :: x176_59
theorem ox176_58 : sx_oks 176 x176_58 := ⟨Or.inr ⟨_, (sx_dd bb_176 dX8_isWordAt_58), rfl, rfl⟩, ox176_59⟩
def x176_57 : List sx_E := (.iaload, 57, 58, [], .null) :: x176_58
theorem ox176_57 : sx_oks 176 x176_57 := ⟨⟨(sx_dd bb_176 dX8_isWordAt_57), rfl⟩, ox176_58⟩
def x176_56 : List sx_E := (.iadd, 56, 57, [], .null) :: x176_57
theorem ox176_56 : sx_oks 176 x176_56 := ⟨⟨(sx_dd bb_176 dX8_isWordAt_56), rfl⟩, ox176_57⟩
def x176_55 : List sx_E := (.nop, 55, 56, [], .int (nI 1)) :: x176_56
theorem ox176_55 : sx_oks 176 x176_55 := ⟨sx_k_iconst (sx_dd bb_176 dX8_isWordAt_55) (by decide +kernel), ox176_56⟩
def x176_52 : List sx_E := (.getfield 225, 52, 55, [7, 15, 0], .null) :: x176_55
theorem ox176_52 : sx_oks 176 x176_52 := ⟨sx_q_get (w := (RX8, TX8, 31)) (sx_dd bb_176 dX8_isWordAt_52) rfl rfl (Nat.le_of_ble_eq_true rfl) cu_7 (sx_ow3 oo_176 fl_StrawGarrisonModel_225) (by decide +kernel), ox176_55⟩
def x176_51 : List sx_E := (.aload 0, 51, 52, [], .null) :: x176_52
theorem ox176_51 : sx_oks 176 x176_51 := ⟨Or.inr ⟨_, (sx_dd bb_176 dX8_isWordAt_51), rfl, rfl⟩, ox176_52⟩
def x176_48 : List sx_E := (.getfield 46, 48, 51, [7, 13, 1], .null) :: x176_51
theorem ox176_48 : sx_oks 176 x176_48 := ⟨sx_q_get (w := (RX8, TX8, 31)) (sx_dd bb_176 dX8_isWordAt_48) rfl rfl (Nat.le_of_ble_eq_true rfl) cu_7 (sx_ow3 oo_176 fl_StrawGarrisonModel_46) (by decide +kernel), ox176_51⟩
def x176_47 : List sx_E := (.aload 0, 47, 48, [], .null) :: x176_48
theorem ox176_47 : sx_oks 176 x176_47 := ⟨Or.inr ⟨_, (sx_dd bb_176 dX8_isWordAt_47), rfl, rfl⟩, ox176_48⟩
def x176_44 : List sx_E := (.if_icmp .ne (58), 44, 47, [102], .null) :: x176_47
theorem ox176_44 : sx_oks 176 x176_44 := ⟨⟨(sx_dd bb_176 dX8_isWordAt_44), rfl, sx_t1 (by decide +kernel)⟩, ox176_47⟩
def x176_43 : List sx_E := (.iload 1, 43, 44, [], .null) :: x176_44
theorem ox176_43 : sx_oks 176 x176_43 := ⟨Or.inr ⟨_, (sx_dd bb_176 dX8_isWordAt_43), rfl, rfl⟩, ox176_44⟩
def x176_42 : List sx_E := (.iaload, 42, 43, [], .null) :: x176_43
theorem ox176_42 : sx_oks 176 x176_42 := ⟨⟨(sx_dd bb_176 dX8_isWordAt_42), rfl⟩, ox176_43⟩
def x176_39 : List sx_E := (.getfield 225, 39, 42, [7, 15, 0], .null) :: x176_42
theorem ox176_39 : sx_oks 176 x176_39 := ⟨sx_q_get (w := (RX8, TX8, 31)) (sx_dd bb_176 dX8_isWordAt_39) rfl rfl (Nat.le_of_ble_eq_true rfl) cu_7 (sx_ow3 oo_176 fl_StrawGarrisonModel_225) (by decide +kernel), ox176_42⟩
def x176_38 : List sx_E := (.aload 0, 38, 39, [], .null) :: x176_39
theorem ox176_38 : sx_oks 176 x176_38 := ⟨Or.inr ⟨_, (sx_dd bb_176 dX8_isWordAt_38), rfl, rfl⟩, ox176_39⟩
def x176_35 : List sx_E := (.getfield 46, 35, 38, [7, 13, 1], .null) :: x176_38
theorem ox176_35 : sx_oks 176 x176_35 := ⟨sx_q_get (w := (RX8, TX8, 31)) (sx_dd bb_176 dX8_isWordAt_35) rfl rfl (Nat.le_of_ble_eq_true rfl) cu_7 (sx_ow3 oo_176 fl_StrawGarrisonModel_46) (by decide +kernel), ox176_38⟩
def x176_34 : List sx_E := (.aload 0, 34, 35, [], .null) :: x176_35
theorem ox176_34 : sx_oks 176 x176_34 := ⟨Or.inr ⟨_, (sx_dd bb_176 dX8_isWordAt_34), rfl, rfl⟩, ox176_35⟩
def x176_31 : List sx_E := (.if_icmp .ne (71), 31, 34, [102], .null) :: x176_34
theorem ox176_31 : sx_oks 176 x176_31 := ⟨⟨(sx_dd bb_176 dX8_isWordAt_31), rfl, sx_t1 (by decide +kernel)⟩, ox176_34⟩
def x176_29 : List sx_E := (.iload 5, 29, 31, [], .null) :: x176_31
theorem ox176_29 : sx_oks 176 x176_29 := ⟨Or.inl ⟨(sx_dd bb_176 dX8_isWordAt_29), rfl⟩, ox176_31⟩
def x176_28 : List sx_E := (.isub, 28, 29, [], .null) :: x176_29
theorem ox176_28 : sx_oks 176 x176_28 := ⟨⟨(sx_dd bb_176 dX8_isWordAt_28), rfl⟩, ox176_29⟩
def x176_25 : List sx_E := (.getfield 225, 25, 28, [7, 15, 0], .null) :: x176_28
theorem ox176_25 : sx_oks 176 x176_25 := ⟨sx_q_get (w := (RX8, TX8, 31)) (sx_dd bb_176 dX8_isWordAt_25) rfl rfl (Nat.le_of_ble_eq_true rfl) cu_7 (sx_ow3 oo_176 fl_StrawGarrisonModel_225) (by decide +kernel), ox176_28⟩
def x176_24 : List sx_E := (.aload 0, 24, 25, [], .null) :: x176_25
theorem ox176_24 : sx_oks 176 x176_24 := ⟨Or.inr ⟨_, (sx_dd bb_176 dX8_isWordAt_24), rfl, rfl⟩, ox176_25⟩
def x176_21 : List sx_E := (.getfield 219, 21, 24, [7, 16, 0], .null) :: x176_24
theorem ox176_21 : sx_oks 176 x176_21 := ⟨sx_q_get (w := (RX8, TX8, 31)) (sx_dd bb_176 dX8_isWordAt_21) rfl rfl (Nat.le_of_ble_eq_true rfl) cu_7 (sx_ow3 oo_176 fl_StrawGarrisonModel_219) (by decide +kernel), ox176_24⟩
def x176_20 : List sx_E := (.aload 0, 20, 21, [], .null) :: x176_21
theorem ox176_20 : sx_oks 176 x176_20 := ⟨Or.inr ⟨_, (sx_dd bb_176 dX8_isWordAt_20), rfl, rfl⟩, ox176_21⟩
def x176_17 : List sx_E := (.if_icmp .ne (85), 17, 20, [102], .null) :: x176_20
theorem ox176_17 : sx_oks 176 x176_17 := ⟨⟨(sx_dd bb_176 dX8_isWordAt_17), rfl, sx_t1 (by decide +kernel)⟩, ox176_20⟩
def x176_16 : List sx_E := (.nop, 16, 17, [], .int (nI 1)) :: x176_17
theorem ox176_16 : sx_oks 176 x176_16 := ⟨sx_k_iconst (sx_dd bb_176 dX8_isWordAt_16) (by decide +kernel), ox176_17⟩
def x176_13 : List sx_E := (.getfield 222, 13, 16, [7, 17, 0], .null) :: x176_16
theorem ox176_13 : sx_oks 176 x176_13 := ⟨sx_q_get (w := (RX8, TX8, 31)) (sx_dd bb_176 dX8_isWordAt_13) rfl rfl (Nat.le_of_ble_eq_true rfl) cu_7 (sx_ow3 oo_176 fl_StrawGarrisonModel_222) (by decide +kernel), ox176_16⟩
def x176_12 : List sx_E := (.aload 0, 12, 13, [], .null) :: x176_13
theorem ox176_12 : sx_oks 176 x176_12 := ⟨Or.inr ⟨_, (sx_dd bb_176 dX8_isWordAt_12), rfl, rfl⟩, ox176_13⟩
def x176_10 : List sx_E := (.istore 5, 10, 12, [], .null) :: x176_12
theorem ox176_10 : sx_oks 176 x176_10 := ⟨⟨sx_lt mm_176 (Nat.le_of_ble_eq_true rfl), Or.inl ⟨(sx_dd bb_176 dX8_isWordAt_10), rfl⟩⟩, ox176_12⟩
def x176_9 : List sx_E := (.nop, 9, 10, [], .int (nI 4)) :: x176_10
theorem ox176_9 : sx_oks 176 x176_9 := ⟨sx_k_iconst (sx_dd bb_176 dX8_isWordAt_9) (by decide +kernel), ox176_10⟩
def x176_6 : List sx_E := (.goto (4), 6, 9, [10], .null) :: x176_9
theorem ox176_6 : sx_oks 176 x176_6 := ⟨⟨(sx_dd bb_176 dX8_isWordAt_6), sx_t1 (by decide +kernel)⟩, ox176_9⟩
def x176_5 : List sx_E := (.nop, 5, 6, [], .int (nI 3)) :: x176_6
theorem ox176_5 : sx_oks 176 x176_5 := ⟨sx_k_iconst (sx_dd bb_176 dX8_isWordAt_5) (by decide +kernel), ox176_6⟩
def x176_2 : List sx_E := (.ifCond .ne (7), 2, 5, [9], .null) :: x176_5
theorem ox176_2 : sx_oks 176 x176_2 := ⟨⟨(sx_dd bb_176 dX8_isWordAt_2), rfl, sx_t1 (by decide +kernel)⟩, ox176_5⟩
def x176_0 : List sx_E := (.iload 4, 0, 2, [], .null) :: x176_2
theorem ox176_0 : sx_oks 176 x176_0 := ⟨Or.inl ⟨(sx_dd bb_176 dX8_isWordAt_0), rfl⟩, ox176_2⟩
theorem m176 : sx_mok 176 x176_0 := ⟨ox176_0, by decide +kernel⟩
theorem bb_177 : sx_by 177 = cX8_key := rfl
theorem oo_177 : (sx_nm 177).cls = "StrawGarrisonModel" := rfl
theorem mm_177 : sx_ml 177 = 1 := rfl
theorem rr_177 : sx_rt 177 = (some .int) := rfl
def x177_53 : List sx_E := (.ireturn, 53, 54, [0], .null) :: []
theorem ox177_53 : sx_oks 177 x177_53 := ⟨sx_q_iret0 (sx_dd bb_177 dX8_key_53) rr_177, trivial⟩
def x177_52 : List sx_E := (.nop, 52, 53, [], .int ((-1))) :: x177_53
theorem ox177_52 : sx_oks 177 x177_52 := ⟨sx_k_iconst (sx_dd bb_177 dX8_key_52) (by decide +kernel), ox177_53⟩
def x177_49 : List sx_E := (.goto (4), 49, 52, [53], .null) :: x177_52
theorem ox177_49 : sx_oks 177 x177_49 := ⟨⟨(sx_dd bb_177 dX8_key_49), sx_t1 (by decide +kernel)⟩, ox177_52⟩
def x177_48 : List sx_E := (.nop, 48, 49, [], .int (nI 2)) :: x177_49
theorem ox177_48 : sx_oks 177 x177_48 := ⟨sx_k_iconst (sx_dd bb_177 dX8_key_48) (by decide +kernel), ox177_49⟩
def x177_45 : List sx_E := (.ifCond .eq (7), 45, 48, [52], .null) :: x177_48
theorem ox177_45 : sx_oks 177 x177_45 := ⟨⟨(sx_dd bb_177 dX8_key_45), rfl, sx_t1 (by decide +kernel)⟩, ox177_48⟩
def x177_42 : List sx_E := (.invokevirtual 240, 42, 45, [176, 5, 0, 0, 7], .null) :: x177_45
theorem ox177_42 : sx_oks 177 x177_42 := ⟨sx_q_V (w := (RX8, TX8, 31)) (sx_dd bb_177 dX8_key_42) oo_177 lk_StrawGarrisonModel_240_V ft_176_h (Nat.le_of_ble_eq_true rfl) rfl rfl, ox177_45⟩
def x177_40 : List sx_E := (.nop, 40, 42, [], .int (nI 101)) :: x177_42
theorem ox177_40 : sx_oks 177 x177_40 := ⟨sx_k_bipush (sx_dd bb_177 dX8_key_40) (by decide +kernel), ox177_42⟩
def x177_38 : List sx_E := (.nop, 38, 40, [], .int (nI 110)) :: x177_40
theorem ox177_38 : sx_oks 177 x177_38 := ⟨sx_k_bipush (sx_dd bb_177 dX8_key_38) (by decide +kernel), ox177_40⟩
def x177_36 : List sx_E := (.nop, 36, 38, [], .int (nI 105)) :: x177_38
theorem ox177_36 : sx_oks 177 x177_36 := ⟨sx_k_bipush (sx_dd bb_177 dX8_key_36) (by decide +kernel), ox177_38⟩
def x177_34 : List sx_E := (.nop, 34, 36, [], .int (nI 102)) :: x177_36
theorem ox177_34 : sx_oks 177 x177_34 := ⟨sx_k_bipush (sx_dd bb_177 dX8_key_34) (by decide +kernel), ox177_36⟩
def x177_33 : List sx_E := (.aload 0, 33, 34, [], .null) :: x177_34
theorem ox177_33 : sx_oks 177 x177_33 := ⟨Or.inr ⟨_, (sx_dd bb_177 dX8_key_33), rfl, rfl⟩, ox177_34⟩
def x177_32 : List sx_E := (.ireturn, 32, 33, [0], .null) :: x177_33
theorem ox177_32 : sx_oks 177 x177_32 := ⟨sx_q_iret0 (sx_dd bb_177 dX8_key_32) rr_177, ox177_33⟩
def x177_31 : List sx_E := (.nop, 31, 32, [], .int (nI 1)) :: x177_32
theorem ox177_31 : sx_oks 177 x177_31 := ⟨sx_k_iconst (sx_dd bb_177 dX8_key_31) (by decide +kernel), ox177_32⟩
def x177_28 : List sx_E := (.ifCond .eq (5), 28, 31, [33], .null) :: x177_31
theorem ox177_28 : sx_oks 177 x177_28 := ⟨⟨(sx_dd bb_177 dX8_key_28), rfl, sx_t1 (by decide +kernel)⟩, ox177_31⟩
def x177_25 : List sx_E := (.invokevirtual 240, 25, 28, [176, 5, 0, 0, 7], .null) :: x177_28
theorem ox177_25 : sx_oks 177 x177_25 := ⟨sx_q_V (w := (RX8, TX8, 31)) (sx_dd bb_177 dX8_key_25) oo_177 lk_StrawGarrisonModel_240_V ft_176_h (Nat.le_of_ble_eq_true rfl) rfl rfl, ox177_28⟩
def x177_24 : List sx_E := (.nop, 24, 25, [], .int (nI 0)) :: x177_25
theorem ox177_24 : sx_oks 177 x177_24 := ⟨sx_k_iconst (sx_dd bb_177 dX8_key_24) (by decide +kernel), ox177_25⟩
def x177_22 : List sx_E := (.nop, 22, 24, [], .int (nI 101)) :: x177_24
theorem ox177_22 : sx_oks 177 x177_22 := ⟨sx_k_bipush (sx_dd bb_177 dX8_key_22) (by decide +kernel), ox177_24⟩
def x177_20 : List sx_E := (.nop, 20, 22, [], .int (nI 101)) :: x177_22
theorem ox177_20 : sx_oks 177 x177_20 := ⟨sx_k_bipush (sx_dd bb_177 dX8_key_20) (by decide +kernel), ox177_22⟩
def x177_18 : List sx_E := (.nop, 18, 20, [], .int (nI 102)) :: x177_20
theorem ox177_18 : sx_oks 177 x177_18 := ⟨sx_k_bipush (sx_dd bb_177 dX8_key_18) (by decide +kernel), ox177_20⟩
def x177_17 : List sx_E := (.aload 0, 17, 18, [], .null) :: x177_18
theorem ox177_17 : sx_oks 177 x177_17 := ⟨Or.inr ⟨_, (sx_dd bb_177 dX8_key_17), rfl, rfl⟩, ox177_18⟩
def x177_16 : List sx_E := (.ireturn, 16, 17, [0], .null) :: x177_17
theorem ox177_16 : sx_oks 177 x177_16 := ⟨sx_q_iret0 (sx_dd bb_177 dX8_key_16) rr_177, ox177_17⟩
def x177_15 : List sx_E := (.nop, 15, 16, [], .int (nI 0)) :: x177_16
theorem ox177_15 : sx_oks 177 x177_15 := ⟨sx_k_iconst (sx_dd bb_177 dX8_key_15) (by decide +kernel), ox177_16⟩
def x177_12 : List sx_E := (.ifCond .eq (5), 12, 15, [17], .null) :: x177_15
theorem ox177_12 : sx_oks 177 x177_12 := ⟨⟨(sx_dd bb_177 dX8_key_12), rfl, sx_t1 (by decide +kernel)⟩, ox177_15⟩
def x177_9 : List sx_E := (.invokevirtual 240, 9, 12, [176, 5, 0, 0, 7], .null) :: x177_12
theorem ox177_9 : sx_oks 177 x177_9 := ⟨sx_q_V (w := (RX8, TX8, 31)) (sx_dd bb_177 dX8_key_9) oo_177 lk_StrawGarrisonModel_240_V ft_176_h (Nat.le_of_ble_eq_true rfl) rfl rfl, ox177_12⟩
def x177_7 : List sx_E := (.nop, 7, 9, [], .int (nI 107)) :: x177_9
theorem ox177_7 : sx_oks 177 x177_7 := ⟨sx_k_bipush (sx_dd bb_177 dX8_key_7) (by decide +kernel), ox177_9⟩
def x177_5 : List sx_E := (.nop, 5, 7, [], .int (nI 111)) :: x177_7
theorem ox177_5 : sx_oks 177 x177_5 := ⟨sx_k_bipush (sx_dd bb_177 dX8_key_5) (by decide +kernel), ox177_7⟩
def x177_3 : List sx_E := (.nop, 3, 5, [], .int (nI 111)) :: x177_5
theorem ox177_3 : sx_oks 177 x177_3 := ⟨sx_k_bipush (sx_dd bb_177 dX8_key_3) (by decide +kernel), ox177_5⟩
def x177_1 : List sx_E := (.nop, 1, 3, [], .int (nI 108)) :: x177_3
theorem ox177_1 : sx_oks 177 x177_1 := ⟨sx_k_bipush (sx_dd bb_177 dX8_key_1) (by decide +kernel), ox177_3⟩
def x177_0 : List sx_E := (.aload 0, 0, 1, [], .null) :: x177_1
theorem ox177_0 : sx_oks 177 x177_0 := ⟨Or.inr ⟨_, (sx_dd bb_177 dX8_key_0), rfl, rfl⟩, ox177_1⟩
theorem m177 : sx_mok 177 x177_0 := ⟨ox177_0, by decide +kernel⟩
theorem bb_178 : sx_by 178 = cX8_isName := rfl
theorem oo_178 : (sx_nm 178).cls = "StrawGarrisonModel" := rfl
theorem mm_178 : sx_ml 178 = 2 := rfl
theorem rr_178 : sx_rt 178 = (some .boolean) := rfl
def x178_87 : List sx_E := (.ireturn, 87, 88, [1], .null) :: []
theorem ox178_87 : sx_oks 178 x178_87 := ⟨sx_q_iret1 (sx_dd bb_178 dX8_isName_87) rr_178, trivial⟩
def x178_86 : List sx_E := (.nop, 86, 87, [], .int (nI 0)) :: x178_87
theorem ox178_86 : sx_oks 178 x178_86 := ⟨sx_k_iconst (sx_dd bb_178 dX8_isName_86) (by decide +kernel), ox178_87⟩
def x178_83 : List sx_E := (.goto (4), 83, 86, [87], .null) :: x178_86
theorem ox178_83 : sx_oks 178 x178_83 := ⟨⟨(sx_dd bb_178 dX8_isName_83), sx_t1 (by decide +kernel)⟩, ox178_86⟩
def x178_82 : List sx_E := (.nop, 82, 83, [], .int (nI 1)) :: x178_83
theorem ox178_82 : sx_oks 178 x178_82 := ⟨sx_k_iconst (sx_dd bb_178 dX8_isName_82) (by decide +kernel), ox178_83⟩
def x178_79 : List sx_E := (.if_icmp .ne (7), 79, 82, [86], .null) :: x178_82
theorem ox178_79 : sx_oks 178 x178_79 := ⟨⟨(sx_dd bb_178 dX8_isName_79), rfl, sx_t1 (by decide +kernel)⟩, ox178_82⟩
def x178_77 : List sx_E := (.nop, 77, 79, [], .int (nI 100)) :: x178_79
theorem ox178_77 : sx_oks 178 x178_77 := ⟨sx_k_bipush (sx_dd bb_178 dX8_isName_77) (by decide +kernel), ox178_79⟩
def x178_76 : List sx_E := (.iload 1, 76, 77, [], .null) :: x178_77
theorem ox178_76 : sx_oks 178 x178_76 := ⟨Or.inr ⟨_, (sx_dd bb_178 dX8_isName_76), rfl, rfl⟩, ox178_77⟩
def x178_73 : List sx_E := (.if_icmp .eq (9), 73, 76, [82], .null) :: x178_76
theorem ox178_73 : sx_oks 178 x178_73 := ⟨⟨(sx_dd bb_178 dX8_isName_73), rfl, sx_t1 (by decide +kernel)⟩, ox178_76⟩
def x178_71 : List sx_E := (.nop, 71, 73, [], .int (nI 119)) :: x178_73
theorem ox178_71 : sx_oks 178 x178_71 := ⟨sx_k_bipush (sx_dd bb_178 dX8_isName_71) (by decide +kernel), ox178_73⟩
def x178_70 : List sx_E := (.iload 1, 70, 71, [], .null) :: x178_71
theorem ox178_70 : sx_oks 178 x178_70 := ⟨Or.inr ⟨_, (sx_dd bb_178 dX8_isName_70), rfl, rfl⟩, ox178_71⟩
def x178_69 : List sx_E := (.ireturn, 69, 70, [1], .null) :: x178_70
theorem ox178_69 : sx_oks 178 x178_69 := ⟨sx_q_iret1 (sx_dd bb_178 dX8_isName_69) rr_178, ox178_70⟩
def x178_68 : List sx_E := (.nop, 68, 69, [], .int (nI 0)) :: x178_69
theorem ox178_68 : sx_oks 178 x178_68 := ⟨sx_k_iconst (sx_dd bb_178 dX8_isName_68) (by decide +kernel), ox178_69⟩
def x178_65 : List sx_E := (.goto (4), 65, 68, [69], .null) :: x178_68
theorem ox178_65 : sx_oks 178 x178_65 := ⟨⟨(sx_dd bb_178 dX8_isName_65), sx_t1 (by decide +kernel)⟩, ox178_68⟩
def x178_64 : List sx_E := (.nop, 64, 65, [], .int (nI 1)) :: x178_65
theorem ox178_64 : sx_oks 178 x178_64 := ⟨sx_k_iconst (sx_dd bb_178 dX8_isName_64) (by decide +kernel), ox178_65⟩
def x178_61 : List sx_E := (.if_icmp .ne (7), 61, 64, [68], .null) :: x178_64
theorem ox178_61 : sx_oks 178 x178_61 := ⟨⟨(sx_dd bb_178 dX8_isName_61), rfl, sx_t1 (by decide +kernel)⟩, ox178_64⟩
def x178_59 : List sx_E := (.nop, 59, 61, [], .int (nI 108)) :: x178_61
theorem ox178_59 : sx_oks 178 x178_59 := ⟨sx_k_bipush (sx_dd bb_178 dX8_isName_59) (by decide +kernel), ox178_61⟩
def x178_58 : List sx_E := (.iload 1, 58, 59, [], .null) :: x178_59
theorem ox178_58 : sx_oks 178 x178_58 := ⟨Or.inr ⟨_, (sx_dd bb_178 dX8_isName_58), rfl, rfl⟩, ox178_59⟩
def x178_55 : List sx_E := (.if_icmp .eq (9), 55, 58, [64], .null) :: x178_58
theorem ox178_55 : sx_oks 178 x178_55 := ⟨⟨(sx_dd bb_178 dX8_isName_55), rfl, sx_t1 (by decide +kernel)⟩, ox178_58⟩
def x178_53 : List sx_E := (.nop, 53, 55, [], .int (nI 104)) :: x178_55
theorem ox178_53 : sx_oks 178 x178_53 := ⟨sx_k_bipush (sx_dd bb_178 dX8_isName_53) (by decide +kernel), ox178_55⟩
def x178_52 : List sx_E := (.iload 1, 52, 53, [], .null) :: x178_53
theorem ox178_52 : sx_oks 178 x178_52 := ⟨Or.inr ⟨_, (sx_dd bb_178 dX8_isName_52), rfl, rfl⟩, ox178_53⟩
def x178_51 : List sx_E := (.ireturn, 51, 52, [1], .null) :: x178_52
theorem ox178_51 : sx_oks 178 x178_51 := ⟨sx_q_iret1 (sx_dd bb_178 dX8_isName_51) rr_178, ox178_52⟩
def x178_50 : List sx_E := (.nop, 50, 51, [], .int (nI 0)) :: x178_51
theorem ox178_50 : sx_oks 178 x178_50 := ⟨sx_k_iconst (sx_dd bb_178 dX8_isName_50) (by decide +kernel), ox178_51⟩
def x178_47 : List sx_E := (.goto (4), 47, 50, [51], .null) :: x178_50
theorem ox178_47 : sx_oks 178 x178_47 := ⟨⟨(sx_dd bb_178 dX8_isName_47), sx_t1 (by decide +kernel)⟩, ox178_50⟩
def x178_46 : List sx_E := (.nop, 46, 47, [], .int (nI 1)) :: x178_47
theorem ox178_46 : sx_oks 178 x178_46 := ⟨sx_k_iconst (sx_dd bb_178 dX8_isName_46) (by decide +kernel), ox178_47⟩
def x178_43 : List sx_E := (.if_icmp .ne (7), 43, 46, [50], .null) :: x178_46
theorem ox178_43 : sx_oks 178 x178_43 := ⟨⟨(sx_dd bb_178 dX8_isName_43), rfl, sx_t1 (by decide +kernel)⟩, ox178_46⟩
def x178_41 : List sx_E := (.nop, 41, 43, [], .int (nI 112)) :: x178_43
theorem ox178_41 : sx_oks 178 x178_41 := ⟨sx_k_bipush (sx_dd bb_178 dX8_isName_41) (by decide +kernel), ox178_43⟩
def x178_40 : List sx_E := (.iload 1, 40, 41, [], .null) :: x178_41
theorem ox178_40 : sx_oks 178 x178_40 := ⟨Or.inr ⟨_, (sx_dd bb_178 dX8_isName_40), rfl, rfl⟩, ox178_41⟩
def x178_37 : List sx_E := (.if_icmp .eq (9), 37, 40, [46], .null) :: x178_40
theorem ox178_37 : sx_oks 178 x178_37 := ⟨⟨(sx_dd bb_178 dX8_isName_37), rfl, sx_t1 (by decide +kernel)⟩, ox178_40⟩
def x178_35 : List sx_E := (.nop, 35, 37, [], .int (nI 100)) :: x178_37
theorem ox178_35 : sx_oks 178 x178_35 := ⟨sx_k_bipush (sx_dd bb_178 dX8_isName_35) (by decide +kernel), ox178_37⟩
def x178_34 : List sx_E := (.iload 1, 34, 35, [], .null) :: x178_35
theorem ox178_34 : sx_oks 178 x178_34 := ⟨Or.inr ⟨_, (sx_dd bb_178 dX8_isName_34), rfl, rfl⟩, ox178_35⟩
def x178_31 : List sx_E := (.if_icmp .eq (15), 31, 34, [46], .null) :: x178_34
theorem ox178_31 : sx_oks 178 x178_31 := ⟨⟨(sx_dd bb_178 dX8_isName_31), rfl, sx_t1 (by decide +kernel)⟩, ox178_34⟩
def x178_29 : List sx_E := (.nop, 29, 31, [], .int (nI 119)) :: x178_31
theorem ox178_29 : sx_oks 178 x178_29 := ⟨sx_k_bipush (sx_dd bb_178 dX8_isName_29) (by decide +kernel), ox178_31⟩
def x178_28 : List sx_E := (.iload 1, 28, 29, [], .null) :: x178_29
theorem ox178_28 : sx_oks 178 x178_28 := ⟨Or.inr ⟨_, (sx_dd bb_178 dX8_isName_28), rfl, rfl⟩, ox178_29⟩
def x178_1 : List sx_E := (.lookupswitch 69 #[(0, 27), (1, 51)], 1, 28, [70, 0, 28, 1, 52], .null) :: x178_28
theorem ox178_1 : sx_oks 178 x178_1 := ⟨⟨⟨_, (sx_dd bb_178 dX8_isName_1)⟩, by decide +kernel, sx_t3 (by decide +kernel) (by decide +kernel)⟩, ox178_28⟩
def x178_0 : List sx_E := (.iload 0, 0, 1, [], .null) :: x178_1
theorem ox178_0 : sx_oks 178 x178_0 := ⟨Or.inr ⟨_, (sx_dd bb_178 dX8_isName_0), rfl, rfl⟩, ox178_1⟩
theorem m178 : sx_mok 178 x178_0 := ⟨ox178_0, by decide +kernel⟩
theorem bb_179 : sx_by 179 = cX8_step := rfl
theorem oo_179 : (sx_nm 179).cls = "StrawGarrisonModel" := rfl
theorem mm_179 : sx_ml 179 = 3 := rfl
theorem rr_179 : sx_rt 179 = none := rfl
def x179_46 : List sx_E := (.return_, 46, 47, [], .null) :: []
theorem ox179_46 : sx_oks 179 x179_46 := ⟨⟨(sx_dd bb_179 dX8_step_46), rr_179⟩, trivial⟩
def x179_43 : List sx_E := (.putfield 247, 43, 46, [7, 22, 0], .null) :: x179_46
theorem ox179_43 : sx_oks 179 x179_43 := ⟨sx_q_put (w := (RX8, TX8, 31)) (ty0 := tyX8) (sx_dd bb_179 dX8_step_43) rfl (Nat.le_of_ble_eq_true rfl) cu_7 (sx_ow3 oo_179 fl_StrawGarrisonModel_247) (by decide +kernel) tyX8_ok nmX8 (Or.inl rfl) (fun _ => rfl) (fun h => absurd h (by decide)) (fun h => absurd h (by decide)), ox179_46⟩
def x179_42 : List sx_E := (.iadd, 42, 43, [], .null) :: x179_43
theorem ox179_42 : sx_oks 179 x179_42 := ⟨⟨(sx_dd bb_179 dX8_step_42), rfl⟩, ox179_43⟩
def x179_41 : List sx_E := (.nop, 41, 42, [], .int (nI 1)) :: x179_42
theorem ox179_41 : sx_oks 179 x179_41 := ⟨sx_k_iconst (sx_dd bb_179 dX8_step_41) (by decide +kernel), ox179_42⟩
def x179_38 : List sx_E := (.getfield 247, 38, 41, [7, 22, 0], .null) :: x179_41
theorem ox179_38 : sx_oks 179 x179_38 := ⟨sx_q_get (w := (RX8, TX8, 31)) (sx_dd bb_179 dX8_step_38) rfl rfl (Nat.le_of_ble_eq_true rfl) cu_7 (sx_ow3 oo_179 fl_StrawGarrisonModel_247) (by decide +kernel), ox179_41⟩
def x179_37 : List sx_E := (.dup, 37, 38, [], .null) :: x179_38
theorem ox179_37 : sx_oks 179 x179_37 := ⟨⟨(sx_dd bb_179 dX8_step_37), rfl⟩, ox179_38⟩
def x179_36 : List sx_E := (.aload 0, 36, 37, [], .null) :: x179_37
theorem ox179_36 : sx_oks 179 x179_36 := ⟨Or.inr ⟨_, (sx_dd bb_179 dX8_step_36), rfl, rfl⟩, ox179_37⟩
def x179_35 : List sx_E := (.iastore, 35, 36, [], .null) :: x179_36
theorem ox179_35 : sx_oks 179 x179_35 := ⟨⟨(sx_dd bb_179 dX8_step_35), rfl⟩, ox179_36⟩
def x179_34 : List sx_E := (.iload 2, 34, 35, [], .null) :: x179_35
theorem ox179_34 : sx_oks 179 x179_34 := ⟨Or.inr ⟨_, (sx_dd bb_179 dX8_step_34), rfl, rfl⟩, ox179_35⟩
def x179_33 : List sx_E := (.iadd, 33, 34, [], .null) :: x179_34
theorem ox179_33 : sx_oks 179 x179_33 := ⟨⟨(sx_dd bb_179 dX8_step_33), rfl⟩, ox179_34⟩
def x179_32 : List sx_E := (.nop, 32, 33, [], .int (nI 1)) :: x179_33
theorem ox179_32 : sx_oks 179 x179_32 := ⟨sx_k_iconst (sx_dd bb_179 dX8_step_32) (by decide +kernel), ox179_33⟩
def x179_31 : List sx_E := (.iadd, 31, 32, [], .null) :: x179_32
theorem ox179_31 : sx_oks 179 x179_31 := ⟨⟨(sx_dd bb_179 dX8_step_31), rfl⟩, ox179_32⟩
def x179_30 : List sx_E := (.imul, 30, 31, [], .null) :: x179_31
theorem ox179_30 : sx_oks 179 x179_30 := ⟨⟨(sx_dd bb_179 dX8_step_30), rfl⟩, ox179_31⟩
def x179_27 : List sx_E := (.getfield 247, 27, 30, [7, 22, 0], .null) :: x179_30
theorem ox179_27 : sx_oks 179 x179_27 := ⟨sx_q_get (w := (RX8, TX8, 31)) (sx_dd bb_179 dX8_step_27) rfl rfl (Nat.le_of_ble_eq_true rfl) cu_7 (sx_ow3 oo_179 fl_StrawGarrisonModel_247) (by decide +kernel), ox179_30⟩
def x179_26 : List sx_E := (.aload 0, 26, 27, [], .null) :: x179_27
theorem ox179_26 : sx_oks 179 x179_26 := ⟨Or.inr ⟨_, (sx_dd bb_179 dX8_step_26), rfl, rfl⟩, ox179_27⟩
def x179_25 : List sx_E := (.nop, 25, 26, [], .int (nI 2)) :: x179_26
theorem ox179_25 : sx_oks 179 x179_25 := ⟨sx_k_iconst (sx_dd bb_179 dX8_step_25) (by decide +kernel), ox179_26⟩
def x179_22 : List sx_E := (.getfield 244, 22, 25, [7, 23, 0], .null) :: x179_25
theorem ox179_22 : sx_oks 179 x179_22 := ⟨sx_q_get (w := (RX8, TX8, 31)) (sx_dd bb_179 dX8_step_22) rfl rfl (Nat.le_of_ble_eq_true rfl) cu_7 (sx_ow3 oo_179 fl_StrawGarrisonModel_244) (by decide +kernel), ox179_25⟩
def x179_21 : List sx_E := (.aload 0, 21, 22, [], .null) :: x179_22
theorem ox179_21 : sx_oks 179 x179_21 := ⟨Or.inr ⟨_, (sx_dd bb_179 dX8_step_21), rfl, rfl⟩, ox179_22⟩
def x179_18 : List sx_E := (.getfield 7, 18, 21, [7, 0, 1], .null) :: x179_21
theorem ox179_18 : sx_oks 179 x179_18 := ⟨sx_q_get (w := (RX8, TX8, 31)) (sx_dd bb_179 dX8_step_18) rfl rfl (Nat.le_of_ble_eq_true rfl) cu_7 (sx_ow3 oo_179 fl_StrawGarrisonModel_7) (by decide +kernel), ox179_21⟩
def x179_17 : List sx_E := (.aload 0, 17, 18, [], .null) :: x179_18
theorem ox179_17 : sx_oks 179 x179_17 := ⟨Or.inr ⟨_, (sx_dd bb_179 dX8_step_17), rfl, rfl⟩, ox179_18⟩
def x179_16 : List sx_E := (.iastore, 16, 17, [], .null) :: x179_17
theorem ox179_16 : sx_oks 179 x179_16 := ⟨⟨(sx_dd bb_179 dX8_step_16), rfl⟩, ox179_17⟩
def x179_15 : List sx_E := (.iload 1, 15, 16, [], .null) :: x179_16
theorem ox179_15 : sx_oks 179 x179_15 := ⟨Or.inr ⟨_, (sx_dd bb_179 dX8_step_15), rfl, rfl⟩, ox179_16⟩
def x179_14 : List sx_E := (.iadd, 14, 15, [], .null) :: x179_15
theorem ox179_14 : sx_oks 179 x179_14 := ⟨⟨(sx_dd bb_179 dX8_step_14), rfl⟩, ox179_15⟩
def x179_13 : List sx_E := (.imul, 13, 14, [], .null) :: x179_14
theorem ox179_13 : sx_oks 179 x179_13 := ⟨⟨(sx_dd bb_179 dX8_step_13), rfl⟩, ox179_14⟩
def x179_10 : List sx_E := (.getfield 247, 10, 13, [7, 22, 0], .null) :: x179_13
theorem ox179_10 : sx_oks 179 x179_10 := ⟨sx_q_get (w := (RX8, TX8, 31)) (sx_dd bb_179 dX8_step_10) rfl rfl (Nat.le_of_ble_eq_true rfl) cu_7 (sx_ow3 oo_179 fl_StrawGarrisonModel_247) (by decide +kernel), ox179_13⟩
def x179_9 : List sx_E := (.aload 0, 9, 10, [], .null) :: x179_10
theorem ox179_9 : sx_oks 179 x179_9 := ⟨Or.inr ⟨_, (sx_dd bb_179 dX8_step_9), rfl, rfl⟩, ox179_10⟩
def x179_8 : List sx_E := (.nop, 8, 9, [], .int (nI 2)) :: x179_9
theorem ox179_8 : sx_oks 179 x179_8 := ⟨sx_k_iconst (sx_dd bb_179 dX8_step_8) (by decide +kernel), ox179_9⟩
def x179_5 : List sx_E := (.getfield 244, 5, 8, [7, 23, 0], .null) :: x179_8
theorem ox179_5 : sx_oks 179 x179_5 := ⟨sx_q_get (w := (RX8, TX8, 31)) (sx_dd bb_179 dX8_step_5) rfl rfl (Nat.le_of_ble_eq_true rfl) cu_7 (sx_ow3 oo_179 fl_StrawGarrisonModel_244) (by decide +kernel), ox179_8⟩
def x179_4 : List sx_E := (.aload 0, 4, 5, [], .null) :: x179_5
theorem ox179_4 : sx_oks 179 x179_4 := ⟨Or.inr ⟨_, (sx_dd bb_179 dX8_step_4), rfl, rfl⟩, ox179_5⟩
def x179_1 : List sx_E := (.getfield 7, 1, 4, [7, 0, 1], .null) :: x179_4
theorem ox179_1 : sx_oks 179 x179_1 := ⟨sx_q_get (w := (RX8, TX8, 31)) (sx_dd bb_179 dX8_step_1) rfl rfl (Nat.le_of_ble_eq_true rfl) cu_7 (sx_ow3 oo_179 fl_StrawGarrisonModel_7) (by decide +kernel), ox179_4⟩
def x179_0 : List sx_E := (.aload 0, 0, 1, [], .null) :: x179_1
theorem ox179_0 : sx_oks 179 x179_0 := ⟨Or.inr ⟨_, (sx_dd bb_179 dX8_step_0), rfl, rfl⟩, ox179_1⟩
theorem m179 : sx_mok 179 x179_0 := ⟨ox179_0, by decide +kernel⟩
theorem bb_180 : sx_by 180 = cX8_either := rfl
theorem oo_180 : (sx_nm 180).cls = "StrawGarrisonModel" := rfl
theorem mm_180 : sx_ml 180 = 2 := rfl
theorem rr_180 : sx_rt 180 = (some .boolean) := rfl
def x180_44 : List sx_E := (.ireturn, 44, 45, [1], .null) :: []
theorem ox180_44 : sx_oks 180 x180_44 := ⟨sx_q_iret1 (sx_dd bb_180 dX8_either_44) rr_180, trivial⟩
def x180_43 : List sx_E := (.nop, 43, 44, [], .int (nI 1)) :: x180_44
theorem ox180_43 : sx_oks 180 x180_43 := ⟨sx_k_iconst (sx_dd bb_180 dX8_either_43) (by decide +kernel), ox180_44⟩
def x180_40 : List sx_E := (.goto (-30), 40, 43, [10], .null) :: x180_43
theorem ox180_40 : sx_oks 180 x180_40 := ⟨⟨(sx_dd bb_180 dX8_either_40), sx_t1 (by decide +kernel)⟩, ox180_43⟩
def x180_37 : List sx_E := (.invokevirtual 259, 37, 40, [179, 3, 0, 0, 7], .null) :: x180_40
theorem ox180_37 : sx_oks 180 x180_37 := ⟨sx_q_V (w := (RX8, TX8, 31)) (sx_dd bb_180 dX8_either_37) oo_180 lk_StrawGarrisonModel_259_V ft_179_h (Nat.le_of_ble_eq_true rfl) rfl rfl, ox180_40⟩
def x180_35 : List sx_E := (.nop, 35, 37, [], .int (nI 124)) :: x180_37
theorem ox180_35 : sx_oks 180 x180_35 := ⟨sx_k_bipush (sx_dd bb_180 dX8_either_35) (by decide +kernel), ox180_37⟩
def x180_34 : List sx_E := (.nop, 34, 35, [], .int (nI 2)) :: x180_35
theorem ox180_34 : sx_oks 180 x180_34 := ⟨sx_k_iconst (sx_dd bb_180 dX8_either_34) (by decide +kernel), ox180_35⟩
def x180_33 : List sx_E := (.aload 0, 33, 34, [], .null) :: x180_34
theorem ox180_33 : sx_oks 180 x180_33 := ⟨Or.inr ⟨_, (sx_dd bb_180 dX8_either_33), rfl, rfl⟩, ox180_34⟩
def x180_32 : List sx_E := (.ireturn, 32, 33, [1], .null) :: x180_33
theorem ox180_32 : sx_oks 180 x180_32 := ⟨sx_q_iret1 (sx_dd bb_180 dX8_either_32) rr_180, ox180_33⟩
def x180_31 : List sx_E := (.nop, 31, 32, [], .int (nI 0)) :: x180_32
theorem ox180_31 : sx_oks 180 x180_31 := ⟨sx_k_iconst (sx_dd bb_180 dX8_either_31) (by decide +kernel), ox180_32⟩
def x180_28 : List sx_E := (.ifCond .ne (5), 28, 31, [33], .null) :: x180_31
theorem ox180_28 : sx_oks 180 x180_28 := ⟨⟨(sx_dd bb_180 dX8_either_28), rfl, sx_t1 (by decide +kernel)⟩, ox180_31⟩
def x180_25 : List sx_E := (.invokevirtual 250, 25, 28, [181, 2, 0, 0, 7], .null) :: x180_28
theorem ox180_25 : sx_oks 180 x180_25 := ⟨sx_q_V (w := (RX8, TX8, 31)) (sx_dd bb_180 dX8_either_25) oo_180 lk_StrawGarrisonModel_250_V ft_181_h (Nat.le_of_ble_eq_true rfl) rfl rfl, ox180_28⟩
def x180_24 : List sx_E := (.iload 1, 24, 25, [], .null) :: x180_25
theorem ox180_24 : sx_oks 180 x180_24 := ⟨Or.inr ⟨_, (sx_dd bb_180 dX8_either_24), rfl, rfl⟩, ox180_25⟩
def x180_23 : List sx_E := (.aload 0, 23, 24, [], .null) :: x180_24
theorem ox180_23 : sx_oks 180 x180_23 := ⟨Or.inr ⟨_, (sx_dd bb_180 dX8_either_23), rfl, rfl⟩, ox180_24⟩
def x180_20 : List sx_E := (.invokevirtual 256, 20, 23, [174, 1, 0, 0, 7], .null) :: x180_23
theorem ox180_20 : sx_oks 180 x180_20 := ⟨sx_q_V (w := (RX8, TX8, 31)) (sx_dd bb_180 dX8_either_20) oo_180 lk_StrawGarrisonModel_256_V ft_174_h (Nat.le_of_ble_eq_true rfl) rfl rfl, ox180_23⟩
def x180_19 : List sx_E := (.aload 0, 19, 20, [], .null) :: x180_20
theorem ox180_19 : sx_oks 180 x180_19 := ⟨Or.inr ⟨_, (sx_dd bb_180 dX8_either_19), rfl, rfl⟩, ox180_20⟩
def x180_16 : List sx_E := (.ifCond .eq (27), 16, 19, [43], .null) :: x180_19
theorem ox180_16 : sx_oks 180 x180_16 := ⟨⟨(sx_dd bb_180 dX8_either_16), rfl, sx_t1 (by decide +kernel)⟩, ox180_19⟩
def x180_13 : List sx_E := (.invokevirtual 253, 13, 16, [175, 2, 0, 0, 7], .null) :: x180_16
theorem ox180_13 : sx_oks 180 x180_13 := ⟨sx_q_V (w := (RX8, TX8, 31)) (sx_dd bb_180 dX8_either_13) oo_180 lk_StrawGarrisonModel_253_V ft_175_h (Nat.le_of_ble_eq_true rfl) rfl rfl, ox180_16⟩
def x180_11 : List sx_E := (.nop, 11, 13, [], .int (nI 124)) :: x180_13
theorem ox180_11 : sx_oks 180 x180_11 := ⟨sx_k_bipush (sx_dd bb_180 dX8_either_11) (by decide +kernel), ox180_13⟩
def x180_10 : List sx_E := (.aload 0, 10, 11, [], .null) :: x180_11
theorem ox180_10 : sx_oks 180 x180_10 := ⟨Or.inr ⟨_, (sx_dd bb_180 dX8_either_10), rfl, rfl⟩, ox180_11⟩
def x180_10h : List sx_E := (.monitorenter, 10, 10, [0, 1], .null) :: x180_10
theorem ox180_10h : sx_oks 180 x180_10h := ⟨trivial, ox180_10⟩
def x180_9 : List sx_E := (.ireturn, 9, 10, [1], .null) :: x180_10h
theorem ox180_9 : sx_oks 180 x180_9 := ⟨sx_q_iret1 (sx_dd bb_180 dX8_either_9) rr_180, ox180_10h⟩
def x180_8 : List sx_E := (.nop, 8, 9, [], .int (nI 0)) :: x180_9
theorem ox180_8 : sx_oks 180 x180_8 := ⟨sx_k_iconst (sx_dd bb_180 dX8_either_8) (by decide +kernel), ox180_9⟩
def x180_5 : List sx_E := (.ifCond .ne (5), 5, 8, [10], .null) :: x180_8
theorem ox180_5 : sx_oks 180 x180_5 := ⟨⟨(sx_dd bb_180 dX8_either_5), rfl, sx_t1 (by decide +kernel)⟩, ox180_8⟩
def x180_2 : List sx_E := (.invokevirtual 250, 2, 5, [181, 2, 0, 0, 7], .null) :: x180_5
theorem ox180_2 : sx_oks 180 x180_2 := ⟨sx_q_V (w := (RX8, TX8, 31)) (sx_dd bb_180 dX8_either_2) oo_180 lk_StrawGarrisonModel_250_V ft_181_h (Nat.le_of_ble_eq_true rfl) rfl rfl, ox180_5⟩
def x180_1 : List sx_E := (.iload 1, 1, 2, [], .null) :: x180_2
theorem ox180_1 : sx_oks 180 x180_1 := ⟨Or.inr ⟨_, (sx_dd bb_180 dX8_either_1), rfl, rfl⟩, ox180_2⟩
def x180_0 : List sx_E := (.aload 0, 0, 1, [], .null) :: x180_1
theorem ox180_0 : sx_oks 180 x180_0 := ⟨Or.inr ⟨_, (sx_dd bb_180 dX8_either_0), rfl, rfl⟩, ox180_1⟩
theorem m180 : sx_mok 180 x180_0 := ⟨ox180_0, by decide +kernel⟩
theorem bb_181 : sx_by 181 = cX8_both := rfl
theorem oo_181 : (sx_nm 181).cls = "StrawGarrisonModel" := rfl
theorem mm_181 : sx_ml 181 = 2 := rfl
theorem rr_181 : sx_rt 181 = (some .boolean) := rfl
def x181_44 : List sx_E := (.ireturn, 44, 45, [1], .null) :: []
theorem ox181_44 : sx_oks 181 x181_44 := ⟨sx_q_iret1 (sx_dd bb_181 dX8_both_44) rr_181, trivial⟩
def x181_43 : List sx_E := (.nop, 43, 44, [], .int (nI 1)) :: x181_44
theorem ox181_43 : sx_oks 181 x181_43 := ⟨sx_k_iconst (sx_dd bb_181 dX8_both_43) (by decide +kernel), ox181_44⟩
def x181_40 : List sx_E := (.goto (-30), 40, 43, [10], .null) :: x181_43
theorem ox181_40 : sx_oks 181 x181_40 := ⟨⟨(sx_dd bb_181 dX8_both_40), sx_t1 (by decide +kernel)⟩, ox181_43⟩
def x181_37 : List sx_E := (.invokevirtual 259, 37, 40, [179, 3, 0, 0, 7], .null) :: x181_40
theorem ox181_37 : sx_oks 181 x181_37 := ⟨sx_q_V (w := (RX8, TX8, 31)) (sx_dd bb_181 dX8_both_37) oo_181 lk_StrawGarrisonModel_259_V ft_179_h (Nat.le_of_ble_eq_true rfl) rfl rfl, ox181_40⟩
def x181_35 : List sx_E := (.nop, 35, 37, [], .int (nI 38)) :: x181_37
theorem ox181_35 : sx_oks 181 x181_35 := ⟨sx_k_bipush (sx_dd bb_181 dX8_both_35) (by decide +kernel), ox181_37⟩
def x181_34 : List sx_E := (.nop, 34, 35, [], .int (nI 2)) :: x181_35
theorem ox181_34 : sx_oks 181 x181_34 := ⟨sx_k_iconst (sx_dd bb_181 dX8_both_34) (by decide +kernel), ox181_35⟩
def x181_33 : List sx_E := (.aload 0, 33, 34, [], .null) :: x181_34
theorem ox181_33 : sx_oks 181 x181_33 := ⟨Or.inr ⟨_, (sx_dd bb_181 dX8_both_33), rfl, rfl⟩, ox181_34⟩
def x181_32 : List sx_E := (.ireturn, 32, 33, [1], .null) :: x181_33
theorem ox181_32 : sx_oks 181 x181_32 := ⟨sx_q_iret1 (sx_dd bb_181 dX8_both_32) rr_181, ox181_33⟩
def x181_31 : List sx_E := (.nop, 31, 32, [], .int (nI 0)) :: x181_32
theorem ox181_31 : sx_oks 181 x181_31 := ⟨sx_k_iconst (sx_dd bb_181 dX8_both_31) (by decide +kernel), ox181_32⟩
def x181_28 : List sx_E := (.ifCond .ne (5), 28, 31, [33], .null) :: x181_31
theorem ox181_28 : sx_oks 181 x181_28 := ⟨⟨(sx_dd bb_181 dX8_both_28), rfl, sx_t1 (by decide +kernel)⟩, ox181_31⟩
def x181_25 : List sx_E := (.invokevirtual 263, 25, 28, [182, 2, 0, 0, 7], .null) :: x181_28
theorem ox181_25 : sx_oks 181 x181_25 := ⟨sx_q_V (w := (RX8, TX8, 31)) (sx_dd bb_181 dX8_both_25) oo_181 lk_StrawGarrisonModel_263_V ft_182_h (Nat.le_of_ble_eq_true rfl) rfl rfl, ox181_28⟩
def x181_24 : List sx_E := (.iload 1, 24, 25, [], .null) :: x181_25
theorem ox181_24 : sx_oks 181 x181_24 := ⟨Or.inr ⟨_, (sx_dd bb_181 dX8_both_24), rfl, rfl⟩, ox181_25⟩
def x181_23 : List sx_E := (.aload 0, 23, 24, [], .null) :: x181_24
theorem ox181_23 : sx_oks 181 x181_23 := ⟨Or.inr ⟨_, (sx_dd bb_181 dX8_both_23), rfl, rfl⟩, ox181_24⟩
def x181_20 : List sx_E := (.invokevirtual 256, 20, 23, [174, 1, 0, 0, 7], .null) :: x181_23
theorem ox181_20 : sx_oks 181 x181_20 := ⟨sx_q_V (w := (RX8, TX8, 31)) (sx_dd bb_181 dX8_both_20) oo_181 lk_StrawGarrisonModel_256_V ft_174_h (Nat.le_of_ble_eq_true rfl) rfl rfl, ox181_23⟩
def x181_19 : List sx_E := (.aload 0, 19, 20, [], .null) :: x181_20
theorem ox181_19 : sx_oks 181 x181_19 := ⟨Or.inr ⟨_, (sx_dd bb_181 dX8_both_19), rfl, rfl⟩, ox181_20⟩
def x181_16 : List sx_E := (.ifCond .eq (27), 16, 19, [43], .null) :: x181_19
theorem ox181_16 : sx_oks 181 x181_16 := ⟨⟨(sx_dd bb_181 dX8_both_16), rfl, sx_t1 (by decide +kernel)⟩, ox181_19⟩
def x181_13 : List sx_E := (.invokevirtual 253, 13, 16, [175, 2, 0, 0, 7], .null) :: x181_16
theorem ox181_13 : sx_oks 181 x181_13 := ⟨sx_q_V (w := (RX8, TX8, 31)) (sx_dd bb_181 dX8_both_13) oo_181 lk_StrawGarrisonModel_253_V ft_175_h (Nat.le_of_ble_eq_true rfl) rfl rfl, ox181_16⟩
def x181_11 : List sx_E := (.nop, 11, 13, [], .int (nI 38)) :: x181_13
theorem ox181_11 : sx_oks 181 x181_11 := ⟨sx_k_bipush (sx_dd bb_181 dX8_both_11) (by decide +kernel), ox181_13⟩
def x181_10 : List sx_E := (.aload 0, 10, 11, [], .null) :: x181_11
theorem ox181_10 : sx_oks 181 x181_10 := ⟨Or.inr ⟨_, (sx_dd bb_181 dX8_both_10), rfl, rfl⟩, ox181_11⟩
def x181_10h : List sx_E := (.monitorenter, 10, 10, [0, 1], .null) :: x181_10
theorem ox181_10h : sx_oks 181 x181_10h := ⟨trivial, ox181_10⟩
def x181_9 : List sx_E := (.ireturn, 9, 10, [1], .null) :: x181_10h
theorem ox181_9 : sx_oks 181 x181_9 := ⟨sx_q_iret1 (sx_dd bb_181 dX8_both_9) rr_181, ox181_10h⟩
def x181_8 : List sx_E := (.nop, 8, 9, [], .int (nI 0)) :: x181_9
theorem ox181_8 : sx_oks 181 x181_8 := ⟨sx_k_iconst (sx_dd bb_181 dX8_both_8) (by decide +kernel), ox181_9⟩
def x181_5 : List sx_E := (.ifCond .ne (5), 5, 8, [10], .null) :: x181_8
theorem ox181_5 : sx_oks 181 x181_5 := ⟨⟨(sx_dd bb_181 dX8_both_5), rfl, sx_t1 (by decide +kernel)⟩, ox181_8⟩
def x181_2 : List sx_E := (.invokevirtual 263, 2, 5, [182, 2, 0, 0, 7], .null) :: x181_5
theorem ox181_2 : sx_oks 181 x181_2 := ⟨sx_q_V (w := (RX8, TX8, 31)) (sx_dd bb_181 dX8_both_2) oo_181 lk_StrawGarrisonModel_263_V ft_182_h (Nat.le_of_ble_eq_true rfl) rfl rfl, ox181_5⟩
def x181_1 : List sx_E := (.iload 1, 1, 2, [], .null) :: x181_2
theorem ox181_1 : sx_oks 181 x181_1 := ⟨Or.inr ⟨_, (sx_dd bb_181 dX8_both_1), rfl, rfl⟩, ox181_2⟩
def x181_0 : List sx_E := (.aload 0, 0, 1, [], .null) :: x181_1
theorem ox181_0 : sx_oks 181 x181_0 := ⟨Or.inr ⟨_, (sx_dd bb_181 dX8_both_0), rfl, rfl⟩, ox181_1⟩
theorem m181 : sx_mok 181 x181_0 := ⟨ox181_0, by decide +kernel⟩
theorem bb_182 : sx_by 182 = cX8_test := rfl
theorem oo_182 : (sx_nm 182).cls = "StrawGarrisonModel" := rfl
theorem mm_182 : sx_ml 182 = 3 := rfl
theorem rr_182 : sx_rt 182 = (some .boolean) := rfl
def x182_63 : List sx_E := (.ireturn, 63, 64, [1], .null) :: []
theorem ox182_63 : sx_oks 182 x182_63 := ⟨sx_q_iret1 (sx_dd bb_182 dX8_test_63) rr_182, trivial⟩
def x182_62 : List sx_E := (.nop, 62, 63, [], .int (nI 1)) :: x182_63
theorem ox182_62 : sx_oks 182 x182_62 := ⟨sx_k_iconst (sx_dd bb_182 dX8_test_62) (by decide +kernel), ox182_63⟩
def x182_62h : List sx_E := (.monitorenter, 62, 62, [], .null) :: x182_62
theorem ox182_62h : sx_oks 182 x182_62h := ⟨trivial, ox182_62⟩
def x182_59 : List sx_E := (.invokevirtual 259, 59, 62, [179, 3, 0, 0, 7], .null) :: x182_62h
theorem ox182_59 : sx_oks 182 x182_59 := ⟨sx_q_V (w := (RX8, TX8, 31)) (sx_dd bb_182 dX8_test_59) oo_182 lk_StrawGarrisonModel_259_V ft_179_h (Nat.le_of_ble_eq_true rfl) rfl rfl, ox182_62h⟩
def x182_58 : List sx_E := (.iload 2, 58, 59, [], .null) :: x182_59
theorem ox182_58 : sx_oks 182 x182_58 := ⟨Or.inr ⟨_, (sx_dd bb_182 dX8_test_58), rfl, rfl⟩, ox182_59⟩
def x182_57 : List sx_E := (.nop, 57, 58, [], .int (nI 2)) :: x182_58
theorem ox182_57 : sx_oks 182 x182_57 := ⟨sx_k_iconst (sx_dd bb_182 dX8_test_57) (by decide +kernel), ox182_58⟩
def x182_56 : List sx_E := (.aload 0, 56, 57, [], .null) :: x182_57
theorem ox182_56 : sx_oks 182 x182_56 := ⟨Or.inr ⟨_, (sx_dd bb_182 dX8_test_56), rfl, rfl⟩, ox182_57⟩
def x182_55 : List sx_E := (.ireturn, 55, 56, [1], .null) :: x182_56
theorem ox182_55 : sx_oks 182 x182_55 := ⟨sx_q_iret1 (sx_dd bb_182 dX8_test_55) rr_182, ox182_56⟩
def x182_54 : List sx_E := (.nop, 54, 55, [], .int (nI 0)) :: x182_55
theorem ox182_54 : sx_oks 182 x182_54 := ⟨sx_k_iconst (sx_dd bb_182 dX8_test_54) (by decide +kernel), ox182_55⟩
def x182_51 : List sx_E := (.ifCond .ne (5), 51, 54, [56], .null) :: x182_54
theorem ox182_51 : sx_oks 182 x182_51 := ⟨⟨(sx_dd bb_182 dX8_test_51), rfl, sx_t1 (by decide +kernel)⟩, ox182_54⟩
def x182_48 : List sx_E := (.invokevirtual 266, 48, 51, [183, 2, 0, 0, 7], .null) :: x182_51
theorem ox182_48 : sx_oks 182 x182_48 := ⟨sx_q_V (w := (RX8, TX8, 31)) (sx_dd bb_182 dX8_test_48) oo_182 lk_StrawGarrisonModel_266_V ft_183_h (Nat.le_of_ble_eq_true rfl) rfl rfl, ox182_51⟩
def x182_47 : List sx_E := (.iload 1, 47, 48, [], .null) :: x182_48
theorem ox182_47 : sx_oks 182 x182_47 := ⟨Or.inr ⟨_, (sx_dd bb_182 dX8_test_47), rfl, rfl⟩, ox182_48⟩
def x182_46 : List sx_E := (.aload 0, 46, 47, [], .null) :: x182_47
theorem ox182_46 : sx_oks 182 x182_46 := ⟨Or.inr ⟨_, (sx_dd bb_182 dX8_test_46), rfl, rfl⟩, ox182_47⟩
def x182_43 : List sx_E := (.invokevirtual 256, 43, 46, [174, 1, 0, 0, 7], .null) :: x182_46
theorem ox182_43 : sx_oks 182 x182_43 := ⟨sx_q_V (w := (RX8, TX8, 31)) (sx_dd bb_182 dX8_test_43) oo_182 lk_StrawGarrisonModel_256_V ft_174_h (Nat.le_of_ble_eq_true rfl) rfl rfl, ox182_46⟩
def x182_42 : List sx_E := (.aload 0, 42, 43, [], .null) :: x182_43
theorem ox182_42 : sx_oks 182 x182_42 := ⟨Or.inr ⟨_, (sx_dd bb_182 dX8_test_42), rfl, rfl⟩, ox182_43⟩
def x182_41 : List sx_E := (.istore 2, 41, 42, [], .null) :: x182_42
theorem ox182_41 : sx_oks 182 x182_41 := ⟨⟨sx_lt mm_182 (Nat.le_of_ble_eq_true rfl), Or.inr ⟨_, (sx_dd bb_182 dX8_test_41), rfl, rfl⟩⟩, ox182_42⟩
def x182_38 : List sx_E := (.getfield 231, 38, 41, [7, 19, 0], .null) :: x182_41
theorem ox182_38 : sx_oks 182 x182_38 := ⟨sx_q_get (w := (RX8, TX8, 31)) (sx_dd bb_182 dX8_test_38) rfl rfl (Nat.le_of_ble_eq_true rfl) cu_7 (sx_ow3 oo_182 fl_StrawGarrisonModel_231) (by decide +kernel), ox182_41⟩
def x182_37 : List sx_E := (.aload 0, 37, 38, [], .null) :: x182_38
theorem ox182_37 : sx_oks 182 x182_37 := ⟨Or.inr ⟨_, (sx_dd bb_182 dX8_test_37), rfl, rfl⟩, ox182_38⟩
def x182_37h : List sx_E := (.monitorenter, 37, 37, [0, 1], .null) :: x182_37
theorem ox182_37h : sx_oks 182 x182_37h := ⟨trivial, ox182_37⟩
def x182_34 : List sx_E := (.ifCond .eq (28), 34, 37, [62], .null) :: x182_37h
theorem ox182_34 : sx_oks 182 x182_34 := ⟨⟨(sx_dd bb_182 dX8_test_34), rfl, sx_t1 (by decide +kernel)⟩, ox182_37h⟩
def x182_31 : List sx_E := (.invokevirtual 253, 31, 34, [175, 2, 0, 0, 7], .null) :: x182_34
theorem ox182_31 : sx_oks 182 x182_31 := ⟨sx_q_V (w := (RX8, TX8, 31)) (sx_dd bb_182 dX8_test_31) oo_182 lk_StrawGarrisonModel_253_V ft_175_h (Nat.le_of_ble_eq_true rfl) rfl rfl, ox182_34⟩
def x182_29 : List sx_E := (.nop, 29, 31, [], .int (nI 62)) :: x182_31
theorem ox182_29 : sx_oks 182 x182_29 := ⟨sx_k_bipush (sx_dd bb_182 dX8_test_29) (by decide +kernel), ox182_31⟩
def x182_28 : List sx_E := (.aload 0, 28, 29, [], .null) :: x182_29
theorem ox182_28 : sx_oks 182 x182_28 := ⟨Or.inr ⟨_, (sx_dd bb_182 dX8_test_28), rfl, rfl⟩, ox182_29⟩
def x182_25 : List sx_E := (.ifCond .ne (12), 25, 28, [37], .null) :: x182_28
theorem ox182_25 : sx_oks 182 x182_25 := ⟨⟨(sx_dd bb_182 dX8_test_25), rfl, sx_t1 (by decide +kernel)⟩, ox182_28⟩
def x182_22 : List sx_E := (.invokevirtual 253, 22, 25, [175, 2, 0, 0, 7], .null) :: x182_25
theorem ox182_22 : sx_oks 182 x182_22 := ⟨sx_q_V (w := (RX8, TX8, 31)) (sx_dd bb_182 dX8_test_22) oo_182 lk_StrawGarrisonModel_253_V ft_175_h (Nat.le_of_ble_eq_true rfl) rfl rfl, ox182_25⟩
def x182_20 : List sx_E := (.nop, 20, 22, [], .int (nI 61)) :: x182_22
theorem ox182_20 : sx_oks 182 x182_20 := ⟨sx_k_bipush (sx_dd bb_182 dX8_test_20) (by decide +kernel), ox182_22⟩
def x182_19 : List sx_E := (.aload 0, 19, 20, [], .null) :: x182_20
theorem ox182_19 : sx_oks 182 x182_19 := ⟨Or.inr ⟨_, (sx_dd bb_182 dX8_test_19), rfl, rfl⟩, ox182_20⟩
def x182_16 : List sx_E := (.ifCond .ne (21), 16, 19, [37], .null) :: x182_19
theorem ox182_16 : sx_oks 182 x182_16 := ⟨⟨(sx_dd bb_182 dX8_test_16), rfl, sx_t1 (by decide +kernel)⟩, ox182_19⟩
def x182_13 : List sx_E := (.invokevirtual 253, 13, 16, [175, 2, 0, 0, 7], .null) :: x182_16
theorem ox182_13 : sx_oks 182 x182_13 := ⟨sx_q_V (w := (RX8, TX8, 31)) (sx_dd bb_182 dX8_test_13) oo_182 lk_StrawGarrisonModel_253_V ft_175_h (Nat.le_of_ble_eq_true rfl) rfl rfl, ox182_16⟩
def x182_11 : List sx_E := (.nop, 11, 13, [], .int (nI 60)) :: x182_13
theorem ox182_11 : sx_oks 182 x182_11 := ⟨sx_k_bipush (sx_dd bb_182 dX8_test_11) (by decide +kernel), ox182_13⟩
def x182_10 : List sx_E := (.aload 0, 10, 11, [], .null) :: x182_11
theorem ox182_10 : sx_oks 182 x182_10 := ⟨Or.inr ⟨_, (sx_dd bb_182 dX8_test_10), rfl, rfl⟩, ox182_11⟩
def x182_9 : List sx_E := (.ireturn, 9, 10, [1], .null) :: x182_10
theorem ox182_9 : sx_oks 182 x182_9 := ⟨sx_q_iret1 (sx_dd bb_182 dX8_test_9) rr_182, ox182_10⟩
def x182_8 : List sx_E := (.nop, 8, 9, [], .int (nI 0)) :: x182_9
theorem ox182_8 : sx_oks 182 x182_8 := ⟨sx_k_iconst (sx_dd bb_182 dX8_test_8) (by decide +kernel), ox182_9⟩
def x182_5 : List sx_E := (.ifCond .ne (5), 5, 8, [10], .null) :: x182_8
theorem ox182_5 : sx_oks 182 x182_5 := ⟨⟨(sx_dd bb_182 dX8_test_5), rfl, sx_t1 (by decide +kernel)⟩, ox182_8⟩
def x182_2 : List sx_E := (.invokevirtual 266, 2, 5, [183, 2, 0, 0, 7], .null) :: x182_5
theorem ox182_2 : sx_oks 182 x182_2 := ⟨sx_q_V (w := (RX8, TX8, 31)) (sx_dd bb_182 dX8_test_2) oo_182 lk_StrawGarrisonModel_266_V ft_183_h (Nat.le_of_ble_eq_true rfl) rfl rfl, ox182_5⟩
def x182_1 : List sx_E := (.iload 1, 1, 2, [], .null) :: x182_2
theorem ox182_1 : sx_oks 182 x182_1 := ⟨Or.inr ⟨_, (sx_dd bb_182 dX8_test_1), rfl, rfl⟩, ox182_2⟩
def x182_0 : List sx_E := (.aload 0, 0, 1, [], .null) :: x182_1
theorem ox182_0 : sx_oks 182 x182_0 := ⟨Or.inr ⟨_, (sx_dd bb_182 dX8_test_0), rfl, rfl⟩, ox182_1⟩
theorem m182 : sx_mok 182 x182_0 := ⟨ox182_0, by decide +kernel⟩
theorem bb_183 : sx_by 183 = cX8_sum := rfl
theorem oo_183 : (sx_nm 183).cls = "StrawGarrisonModel" := rfl
theorem mm_183 : sx_ml 183 = 3 := rfl
theorem rr_183 : sx_rt 183 = (some .boolean) := rfl
def x183_57 : List sx_E := (.ireturn, 57, 58, [1], .null) :: []
theorem ox183_57 : sx_oks 183 x183_57 := ⟨sx_q_iret1 (sx_dd bb_183 dX8_sum_57) rr_183, trivial⟩
def x183_56 : List sx_E := (.nop, 56, 57, [], .int (nI 1)) :: x183_57
theorem ox183_56 : sx_oks 183 x183_56 := ⟨sx_k_iconst (sx_dd bb_183 dX8_sum_56) (by decide +kernel), ox183_57⟩
def x183_53 : List sx_E := (.goto (-43), 53, 56, [10], .null) :: x183_56
theorem ox183_53 : sx_oks 183 x183_53 := ⟨⟨(sx_dd bb_183 dX8_sum_53), sx_t1 (by decide +kernel)⟩, ox183_56⟩
def x183_50 : List sx_E := (.invokevirtual 259, 50, 53, [179, 3, 0, 0, 7], .null) :: x183_53
theorem ox183_50 : sx_oks 183 x183_50 := ⟨sx_q_V (w := (RX8, TX8, 31)) (sx_dd bb_183 dX8_sum_50) oo_183 lk_StrawGarrisonModel_259_V ft_179_h (Nat.le_of_ble_eq_true rfl) rfl rfl, ox183_53⟩
def x183_49 : List sx_E := (.iload 2, 49, 50, [], .null) :: x183_50
theorem ox183_49 : sx_oks 183 x183_49 := ⟨Or.inr ⟨_, (sx_dd bb_183 dX8_sum_49), rfl, rfl⟩, ox183_50⟩
def x183_48 : List sx_E := (.nop, 48, 49, [], .int (nI 2)) :: x183_49
theorem ox183_48 : sx_oks 183 x183_48 := ⟨sx_k_iconst (sx_dd bb_183 dX8_sum_48) (by decide +kernel), ox183_49⟩
def x183_47 : List sx_E := (.aload 0, 47, 48, [], .null) :: x183_48
theorem ox183_47 : sx_oks 183 x183_47 := ⟨Or.inr ⟨_, (sx_dd bb_183 dX8_sum_47), rfl, rfl⟩, ox183_48⟩
def x183_46 : List sx_E := (.ireturn, 46, 47, [1], .null) :: x183_47
theorem ox183_46 : sx_oks 183 x183_46 := ⟨sx_q_iret1 (sx_dd bb_183 dX8_sum_46) rr_183, ox183_47⟩
def x183_45 : List sx_E := (.nop, 45, 46, [], .int (nI 0)) :: x183_46
theorem ox183_45 : sx_oks 183 x183_45 := ⟨sx_k_iconst (sx_dd bb_183 dX8_sum_45) (by decide +kernel), ox183_46⟩
def x183_42 : List sx_E := (.ifCond .ne (5), 42, 45, [47], .null) :: x183_45
theorem ox183_42 : sx_oks 183 x183_42 := ⟨⟨(sx_dd bb_183 dX8_sum_42), rfl, sx_t1 (by decide +kernel)⟩, ox183_45⟩
def x183_39 : List sx_E := (.invokevirtual 269, 39, 42, [184, 2, 0, 0, 7], .null) :: x183_42
theorem ox183_39 : sx_oks 183 x183_39 := ⟨sx_q_V (w := (RX8, TX8, 31)) (sx_dd bb_183 dX8_sum_39) oo_183 lk_StrawGarrisonModel_269_V ft_184_h (Nat.le_of_ble_eq_true rfl) rfl rfl, ox183_42⟩
def x183_38 : List sx_E := (.iload 1, 38, 39, [], .null) :: x183_39
theorem ox183_38 : sx_oks 183 x183_38 := ⟨Or.inr ⟨_, (sx_dd bb_183 dX8_sum_38), rfl, rfl⟩, ox183_39⟩
def x183_37 : List sx_E := (.aload 0, 37, 38, [], .null) :: x183_38
theorem ox183_37 : sx_oks 183 x183_37 := ⟨Or.inr ⟨_, (sx_dd bb_183 dX8_sum_37), rfl, rfl⟩, ox183_38⟩
def x183_34 : List sx_E := (.invokevirtual 256, 34, 37, [174, 1, 0, 0, 7], .null) :: x183_37
theorem ox183_34 : sx_oks 183 x183_34 := ⟨sx_q_V (w := (RX8, TX8, 31)) (sx_dd bb_183 dX8_sum_34) oo_183 lk_StrawGarrisonModel_256_V ft_174_h (Nat.le_of_ble_eq_true rfl) rfl rfl, ox183_37⟩
def x183_33 : List sx_E := (.aload 0, 33, 34, [], .null) :: x183_34
theorem ox183_33 : sx_oks 183 x183_33 := ⟨Or.inr ⟨_, (sx_dd bb_183 dX8_sum_33), rfl, rfl⟩, ox183_34⟩
def x183_32 : List sx_E := (.istore 2, 32, 33, [], .null) :: x183_33
theorem ox183_32 : sx_oks 183 x183_32 := ⟨⟨sx_lt mm_183 (Nat.le_of_ble_eq_true rfl), Or.inr ⟨_, (sx_dd bb_183 dX8_sum_32), rfl, rfl⟩⟩, ox183_33⟩
def x183_29 : List sx_E := (.getfield 231, 29, 32, [7, 19, 0], .null) :: x183_32
theorem ox183_29 : sx_oks 183 x183_29 := ⟨sx_q_get (w := (RX8, TX8, 31)) (sx_dd bb_183 dX8_sum_29) rfl rfl (Nat.le_of_ble_eq_true rfl) cu_7 (sx_ow3 oo_183 fl_StrawGarrisonModel_231) (by decide +kernel), ox183_32⟩
def x183_28 : List sx_E := (.aload 0, 28, 29, [], .null) :: x183_29
theorem ox183_28 : sx_oks 183 x183_28 := ⟨Or.inr ⟨_, (sx_dd bb_183 dX8_sum_28), rfl, rfl⟩, ox183_29⟩
def x183_28h : List sx_E := (.monitorenter, 28, 28, [0, 1], .null) :: x183_28
theorem ox183_28h : sx_oks 183 x183_28h := ⟨trivial, ox183_28⟩
def x183_25 : List sx_E := (.ifCond .eq (31), 25, 28, [56], .null) :: x183_28h
theorem ox183_25 : sx_oks 183 x183_25 := ⟨⟨(sx_dd bb_183 dX8_sum_25), rfl, sx_t1 (by decide +kernel)⟩, ox183_28h⟩
def x183_22 : List sx_E := (.invokevirtual 253, 22, 25, [175, 2, 0, 0, 7], .null) :: x183_25
theorem ox183_22 : sx_oks 183 x183_22 := ⟨sx_q_V (w := (RX8, TX8, 31)) (sx_dd bb_183 dX8_sum_22) oo_183 lk_StrawGarrisonModel_253_V ft_175_h (Nat.le_of_ble_eq_true rfl) rfl rfl, ox183_25⟩
def x183_20 : List sx_E := (.nop, 20, 22, [], .int (nI 45)) :: x183_22
theorem ox183_20 : sx_oks 183 x183_20 := ⟨sx_k_bipush (sx_dd bb_183 dX8_sum_20) (by decide +kernel), ox183_22⟩
def x183_19 : List sx_E := (.aload 0, 19, 20, [], .null) :: x183_20
theorem ox183_19 : sx_oks 183 x183_19 := ⟨Or.inr ⟨_, (sx_dd bb_183 dX8_sum_19), rfl, rfl⟩, ox183_20⟩
def x183_16 : List sx_E := (.ifCond .ne (12), 16, 19, [28], .null) :: x183_19
theorem ox183_16 : sx_oks 183 x183_16 := ⟨⟨(sx_dd bb_183 dX8_sum_16), rfl, sx_t1 (by decide +kernel)⟩, ox183_19⟩
def x183_13 : List sx_E := (.invokevirtual 253, 13, 16, [175, 2, 0, 0, 7], .null) :: x183_16
theorem ox183_13 : sx_oks 183 x183_13 := ⟨sx_q_V (w := (RX8, TX8, 31)) (sx_dd bb_183 dX8_sum_13) oo_183 lk_StrawGarrisonModel_253_V ft_175_h (Nat.le_of_ble_eq_true rfl) rfl rfl, ox183_16⟩
def x183_11 : List sx_E := (.nop, 11, 13, [], .int (nI 43)) :: x183_13
theorem ox183_11 : sx_oks 183 x183_11 := ⟨sx_k_bipush (sx_dd bb_183 dX8_sum_11) (by decide +kernel), ox183_13⟩
def x183_10 : List sx_E := (.aload 0, 10, 11, [], .null) :: x183_11
theorem ox183_10 : sx_oks 183 x183_10 := ⟨Or.inr ⟨_, (sx_dd bb_183 dX8_sum_10), rfl, rfl⟩, ox183_11⟩
def x183_10h : List sx_E := (.monitorenter, 10, 10, [0, 1], .null) :: x183_10
theorem ox183_10h : sx_oks 183 x183_10h := ⟨trivial, ox183_10⟩
def x183_9 : List sx_E := (.ireturn, 9, 10, [1], .null) :: x183_10h
theorem ox183_9 : sx_oks 183 x183_9 := ⟨sx_q_iret1 (sx_dd bb_183 dX8_sum_9) rr_183, ox183_10h⟩
def x183_8 : List sx_E := (.nop, 8, 9, [], .int (nI 0)) :: x183_9
theorem ox183_8 : sx_oks 183 x183_8 := ⟨sx_k_iconst (sx_dd bb_183 dX8_sum_8) (by decide +kernel), ox183_9⟩
def x183_5 : List sx_E := (.ifCond .ne (5), 5, 8, [10], .null) :: x183_8
theorem ox183_5 : sx_oks 183 x183_5 := ⟨⟨(sx_dd bb_183 dX8_sum_5), rfl, sx_t1 (by decide +kernel)⟩, ox183_8⟩
def x183_2 : List sx_E := (.invokevirtual 269, 2, 5, [184, 2, 0, 0, 7], .null) :: x183_5
theorem ox183_2 : sx_oks 183 x183_2 := ⟨sx_q_V (w := (RX8, TX8, 31)) (sx_dd bb_183 dX8_sum_2) oo_183 lk_StrawGarrisonModel_269_V ft_184_h (Nat.le_of_ble_eq_true rfl) rfl rfl, ox183_5⟩
def x183_1 : List sx_E := (.iload 1, 1, 2, [], .null) :: x183_2
theorem ox183_1 : sx_oks 183 x183_1 := ⟨Or.inr ⟨_, (sx_dd bb_183 dX8_sum_1), rfl, rfl⟩, ox183_2⟩
def x183_0 : List sx_E := (.aload 0, 0, 1, [], .null) :: x183_1
theorem ox183_0 : sx_oks 183 x183_0 := ⟨Or.inr ⟨_, (sx_dd bb_183 dX8_sum_0), rfl, rfl⟩, ox183_1⟩
theorem m183 : sx_mok 183 x183_0 := ⟨ox183_0, by decide +kernel⟩
theorem bb_184 : sx_by 184 = cX8_term := rfl
theorem oo_184 : (sx_nm 184).cls = "StrawGarrisonModel" := rfl
theorem mm_184 : sx_ml 184 = 3 := rfl
theorem rr_184 : sx_rt 184 = (some .boolean) := rfl
def x184_57 : List sx_E := (.ireturn, 57, 58, [1], .null) :: []
theorem ox184_57 : sx_oks 184 x184_57 := ⟨sx_q_iret1 (sx_dd bb_184 dX8_term_57) rr_184, trivial⟩
def x184_56 : List sx_E := (.nop, 56, 57, [], .int (nI 1)) :: x184_57
theorem ox184_56 : sx_oks 184 x184_56 := ⟨sx_k_iconst (sx_dd bb_184 dX8_term_56) (by decide +kernel), ox184_57⟩
def x184_53 : List sx_E := (.goto (-43), 53, 56, [10], .null) :: x184_56
theorem ox184_53 : sx_oks 184 x184_53 := ⟨⟨(sx_dd bb_184 dX8_term_53), sx_t1 (by decide +kernel)⟩, ox184_56⟩
def x184_50 : List sx_E := (.invokevirtual 259, 50, 53, [179, 3, 0, 0, 7], .null) :: x184_53
theorem ox184_50 : sx_oks 184 x184_50 := ⟨sx_q_V (w := (RX8, TX8, 31)) (sx_dd bb_184 dX8_term_50) oo_184 lk_StrawGarrisonModel_259_V ft_179_h (Nat.le_of_ble_eq_true rfl) rfl rfl, ox184_53⟩
def x184_49 : List sx_E := (.iload 2, 49, 50, [], .null) :: x184_50
theorem ox184_49 : sx_oks 184 x184_49 := ⟨Or.inr ⟨_, (sx_dd bb_184 dX8_term_49), rfl, rfl⟩, ox184_50⟩
def x184_48 : List sx_E := (.nop, 48, 49, [], .int (nI 2)) :: x184_49
theorem ox184_48 : sx_oks 184 x184_48 := ⟨sx_k_iconst (sx_dd bb_184 dX8_term_48) (by decide +kernel), ox184_49⟩
def x184_47 : List sx_E := (.aload 0, 47, 48, [], .null) :: x184_48
theorem ox184_47 : sx_oks 184 x184_47 := ⟨Or.inr ⟨_, (sx_dd bb_184 dX8_term_47), rfl, rfl⟩, ox184_48⟩
def x184_46 : List sx_E := (.ireturn, 46, 47, [1], .null) :: x184_47
theorem ox184_46 : sx_oks 184 x184_46 := ⟨sx_q_iret1 (sx_dd bb_184 dX8_term_46) rr_184, ox184_47⟩
def x184_45 : List sx_E := (.nop, 45, 46, [], .int (nI 0)) :: x184_46
theorem ox184_45 : sx_oks 184 x184_45 := ⟨sx_k_iconst (sx_dd bb_184 dX8_term_45) (by decide +kernel), ox184_46⟩
def x184_42 : List sx_E := (.ifCond .ne (5), 42, 45, [47], .null) :: x184_45
theorem ox184_42 : sx_oks 184 x184_42 := ⟨⟨(sx_dd bb_184 dX8_term_42), rfl, sx_t1 (by decide +kernel)⟩, ox184_45⟩
def x184_39 : List sx_E := (.invokevirtual 272, 39, 42, [185, 2, 0, 0, 7], .null) :: x184_42
theorem ox184_39 : sx_oks 184 x184_39 := ⟨sx_q_V (w := (RX8, TX8, 31)) (sx_dd bb_184 dX8_term_39) oo_184 lk_StrawGarrisonModel_272_V ft_185_h (Nat.le_of_ble_eq_true rfl) rfl rfl, ox184_42⟩
def x184_38 : List sx_E := (.iload 1, 38, 39, [], .null) :: x184_39
theorem ox184_38 : sx_oks 184 x184_38 := ⟨Or.inr ⟨_, (sx_dd bb_184 dX8_term_38), rfl, rfl⟩, ox184_39⟩
def x184_37 : List sx_E := (.aload 0, 37, 38, [], .null) :: x184_38
theorem ox184_37 : sx_oks 184 x184_37 := ⟨Or.inr ⟨_, (sx_dd bb_184 dX8_term_37), rfl, rfl⟩, ox184_38⟩
def x184_34 : List sx_E := (.invokevirtual 256, 34, 37, [174, 1, 0, 0, 7], .null) :: x184_37
theorem ox184_34 : sx_oks 184 x184_34 := ⟨sx_q_V (w := (RX8, TX8, 31)) (sx_dd bb_184 dX8_term_34) oo_184 lk_StrawGarrisonModel_256_V ft_174_h (Nat.le_of_ble_eq_true rfl) rfl rfl, ox184_37⟩
def x184_33 : List sx_E := (.aload 0, 33, 34, [], .null) :: x184_34
theorem ox184_33 : sx_oks 184 x184_33 := ⟨Or.inr ⟨_, (sx_dd bb_184 dX8_term_33), rfl, rfl⟩, ox184_34⟩
def x184_32 : List sx_E := (.istore 2, 32, 33, [], .null) :: x184_33
theorem ox184_32 : sx_oks 184 x184_32 := ⟨⟨sx_lt mm_184 (Nat.le_of_ble_eq_true rfl), Or.inr ⟨_, (sx_dd bb_184 dX8_term_32), rfl, rfl⟩⟩, ox184_33⟩
def x184_29 : List sx_E := (.getfield 231, 29, 32, [7, 19, 0], .null) :: x184_32
theorem ox184_29 : sx_oks 184 x184_29 := ⟨sx_q_get (w := (RX8, TX8, 31)) (sx_dd bb_184 dX8_term_29) rfl rfl (Nat.le_of_ble_eq_true rfl) cu_7 (sx_ow3 oo_184 fl_StrawGarrisonModel_231) (by decide +kernel), ox184_32⟩
def x184_28 : List sx_E := (.aload 0, 28, 29, [], .null) :: x184_29
theorem ox184_28 : sx_oks 184 x184_28 := ⟨Or.inr ⟨_, (sx_dd bb_184 dX8_term_28), rfl, rfl⟩, ox184_29⟩
def x184_28h : List sx_E := (.monitorenter, 28, 28, [0, 1], .null) :: x184_28
theorem ox184_28h : sx_oks 184 x184_28h := ⟨trivial, ox184_28⟩
def x184_25 : List sx_E := (.ifCond .eq (31), 25, 28, [56], .null) :: x184_28h
theorem ox184_25 : sx_oks 184 x184_25 := ⟨⟨(sx_dd bb_184 dX8_term_25), rfl, sx_t1 (by decide +kernel)⟩, ox184_28h⟩
def x184_22 : List sx_E := (.invokevirtual 253, 22, 25, [175, 2, 0, 0, 7], .null) :: x184_25
theorem ox184_22 : sx_oks 184 x184_22 := ⟨sx_q_V (w := (RX8, TX8, 31)) (sx_dd bb_184 dX8_term_22) oo_184 lk_StrawGarrisonModel_253_V ft_175_h (Nat.le_of_ble_eq_true rfl) rfl rfl, ox184_25⟩
def x184_20 : List sx_E := (.nop, 20, 22, [], .int (nI 47)) :: x184_22
theorem ox184_20 : sx_oks 184 x184_20 := ⟨sx_k_bipush (sx_dd bb_184 dX8_term_20) (by decide +kernel), ox184_22⟩
def x184_19 : List sx_E := (.aload 0, 19, 20, [], .null) :: x184_20
theorem ox184_19 : sx_oks 184 x184_19 := ⟨Or.inr ⟨_, (sx_dd bb_184 dX8_term_19), rfl, rfl⟩, ox184_20⟩
def x184_16 : List sx_E := (.ifCond .ne (12), 16, 19, [28], .null) :: x184_19
theorem ox184_16 : sx_oks 184 x184_16 := ⟨⟨(sx_dd bb_184 dX8_term_16), rfl, sx_t1 (by decide +kernel)⟩, ox184_19⟩
def x184_13 : List sx_E := (.invokevirtual 253, 13, 16, [175, 2, 0, 0, 7], .null) :: x184_16
theorem ox184_13 : sx_oks 184 x184_13 := ⟨sx_q_V (w := (RX8, TX8, 31)) (sx_dd bb_184 dX8_term_13) oo_184 lk_StrawGarrisonModel_253_V ft_175_h (Nat.le_of_ble_eq_true rfl) rfl rfl, ox184_16⟩
def x184_11 : List sx_E := (.nop, 11, 13, [], .int (nI 42)) :: x184_13
theorem ox184_11 : sx_oks 184 x184_11 := ⟨sx_k_bipush (sx_dd bb_184 dX8_term_11) (by decide +kernel), ox184_13⟩
def x184_10 : List sx_E := (.aload 0, 10, 11, [], .null) :: x184_11
theorem ox184_10 : sx_oks 184 x184_10 := ⟨Or.inr ⟨_, (sx_dd bb_184 dX8_term_10), rfl, rfl⟩, ox184_11⟩
def x184_10h : List sx_E := (.monitorenter, 10, 10, [0, 1], .null) :: x184_10
theorem ox184_10h : sx_oks 184 x184_10h := ⟨trivial, ox184_10⟩
def x184_9 : List sx_E := (.ireturn, 9, 10, [1], .null) :: x184_10h
theorem ox184_9 : sx_oks 184 x184_9 := ⟨sx_q_iret1 (sx_dd bb_184 dX8_term_9) rr_184, ox184_10h⟩
def x184_8 : List sx_E := (.nop, 8, 9, [], .int (nI 0)) :: x184_9
theorem ox184_8 : sx_oks 184 x184_8 := ⟨sx_k_iconst (sx_dd bb_184 dX8_term_8) (by decide +kernel), ox184_9⟩
def x184_5 : List sx_E := (.ifCond .ne (5), 5, 8, [10], .null) :: x184_8
theorem ox184_5 : sx_oks 184 x184_5 := ⟨⟨(sx_dd bb_184 dX8_term_5), rfl, sx_t1 (by decide +kernel)⟩, ox184_8⟩
def x184_2 : List sx_E := (.invokevirtual 272, 2, 5, [185, 2, 0, 0, 7], .null) :: x184_5
theorem ox184_2 : sx_oks 184 x184_2 := ⟨sx_q_V (w := (RX8, TX8, 31)) (sx_dd bb_184 dX8_term_2) oo_184 lk_StrawGarrisonModel_272_V ft_185_h (Nat.le_of_ble_eq_true rfl) rfl rfl, ox184_5⟩
def x184_1 : List sx_E := (.iload 1, 1, 2, [], .null) :: x184_2
theorem ox184_1 : sx_oks 184 x184_1 := ⟨Or.inr ⟨_, (sx_dd bb_184 dX8_term_1), rfl, rfl⟩, ox184_2⟩
def x184_0 : List sx_E := (.aload 0, 0, 1, [], .null) :: x184_1
theorem ox184_0 : sx_oks 184 x184_0 := ⟨Or.inr ⟨_, (sx_dd bb_184 dX8_term_0), rfl, rfl⟩, ox184_1⟩
theorem m184 : sx_mok 184 x184_0 := ⟨ox184_0, by decide +kernel⟩
theorem bb_185 : sx_by 185 = cX8_part0 := rfl
theorem oo_185 : (sx_nm 185).cls = "StrawGarrisonModel" := rfl
theorem mm_185 : sx_ml 185 = 2 := rfl
theorem rr_185 : sx_rt 185 = (some .boolean) := rfl
def x185_213 : List sx_E := (.ireturn, 213, 214, [1], .null) :: []
theorem ox185_213 : sx_oks 185 x185_213 := ⟨sx_q_iret1 (sx_dd bb_185 dX8_part0_213) rr_185, trivial⟩
def x185_212 : List sx_E := (.nop, 212, 213, [], .int (nI 1)) :: x185_213
theorem ox185_212 : sx_oks 185 x185_212 := ⟨sx_k_iconst (sx_dd bb_185 dX8_part0_212) (by decide +kernel), ox185_213⟩
def x185_209 : List sx_E := (.invokevirtual 256, 209, 212, [174, 1, 0, 0, 7], .null) :: x185_212
theorem ox185_209 : sx_oks 185 x185_209 := ⟨sx_q_V (w := (RX8, TX8, 31)) (sx_dd bb_185 dX8_part0_209) oo_185 lk_StrawGarrisonModel_256_V ft_174_h (Nat.le_of_ble_eq_true rfl) rfl rfl, ox185_212⟩
def x185_208 : List sx_E := (.aload 0, 208, 209, [], .null) :: x185_209
theorem ox185_208 : sx_oks 185 x185_208 := ⟨Or.inr ⟨_, (sx_dd bb_185 dX8_part0_208), rfl, rfl⟩, ox185_209⟩
def x185_205 : List sx_E := (.putfield 284, 205, 208, [7, 20, 0], .null) :: x185_208
theorem ox185_205 : sx_oks 185 x185_205 := ⟨sx_q_put (w := (RX8, TX8, 31)) (ty0 := tyX8) (sx_dd bb_185 dX8_part0_205) rfl (Nat.le_of_ble_eq_true rfl) cu_7 (sx_ow3 oo_185 fl_StrawGarrisonModel_284) (by decide +kernel) tyX8_ok nmX8 (Or.inl rfl) (fun _ => rfl) (fun h => absurd h (by decide)) (fun h => absurd h (by decide)), ox185_208⟩
def x185_204 : List sx_E := (.isub, 204, 205, [], .null) :: x185_205
theorem ox185_204 : sx_oks 185 x185_204 := ⟨⟨(sx_dd bb_185 dX8_part0_204), rfl⟩, ox185_205⟩
def x185_203 : List sx_E := (.nop, 203, 204, [], .int (nI 1)) :: x185_204
theorem ox185_203 : sx_oks 185 x185_203 := ⟨sx_k_iconst (sx_dd bb_185 dX8_part0_203) (by decide +kernel), ox185_204⟩
def x185_200 : List sx_E := (.getfield 284, 200, 203, [7, 20, 0], .null) :: x185_203
theorem ox185_200 : sx_oks 185 x185_200 := ⟨sx_q_get (w := (RX8, TX8, 31)) (sx_dd bb_185 dX8_part0_200) rfl rfl (Nat.le_of_ble_eq_true rfl) cu_7 (sx_ow3 oo_185 fl_StrawGarrisonModel_284) (by decide +kernel), ox185_203⟩
def x185_199 : List sx_E := (.dup, 199, 200, [], .null) :: x185_200
theorem ox185_199 : sx_oks 185 x185_199 := ⟨⟨(sx_dd bb_185 dX8_part0_199), rfl⟩, ox185_200⟩
def x185_198 : List sx_E := (.aload 0, 198, 199, [], .null) :: x185_199
theorem ox185_198 : sx_oks 185 x185_198 := ⟨Or.inr ⟨_, (sx_dd bb_185 dX8_part0_198), rfl, rfl⟩, ox185_199⟩
def x185_197 : List sx_E := (.ireturn, 197, 198, [1], .null) :: x185_198
theorem ox185_197 : sx_oks 185 x185_197 := ⟨sx_q_iret1 (sx_dd bb_185 dX8_part0_197) rr_185, ox185_198⟩
def x185_196 : List sx_E := (.nop, 196, 197, [], .int (nI 0)) :: x185_197
theorem ox185_196 : sx_oks 185 x185_196 := ⟨sx_k_iconst (sx_dd bb_185 dX8_part0_196) (by decide +kernel), ox185_197⟩
def x185_193 : List sx_E := (.ifCond .ne (5), 193, 196, [198], .null) :: x185_196
theorem ox185_193 : sx_oks 185 x185_193 := ⟨⟨(sx_dd bb_185 dX8_part0_193), rfl, sx_t1 (by decide +kernel)⟩, ox185_196⟩
def x185_190 : List sx_E := (.invokevirtual 253, 190, 193, [175, 2, 0, 0, 7], .null) :: x185_193
theorem ox185_190 : sx_oks 185 x185_190 := ⟨sx_q_V (w := (RX8, TX8, 31)) (sx_dd bb_185 dX8_part0_190) oo_185 lk_StrawGarrisonModel_253_V ft_175_h (Nat.le_of_ble_eq_true rfl) rfl rfl, ox185_193⟩
def x185_188 : List sx_E := (.nop, 188, 190, [], .int (nI 41)) :: x185_190
theorem ox185_188 : sx_oks 185 x185_188 := ⟨sx_k_bipush (sx_dd bb_185 dX8_part0_188) (by decide +kernel), ox185_190⟩
def x185_187 : List sx_E := (.aload 0, 187, 188, [], .null) :: x185_188
theorem ox185_187 : sx_oks 185 x185_187 := ⟨Or.inr ⟨_, (sx_dd bb_185 dX8_part0_187), rfl, rfl⟩, ox185_188⟩
def x185_184 : List sx_E := (.ifCond .eq (12), 184, 187, [196], .null) :: x185_187
theorem ox185_184 : sx_oks 185 x185_184 := ⟨⟨(sx_dd bb_185 dX8_part0_184), rfl, sx_t1 (by decide +kernel)⟩, ox185_187⟩
def x185_181 : List sx_E := (.invokevirtual 287, 181, 184, [180, 2, 0, 0, 7], .null) :: x185_184
theorem ox185_181 : sx_oks 185 x185_181 := ⟨sx_q_V (w := (RX8, TX8, 31)) (sx_dd bb_185 dX8_part0_181) oo_185 lk_StrawGarrisonModel_287_V ft_180_h (Nat.le_of_ble_eq_true rfl) rfl rfl, ox185_184⟩
def x185_180 : List sx_E := (.iload 1, 180, 181, [], .null) :: x185_181
theorem ox185_180 : sx_oks 185 x185_180 := ⟨Or.inr ⟨_, (sx_dd bb_185 dX8_part0_180), rfl, rfl⟩, ox185_181⟩
def x185_179 : List sx_E := (.aload 0, 179, 180, [], .null) :: x185_180
theorem ox185_179 : sx_oks 185 x185_179 := ⟨Or.inr ⟨_, (sx_dd bb_185 dX8_part0_179), rfl, rfl⟩, ox185_180⟩
def x185_176 : List sx_E := (.invokevirtual 256, 176, 179, [174, 1, 0, 0, 7], .null) :: x185_179
theorem ox185_176 : sx_oks 185 x185_176 := ⟨sx_q_V (w := (RX8, TX8, 31)) (sx_dd bb_185 dX8_part0_176) oo_185 lk_StrawGarrisonModel_256_V ft_174_h (Nat.le_of_ble_eq_true rfl) rfl rfl, ox185_179⟩
def x185_175 : List sx_E := (.aload 0, 175, 176, [], .null) :: x185_176
theorem ox185_175 : sx_oks 185 x185_175 := ⟨Or.inr ⟨_, (sx_dd bb_185 dX8_part0_175), rfl, rfl⟩, ox185_176⟩
def x185_172 : List sx_E := (.putfield 284, 172, 175, [7, 20, 0], .null) :: x185_175
theorem ox185_172 : sx_oks 185 x185_172 := ⟨sx_q_put (w := (RX8, TX8, 31)) (ty0 := tyX8) (sx_dd bb_185 dX8_part0_172) rfl (Nat.le_of_ble_eq_true rfl) cu_7 (sx_ow3 oo_185 fl_StrawGarrisonModel_284) (by decide +kernel) tyX8_ok nmX8 (Or.inl rfl) (fun _ => rfl) (fun h => absurd h (by decide)) (fun h => absurd h (by decide)), ox185_175⟩
def x185_171 : List sx_E := (.iadd, 171, 172, [], .null) :: x185_172
theorem ox185_171 : sx_oks 185 x185_171 := ⟨⟨(sx_dd bb_185 dX8_part0_171), rfl⟩, ox185_172⟩
def x185_170 : List sx_E := (.nop, 170, 171, [], .int (nI 1)) :: x185_171
theorem ox185_170 : sx_oks 185 x185_170 := ⟨sx_k_iconst (sx_dd bb_185 dX8_part0_170) (by decide +kernel), ox185_171⟩
def x185_167 : List sx_E := (.getfield 284, 167, 170, [7, 20, 0], .null) :: x185_170
theorem ox185_167 : sx_oks 185 x185_167 := ⟨sx_q_get (w := (RX8, TX8, 31)) (sx_dd bb_185 dX8_part0_167) rfl rfl (Nat.le_of_ble_eq_true rfl) cu_7 (sx_ow3 oo_185 fl_StrawGarrisonModel_284) (by decide +kernel), ox185_170⟩
def x185_166 : List sx_E := (.dup, 166, 167, [], .null) :: x185_167
theorem ox185_166 : sx_oks 185 x185_166 := ⟨⟨(sx_dd bb_185 dX8_part0_166), rfl⟩, ox185_167⟩
def x185_165 : List sx_E := (.aload 0, 165, 166, [], .null) :: x185_166
theorem ox185_165 : sx_oks 185 x185_165 := ⟨Or.inr ⟨_, (sx_dd bb_185 dX8_part0_165), rfl, rfl⟩, ox185_166⟩
def x185_164 : List sx_E := (.ireturn, 164, 165, [1], .null) :: x185_165
theorem ox185_164 : sx_oks 185 x185_164 := ⟨sx_q_iret1 (sx_dd bb_185 dX8_part0_164) rr_185, ox185_165⟩
def x185_163 : List sx_E := (.nop, 163, 164, [], .int (nI 0)) :: x185_164
theorem ox185_163 : sx_oks 185 x185_163 := ⟨sx_k_iconst (sx_dd bb_185 dX8_part0_163) (by decide +kernel), ox185_164⟩
def x185_160 : List sx_E := (.if_icmp .ne (5), 160, 163, [165], .null) :: x185_163
theorem ox185_160 : sx_oks 185 x185_160 := ⟨⟨(sx_dd bb_185 dX8_part0_160), rfl, sx_t1 (by decide +kernel)⟩, ox185_163⟩
def x185_158 : List sx_E := (.nop, 158, 160, [], .int (nI 8)) :: x185_160
theorem ox185_158 : sx_oks 185 x185_158 := ⟨sx_k_bipush (sx_dd bb_185 dX8_part0_158) (by decide +kernel), ox185_160⟩
def x185_155 : List sx_E := (.getfield 284, 155, 158, [7, 20, 0], .null) :: x185_158
theorem ox185_155 : sx_oks 185 x185_155 := ⟨sx_q_get (w := (RX8, TX8, 31)) (sx_dd bb_185 dX8_part0_155) rfl rfl (Nat.le_of_ble_eq_true rfl) cu_7 (sx_ow3 oo_185 fl_StrawGarrisonModel_284) (by decide +kernel), ox185_158⟩
def x185_154 : List sx_E := (.aload 0, 154, 155, [], .null) :: x185_155
theorem ox185_154 : sx_oks 185 x185_154 := ⟨Or.inr ⟨_, (sx_dd bb_185 dX8_part0_154), rfl, rfl⟩, ox185_155⟩
def x185_151 : List sx_E := (.ifCond .eq (12), 151, 154, [163], .null) :: x185_154
theorem ox185_151 : sx_oks 185 x185_151 := ⟨⟨(sx_dd bb_185 dX8_part0_151), rfl, sx_t1 (by decide +kernel)⟩, ox185_154⟩
def x185_148 : List sx_E := (.invokevirtual 253, 148, 151, [175, 2, 0, 0, 7], .null) :: x185_151
theorem ox185_148 : sx_oks 185 x185_148 := ⟨sx_q_V (w := (RX8, TX8, 31)) (sx_dd bb_185 dX8_part0_148) oo_185 lk_StrawGarrisonModel_253_V ft_175_h (Nat.le_of_ble_eq_true rfl) rfl rfl, ox185_151⟩
def x185_146 : List sx_E := (.nop, 146, 148, [], .int (nI 40)) :: x185_148
theorem ox185_146 : sx_oks 185 x185_146 := ⟨sx_k_bipush (sx_dd bb_185 dX8_part0_146) (by decide +kernel), ox185_148⟩
def x185_145 : List sx_E := (.aload 0, 145, 146, [], .null) :: x185_146
theorem ox185_145 : sx_oks 185 x185_145 := ⟨Or.inr ⟨_, (sx_dd bb_185 dX8_part0_145), rfl, rfl⟩, ox185_146⟩
def x185_145h : List sx_E := (.monitorenter, 145, 145, [0, 1], .null) :: x185_145
theorem ox185_145h : sx_oks 185 x185_145h := ⟨trivial, ox185_145⟩
def x185_144 : List sx_E := (.ireturn, 144, 145, [1], .null) :: x185_145h
theorem ox185_144 : sx_oks 185 x185_144 := ⟨sx_q_iret1 (sx_dd bb_185 dX8_part0_144) rr_185, ox185_145h⟩
def x185_143 : List sx_E := (.nop, 143, 144, [], .int (nI 1)) :: x185_144
theorem ox185_143 : sx_oks 185 x185_143 := ⟨sx_k_iconst (sx_dd bb_185 dX8_part0_143) (by decide +kernel), ox185_144⟩
def x185_140 : List sx_E := (.invokevirtual 259, 140, 143, [179, 3, 0, 0, 7], .null) :: x185_143
theorem ox185_140 : sx_oks 185 x185_140 := ⟨sx_q_V (w := (RX8, TX8, 31)) (sx_dd bb_185 dX8_part0_140) oo_185 lk_StrawGarrisonModel_259_V ft_179_h (Nat.le_of_ble_eq_true rfl) rfl rfl, ox185_143⟩
def x185_138 : List sx_E := (.nop, 138, 140, [], .int (nI 33)) :: x185_140
theorem ox185_138 : sx_oks 185 x185_138 := ⟨sx_k_bipush (sx_dd bb_185 dX8_part0_138) (by decide +kernel), ox185_140⟩
def x185_137 : List sx_E := (.nop, 137, 138, [], .int (nI 2)) :: x185_138
theorem ox185_137 : sx_oks 185 x185_137 := ⟨sx_k_iconst (sx_dd bb_185 dX8_part0_137) (by decide +kernel), ox185_138⟩
def x185_136 : List sx_E := (.aload 0, 136, 137, [], .null) :: x185_137
theorem ox185_136 : sx_oks 185 x185_136 := ⟨Or.inr ⟨_, (sx_dd bb_185 dX8_part0_136), rfl, rfl⟩, ox185_137⟩
def x185_133 : List sx_E := (.putfield 281, 133, 136, [7, 21, 0], .null) :: x185_136
theorem ox185_133 : sx_oks 185 x185_133 := ⟨sx_q_put (w := (RX8, TX8, 31)) (ty0 := tyX8) (sx_dd bb_185 dX8_part0_133) rfl (Nat.le_of_ble_eq_true rfl) cu_7 (sx_ow3 oo_185 fl_StrawGarrisonModel_281) (by decide +kernel) tyX8_ok nmX8 (Or.inl rfl) (fun _ => rfl) (fun h => absurd h (by decide)) (fun h => absurd h (by decide)), ox185_136⟩
def x185_132 : List sx_E := (.isub, 132, 133, [], .null) :: x185_133
theorem ox185_132 : sx_oks 185 x185_132 := ⟨⟨(sx_dd bb_185 dX8_part0_132), rfl⟩, ox185_133⟩
def x185_131 : List sx_E := (.nop, 131, 132, [], .int (nI 1)) :: x185_132
theorem ox185_131 : sx_oks 185 x185_131 := ⟨sx_k_iconst (sx_dd bb_185 dX8_part0_131) (by decide +kernel), ox185_132⟩
def x185_128 : List sx_E := (.getfield 281, 128, 131, [7, 21, 0], .null) :: x185_131
theorem ox185_128 : sx_oks 185 x185_128 := ⟨sx_q_get (w := (RX8, TX8, 31)) (sx_dd bb_185 dX8_part0_128) rfl rfl (Nat.le_of_ble_eq_true rfl) cu_7 (sx_ow3 oo_185 fl_StrawGarrisonModel_281) (by decide +kernel), ox185_131⟩
def x185_127 : List sx_E := (.dup, 127, 128, [], .null) :: x185_128
theorem ox185_127 : sx_oks 185 x185_127 := ⟨⟨(sx_dd bb_185 dX8_part0_127), rfl⟩, ox185_128⟩
def x185_126 : List sx_E := (.aload 0, 126, 127, [], .null) :: x185_127
theorem ox185_126 : sx_oks 185 x185_126 := ⟨Or.inr ⟨_, (sx_dd bb_185 dX8_part0_126), rfl, rfl⟩, ox185_127⟩
def x185_125 : List sx_E := (.ireturn, 125, 126, [1], .null) :: x185_126
theorem ox185_125 : sx_oks 185 x185_125 := ⟨sx_q_iret1 (sx_dd bb_185 dX8_part0_125) rr_185, ox185_126⟩
def x185_124 : List sx_E := (.nop, 124, 125, [], .int (nI 0)) :: x185_125
theorem ox185_124 : sx_oks 185 x185_124 := ⟨sx_k_iconst (sx_dd bb_185 dX8_part0_124) (by decide +kernel), ox185_125⟩
def x185_121 : List sx_E := (.ifCond .ne (5), 121, 124, [126], .null) :: x185_124
theorem ox185_121 : sx_oks 185 x185_121 := ⟨⟨(sx_dd bb_185 dX8_part0_121), rfl, sx_t1 (by decide +kernel)⟩, ox185_124⟩
def x185_118 : List sx_E := (.invokevirtual 272, 118, 121, [185, 2, 0, 0, 7], .null) :: x185_121
theorem ox185_118 : sx_oks 185 x185_118 := ⟨sx_q_V (w := (RX8, TX8, 31)) (sx_dd bb_185 dX8_part0_118) oo_185 lk_StrawGarrisonModel_272_V ft_185_h (Nat.le_of_ble_eq_true rfl) rfl rfl, ox185_121⟩
def x185_117 : List sx_E := (.iload 1, 117, 118, [], .null) :: x185_118
theorem ox185_117 : sx_oks 185 x185_117 := ⟨Or.inr ⟨_, (sx_dd bb_185 dX8_part0_117), rfl, rfl⟩, ox185_118⟩
def x185_116 : List sx_E := (.aload 0, 116, 117, [], .null) :: x185_117
theorem ox185_116 : sx_oks 185 x185_116 := ⟨Or.inr ⟨_, (sx_dd bb_185 dX8_part0_116), rfl, rfl⟩, ox185_117⟩
def x185_113 : List sx_E := (.invokevirtual 256, 113, 116, [174, 1, 0, 0, 7], .null) :: x185_116
theorem ox185_113 : sx_oks 185 x185_113 := ⟨sx_q_V (w := (RX8, TX8, 31)) (sx_dd bb_185 dX8_part0_113) oo_185 lk_StrawGarrisonModel_256_V ft_174_h (Nat.le_of_ble_eq_true rfl) rfl rfl, ox185_116⟩
def x185_112 : List sx_E := (.aload 0, 112, 113, [], .null) :: x185_113
theorem ox185_112 : sx_oks 185 x185_112 := ⟨Or.inr ⟨_, (sx_dd bb_185 dX8_part0_112), rfl, rfl⟩, ox185_113⟩
def x185_109 : List sx_E := (.putfield 281, 109, 112, [7, 21, 0], .null) :: x185_112
theorem ox185_109 : sx_oks 185 x185_109 := ⟨sx_q_put (w := (RX8, TX8, 31)) (ty0 := tyX8) (sx_dd bb_185 dX8_part0_109) rfl (Nat.le_of_ble_eq_true rfl) cu_7 (sx_ow3 oo_185 fl_StrawGarrisonModel_281) (by decide +kernel) tyX8_ok nmX8 (Or.inl rfl) (fun _ => rfl) (fun h => absurd h (by decide)) (fun h => absurd h (by decide)), ox185_112⟩
def x185_108 : List sx_E := (.iadd, 108, 109, [], .null) :: x185_109
theorem ox185_108 : sx_oks 185 x185_108 := ⟨⟨(sx_dd bb_185 dX8_part0_108), rfl⟩, ox185_109⟩
def x185_107 : List sx_E := (.nop, 107, 108, [], .int (nI 1)) :: x185_108
theorem ox185_107 : sx_oks 185 x185_107 := ⟨sx_k_iconst (sx_dd bb_185 dX8_part0_107) (by decide +kernel), ox185_108⟩
def x185_104 : List sx_E := (.getfield 281, 104, 107, [7, 21, 0], .null) :: x185_107
theorem ox185_104 : sx_oks 185 x185_104 := ⟨sx_q_get (w := (RX8, TX8, 31)) (sx_dd bb_185 dX8_part0_104) rfl rfl (Nat.le_of_ble_eq_true rfl) cu_7 (sx_ow3 oo_185 fl_StrawGarrisonModel_281) (by decide +kernel), ox185_107⟩
def x185_103 : List sx_E := (.dup, 103, 104, [], .null) :: x185_104
theorem ox185_103 : sx_oks 185 x185_103 := ⟨⟨(sx_dd bb_185 dX8_part0_103), rfl⟩, ox185_104⟩
def x185_102 : List sx_E := (.aload 0, 102, 103, [], .null) :: x185_103
theorem ox185_102 : sx_oks 185 x185_102 := ⟨Or.inr ⟨_, (sx_dd bb_185 dX8_part0_102), rfl, rfl⟩, ox185_103⟩
def x185_99 : List sx_E := (.if_icmp .ge (46), 99, 102, [145], .null) :: x185_102
theorem ox185_99 : sx_oks 185 x185_99 := ⟨⟨(sx_dd bb_185 dX8_part0_99), rfl, sx_t1 (by decide +kernel)⟩, ox185_102⟩
def x185_97 : List sx_E := (.nop, 97, 99, [], .int (nI 8)) :: x185_99
theorem ox185_97 : sx_oks 185 x185_97 := ⟨sx_k_bipush (sx_dd bb_185 dX8_part0_97) (by decide +kernel), ox185_99⟩
def x185_94 : List sx_E := (.getfield 281, 94, 97, [7, 21, 0], .null) :: x185_97
theorem ox185_94 : sx_oks 185 x185_94 := ⟨sx_q_get (w := (RX8, TX8, 31)) (sx_dd bb_185 dX8_part0_94) rfl rfl (Nat.le_of_ble_eq_true rfl) cu_7 (sx_ow3 oo_185 fl_StrawGarrisonModel_281) (by decide +kernel), ox185_97⟩
def x185_93 : List sx_E := (.aload 0, 93, 94, [], .null) :: x185_94
theorem ox185_93 : sx_oks 185 x185_93 := ⟨Or.inr ⟨_, (sx_dd bb_185 dX8_part0_93), rfl, rfl⟩, ox185_94⟩
def x185_90 : List sx_E := (.ifCond .eq (55), 90, 93, [145], .null) :: x185_93
theorem ox185_90 : sx_oks 185 x185_90 := ⟨⟨(sx_dd bb_185 dX8_part0_90), rfl, sx_t1 (by decide +kernel)⟩, ox185_93⟩
def x185_87 : List sx_E := (.invokevirtual 253, 87, 90, [175, 2, 0, 0, 7], .null) :: x185_90
theorem ox185_87 : sx_oks 185 x185_87 := ⟨sx_q_V (w := (RX8, TX8, 31)) (sx_dd bb_185 dX8_part0_87) oo_185 lk_StrawGarrisonModel_253_V ft_175_h (Nat.le_of_ble_eq_true rfl) rfl rfl, ox185_90⟩
def x185_85 : List sx_E := (.nop, 85, 87, [], .int (nI 33)) :: x185_87
theorem ox185_85 : sx_oks 185 x185_85 := ⟨sx_k_bipush (sx_dd bb_185 dX8_part0_85) (by decide +kernel), ox185_87⟩
def x185_84 : List sx_E := (.aload 0, 84, 85, [], .null) :: x185_85
theorem ox185_84 : sx_oks 185 x185_84 := ⟨Or.inr ⟨_, (sx_dd bb_185 dX8_part0_84), rfl, rfl⟩, ox185_85⟩
def x185_84h : List sx_E := (.monitorenter, 84, 84, [0, 1], .null) :: x185_84
theorem ox185_84h : sx_oks 185 x185_84h := ⟨trivial, ox185_84⟩
def x185_83 : List sx_E := (.ireturn, 83, 84, [1], .null) :: x185_84h
theorem ox185_83 : sx_oks 185 x185_83 := ⟨sx_q_iret1 (sx_dd bb_185 dX8_part0_83) rr_185, ox185_84h⟩
def x185_82 : List sx_E := (.nop, 82, 83, [], .int (nI 1)) :: x185_83
theorem ox185_82 : sx_oks 185 x185_82 := ⟨sx_k_iconst (sx_dd bb_185 dX8_part0_82) (by decide +kernel), ox185_83⟩
def x185_79 : List sx_E := (.invokevirtual 256, 79, 82, [174, 1, 0, 0, 7], .null) :: x185_82
theorem ox185_79 : sx_oks 185 x185_79 := ⟨sx_q_V (w := (RX8, TX8, 31)) (sx_dd bb_185 dX8_part0_79) oo_185 lk_StrawGarrisonModel_256_V ft_174_h (Nat.le_of_ble_eq_true rfl) rfl rfl, ox185_82⟩
def x185_78 : List sx_E := (.aload 0, 78, 79, [], .null) :: x185_79
theorem ox185_78 : sx_oks 185 x185_78 := ⟨Or.inr ⟨_, (sx_dd bb_185 dX8_part0_78), rfl, rfl⟩, ox185_79⟩
def x185_75 : List sx_E := (.putfield 275, 75, 78, [7, 24, 0], .null) :: x185_78
theorem ox185_75 : sx_oks 185 x185_75 := ⟨sx_q_put (w := (RX8, TX8, 31)) (ty0 := tyX8) (sx_dd bb_185 dX8_part0_75) rfl (Nat.le_of_ble_eq_true rfl) cu_7 (sx_ow3 oo_185 fl_StrawGarrisonModel_275) (by decide +kernel) tyX8_ok nmX8 (Or.inl rfl) (fun _ => rfl) (fun h => absurd h (by decide)) (fun h => absurd h (by decide)), ox185_78⟩
def x185_74 : List sx_E := (.iadd, 74, 75, [], .null) :: x185_75
theorem ox185_74 : sx_oks 185 x185_74 := ⟨⟨(sx_dd bb_185 dX8_part0_74), rfl⟩, ox185_75⟩
def x185_73 : List sx_E := (.nop, 73, 74, [], .int (nI 1)) :: x185_74
theorem ox185_73 : sx_oks 185 x185_73 := ⟨sx_k_iconst (sx_dd bb_185 dX8_part0_73) (by decide +kernel), ox185_74⟩
def x185_70 : List sx_E := (.getfield 275, 70, 73, [7, 24, 0], .null) :: x185_73
theorem ox185_70 : sx_oks 185 x185_70 := ⟨sx_q_get (w := (RX8, TX8, 31)) (sx_dd bb_185 dX8_part0_70) rfl rfl (Nat.le_of_ble_eq_true rfl) cu_7 (sx_ow3 oo_185 fl_StrawGarrisonModel_275) (by decide +kernel), ox185_73⟩
def x185_69 : List sx_E := (.dup, 69, 70, [], .null) :: x185_70
theorem ox185_69 : sx_oks 185 x185_69 := ⟨⟨(sx_dd bb_185 dX8_part0_69), rfl⟩, ox185_70⟩
def x185_68 : List sx_E := (.aload 0, 68, 69, [], .null) :: x185_69
theorem ox185_68 : sx_oks 185 x185_68 := ⟨Or.inr ⟨_, (sx_dd bb_185 dX8_part0_68), rfl, rfl⟩, ox185_69⟩
def x185_65 : List sx_E := (.invokevirtual 259, 65, 68, [179, 3, 0, 0, 7], .null) :: x185_68
theorem ox185_65 : sx_oks 185 x185_65 := ⟨sx_q_V (w := (RX8, TX8, 31)) (sx_dd bb_185 dX8_part0_65) oo_185 lk_StrawGarrisonModel_259_V ft_179_h (Nat.le_of_ble_eq_true rfl) rfl rfl, ox185_68⟩
def x185_62 : List sx_E := (.getfield 231, 62, 65, [7, 19, 0], .null) :: x185_65
theorem ox185_62 : sx_oks 185 x185_62 := ⟨sx_q_get (w := (RX8, TX8, 31)) (sx_dd bb_185 dX8_part0_62) rfl rfl (Nat.le_of_ble_eq_true rfl) cu_7 (sx_ow3 oo_185 fl_StrawGarrisonModel_231) (by decide +kernel), ox185_65⟩
def x185_61 : List sx_E := (.aload 0, 61, 62, [], .null) :: x185_62
theorem ox185_61 : sx_oks 185 x185_61 := ⟨Or.inr ⟨_, (sx_dd bb_185 dX8_part0_61), rfl, rfl⟩, ox185_62⟩
def x185_60 : List sx_E := (.nop, 60, 61, [], .int (nI 1)) :: x185_61
theorem ox185_60 : sx_oks 185 x185_60 := ⟨sx_k_iconst (sx_dd bb_185 dX8_part0_60) (by decide +kernel), ox185_61⟩
def x185_59 : List sx_E := (.aload 0, 59, 60, [], .null) :: x185_60
theorem ox185_59 : sx_oks 185 x185_59 := ⟨Or.inr ⟨_, (sx_dd bb_185 dX8_part0_59), rfl, rfl⟩, ox185_60⟩
def x185_56 : List sx_E := (.ifCond .eq (28), 56, 59, [84], .null) :: x185_59
theorem ox185_56 : sx_oks 185 x185_56 := ⟨⟨(sx_dd bb_185 dX8_part0_56), rfl, sx_t1 (by decide +kernel)⟩, ox185_59⟩
def x185_53 : List sx_E := (.invokestatic 278, 53, 56, [178, 2, 0, 0], .null) :: x185_56
theorem ox185_53 : sx_oks 185 x185_53 := ⟨sx_q_S (sx_dd bb_185 dX8_part0_53) oo_185 lk_StrawGarrisonModel_278_S ft_178_h, ox185_56⟩
def x185_50 : List sx_E := (.getfield 231, 50, 53, [7, 19, 0], .null) :: x185_53
theorem ox185_50 : sx_oks 185 x185_50 := ⟨sx_q_get (w := (RX8, TX8, 31)) (sx_dd bb_185 dX8_part0_50) rfl rfl (Nat.le_of_ble_eq_true rfl) cu_7 (sx_ow3 oo_185 fl_StrawGarrisonModel_231) (by decide +kernel), ox185_53⟩
def x185_49 : List sx_E := (.aload 0, 49, 50, [], .null) :: x185_50
theorem ox185_49 : sx_oks 185 x185_49 := ⟨Or.inr ⟨_, (sx_dd bb_185 dX8_part0_49), rfl, rfl⟩, ox185_50⟩
def x185_48 : List sx_E := (.iload 1, 48, 49, [], .null) :: x185_49
theorem ox185_48 : sx_oks 185 x185_48 := ⟨Or.inr ⟨_, (sx_dd bb_185 dX8_part0_48), rfl, rfl⟩, ox185_49⟩
def x185_45 : List sx_E := (.ifCond .eq (39), 45, 48, [84], .null) :: x185_48
theorem ox185_45 : sx_oks 185 x185_45 := ⟨⟨(sx_dd bb_185 dX8_part0_45), rfl, sx_t1 (by decide +kernel)⟩, ox185_48⟩
def x185_42 : List sx_E := (.getfield 231, 42, 45, [7, 19, 0], .null) :: x185_45
theorem ox185_42 : sx_oks 185 x185_42 := ⟨sx_q_get (w := (RX8, TX8, 31)) (sx_dd bb_185 dX8_part0_42) rfl rfl (Nat.le_of_ble_eq_true rfl) cu_7 (sx_ow3 oo_185 fl_StrawGarrisonModel_231) (by decide +kernel), ox185_45⟩
def x185_41 : List sx_E := (.aload 0, 41, 42, [], .null) :: x185_42
theorem ox185_41 : sx_oks 185 x185_41 := ⟨Or.inr ⟨_, (sx_dd bb_185 dX8_part0_41), rfl, rfl⟩, ox185_42⟩
def x185_38 : List sx_E := (.if_icmp .ne (46), 38, 41, [84], .null) :: x185_41
theorem ox185_38 : sx_oks 185 x185_38 := ⟨⟨(sx_dd bb_185 dX8_part0_38), rfl, sx_t1 (by decide +kernel)⟩, ox185_41⟩
def x185_37 : List sx_E := (.nop, 37, 38, [], .int (nI 1)) :: x185_38
theorem ox185_37 : sx_oks 185 x185_37 := ⟨sx_k_iconst (sx_dd bb_185 dX8_part0_37) (by decide +kernel), ox185_38⟩
def x185_34 : List sx_E := (.getfield 222, 34, 37, [7, 17, 0], .null) :: x185_37
theorem ox185_34 : sx_oks 185 x185_34 := ⟨sx_q_get (w := (RX8, TX8, 31)) (sx_dd bb_185 dX8_part0_34) rfl rfl (Nat.le_of_ble_eq_true rfl) cu_7 (sx_ow3 oo_185 fl_StrawGarrisonModel_222) (by decide +kernel), ox185_37⟩
def x185_33 : List sx_E := (.aload 0, 33, 34, [], .null) :: x185_34
theorem ox185_33 : sx_oks 185 x185_33 := ⟨Or.inr ⟨_, (sx_dd bb_185 dX8_part0_33), rfl, rfl⟩, ox185_34⟩
def x185_32 : List sx_E := (.ireturn, 32, 33, [1], .null) :: x185_33
theorem ox185_32 : sx_oks 185 x185_32 := ⟨sx_q_iret1 (sx_dd bb_185 dX8_part0_32) rr_185, ox185_33⟩
def x185_31 : List sx_E := (.nop, 31, 32, [], .int (nI 1)) :: x185_32
theorem ox185_31 : sx_oks 185 x185_31 := ⟨sx_k_iconst (sx_dd bb_185 dX8_part0_31) (by decide +kernel), ox185_32⟩
def x185_28 : List sx_E := (.invokevirtual 256, 28, 31, [174, 1, 0, 0, 7], .null) :: x185_31
theorem ox185_28 : sx_oks 185 x185_28 := ⟨sx_q_V (w := (RX8, TX8, 31)) (sx_dd bb_185 dX8_part0_28) oo_185 lk_StrawGarrisonModel_256_V ft_174_h (Nat.le_of_ble_eq_true rfl) rfl rfl, ox185_31⟩
def x185_27 : List sx_E := (.aload 0, 27, 28, [], .null) :: x185_28
theorem ox185_27 : sx_oks 185 x185_27 := ⟨Or.inr ⟨_, (sx_dd bb_185 dX8_part0_27), rfl, rfl⟩, ox185_28⟩
def x185_24 : List sx_E := (.putfield 275, 24, 27, [7, 24, 0], .null) :: x185_27
theorem ox185_24 : sx_oks 185 x185_24 := ⟨sx_q_put (w := (RX8, TX8, 31)) (ty0 := tyX8) (sx_dd bb_185 dX8_part0_24) rfl (Nat.le_of_ble_eq_true rfl) cu_7 (sx_ow3 oo_185 fl_StrawGarrisonModel_275) (by decide +kernel) tyX8_ok nmX8 (Or.inl rfl) (fun _ => rfl) (fun h => absurd h (by decide)) (fun h => absurd h (by decide)), ox185_27⟩
def x185_23 : List sx_E := (.iadd, 23, 24, [], .null) :: x185_24
theorem ox185_23 : sx_oks 185 x185_23 := ⟨⟨(sx_dd bb_185 dX8_part0_23), rfl⟩, ox185_24⟩
def x185_22 : List sx_E := (.nop, 22, 23, [], .int (nI 1)) :: x185_23
theorem ox185_22 : sx_oks 185 x185_22 := ⟨sx_k_iconst (sx_dd bb_185 dX8_part0_22) (by decide +kernel), ox185_23⟩
def x185_19 : List sx_E := (.getfield 275, 19, 22, [7, 24, 0], .null) :: x185_22
theorem ox185_19 : sx_oks 185 x185_19 := ⟨sx_q_get (w := (RX8, TX8, 31)) (sx_dd bb_185 dX8_part0_19) rfl rfl (Nat.le_of_ble_eq_true rfl) cu_7 (sx_ow3 oo_185 fl_StrawGarrisonModel_275) (by decide +kernel), ox185_22⟩
def x185_18 : List sx_E := (.dup, 18, 19, [], .null) :: x185_19
theorem ox185_18 : sx_oks 185 x185_18 := ⟨⟨(sx_dd bb_185 dX8_part0_18), rfl⟩, ox185_19⟩
def x185_17 : List sx_E := (.aload 0, 17, 18, [], .null) :: x185_18
theorem ox185_17 : sx_oks 185 x185_17 := ⟨Or.inr ⟨_, (sx_dd bb_185 dX8_part0_17), rfl, rfl⟩, ox185_18⟩
def x185_14 : List sx_E := (.invokevirtual 259, 14, 17, [179, 3, 0, 0, 7], .null) :: x185_17
theorem ox185_14 : sx_oks 185 x185_14 := ⟨sx_q_V (w := (RX8, TX8, 31)) (sx_dd bb_185 dX8_part0_14) oo_185 lk_StrawGarrisonModel_259_V ft_179_h (Nat.le_of_ble_eq_true rfl) rfl rfl, ox185_17⟩
def x185_11 : List sx_E := (.getfield 237, 11, 14, [7, 18, 0], .null) :: x185_14
theorem ox185_11 : sx_oks 185 x185_11 := ⟨sx_q_get (w := (RX8, TX8, 31)) (sx_dd bb_185 dX8_part0_11) rfl rfl (Nat.le_of_ble_eq_true rfl) cu_7 (sx_ow3 oo_185 fl_StrawGarrisonModel_237) (by decide +kernel), ox185_14⟩
def x185_10 : List sx_E := (.aload 0, 10, 11, [], .null) :: x185_11
theorem ox185_10 : sx_oks 185 x185_10 := ⟨Or.inr ⟨_, (sx_dd bb_185 dX8_part0_10), rfl, rfl⟩, ox185_11⟩
def x185_9 : List sx_E := (.nop, 9, 10, [], .int (nI 0)) :: x185_10
theorem ox185_9 : sx_oks 185 x185_9 := ⟨sx_k_iconst (sx_dd bb_185 dX8_part0_9) (by decide +kernel), ox185_10⟩
def x185_8 : List sx_E := (.aload 0, 8, 9, [], .null) :: x185_9
theorem ox185_8 : sx_oks 185 x185_8 := ⟨Or.inr ⟨_, (sx_dd bb_185 dX8_part0_8), rfl, rfl⟩, ox185_9⟩
def x185_5 : List sx_E := (.if_icmp .ne (28), 5, 8, [33], .null) :: x185_8
theorem ox185_5 : sx_oks 185 x185_5 := ⟨⟨(sx_dd bb_185 dX8_part0_5), rfl, sx_t1 (by decide +kernel)⟩, ox185_8⟩
def x185_4 : List sx_E := (.nop, 4, 5, [], .int (nI 2)) :: x185_5
theorem ox185_4 : sx_oks 185 x185_4 := ⟨sx_k_iconst (sx_dd bb_185 dX8_part0_4) (by decide +kernel), ox185_5⟩
def x185_1 : List sx_E := (.getfield 222, 1, 4, [7, 17, 0], .null) :: x185_4
theorem ox185_1 : sx_oks 185 x185_1 := ⟨sx_q_get (w := (RX8, TX8, 31)) (sx_dd bb_185 dX8_part0_1) rfl rfl (Nat.le_of_ble_eq_true rfl) cu_7 (sx_ow3 oo_185 fl_StrawGarrisonModel_222) (by decide +kernel), ox185_4⟩
def x185_0 : List sx_E := (.aload 0, 0, 1, [], .null) :: x185_1
theorem ox185_0 : sx_oks 185 x185_0 := ⟨Or.inr ⟨_, (sx_dd bb_185 dX8_part0_0), rfl, rfl⟩, ox185_1⟩
theorem m185 : sx_mok 185 x185_0 := ⟨ox185_0, by decide +kernel⟩
theorem bb_186 : sx_by 186 = cX8_parse := rfl
theorem oo_186 : (sx_nm 186).cls = "StrawGarrisonModel" := rfl
theorem mm_186 : sx_ml 186 = 3 := rfl
theorem rr_186 : sx_rt 186 = (some .int) := rfl
def x186_125 : List sx_E := (.ireturn, 125, 126, [0], .null) :: []
theorem ox186_125 : sx_oks 186 x186_125 := ⟨sx_q_iret0 (sx_dd bb_186 dX8_parse_125) rr_186, trivial⟩
def x186_124 : List sx_E := (.nop, 124, 125, [], .int ((-1))) :: x186_125
theorem ox186_124 : sx_oks 186 x186_124 := ⟨sx_k_iconst (sx_dd bb_186 dX8_parse_124) (by decide +kernel), ox186_125⟩
def x186_121 : List sx_E := (.goto (4), 121, 124, [125], .null) :: x186_124
theorem ox186_121 : sx_oks 186 x186_121 := ⟨⟨(sx_dd bb_186 dX8_parse_121), sx_t1 (by decide +kernel)⟩, ox186_124⟩
def x186_120 : List sx_E := (.iload 1, 120, 121, [], .null) :: x186_121
theorem ox186_120 : sx_oks 186 x186_120 := ⟨Or.inr ⟨_, (sx_dd bb_186 dX8_parse_120), rfl, rfl⟩, ox186_121⟩
def x186_117 : List sx_E := (.ifCond .eq (7), 117, 120, [124], .null) :: x186_120
theorem ox186_117 : sx_oks 186 x186_117 := ⟨⟨(sx_dd bb_186 dX8_parse_117), rfl, sx_t1 (by decide +kernel)⟩, ox186_120⟩
def x186_116 : List sx_E := (.iload 2, 116, 117, [], .null) :: x186_117
theorem ox186_116 : sx_oks 186 x186_116 := ⟨Or.inr ⟨_, (sx_dd bb_186 dX8_parse_116), rfl, rfl⟩, ox186_117⟩
def x186_113 : List sx_E := (.putfield 207, 113, 116, [7, 14, 0], .null) :: x186_116
theorem ox186_113 : sx_oks 186 x186_113 := ⟨sx_q_put (w := (RX8, TX8, 31)) (ty0 := tyX8) (sx_dd bb_186 dX8_parse_113) rfl (Nat.le_of_ble_eq_true rfl) cu_7 (sx_ow3 oo_186 fl_StrawGarrisonModel_207) (by decide +kernel) tyX8_ok nmX8 (Or.inl rfl) (fun _ => rfl) (fun h => absurd h (by decide)) (fun h => absurd h (by decide)), ox186_116⟩
def x186_112 : List sx_E := (.nop, 112, 113, [], .int (nI 0)) :: x186_113
theorem ox186_112 : sx_oks 186 x186_112 := ⟨sx_k_iconst (sx_dd bb_186 dX8_parse_112) (by decide +kernel), ox186_113⟩
def x186_111 : List sx_E := (.aload 0, 111, 112, [], .null) :: x186_112
theorem ox186_111 : sx_oks 186 x186_111 := ⟨Or.inr ⟨_, (sx_dd bb_186 dX8_parse_111), rfl, rfl⟩, ox186_112⟩
def x186_111h : List sx_E := (.monitorenter, 111, 111, [0, 1, 2], .null) :: x186_111
theorem ox186_111h : sx_oks 186 x186_111h := ⟨trivial, ox186_111⟩
def x186_110 : List sx_E := (.istore 2, 110, 111, [], .null) :: x186_111h
theorem ox186_110 : sx_oks 186 x186_110 := ⟨⟨sx_lt mm_186 (Nat.le_of_ble_eq_true rfl), Or.inr ⟨_, (sx_dd bb_186 dX8_parse_110), rfl, rfl⟩⟩, ox186_111h⟩
def x186_109 : List sx_E := (.nop, 109, 110, [], .int (nI 0)) :: x186_110
theorem ox186_109 : sx_oks 186 x186_109 := ⟨sx_k_iconst (sx_dd bb_186 dX8_parse_109) (by decide +kernel), ox186_110⟩
def x186_106 : List sx_E := (.goto (4), 106, 109, [110], .null) :: x186_109
theorem ox186_106 : sx_oks 186 x186_106 := ⟨⟨(sx_dd bb_186 dX8_parse_106), sx_t1 (by decide +kernel)⟩, ox186_109⟩
def x186_105 : List sx_E := (.nop, 105, 106, [], .int (nI 1)) :: x186_106
theorem ox186_105 : sx_oks 186 x186_105 := ⟨sx_k_iconst (sx_dd bb_186 dX8_parse_105) (by decide +kernel), ox186_106⟩
def x186_102 : List sx_E := (.ifCond .ne (7), 102, 105, [109], .null) :: x186_105
theorem ox186_102 : sx_oks 186 x186_102 := ⟨⟨(sx_dd bb_186 dX8_parse_102), rfl, sx_t1 (by decide +kernel)⟩, ox186_105⟩
def x186_99 : List sx_E := (.getfield 222, 99, 102, [7, 17, 0], .null) :: x186_102
theorem ox186_99 : sx_oks 186 x186_99 := ⟨sx_q_get (w := (RX8, TX8, 31)) (sx_dd bb_186 dX8_parse_99) rfl rfl (Nat.le_of_ble_eq_true rfl) cu_7 (sx_ow3 oo_186 fl_StrawGarrisonModel_222) (by decide +kernel), ox186_102⟩
def x186_98 : List sx_E := (.aload 0, 98, 99, [], .null) :: x186_99
theorem ox186_98 : sx_oks 186 x186_98 := ⟨Or.inr ⟨_, (sx_dd bb_186 dX8_parse_98), rfl, rfl⟩, ox186_99⟩
def x186_95 : List sx_E := (.ifCond .eq (14), 95, 98, [109], .null) :: x186_98
theorem ox186_95 : sx_oks 186 x186_95 := ⟨⟨(sx_dd bb_186 dX8_parse_95), rfl, sx_t1 (by decide +kernel)⟩, ox186_98⟩
def x186_92 : List sx_E := (.invokevirtual 287, 92, 95, [180, 2, 0, 0, 7], .null) :: x186_95
theorem ox186_92 : sx_oks 186 x186_92 := ⟨sx_q_V (w := (RX8, TX8, 31)) (sx_dd bb_186 dX8_parse_92) oo_186 lk_StrawGarrisonModel_287_V ft_180_h (Nat.le_of_ble_eq_true rfl) rfl rfl, ox186_95⟩
def x186_91 : List sx_E := (.iload 1, 91, 92, [], .null) :: x186_92
theorem ox186_91 : sx_oks 186 x186_91 := ⟨Or.inr ⟨_, (sx_dd bb_186 dX8_parse_91), rfl, rfl⟩, ox186_92⟩
def x186_90 : List sx_E := (.aload 0, 90, 91, [], .null) :: x186_91
theorem ox186_90 : sx_oks 186 x186_90 := ⟨Or.inr ⟨_, (sx_dd bb_186 dX8_parse_90), rfl, rfl⟩, ox186_91⟩
def x186_87 : List sx_E := (.invokevirtual 256, 87, 90, [174, 1, 0, 0, 7], .null) :: x186_90
theorem ox186_87 : sx_oks 186 x186_87 := ⟨sx_q_V (w := (RX8, TX8, 31)) (sx_dd bb_186 dX8_parse_87) oo_186 lk_StrawGarrisonModel_256_V ft_174_h (Nat.le_of_ble_eq_true rfl) rfl rfl, ox186_90⟩
def x186_86 : List sx_E := (.aload 0, 86, 87, [], .null) :: x186_87
theorem ox186_86 : sx_oks 186 x186_86 := ⟨Or.inr ⟨_, (sx_dd bb_186 dX8_parse_86), rfl, rfl⟩, ox186_87⟩
def x186_83 : List sx_E := (.ifCond .eq (28), 83, 86, [111], .null) :: x186_86
theorem ox186_83 : sx_oks 186 x186_83 := ⟨⟨(sx_dd bb_186 dX8_parse_83), rfl, sx_t1 (by decide +kernel)⟩, ox186_86⟩
def x186_82 : List sx_E := (.iload 2, 82, 83, [], .null) :: x186_83
theorem ox186_82 : sx_oks 186 x186_82 := ⟨Or.inr ⟨_, (sx_dd bb_186 dX8_parse_82), rfl, rfl⟩, ox186_83⟩
def x186_81 : List sx_E := (.istore 2, 81, 82, [], .null) :: x186_82
theorem ox186_81 : sx_oks 186 x186_81 := ⟨⟨sx_lt mm_186 (Nat.le_of_ble_eq_true rfl), Or.inr ⟨_, (sx_dd bb_186 dX8_parse_81), rfl, rfl⟩⟩, ox186_82⟩
def x186_80 : List sx_E := (.nop, 80, 81, [], .int (nI 0)) :: x186_81
theorem ox186_80 : sx_oks 186 x186_80 := ⟨sx_k_iconst (sx_dd bb_186 dX8_parse_80) (by decide +kernel), ox186_81⟩
def x186_77 : List sx_E := (.goto (4), 77, 80, [81], .null) :: x186_80
theorem ox186_77 : sx_oks 186 x186_77 := ⟨⟨(sx_dd bb_186 dX8_parse_77), sx_t1 (by decide +kernel)⟩, ox186_80⟩
def x186_76 : List sx_E := (.nop, 76, 77, [], .int (nI 1)) :: x186_77
theorem ox186_76 : sx_oks 186 x186_76 := ⟨sx_k_iconst (sx_dd bb_186 dX8_parse_76) (by decide +kernel), ox186_77⟩
def x186_73 : List sx_E := (.ifCond .lt (7), 73, 76, [80], .null) :: x186_76
theorem ox186_73 : sx_oks 186 x186_73 := ⟨⟨(sx_dd bb_186 dX8_parse_73), rfl, sx_t1 (by decide +kernel)⟩, ox186_76⟩
def x186_72 : List sx_E := (.iload 1, 72, 73, [], .null) :: x186_73
theorem ox186_72 : sx_oks 186 x186_72 := ⟨Or.inr ⟨_, (sx_dd bb_186 dX8_parse_72), rfl, rfl⟩, ox186_73⟩
def x186_71 : List sx_E := (.istore 1, 71, 72, [], .null) :: x186_72
theorem ox186_71 : sx_oks 186 x186_71 := ⟨⟨sx_lt mm_186 (Nat.le_of_ble_eq_true rfl), Or.inr ⟨_, (sx_dd bb_186 dX8_parse_71), rfl, rfl⟩⟩, ox186_72⟩
def x186_68 : List sx_E := (.invokevirtual 293, 68, 71, [177, 1, 0, 0, 7], .null) :: x186_71
theorem ox186_68 : sx_oks 186 x186_68 := ⟨sx_q_V (w := (RX8, TX8, 31)) (sx_dd bb_186 dX8_parse_68) oo_186 lk_StrawGarrisonModel_293_V ft_177_h (Nat.le_of_ble_eq_true rfl) rfl rfl, ox186_71⟩
def x186_67 : List sx_E := (.aload 0, 67, 68, [], .null) :: x186_68
theorem ox186_67 : sx_oks 186 x186_67 := ⟨Or.inr ⟨_, (sx_dd bb_186 dX8_parse_67), rfl, rfl⟩, ox186_68⟩
def x186_64 : List sx_E := (.invokevirtual 256, 64, 67, [174, 1, 0, 0, 7], .null) :: x186_67
theorem ox186_64 : sx_oks 186 x186_64 := ⟨sx_q_V (w := (RX8, TX8, 31)) (sx_dd bb_186 dX8_parse_64) oo_186 lk_StrawGarrisonModel_256_V ft_174_h (Nat.le_of_ble_eq_true rfl) rfl rfl, ox186_67⟩
def x186_63 : List sx_E := (.aload 0, 63, 64, [], .null) :: x186_64
theorem ox186_63 : sx_oks 186 x186_63 := ⟨Or.inr ⟨_, (sx_dd bb_186 dX8_parse_63), rfl, rfl⟩, ox186_64⟩
def x186_63h : List sx_E := (.monitorenter, 63, 63, [0], .null) :: x186_63
theorem ox186_63h : sx_oks 186 x186_63h := ⟨trivial, ox186_63⟩
def x186_60 : List sx_E := (.putfield 244, 60, 63, [7, 23, 0], .null) :: x186_63h
theorem ox186_60 : sx_oks 186 x186_60 := ⟨sx_q_put (w := (RX8, TX8, 31)) (ty0 := tyX8) (sx_dd bb_186 dX8_parse_60) rfl (Nat.le_of_ble_eq_true rfl) cu_7 (sx_ow3 oo_186 fl_StrawGarrisonModel_244) (by decide +kernel) tyX8_ok nmX8 (Or.inl rfl) (fun _ => rfl) (fun h => absurd h (by decide)) (fun h => absurd h (by decide)), ox186_63h⟩
def x186_57 : List sx_E := (.nop, 57, 60, [], .int (nI 2862)) :: x186_60
theorem ox186_57 : sx_oks 186 x186_57 := ⟨sx_k_sipush (sx_dd bb_186 dX8_parse_57) (by decide +kernel), ox186_60⟩
def x186_54 : List sx_E := (.goto (6), 54, 57, [60], .null) :: x186_57
theorem ox186_54 : sx_oks 186 x186_54 := ⟨⟨(sx_dd bb_186 dX8_parse_54), sx_t1 (by decide +kernel)⟩, ox186_57⟩
def x186_53 : List sx_E := (.iadd, 53, 54, [], .null) :: x186_54
theorem ox186_53 : sx_oks 186 x186_53 := ⟨⟨(sx_dd bb_186 dX8_parse_53), rfl⟩, ox186_54⟩
def x186_52 : List sx_E := (.nop, 52, 53, [], .int (nI 4)) :: x186_53
theorem ox186_52 : sx_oks 186 x186_52 := ⟨sx_k_iconst (sx_dd bb_186 dX8_parse_52) (by decide +kernel), ox186_53⟩
def x186_49 : List sx_E := (.invokevirtual 290, 49, 52, [118, 2, 0, 0, 7], .null) :: x186_52
theorem ox186_49 : sx_oks 186 x186_49 := ⟨sx_q_V (w := (RX8, TX8, 31)) (sx_dd bb_186 dX8_parse_49) oo_186 lk_StrawGarrisonModel_290_V ft_118_h (Nat.le_of_ble_eq_true rfl) rfl rfl, ox186_52⟩
def x186_48 : List sx_E := (.iaload, 48, 49, [], .null) :: x186_49
theorem ox186_48 : sx_oks 186 x186_48 := ⟨⟨(sx_dd bb_186 dX8_parse_48), rfl⟩, ox186_49⟩
def x186_47 : List sx_E := (.nop, 47, 48, [], .int (nI 1)) :: x186_48
theorem ox186_47 : sx_oks 186 x186_47 := ⟨sx_k_iconst (sx_dd bb_186 dX8_parse_47) (by decide +kernel), ox186_48⟩
def x186_44 : List sx_E := (.getfield 7, 44, 47, [7, 0, 1], .null) :: x186_47
theorem ox186_44 : sx_oks 186 x186_44 := ⟨sx_q_get (w := (RX8, TX8, 31)) (sx_dd bb_186 dX8_parse_44) rfl rfl (Nat.le_of_ble_eq_true rfl) cu_7 (sx_ow3 oo_186 fl_StrawGarrisonModel_7) (by decide +kernel), ox186_47⟩
def x186_43 : List sx_E := (.aload 0, 43, 44, [], .null) :: x186_44
theorem ox186_43 : sx_oks 186 x186_43 := ⟨Or.inr ⟨_, (sx_dd bb_186 dX8_parse_43), rfl, rfl⟩, ox186_44⟩
def x186_42 : List sx_E := (.aload 0, 42, 43, [], .null) :: x186_43
theorem ox186_42 : sx_oks 186 x186_42 := ⟨Or.inr ⟨_, (sx_dd bb_186 dX8_parse_42), rfl, rfl⟩, ox186_43⟩
def x186_39 : List sx_E := (.if_icmp .ge (18), 39, 42, [57], .null) :: x186_42
theorem ox186_39 : sx_oks 186 x186_39 := ⟨⟨(sx_dd bb_186 dX8_parse_39), rfl, sx_t1 (by decide +kernel)⟩, ox186_42⟩
def x186_37 : List sx_E := (.nop, 37, 39, [], .int (nI 14)) :: x186_39
theorem ox186_37 : sx_oks 186 x186_37 := ⟨sx_k_bipush (sx_dd bb_186 dX8_parse_37) (by decide +kernel), ox186_39⟩
def x186_36 : List sx_E := (.iaload, 36, 37, [], .null) :: x186_37
theorem ox186_36 : sx_oks 186 x186_36 := ⟨⟨(sx_dd bb_186 dX8_parse_36), rfl⟩, ox186_37⟩
def x186_35 : List sx_E := (.nop, 35, 36, [], .int (nI 1)) :: x186_36
theorem ox186_35 : sx_oks 186 x186_35 := ⟨sx_k_iconst (sx_dd bb_186 dX8_parse_35) (by decide +kernel), ox186_36⟩
def x186_32 : List sx_E := (.getfield 7, 32, 35, [7, 0, 1], .null) :: x186_35
theorem ox186_32 : sx_oks 186 x186_32 := ⟨sx_q_get (w := (RX8, TX8, 31)) (sx_dd bb_186 dX8_parse_32) rfl rfl (Nat.le_of_ble_eq_true rfl) cu_7 (sx_ow3 oo_186 fl_StrawGarrisonModel_7) (by decide +kernel), ox186_35⟩
def x186_31 : List sx_E := (.aload 0, 31, 32, [], .null) :: x186_32
theorem ox186_31 : sx_oks 186 x186_31 := ⟨Or.inr ⟨_, (sx_dd bb_186 dX8_parse_31), rfl, rfl⟩, ox186_32⟩
def x186_30 : List sx_E := (.aload 0, 30, 31, [], .null) :: x186_31
theorem ox186_30 : sx_oks 186 x186_30 := ⟨Or.inr ⟨_, (sx_dd bb_186 dX8_parse_30), rfl, rfl⟩, ox186_31⟩
def x186_27 : List sx_E := (.putfield 275, 27, 30, [7, 24, 0], .null) :: x186_30
theorem ox186_27 : sx_oks 186 x186_27 := ⟨sx_q_put (w := (RX8, TX8, 31)) (ty0 := tyX8) (sx_dd bb_186 dX8_parse_27) rfl (Nat.le_of_ble_eq_true rfl) cu_7 (sx_ow3 oo_186 fl_StrawGarrisonModel_275) (by decide +kernel) tyX8_ok nmX8 (Or.inl rfl) (fun _ => rfl) (fun h => absurd h (by decide)) (fun h => absurd h (by decide)), ox186_30⟩
def x186_26 : List sx_E := (.nop, 26, 27, [], .int (nI 0)) :: x186_27
theorem ox186_26 : sx_oks 186 x186_26 := ⟨sx_k_iconst (sx_dd bb_186 dX8_parse_26) (by decide +kernel), ox186_27⟩
def x186_25 : List sx_E := (.aload 0, 25, 26, [], .null) :: x186_26
theorem ox186_25 : sx_oks 186 x186_25 := ⟨Or.inr ⟨_, (sx_dd bb_186 dX8_parse_25), rfl, rfl⟩, ox186_26⟩
def x186_22 : List sx_E := (.putfield 247, 22, 25, [7, 22, 0], .null) :: x186_25
theorem ox186_22 : sx_oks 186 x186_22 := ⟨sx_q_put (w := (RX8, TX8, 31)) (ty0 := tyX8) (sx_dd bb_186 dX8_parse_22) rfl (Nat.le_of_ble_eq_true rfl) cu_7 (sx_ow3 oo_186 fl_StrawGarrisonModel_247) (by decide +kernel) tyX8_ok nmX8 (Or.inl rfl) (fun _ => rfl) (fun h => absurd h (by decide)) (fun h => absurd h (by decide)), ox186_25⟩
def x186_21 : List sx_E := (.nop, 21, 22, [], .int (nI 0)) :: x186_22
theorem ox186_21 : sx_oks 186 x186_21 := ⟨sx_k_iconst (sx_dd bb_186 dX8_parse_21) (by decide +kernel), ox186_22⟩
def x186_20 : List sx_E := (.aload 0, 20, 21, [], .null) :: x186_21
theorem ox186_20 : sx_oks 186 x186_20 := ⟨Or.inr ⟨_, (sx_dd bb_186 dX8_parse_20), rfl, rfl⟩, ox186_21⟩
def x186_17 : List sx_E := (.putfield 281, 17, 20, [7, 21, 0], .null) :: x186_20
theorem ox186_17 : sx_oks 186 x186_17 := ⟨sx_q_put (w := (RX8, TX8, 31)) (ty0 := tyX8) (sx_dd bb_186 dX8_parse_17) rfl (Nat.le_of_ble_eq_true rfl) cu_7 (sx_ow3 oo_186 fl_StrawGarrisonModel_281) (by decide +kernel) tyX8_ok nmX8 (Or.inl rfl) (fun _ => rfl) (fun h => absurd h (by decide)) (fun h => absurd h (by decide)), ox186_20⟩
def x186_16 : List sx_E := (.nop, 16, 17, [], .int (nI 0)) :: x186_17
theorem ox186_16 : sx_oks 186 x186_16 := ⟨sx_k_iconst (sx_dd bb_186 dX8_parse_16) (by decide +kernel), ox186_17⟩
def x186_15 : List sx_E := (.aload 0, 15, 16, [], .null) :: x186_16
theorem ox186_15 : sx_oks 186 x186_15 := ⟨Or.inr ⟨_, (sx_dd bb_186 dX8_parse_15), rfl, rfl⟩, ox186_16⟩
def x186_12 : List sx_E := (.putfield 284, 12, 15, [7, 20, 0], .null) :: x186_15
theorem ox186_12 : sx_oks 186 x186_12 := ⟨sx_q_put (w := (RX8, TX8, 31)) (ty0 := tyX8) (sx_dd bb_186 dX8_parse_12) rfl (Nat.le_of_ble_eq_true rfl) cu_7 (sx_ow3 oo_186 fl_StrawGarrisonModel_284) (by decide +kernel) tyX8_ok nmX8 (Or.inl rfl) (fun _ => rfl) (fun h => absurd h (by decide)) (fun h => absurd h (by decide)), ox186_15⟩
def x186_11 : List sx_E := (.nop, 11, 12, [], .int (nI 0)) :: x186_12
theorem ox186_11 : sx_oks 186 x186_11 := ⟨sx_k_iconst (sx_dd bb_186 dX8_parse_11) (by decide +kernel), ox186_12⟩
def x186_10 : List sx_E := (.aload 0, 10, 11, [], .null) :: x186_11
theorem ox186_10 : sx_oks 186 x186_10 := ⟨Or.inr ⟨_, (sx_dd bb_186 dX8_parse_10), rfl, rfl⟩, ox186_11⟩
def x186_7 : List sx_E := (.putfield 222, 7, 10, [7, 17, 0], .null) :: x186_10
theorem ox186_7 : sx_oks 186 x186_7 := ⟨sx_q_put (w := (RX8, TX8, 31)) (ty0 := tyX8) (sx_dd bb_186 dX8_parse_7) rfl (Nat.le_of_ble_eq_true rfl) cu_7 (sx_ow3 oo_186 fl_StrawGarrisonModel_222) (by decide +kernel) tyX8_ok nmX8 (Or.inl rfl) (fun _ => rfl) (fun h => absurd h (by decide)) (fun h => absurd h (by decide)), ox186_10⟩
def x186_6 : List sx_E := (.nop, 6, 7, [], .int (nI 3)) :: x186_7
theorem ox186_6 : sx_oks 186 x186_6 := ⟨sx_k_iconst (sx_dd bb_186 dX8_parse_6) (by decide +kernel), ox186_7⟩
def x186_5 : List sx_E := (.aload 0, 5, 6, [], .null) :: x186_6
theorem ox186_5 : sx_oks 186 x186_5 := ⟨Or.inr ⟨_, (sx_dd bb_186 dX8_parse_5), rfl, rfl⟩, ox186_6⟩
def x186_2 : List sx_E := (.putfield 219, 2, 5, [7, 16, 0], .null) :: x186_5
theorem ox186_2 : sx_oks 186 x186_2 := ⟨sx_q_put (w := (RX8, TX8, 31)) (ty0 := tyX8) (sx_dd bb_186 dX8_parse_2) rfl (Nat.le_of_ble_eq_true rfl) cu_7 (sx_ow3 oo_186 fl_StrawGarrisonModel_219) (by decide +kernel) tyX8_ok nmX8 (Or.inl rfl) (fun _ => rfl) (fun h => absurd h (by decide)) (fun h => absurd h (by decide)), ox186_5⟩
def x186_1 : List sx_E := (.nop, 1, 2, [], .int (nI 0)) :: x186_2
theorem ox186_1 : sx_oks 186 x186_1 := ⟨sx_k_iconst (sx_dd bb_186 dX8_parse_1) (by decide +kernel), ox186_2⟩
def x186_0 : List sx_E := (.aload 0, 0, 1, [], .null) :: x186_1
theorem ox186_0 : sx_oks 186 x186_0 := ⟨Or.inr ⟨_, (sx_dd bb_186 dX8_parse_0), rfl, rfl⟩, ox186_1⟩
theorem m186 : sx_mok 186 x186_0 := ⟨ox186_0, by decide +kernel⟩
theorem bb_187 : sx_by 187 = cX8_text := rfl
theorem oo_187 : (sx_nm 187).cls = "StrawGarrisonModel" := rfl
theorem mm_187 : sx_ml 187 = 3 := rfl
theorem rr_187 : sx_rt 187 = (some .int) := rfl
def x187_93 : List sx_E := (.ireturn, 93, 94, [0], .null) :: []
theorem ox187_93 : sx_oks 187 x187_93 := ⟨sx_q_iret0 (sx_dd bb_187 dX8_text_93) rr_187, trivial⟩
def x187_92 : List sx_E := (.isub, 92, 93, [], .null) :: x187_93
theorem ox187_92 : sx_oks 187 x187_92 := ⟨⟨(sx_dd bb_187 dX8_text_92), rfl⟩, ox187_93⟩
def x187_91 : List sx_E := (.nop, 91, 92, [], .int (nI 1)) :: x187_92
theorem ox187_91 : sx_oks 187 x187_91 := ⟨sx_k_iconst (sx_dd bb_187 dX8_text_91) (by decide +kernel), ox187_92⟩
def x187_90 : List sx_E := (.iaload, 90, 91, [], .null) :: x187_91
theorem ox187_90 : sx_oks 187 x187_90 := ⟨⟨(sx_dd bb_187 dX8_text_90), rfl⟩, ox187_91⟩
def x187_89 : List sx_E := (.nop, 89, 90, [], .int (nI 1)) :: x187_90
theorem ox187_89 : sx_oks 187 x187_89 := ⟨sx_k_iconst (sx_dd bb_187 dX8_text_89) (by decide +kernel), ox187_90⟩
def x187_86 : List sx_E := (.getfield 7, 86, 89, [7, 0, 1], .null) :: x187_89
theorem ox187_86 : sx_oks 187 x187_86 := ⟨sx_q_get (w := (RX8, TX8, 31)) (sx_dd bb_187 dX8_text_86) rfl rfl (Nat.le_of_ble_eq_true rfl) cu_7 (sx_ow3 oo_187 fl_StrawGarrisonModel_7) (by decide +kernel), ox187_89⟩
def x187_85 : List sx_E := (.aload 0, 85, 86, [], .null) :: x187_86
theorem ox187_85 : sx_oks 187 x187_85 := ⟨Or.inr ⟨_, (sx_dd bb_187 dX8_text_85), rfl, rfl⟩, ox187_86⟩
def x187_84 : List sx_E := (.iastore, 84, 85, [], .null) :: x187_85
theorem ox187_84 : sx_oks 187 x187_84 := ⟨⟨(sx_dd bb_187 dX8_text_84), rfl⟩, ox187_85⟩
def x187_83 : List sx_E := (.iadd, 83, 84, [], .null) :: x187_84
theorem ox187_83 : sx_oks 187 x187_83 := ⟨⟨(sx_dd bb_187 dX8_text_83), rfl⟩, ox187_84⟩
def x187_82 : List sx_E := (.nop, 82, 83, [], .int (nI 1)) :: x187_83
theorem ox187_82 : sx_oks 187 x187_82 := ⟨sx_k_iconst (sx_dd bb_187 dX8_text_82) (by decide +kernel), ox187_83⟩
def x187_81 : List sx_E := (.iaload, 81, 82, [], .null) :: x187_82
theorem ox187_81 : sx_oks 187 x187_81 := ⟨⟨(sx_dd bb_187 dX8_text_81), rfl⟩, ox187_82⟩
def x187_80 : List sx_E := (.dup2, 80, 81, [], .null) :: x187_81
theorem ox187_80 : sx_oks 187 x187_80 := ⟨⟨(sx_dd bb_187 dX8_text_80), rfl⟩, ox187_81⟩
def x187_79 : List sx_E := (.nop, 79, 80, [], .int (nI 1)) :: x187_80
theorem ox187_79 : sx_oks 187 x187_79 := ⟨sx_k_iconst (sx_dd bb_187 dX8_text_79) (by decide +kernel), ox187_80⟩
def x187_76 : List sx_E := (.getfield 7, 76, 79, [7, 0, 1], .null) :: x187_79
theorem ox187_76 : sx_oks 187 x187_76 := ⟨sx_q_get (w := (RX8, TX8, 31)) (sx_dd bb_187 dX8_text_76) rfl rfl (Nat.le_of_ble_eq_true rfl) cu_7 (sx_ow3 oo_187 fl_StrawGarrisonModel_7) (by decide +kernel), ox187_79⟩
def x187_75 : List sx_E := (.aload 0, 75, 76, [], .null) :: x187_76
theorem ox187_75 : sx_oks 187 x187_75 := ⟨Or.inr ⟨_, (sx_dd bb_187 dX8_text_75), rfl, rfl⟩, ox187_76⟩
def x187_74 : List sx_E := (.iastore, 74, 75, [], .null) :: x187_75
theorem ox187_74 : sx_oks 187 x187_74 := ⟨⟨(sx_dd bb_187 dX8_text_74), rfl⟩, ox187_75⟩
def x187_71 : List sx_E := (.getfield 247, 71, 74, [7, 22, 0], .null) :: x187_74
theorem ox187_71 : sx_oks 187 x187_71 := ⟨sx_q_get (w := (RX8, TX8, 31)) (sx_dd bb_187 dX8_text_71) rfl rfl (Nat.le_of_ble_eq_true rfl) cu_7 (sx_ow3 oo_187 fl_StrawGarrisonModel_247) (by decide +kernel), ox187_74⟩
def x187_70 : List sx_E := (.aload 0, 70, 71, [], .null) :: x187_71
theorem ox187_70 : sx_oks 187 x187_70 := ⟨Or.inr ⟨_, (sx_dd bb_187 dX8_text_70), rfl, rfl⟩, ox187_71⟩
def x187_69 : List sx_E := (.iadd, 69, 70, [], .null) :: x187_70
theorem ox187_69 : sx_oks 187 x187_69 := ⟨⟨(sx_dd bb_187 dX8_text_69), rfl⟩, ox187_70⟩
def x187_68 : List sx_E := (.nop, 68, 69, [], .int (nI 2)) :: x187_69
theorem ox187_68 : sx_oks 187 x187_68 := ⟨sx_k_iconst (sx_dd bb_187 dX8_text_68) (by decide +kernel), ox187_69⟩
def x187_67 : List sx_E := (.iload 2, 67, 68, [], .null) :: x187_68
theorem ox187_67 : sx_oks 187 x187_67 := ⟨Or.inr ⟨_, (sx_dd bb_187 dX8_text_67), rfl, rfl⟩, ox187_68⟩
def x187_64 : List sx_E := (.getfield 7, 64, 67, [7, 0, 1], .null) :: x187_67
theorem ox187_64 : sx_oks 187 x187_64 := ⟨sx_q_get (w := (RX8, TX8, 31)) (sx_dd bb_187 dX8_text_64) rfl rfl (Nat.le_of_ble_eq_true rfl) cu_7 (sx_ow3 oo_187 fl_StrawGarrisonModel_7) (by decide +kernel), ox187_67⟩
def x187_63 : List sx_E := (.aload 0, 63, 64, [], .null) :: x187_64
theorem ox187_63 : sx_oks 187 x187_63 := ⟨Or.inr ⟨_, (sx_dd bb_187 dX8_text_63), rfl, rfl⟩, ox187_64⟩
def x187_62 : List sx_E := (.iastore, 62, 63, [], .null) :: x187_63
theorem ox187_62 : sx_oks 187 x187_62 := ⟨⟨(sx_dd bb_187 dX8_text_62), rfl⟩, ox187_63⟩
def x187_59 : List sx_E := (.getfield 275, 59, 62, [7, 24, 0], .null) :: x187_62
theorem ox187_59 : sx_oks 187 x187_59 := ⟨sx_q_get (w := (RX8, TX8, 31)) (sx_dd bb_187 dX8_text_59) rfl rfl (Nat.le_of_ble_eq_true rfl) cu_7 (sx_ow3 oo_187 fl_StrawGarrisonModel_275) (by decide +kernel), ox187_62⟩
def x187_58 : List sx_E := (.aload 0, 58, 59, [], .null) :: x187_59
theorem ox187_58 : sx_oks 187 x187_58 := ⟨Or.inr ⟨_, (sx_dd bb_187 dX8_text_58), rfl, rfl⟩, ox187_59⟩
def x187_57 : List sx_E := (.iadd, 57, 58, [], .null) :: x187_58
theorem ox187_57 : sx_oks 187 x187_57 := ⟨⟨(sx_dd bb_187 dX8_text_57), rfl⟩, ox187_58⟩
def x187_56 : List sx_E := (.nop, 56, 57, [], .int (nI 1)) :: x187_57
theorem ox187_56 : sx_oks 187 x187_56 := ⟨sx_k_iconst (sx_dd bb_187 dX8_text_56) (by decide +kernel), ox187_57⟩
def x187_55 : List sx_E := (.iload 2, 55, 56, [], .null) :: x187_56
theorem ox187_55 : sx_oks 187 x187_55 := ⟨Or.inr ⟨_, (sx_dd bb_187 dX8_text_55), rfl, rfl⟩, ox187_56⟩
def x187_52 : List sx_E := (.getfield 7, 52, 55, [7, 0, 1], .null) :: x187_55
theorem ox187_52 : sx_oks 187 x187_52 := ⟨sx_q_get (w := (RX8, TX8, 31)) (sx_dd bb_187 dX8_text_52) rfl rfl (Nat.le_of_ble_eq_true rfl) cu_7 (sx_ow3 oo_187 fl_StrawGarrisonModel_7) (by decide +kernel), ox187_55⟩
def x187_51 : List sx_E := (.aload 0, 51, 52, [], .null) :: x187_52
theorem ox187_51 : sx_oks 187 x187_51 := ⟨Or.inr ⟨_, (sx_dd bb_187 dX8_text_51), rfl, rfl⟩, ox187_52⟩
def x187_50 : List sx_E := (.iastore, 50, 51, [], .null) :: x187_51
theorem ox187_50 : sx_oks 187 x187_50 := ⟨⟨(sx_dd bb_187 dX8_text_50), rfl⟩, ox187_51⟩
def x187_49 : List sx_E := (.iload 1, 49, 50, [], .null) :: x187_50
theorem ox187_49 : sx_oks 187 x187_49 := ⟨Or.inr ⟨_, (sx_dd bb_187 dX8_text_49), rfl, rfl⟩, ox187_50⟩
def x187_48 : List sx_E := (.iadd, 48, 49, [], .null) :: x187_49
theorem ox187_48 : sx_oks 187 x187_48 := ⟨⟨(sx_dd bb_187 dX8_text_48), rfl⟩, ox187_49⟩
def x187_47 : List sx_E := (.nop, 47, 48, [], .int (nI 0)) :: x187_48
theorem ox187_47 : sx_oks 187 x187_47 := ⟨sx_k_iconst (sx_dd bb_187 dX8_text_47) (by decide +kernel), ox187_48⟩
def x187_46 : List sx_E := (.iload 2, 46, 47, [], .null) :: x187_47
theorem ox187_46 : sx_oks 187 x187_46 := ⟨Or.inr ⟨_, (sx_dd bb_187 dX8_text_46), rfl, rfl⟩, ox187_47⟩
def x187_43 : List sx_E := (.getfield 7, 43, 46, [7, 0, 1], .null) :: x187_46
theorem ox187_43 : sx_oks 187 x187_43 := ⟨sx_q_get (w := (RX8, TX8, 31)) (sx_dd bb_187 dX8_text_43) rfl rfl (Nat.le_of_ble_eq_true rfl) cu_7 (sx_ow3 oo_187 fl_StrawGarrisonModel_7) (by decide +kernel), ox187_46⟩
def x187_42 : List sx_E := (.aload 0, 42, 43, [], .null) :: x187_43
theorem ox187_42 : sx_oks 187 x187_42 := ⟨Or.inr ⟨_, (sx_dd bb_187 dX8_text_42), rfl, rfl⟩, ox187_43⟩
def x187_41 : List sx_E := (.istore 2, 41, 42, [], .null) :: x187_42
theorem ox187_41 : sx_oks 187 x187_41 := ⟨⟨sx_lt mm_187 (Nat.le_of_ble_eq_true rfl), Or.inr ⟨_, (sx_dd bb_187 dX8_text_41), rfl, rfl⟩⟩, ox187_42⟩
def x187_38 : List sx_E := (.invokevirtual 290, 38, 41, [118, 2, 0, 0, 7], .null) :: x187_41
theorem ox187_38 : sx_oks 187 x187_38 := ⟨sx_q_V (w := (RX8, TX8, 31)) (sx_dd bb_187 dX8_text_38) oo_187 lk_StrawGarrisonModel_290_V ft_118_h (Nat.le_of_ble_eq_true rfl) rfl rfl, ox187_41⟩
def x187_37 : List sx_E := (.iaload, 37, 38, [], .null) :: x187_38
theorem ox187_37 : sx_oks 187 x187_37 := ⟨⟨(sx_dd bb_187 dX8_text_37), rfl⟩, ox187_38⟩
def x187_36 : List sx_E := (.nop, 36, 37, [], .int (nI 1)) :: x187_37
theorem ox187_36 : sx_oks 187 x187_36 := ⟨sx_k_iconst (sx_dd bb_187 dX8_text_36) (by decide +kernel), ox187_37⟩
def x187_33 : List sx_E := (.getfield 7, 33, 36, [7, 0, 1], .null) :: x187_36
theorem ox187_33 : sx_oks 187 x187_33 := ⟨sx_q_get (w := (RX8, TX8, 31)) (sx_dd bb_187 dX8_text_33) rfl rfl (Nat.le_of_ble_eq_true rfl) cu_7 (sx_ow3 oo_187 fl_StrawGarrisonModel_7) (by decide +kernel), ox187_36⟩
def x187_32 : List sx_E := (.aload 0, 32, 33, [], .null) :: x187_33
theorem ox187_32 : sx_oks 187 x187_32 := ⟨Or.inr ⟨_, (sx_dd bb_187 dX8_text_32), rfl, rfl⟩, ox187_33⟩
def x187_31 : List sx_E := (.aload 0, 31, 32, [], .null) :: x187_32
theorem ox187_31 : sx_oks 187 x187_31 := ⟨Or.inr ⟨_, (sx_dd bb_187 dX8_text_31), rfl, rfl⟩, ox187_32⟩
def x187_30 : List sx_E := (.ireturn, 30, 31, [0], .null) :: x187_31
theorem ox187_30 : sx_oks 187 x187_30 := ⟨sx_q_iret0 (sx_dd bb_187 dX8_text_30) rr_187, ox187_31⟩
def x187_28 : List sx_E := (.nop, 28, 30, [], .int ((-1000000003))) :: x187_30
theorem ox187_28 : sx_oks 187 x187_28 := ⟨sx_k_ldc (sx_dd bb_187 dX8_text_28) (sx_ow1 oo_187 kc_StrawGarrisonModel_94), ox187_30⟩
def x187_25 : List sx_E := (.if_icmp .ne (6), 25, 28, [31], .null) :: x187_28
theorem ox187_25 : sx_oks 187 x187_25 := ⟨⟨(sx_dd bb_187 dX8_text_25), rfl, sx_t1 (by decide +kernel)⟩, ox187_28⟩
def x187_23 : List sx_E := (.nop, 23, 25, [], .int (nI 14)) :: x187_25
theorem ox187_23 : sx_oks 187 x187_23 := ⟨sx_k_bipush (sx_dd bb_187 dX8_text_23) (by decide +kernel), ox187_25⟩
def x187_22 : List sx_E := (.iaload, 22, 23, [], .null) :: x187_23
theorem ox187_22 : sx_oks 187 x187_22 := ⟨⟨(sx_dd bb_187 dX8_text_22), rfl⟩, ox187_23⟩
def x187_21 : List sx_E := (.nop, 21, 22, [], .int (nI 1)) :: x187_22
theorem ox187_21 : sx_oks 187 x187_21 := ⟨sx_k_iconst (sx_dd bb_187 dX8_text_21) (by decide +kernel), ox187_22⟩
def x187_18 : List sx_E := (.getfield 7, 18, 21, [7, 0, 1], .null) :: x187_21
theorem ox187_18 : sx_oks 187 x187_18 := ⟨sx_q_get (w := (RX8, TX8, 31)) (sx_dd bb_187 dX8_text_18) rfl rfl (Nat.le_of_ble_eq_true rfl) cu_7 (sx_ow3 oo_187 fl_StrawGarrisonModel_7) (by decide +kernel), ox187_21⟩
def x187_17 : List sx_E := (.aload 0, 17, 18, [], .null) :: x187_18
theorem ox187_17 : sx_oks 187 x187_17 := ⟨Or.inr ⟨_, (sx_dd bb_187 dX8_text_17), rfl, rfl⟩, ox187_18⟩
def x187_16 : List sx_E := (.ireturn, 16, 17, [0], .null) :: x187_17
theorem ox187_16 : sx_oks 187 x187_16 := ⟨sx_q_iret0 (sx_dd bb_187 dX8_text_16) rr_187, ox187_17⟩
def x187_15 : List sx_E := (.isub, 15, 16, [], .null) :: x187_16
theorem ox187_15 : sx_oks 187 x187_15 := ⟨⟨(sx_dd bb_187 dX8_text_15), rfl⟩, ox187_16⟩
def x187_12 : List sx_E := (.getfield 225, 12, 15, [7, 15, 0], .null) :: x187_15
theorem ox187_12 : sx_oks 187 x187_12 := ⟨sx_q_get (w := (RX8, TX8, 31)) (sx_dd bb_187 dX8_text_12) rfl rfl (Nat.le_of_ble_eq_true rfl) cu_7 (sx_ow3 oo_187 fl_StrawGarrisonModel_225) (by decide +kernel), ox187_15⟩
def x187_11 : List sx_E := (.aload 0, 11, 12, [], .null) :: x187_12
theorem ox187_11 : sx_oks 187 x187_11 := ⟨Or.inr ⟨_, (sx_dd bb_187 dX8_text_11), rfl, rfl⟩, ox187_12⟩
def x187_9 : List sx_E := (.nop, 9, 11, [], .int ((-100))) :: x187_11
theorem ox187_9 : sx_oks 187 x187_9 := ⟨sx_k_bipush (sx_dd bb_187 dX8_text_9) (by decide +kernel), ox187_11⟩
def x187_6 : List sx_E := (.ifCond .ge (11), 6, 9, [17], .null) :: x187_9
theorem ox187_6 : sx_oks 187 x187_6 := ⟨⟨(sx_dd bb_187 dX8_text_6), rfl, sx_t1 (by decide +kernel)⟩, ox187_9⟩
def x187_5 : List sx_E := (.iload 1, 5, 6, [], .null) :: x187_6
theorem ox187_5 : sx_oks 187 x187_5 := ⟨Or.inr ⟨_, (sx_dd bb_187 dX8_text_5), rfl, rfl⟩, ox187_6⟩
def x187_4 : List sx_E := (.istore 1, 4, 5, [], .null) :: x187_5
theorem ox187_4 : sx_oks 187 x187_4 := ⟨⟨sx_lt mm_187 (Nat.le_of_ble_eq_true rfl), Or.inr ⟨_, (sx_dd bb_187 dX8_text_4), rfl, rfl⟩⟩, ox187_5⟩
def x187_1 : List sx_E := (.invokevirtual 296, 1, 4, [186, 1, 0, 0, 7], .null) :: x187_4
theorem ox187_1 : sx_oks 187 x187_1 := ⟨sx_q_V (w := (RX8, TX8, 31)) (sx_dd bb_187 dX8_text_1) oo_187 lk_StrawGarrisonModel_296_V ft_186_h (Nat.le_of_ble_eq_true rfl) rfl rfl, ox187_4⟩
def x187_0 : List sx_E := (.aload 0, 0, 1, [], .null) :: x187_1
theorem ox187_0 : sx_oks 187 x187_0 := ⟨Or.inr ⟨_, (sx_dd bb_187 dX8_text_0), rfl, rfl⟩, ox187_1⟩
theorem m187 : sx_mok 187 x187_0 := ⟨ox187_0, by decide +kernel⟩
theorem bb_188 : sx_by 188 = cX8_textTold := rfl
theorem oo_188 : (sx_nm 188).cls = "StrawGarrisonModel" := rfl
theorem mm_188 : sx_ml 188 = 3 := rfl
theorem rr_188 : sx_rt 188 = (some .int) := rfl
def x188_33 : List sx_E := (.ireturn, 33, 34, [0], .null) :: []
theorem ox188_33 : sx_oks 188 x188_33 := ⟨sx_q_iret0 (sx_dd bb_188 dX8_textTold_33) rr_188, trivial⟩
def x188_32 : List sx_E := (.iaload, 32, 33, [], .null) :: x188_33
theorem ox188_32 : sx_oks 188 x188_32 := ⟨⟨(sx_dd bb_188 dX8_textTold_32), rfl⟩, ox188_33⟩
def x188_31 : List sx_E := (.iadd, 31, 32, [], .null) :: x188_32
theorem ox188_31 : sx_oks 188 x188_31 := ⟨⟨(sx_dd bb_188 dX8_textTold_31), rfl⟩, ox188_32⟩
def x188_30 : List sx_E := (.iload 2, 30, 31, [], .null) :: x188_31
theorem ox188_30 : sx_oks 188 x188_30 := ⟨Or.inr ⟨_, (sx_dd bb_188 dX8_textTold_30), rfl, rfl⟩, ox188_31⟩
def x188_27 : List sx_E := (.invokevirtual 290, 27, 30, [118, 2, 0, 0, 7], .null) :: x188_30
theorem ox188_27 : sx_oks 188 x188_27 := ⟨sx_q_V (w := (RX8, TX8, 31)) (sx_dd bb_188 dX8_textTold_27) oo_188 lk_StrawGarrisonModel_290_V ft_118_h (Nat.le_of_ble_eq_true rfl) rfl rfl, ox188_30⟩
def x188_26 : List sx_E := (.iload 1, 26, 27, [], .null) :: x188_27
theorem ox188_26 : sx_oks 188 x188_26 := ⟨Or.inr ⟨_, (sx_dd bb_188 dX8_textTold_26), rfl, rfl⟩, ox188_27⟩
def x188_25 : List sx_E := (.aload 0, 25, 26, [], .null) :: x188_26
theorem ox188_25 : sx_oks 188 x188_25 := ⟨Or.inr ⟨_, (sx_dd bb_188 dX8_textTold_25), rfl, rfl⟩, ox188_26⟩
def x188_22 : List sx_E := (.getfield 7, 22, 25, [7, 0, 1], .null) :: x188_25
theorem ox188_22 : sx_oks 188 x188_22 := ⟨sx_q_get (w := (RX8, TX8, 31)) (sx_dd bb_188 dX8_textTold_22) rfl rfl (Nat.le_of_ble_eq_true rfl) cu_7 (sx_ow3 oo_188 fl_StrawGarrisonModel_7) (by decide +kernel), ox188_25⟩
def x188_21 : List sx_E := (.aload 0, 21, 22, [], .null) :: x188_22
theorem ox188_21 : sx_oks 188 x188_21 := ⟨Or.inr ⟨_, (sx_dd bb_188 dX8_textTold_21), rfl, rfl⟩, ox188_22⟩
def x188_20 : List sx_E := (.ireturn, 20, 21, [0], .null) :: x188_21
theorem ox188_20 : sx_oks 188 x188_20 := ⟨sx_q_iret0 (sx_dd bb_188 dX8_textTold_20) rr_188, ox188_21⟩
def x188_18 : List sx_E := (.nop, 18, 20, [], .int ((-1000000001))) :: x188_20
theorem ox188_18 : sx_oks 188 x188_18 := ⟨sx_k_ldc (sx_dd bb_188 dX8_textTold_18) (sx_ow1 oo_188 kc_StrawGarrisonModel_88), ox188_20⟩
def x188_15 : List sx_E := (.ifCond .ne (6), 15, 18, [21], .null) :: x188_18
theorem ox188_15 : sx_oks 188 x188_15 := ⟨⟨(sx_dd bb_188 dX8_textTold_15), rfl, sx_t1 (by decide +kernel)⟩, ox188_18⟩
def x188_12 : List sx_E := (.invokestatic 65, 12, 15, [113, 3, 0, 0], .null) :: x188_15
theorem ox188_12 : sx_oks 188 x188_12 := ⟨sx_q_S (sx_dd bb_188 dX8_textTold_12) oo_188 lk_StrawGarrisonModel_65_S ft_113_h, ox188_15⟩
def x188_11 : List sx_E := (.nop, 11, 12, [], .long (1)) :: x188_12
theorem ox188_11 : sx_oks 188 x188_11 := ⟨sx_k_lconst (sx_dd bb_188 dX8_textTold_11) (by decide +kernel), ox188_12⟩
def x188_10 : List sx_E := (.nop, 10, 11, [], .long (0)) :: x188_11
theorem ox188_10 : sx_oks 188 x188_10 := ⟨sx_k_lconst (sx_dd bb_188 dX8_textTold_10) (by decide +kernel), ox188_11⟩
def x188_9 : List sx_E := (.i2l, 9, 10, [], .null) :: x188_10
theorem ox188_9 : sx_oks 188 x188_9 := ⟨⟨(sx_dd bb_188 dX8_textTold_9), rfl⟩, ox188_10⟩
def x188_8 : List sx_E := (.iload 2, 8, 9, [], .null) :: x188_9
theorem ox188_8 : sx_oks 188 x188_8 := ⟨Or.inr ⟨_, (sx_dd bb_188 dX8_textTold_8), rfl, rfl⟩, ox188_9⟩
def x188_5 : List sx_E := (.ifCond .eq (13), 5, 8, [18], .null) :: x188_8
theorem ox188_5 : sx_oks 188 x188_5 := ⟨⟨(sx_dd bb_188 dX8_textTold_5), rfl, sx_t1 (by decide +kernel)⟩, ox188_8⟩
def x188_2 : List sx_E := (.invokevirtual 299, 2, 5, [122, 2, 0, 0, 7], .null) :: x188_5
theorem ox188_2 : sx_oks 188 x188_2 := ⟨sx_q_V (w := (RX8, TX8, 31)) (sx_dd bb_188 dX8_textTold_2) oo_188 lk_StrawGarrisonModel_299_V ft_122_h (Nat.le_of_ble_eq_true rfl) rfl rfl, ox188_5⟩
def x188_1 : List sx_E := (.iload 1, 1, 2, [], .null) :: x188_2
theorem ox188_1 : sx_oks 188 x188_1 := ⟨Or.inr ⟨_, (sx_dd bb_188 dX8_textTold_1), rfl, rfl⟩, ox188_2⟩
def x188_0 : List sx_E := (.aload 0, 0, 1, [], .null) :: x188_1
theorem ox188_0 : sx_oks 188 x188_0 := ⟨Or.inr ⟨_, (sx_dd bb_188 dX8_textTold_0), rfl, rfl⟩, ox188_1⟩
theorem m188 : sx_mok 188 x188_0 := ⟨ox188_0, by decide +kernel⟩
theorem bb_189 : sx_by 189 = cX8_counts := rfl
theorem oo_189 : (sx_nm 189).cls = "StrawGarrisonModel" := rfl
theorem mm_189 : sx_ml 189 = 4 := rfl
theorem rr_189 : sx_rt 189 = (some .int) := rfl
def x189_41 : List sx_E := (.ireturn, 41, 42, [0], .null) :: []
theorem ox189_41 : sx_oks 189 x189_41 := ⟨sx_q_iret0 (sx_dd bb_189 dX8_counts_41) rr_189, trivial⟩
def x189_40 : List sx_E := (.iload 2, 40, 41, [], .null) :: x189_41
theorem ox189_40 : sx_oks 189 x189_40 := ⟨Or.inr ⟨_, (sx_dd bb_189 dX8_counts_40), rfl, rfl⟩, ox189_41⟩
def x189_37 : List sx_E := (.goto (-33), 37, 40, [4], .null) :: x189_40
theorem ox189_37 : sx_oks 189 x189_37 := ⟨⟨(sx_dd bb_189 dX8_counts_37), sx_t1 (by decide +kernel)⟩, ox189_40⟩
def x189_34 : List sx_E := (.iinc 3 (1), 34, 37, [], .int (nI 1)) :: x189_37
theorem ox189_34 : sx_oks 189 x189_34 := ⟨⟨sx_lt mm_189 (Nat.le_of_ble_eq_true rfl), (sx_dd bb_189 dX8_counts_34), rfl, by decide +kernel⟩, ox189_37⟩
def x189_33 : List sx_E := (.istore 2, 33, 34, [], .null) :: x189_34
theorem ox189_33 : sx_oks 189 x189_33 := ⟨⟨sx_lt mm_189 (Nat.le_of_ble_eq_true rfl), Or.inr ⟨_, (sx_dd bb_189 dX8_counts_33), rfl, rfl⟩⟩, ox189_34⟩
def x189_32 : List sx_E := (.iload 2, 32, 33, [], .null) :: x189_33
theorem ox189_32 : sx_oks 189 x189_32 := ⟨Or.inr ⟨_, (sx_dd bb_189 dX8_counts_32), rfl, rfl⟩, ox189_33⟩
def x189_29 : List sx_E := (.goto (4), 29, 32, [33], .null) :: x189_32
theorem ox189_29 : sx_oks 189 x189_29 := ⟨⟨(sx_dd bb_189 dX8_counts_29), sx_t1 (by decide +kernel)⟩, ox189_32⟩
def x189_28 : List sx_E := (.iload 3, 28, 29, [], .null) :: x189_29
theorem ox189_28 : sx_oks 189 x189_28 := ⟨Or.inr ⟨_, (sx_dd bb_189 dX8_counts_28), rfl, rfl⟩, ox189_29⟩
def x189_25 : List sx_E := (.if_icmp .ne (7), 25, 28, [32], .null) :: x189_28
theorem ox189_25 : sx_oks 189 x189_25 := ⟨⟨(sx_dd bb_189 dX8_counts_25), rfl, sx_t1 (by decide +kernel)⟩, ox189_28⟩
def x189_24 : List sx_E := (.iload 1, 24, 25, [], .null) :: x189_25
theorem ox189_24 : sx_oks 189 x189_24 := ⟨Or.inr ⟨_, (sx_dd bb_189 dX8_counts_24), rfl, rfl⟩, ox189_25⟩
def x189_23 : List sx_E := (.iaload, 23, 24, [], .null) :: x189_24
theorem ox189_23 : sx_oks 189 x189_23 := ⟨⟨(sx_dd bb_189 dX8_counts_23), rfl⟩, ox189_24⟩
def x189_20 : List sx_E := (.invokevirtual 290, 20, 23, [118, 2, 0, 0, 7], .null) :: x189_23
theorem ox189_20 : sx_oks 189 x189_20 := ⟨sx_q_V (w := (RX8, TX8, 31)) (sx_dd bb_189 dX8_counts_20) oo_189 lk_StrawGarrisonModel_290_V ft_118_h (Nat.le_of_ble_eq_true rfl) rfl rfl, ox189_23⟩
def x189_19 : List sx_E := (.iload 3, 19, 20, [], .null) :: x189_20
theorem ox189_19 : sx_oks 189 x189_19 := ⟨Or.inr ⟨_, (sx_dd bb_189 dX8_counts_19), rfl, rfl⟩, ox189_20⟩
def x189_18 : List sx_E := (.aload 0, 18, 19, [], .null) :: x189_19
theorem ox189_18 : sx_oks 189 x189_18 := ⟨Or.inr ⟨_, (sx_dd bb_189 dX8_counts_18), rfl, rfl⟩, ox189_19⟩
def x189_15 : List sx_E := (.getfield 7, 15, 18, [7, 0, 1], .null) :: x189_18
theorem ox189_15 : sx_oks 189 x189_15 := ⟨sx_q_get (w := (RX8, TX8, 31)) (sx_dd bb_189 dX8_counts_15) rfl rfl (Nat.le_of_ble_eq_true rfl) cu_7 (sx_ow3 oo_189 fl_StrawGarrisonModel_7) (by decide +kernel), ox189_18⟩
def x189_14 : List sx_E := (.aload 0, 14, 15, [], .null) :: x189_15
theorem ox189_14 : sx_oks 189 x189_14 := ⟨Or.inr ⟨_, (sx_dd bb_189 dX8_counts_14), rfl, rfl⟩, ox189_15⟩
def x189_11 : List sx_E := (.if_icmp .ge (29), 11, 14, [40], .null) :: x189_14
theorem ox189_11 : sx_oks 189 x189_11 := ⟨⟨(sx_dd bb_189 dX8_counts_11), rfl, sx_t1 (by decide +kernel)⟩, ox189_14⟩
def x189_10 : List sx_E := (.iaload, 10, 11, [], .null) :: x189_11
theorem ox189_10 : sx_oks 189 x189_10 := ⟨⟨(sx_dd bb_189 dX8_counts_10), rfl⟩, ox189_11⟩
def x189_9 : List sx_E := (.nop, 9, 10, [], .int (nI 1)) :: x189_10
theorem ox189_9 : sx_oks 189 x189_9 := ⟨sx_k_iconst (sx_dd bb_189 dX8_counts_9) (by decide +kernel), ox189_10⟩
def x189_6 : List sx_E := (.getfield 7, 6, 9, [7, 0, 1], .null) :: x189_9
theorem ox189_6 : sx_oks 189 x189_6 := ⟨sx_q_get (w := (RX8, TX8, 31)) (sx_dd bb_189 dX8_counts_6) rfl rfl (Nat.le_of_ble_eq_true rfl) cu_7 (sx_ow3 oo_189 fl_StrawGarrisonModel_7) (by decide +kernel), ox189_9⟩
def x189_5 : List sx_E := (.aload 0, 5, 6, [], .null) :: x189_6
theorem ox189_5 : sx_oks 189 x189_5 := ⟨Or.inr ⟨_, (sx_dd bb_189 dX8_counts_5), rfl, rfl⟩, ox189_6⟩
def x189_4 : List sx_E := (.iload 3, 4, 5, [], .null) :: x189_5
theorem ox189_4 : sx_oks 189 x189_4 := ⟨Or.inr ⟨_, (sx_dd bb_189 dX8_counts_4), rfl, rfl⟩, ox189_5⟩
def x189_4h : List sx_E := (.monitorenter, 4, 4, [0, 1, 2, 3], .null) :: x189_4
theorem ox189_4h : sx_oks 189 x189_4h := ⟨trivial, ox189_4⟩
def x189_3 : List sx_E := (.istore 3, 3, 4, [], .null) :: x189_4h
theorem ox189_3 : sx_oks 189 x189_3 := ⟨⟨sx_lt mm_189 (Nat.le_of_ble_eq_true rfl), Or.inr ⟨_, (sx_dd bb_189 dX8_counts_3), rfl, rfl⟩⟩, ox189_4h⟩
def x189_2 : List sx_E := (.nop, 2, 3, [], .int (nI 0)) :: x189_3
theorem ox189_2 : sx_oks 189 x189_2 := ⟨sx_k_iconst (sx_dd bb_189 dX8_counts_2) (by decide +kernel), ox189_3⟩
def x189_1 : List sx_E := (.istore 2, 1, 2, [], .null) :: x189_2
theorem ox189_1 : sx_oks 189 x189_1 := ⟨⟨sx_lt mm_189 (Nat.le_of_ble_eq_true rfl), Or.inr ⟨_, (sx_dd bb_189 dX8_counts_1), rfl, rfl⟩⟩, ox189_2⟩
def x189_0 : List sx_E := (.nop, 0, 1, [], .int ((-1))) :: x189_1
theorem ox189_0 : sx_oks 189 x189_0 := ⟨sx_k_iconst (sx_dd bb_189 dX8_counts_0) (by decide +kernel), ox189_1⟩
theorem m189 : sx_mok 189 x189_0 := ⟨ox189_0, by decide +kernel⟩
theorem bb_190 : sx_by 190 = cX8_why := rfl
theorem oo_190 : (sx_nm 190).cls = "StrawGarrisonModel" := rfl
theorem mm_190 : sx_ml 190 = 2 := rfl
theorem rr_190 : sx_rt 190 = (some .int) := rfl
def x190_25 : List sx_E := (.ireturn, 25, 26, [0], .null) :: []
theorem ox190_25 : sx_oks 190 x190_25 := ⟨sx_q_iret0 (sx_dd bb_190 dX8_why_25) rr_190, trivial⟩
def x190_23 : List sx_E := (.nop, 23, 25, [], .int ((-1000000001))) :: x190_25
theorem ox190_23 : sx_oks 190 x190_23 := ⟨sx_k_ldc (sx_dd bb_190 dX8_why_23) (sx_ow1 oo_190 kc_StrawGarrisonModel_88), ox190_25⟩
def x190_20 : List sx_E := (.goto (5), 20, 23, [25], .null) :: x190_23
theorem ox190_20 : sx_oks 190 x190_20 := ⟨⟨(sx_dd bb_190 dX8_why_20), sx_t1 (by decide +kernel)⟩, ox190_23⟩
def x190_17 : List sx_E := (.invokestatic 139, 17, 20, [114, 1, 0, 0], .null) :: x190_20
theorem ox190_17 : sx_oks 190 x190_17 := ⟨sx_q_S (sx_dd bb_190 dX8_why_17) oo_190 lk_StrawGarrisonModel_139_S ft_114_h, ox190_20⟩
def x190_14 : List sx_E := (.invokevirtual 98, 14, 17, [189, 2, 0, 0, 7], .null) :: x190_17
theorem ox190_14 : sx_oks 190 x190_14 := ⟨sx_q_V (w := (RX8, TX8, 31)) (sx_dd bb_190 dX8_why_14) oo_190 lk_StrawGarrisonModel_98_V ft_189_h (Nat.le_of_ble_eq_true rfl) rfl rfl, ox190_17⟩
def x190_13 : List sx_E := (.iload 1, 13, 14, [], .null) :: x190_14
theorem ox190_13 : sx_oks 190 x190_13 := ⟨Or.inr ⟨_, (sx_dd bb_190 dX8_why_13), rfl, rfl⟩, ox190_14⟩
def x190_12 : List sx_E := (.aload 0, 12, 13, [], .null) :: x190_13
theorem ox190_12 : sx_oks 190 x190_12 := ⟨Or.inr ⟨_, (sx_dd bb_190 dX8_why_12), rfl, rfl⟩, ox190_13⟩
def x190_9 : List sx_E := (.ifCond .eq (14), 9, 12, [23], .null) :: x190_12
theorem ox190_9 : sx_oks 190 x190_9 := ⟨⟨(sx_dd bb_190 dX8_why_9), rfl, sx_t1 (by decide +kernel)⟩, ox190_12⟩
def x190_6 : List sx_E := (.invokestatic 65, 6, 9, [113, 3, 0, 0], .null) :: x190_9
theorem ox190_6 : sx_oks 190 x190_6 := ⟨sx_q_S (sx_dd bb_190 dX8_why_6) oo_190 lk_StrawGarrisonModel_65_S ft_113_h, ox190_9⟩
def x190_3 : List sx_E := (.nop, 3, 6, [], .long (2)) :: x190_6
theorem ox190_3 : sx_oks 190 x190_3 := ⟨sx_k_ldc2 (sx_dd bb_190 dX8_why_3) (sx_ow2 oo_190 kl_StrawGarrisonModel_135), ox190_6⟩
def x190_2 : List sx_E := (.nop, 2, 3, [], .long (0)) :: x190_3
theorem ox190_2 : sx_oks 190 x190_2 := ⟨sx_k_lconst (sx_dd bb_190 dX8_why_2) (by decide +kernel), ox190_3⟩
def x190_1 : List sx_E := (.i2l, 1, 2, [], .null) :: x190_2
theorem ox190_1 : sx_oks 190 x190_1 := ⟨⟨(sx_dd bb_190 dX8_why_1), rfl⟩, ox190_2⟩
def x190_0 : List sx_E := (.iload 1, 0, 1, [], .null) :: x190_1
theorem ox190_0 : sx_oks 190 x190_0 := ⟨Or.inr ⟨_, (sx_dd bb_190 dX8_why_0), rfl, rfl⟩, ox190_1⟩
theorem m190 : sx_mok 190 x190_0 := ⟨ox190_0, by decide +kernel⟩
theorem bb_191 : sx_by 191 = cX8_joined := rfl
theorem oo_191 : (sx_nm 191).cls = "StrawGarrisonModel" := rfl
theorem mm_191 : sx_ml 191 = 3 := rfl
theorem rr_191 : sx_rt 191 = (some .int) := rfl
def x191_210 : List sx_E := (.ireturn, 210, 211, [0], .null) :: []
theorem ox191_210 : sx_oks 191 x191_210 := ⟨sx_q_iret0 (sx_dd bb_191 dX8_joined_210) rr_191, trivial⟩
def x191_209 : List sx_E := (.nop, 209, 210, [], .int (nI 0)) :: x191_210
theorem ox191_209 : sx_oks 191 x191_209 := ⟨sx_k_iconst (sx_dd bb_191 dX8_joined_209) (by decide +kernel), ox191_210⟩
def x191_206 : List sx_E := (.goto (4), 206, 209, [210], .null) :: x191_209
theorem ox191_206 : sx_oks 191 x191_206 := ⟨⟨(sx_dd bb_191 dX8_joined_206), sx_t1 (by decide +kernel)⟩, ox191_209⟩
def x191_205 : List sx_E := (.nop, 205, 206, [], .int (nI 1)) :: x191_206
theorem ox191_205 : sx_oks 191 x191_205 := ⟨sx_k_iconst (sx_dd bb_191 dX8_joined_205) (by decide +kernel), ox191_206⟩
def x191_202 : List sx_E := (.ifCond .eq (7), 202, 205, [209], .null) :: x191_205
theorem ox191_202 : sx_oks 191 x191_202 := ⟨⟨(sx_dd bb_191 dX8_joined_202), rfl, sx_t1 (by decide +kernel)⟩, ox191_205⟩
def x191_201 : List sx_E := (.iload 2, 201, 202, [], .null) :: x191_202
theorem ox191_201 : sx_oks 191 x191_201 := ⟨Or.inr ⟨_, (sx_dd bb_191 dX8_joined_201), rfl, rfl⟩, ox191_202⟩
def x191_198 : List sx_E := (.ifCond .ne (7), 198, 201, [205], .null) :: x191_201
theorem ox191_198 : sx_oks 191 x191_198 := ⟨⟨(sx_dd bb_191 dX8_joined_198), rfl, sx_t1 (by decide +kernel)⟩, ox191_201⟩
def x191_197 : List sx_E := (.iload 1, 197, 198, [], .null) :: x191_198
theorem ox191_197 : sx_oks 191 x191_197 := ⟨Or.inr ⟨_, (sx_dd bb_191 dX8_joined_197), rfl, rfl⟩, ox191_198⟩
def x191_196 : List sx_E := (.ireturn, 196, 197, [0], .null) :: x191_197
theorem ox191_196 : sx_oks 191 x191_196 := ⟨sx_q_iret0 (sx_dd bb_191 dX8_joined_196) rr_191, ox191_197⟩
def x191_195 : List sx_E := (.nop, 195, 196, [], .int (nI 0)) :: x191_196
theorem ox191_195 : sx_oks 191 x191_195 := ⟨sx_k_iconst (sx_dd bb_191 dX8_joined_195) (by decide +kernel), ox191_196⟩
def x191_192 : List sx_E := (.goto (4), 192, 195, [196], .null) :: x191_195
theorem ox191_192 : sx_oks 191 x191_192 := ⟨⟨(sx_dd bb_191 dX8_joined_192), sx_t1 (by decide +kernel)⟩, ox191_195⟩
def x191_191 : List sx_E := (.nop, 191, 192, [], .int (nI 1)) :: x191_192
theorem ox191_191 : sx_oks 191 x191_191 := ⟨sx_k_iconst (sx_dd bb_191 dX8_joined_191) (by decide +kernel), ox191_192⟩
def x191_188 : List sx_E := (.ifCond .eq (7), 188, 191, [195], .null) :: x191_191
theorem ox191_188 : sx_oks 191 x191_188 := ⟨⟨(sx_dd bb_191 dX8_joined_188), rfl, sx_t1 (by decide +kernel)⟩, ox191_191⟩
def x191_187 : List sx_E := (.iload 2, 187, 188, [], .null) :: x191_188
theorem ox191_187 : sx_oks 191 x191_187 := ⟨Or.inr ⟨_, (sx_dd bb_191 dX8_joined_187), rfl, rfl⟩, ox191_188⟩
def x191_184 : List sx_E := (.ifCond .eq (11), 184, 187, [195], .null) :: x191_187
theorem ox191_184 : sx_oks 191 x191_184 := ⟨⟨(sx_dd bb_191 dX8_joined_184), rfl, sx_t1 (by decide +kernel)⟩, ox191_187⟩
def x191_183 : List sx_E := (.iload 1, 183, 184, [], .null) :: x191_184
theorem ox191_183 : sx_oks 191 x191_183 := ⟨Or.inr ⟨_, (sx_dd bb_191 dX8_joined_183), rfl, rfl⟩, ox191_184⟩
def x191_182 : List sx_E := (.ireturn, 182, 183, [0], .null) :: x191_183
theorem ox191_182 : sx_oks 191 x191_182 := ⟨sx_q_iret0 (sx_dd bb_191 dX8_joined_182) rr_191, ox191_183⟩
def x191_181 : List sx_E := (.nop, 181, 182, [], .int (nI 0)) :: x191_182
theorem ox191_181 : sx_oks 191 x191_181 := ⟨sx_k_iconst (sx_dd bb_191 dX8_joined_181) (by decide +kernel), ox191_182⟩
def x191_178 : List sx_E := (.goto (4), 178, 181, [182], .null) :: x191_181
theorem ox191_178 : sx_oks 191 x191_178 := ⟨⟨(sx_dd bb_191 dX8_joined_178), sx_t1 (by decide +kernel)⟩, ox191_181⟩
def x191_177 : List sx_E := (.nop, 177, 178, [], .int (nI 1)) :: x191_178
theorem ox191_177 : sx_oks 191 x191_177 := ⟨sx_k_iconst (sx_dd bb_191 dX8_joined_177) (by decide +kernel), ox191_178⟩
def x191_174 : List sx_E := (.if_icmp .ne (7), 174, 177, [181], .null) :: x191_177
theorem ox191_174 : sx_oks 191 x191_174 := ⟨⟨(sx_dd bb_191 dX8_joined_174), rfl, sx_t1 (by decide +kernel)⟩, ox191_177⟩
def x191_173 : List sx_E := (.iload 2, 173, 174, [], .null) :: x191_174
theorem ox191_173 : sx_oks 191 x191_173 := ⟨Or.inr ⟨_, (sx_dd bb_191 dX8_joined_173), rfl, rfl⟩, ox191_174⟩
def x191_172 : List sx_E := (.iload 1, 172, 173, [], .null) :: x191_173
theorem ox191_172 : sx_oks 191 x191_172 := ⟨Or.inr ⟨_, (sx_dd bb_191 dX8_joined_172), rfl, rfl⟩, ox191_173⟩
def x191_171 : List sx_E := (.ireturn, 171, 172, [0], .null) :: x191_172
theorem ox191_171 : sx_oks 191 x191_171 := ⟨sx_q_iret0 (sx_dd bb_191 dX8_joined_171) rr_191, ox191_172⟩
def x191_170 : List sx_E := (.nop, 170, 171, [], .int (nI 0)) :: x191_171
theorem ox191_170 : sx_oks 191 x191_170 := ⟨sx_k_iconst (sx_dd bb_191 dX8_joined_170) (by decide +kernel), ox191_171⟩
def x191_167 : List sx_E := (.goto (4), 167, 170, [171], .null) :: x191_170
theorem ox191_167 : sx_oks 191 x191_167 := ⟨⟨(sx_dd bb_191 dX8_joined_167), sx_t1 (by decide +kernel)⟩, ox191_170⟩
def x191_166 : List sx_E := (.nop, 166, 167, [], .int (nI 1)) :: x191_167
theorem ox191_166 : sx_oks 191 x191_166 := ⟨sx_k_iconst (sx_dd bb_191 dX8_joined_166) (by decide +kernel), ox191_167⟩
def x191_163 : List sx_E := (.if_icmp .le (7), 163, 166, [170], .null) :: x191_166
theorem ox191_163 : sx_oks 191 x191_163 := ⟨⟨(sx_dd bb_191 dX8_joined_163), rfl, sx_t1 (by decide +kernel)⟩, ox191_166⟩
def x191_162 : List sx_E := (.iload 2, 162, 163, [], .null) :: x191_163
theorem ox191_162 : sx_oks 191 x191_162 := ⟨Or.inr ⟨_, (sx_dd bb_191 dX8_joined_162), rfl, rfl⟩, ox191_163⟩
def x191_161 : List sx_E := (.iload 1, 161, 162, [], .null) :: x191_162
theorem ox191_161 : sx_oks 191 x191_161 := ⟨Or.inr ⟨_, (sx_dd bb_191 dX8_joined_161), rfl, rfl⟩, ox191_162⟩
def x191_160 : List sx_E := (.ireturn, 160, 161, [0], .null) :: x191_161
theorem ox191_160 : sx_oks 191 x191_160 := ⟨sx_q_iret0 (sx_dd bb_191 dX8_joined_160) rr_191, ox191_161⟩
def x191_159 : List sx_E := (.nop, 159, 160, [], .int (nI 0)) :: x191_160
theorem ox191_159 : sx_oks 191 x191_159 := ⟨sx_k_iconst (sx_dd bb_191 dX8_joined_159) (by decide +kernel), ox191_160⟩
def x191_156 : List sx_E := (.goto (4), 156, 159, [160], .null) :: x191_159
theorem ox191_156 : sx_oks 191 x191_156 := ⟨⟨(sx_dd bb_191 dX8_joined_156), sx_t1 (by decide +kernel)⟩, ox191_159⟩
def x191_155 : List sx_E := (.nop, 155, 156, [], .int (nI 1)) :: x191_156
theorem ox191_155 : sx_oks 191 x191_155 := ⟨sx_k_iconst (sx_dd bb_191 dX8_joined_155) (by decide +kernel), ox191_156⟩
def x191_152 : List sx_E := (.if_icmp .ge (7), 152, 155, [159], .null) :: x191_155
theorem ox191_152 : sx_oks 191 x191_152 := ⟨⟨(sx_dd bb_191 dX8_joined_152), rfl, sx_t1 (by decide +kernel)⟩, ox191_155⟩
def x191_151 : List sx_E := (.iload 2, 151, 152, [], .null) :: x191_152
theorem ox191_151 : sx_oks 191 x191_151 := ⟨Or.inr ⟨_, (sx_dd bb_191 dX8_joined_151), rfl, rfl⟩, ox191_152⟩
def x191_150 : List sx_E := (.iload 1, 150, 151, [], .null) :: x191_151
theorem ox191_150 : sx_oks 191 x191_150 := ⟨Or.inr ⟨_, (sx_dd bb_191 dX8_joined_150), rfl, rfl⟩, ox191_151⟩
def x191_149 : List sx_E := (.ireturn, 149, 150, [0], .null) :: x191_150
theorem ox191_149 : sx_oks 191 x191_149 := ⟨sx_q_iret0 (sx_dd bb_191 dX8_joined_149) rr_191, ox191_150⟩
def x191_148 : List sx_E := (.idiv, 148, 149, [], .null) :: x191_149
theorem ox191_148 : sx_oks 191 x191_148 := ⟨⟨(sx_dd bb_191 dX8_joined_148), rfl⟩, ox191_149⟩
def x191_147 : List sx_E := (.iload 2, 147, 148, [], .null) :: x191_148
theorem ox191_147 : sx_oks 191 x191_147 := ⟨Or.inr ⟨_, (sx_dd bb_191 dX8_joined_147), rfl, rfl⟩, ox191_148⟩
def x191_146 : List sx_E := (.iload 1, 146, 147, [], .null) :: x191_147
theorem ox191_146 : sx_oks 191 x191_146 := ⟨Or.inr ⟨_, (sx_dd bb_191 dX8_joined_146), rfl, rfl⟩, ox191_147⟩
def x191_143 : List sx_E := (.goto (6), 143, 146, [149], .null) :: x191_146
theorem ox191_143 : sx_oks 191 x191_143 := ⟨⟨(sx_dd bb_191 dX8_joined_143), sx_t1 (by decide +kernel)⟩, ox191_146⟩
def x191_142 : List sx_E := (.ineg, 142, 143, [], .null) :: x191_143
theorem ox191_142 : sx_oks 191 x191_142 := ⟨⟨(sx_dd bb_191 dX8_joined_142), rfl⟩, ox191_143⟩
def x191_141 : List sx_E := (.iload 1, 141, 142, [], .null) :: x191_142
theorem ox191_141 : sx_oks 191 x191_141 := ⟨Or.inr ⟨_, (sx_dd bb_191 dX8_joined_141), rfl, rfl⟩, ox191_142⟩
def x191_138 : List sx_E := (.if_icmp .ne (8), 138, 141, [146], .null) :: x191_141
theorem ox191_138 : sx_oks 191 x191_138 := ⟨⟨(sx_dd bb_191 dX8_joined_138), rfl, sx_t1 (by decide +kernel)⟩, ox191_141⟩
def x191_137 : List sx_E := (.nop, 137, 138, [], .int ((-1))) :: x191_138
theorem ox191_137 : sx_oks 191 x191_137 := ⟨sx_k_iconst (sx_dd bb_191 dX8_joined_137) (by decide +kernel), ox191_138⟩
def x191_136 : List sx_E := (.iload 2, 136, 137, [], .null) :: x191_137
theorem ox191_136 : sx_oks 191 x191_136 := ⟨Or.inr ⟨_, (sx_dd bb_191 dX8_joined_136), rfl, rfl⟩, ox191_137⟩
def x191_133 : List sx_E := (.goto (16), 133, 136, [149], .null) :: x191_136
theorem ox191_133 : sx_oks 191 x191_133 := ⟨⟨(sx_dd bb_191 dX8_joined_133), sx_t1 (by decide +kernel)⟩, ox191_136⟩
def x191_132 : List sx_E := (.nop, 132, 133, [], .int (nI 0)) :: x191_133
theorem ox191_132 : sx_oks 191 x191_132 := ⟨sx_k_iconst (sx_dd bb_191 dX8_joined_132) (by decide +kernel), ox191_133⟩
def x191_129 : List sx_E := (.ifCond .ne (7), 129, 132, [136], .null) :: x191_132
theorem ox191_129 : sx_oks 191 x191_129 := ⟨⟨(sx_dd bb_191 dX8_joined_129), rfl, sx_t1 (by decide +kernel)⟩, ox191_132⟩
def x191_128 : List sx_E := (.iload 2, 128, 129, [], .null) :: x191_129
theorem ox191_128 : sx_oks 191 x191_128 := ⟨Or.inr ⟨_, (sx_dd bb_191 dX8_joined_128), rfl, rfl⟩, ox191_129⟩
def x191_127 : List sx_E := (.ireturn, 127, 128, [0], .null) :: x191_128
theorem ox191_127 : sx_oks 191 x191_127 := ⟨sx_q_iret0 (sx_dd bb_191 dX8_joined_127) rr_191, ox191_128⟩
def x191_126 : List sx_E := (.imul, 126, 127, [], .null) :: x191_127
theorem ox191_126 : sx_oks 191 x191_126 := ⟨⟨(sx_dd bb_191 dX8_joined_126), rfl⟩, ox191_127⟩
def x191_125 : List sx_E := (.iload 2, 125, 126, [], .null) :: x191_126
theorem ox191_125 : sx_oks 191 x191_125 := ⟨Or.inr ⟨_, (sx_dd bb_191 dX8_joined_125), rfl, rfl⟩, ox191_126⟩
def x191_124 : List sx_E := (.iload 1, 124, 125, [], .null) :: x191_125
theorem ox191_124 : sx_oks 191 x191_124 := ⟨Or.inr ⟨_, (sx_dd bb_191 dX8_joined_124), rfl, rfl⟩, ox191_125⟩
def x191_123 : List sx_E := (.ireturn, 123, 124, [0], .null) :: x191_124
theorem ox191_123 : sx_oks 191 x191_123 := ⟨sx_q_iret0 (sx_dd bb_191 dX8_joined_123) rr_191, ox191_124⟩
def x191_122 : List sx_E := (.isub, 122, 123, [], .null) :: x191_123
theorem ox191_122 : sx_oks 191 x191_122 := ⟨⟨(sx_dd bb_191 dX8_joined_122), rfl⟩, ox191_123⟩
def x191_121 : List sx_E := (.iload 2, 121, 122, [], .null) :: x191_122
theorem ox191_121 : sx_oks 191 x191_121 := ⟨Or.inr ⟨_, (sx_dd bb_191 dX8_joined_121), rfl, rfl⟩, ox191_122⟩
def x191_120 : List sx_E := (.iload 1, 120, 121, [], .null) :: x191_121
theorem ox191_120 : sx_oks 191 x191_120 := ⟨Or.inr ⟨_, (sx_dd bb_191 dX8_joined_120), rfl, rfl⟩, ox191_121⟩
def x191_119 : List sx_E := (.ireturn, 119, 120, [0], .null) :: x191_120
theorem ox191_119 : sx_oks 191 x191_119 := ⟨sx_q_iret0 (sx_dd bb_191 dX8_joined_119) rr_191, ox191_120⟩
def x191_118 : List sx_E := (.iadd, 118, 119, [], .null) :: x191_119
theorem ox191_118 : sx_oks 191 x191_118 := ⟨⟨(sx_dd bb_191 dX8_joined_118), rfl⟩, ox191_119⟩
def x191_117 : List sx_E := (.iload 2, 117, 118, [], .null) :: x191_118
theorem ox191_117 : sx_oks 191 x191_117 := ⟨Or.inr ⟨_, (sx_dd bb_191 dX8_joined_117), rfl, rfl⟩, ox191_118⟩
def x191_116 : List sx_E := (.iload 1, 116, 117, [], .null) :: x191_117
theorem ox191_116 : sx_oks 191 x191_116 := ⟨Or.inr ⟨_, (sx_dd bb_191 dX8_joined_116), rfl, rfl⟩, ox191_117⟩
def x191_1 : List sx_E := (.tableswitch 196 38 62 #[182, 196, 196, 196, 123, 115, 196, 119, 196, 127, 196, 196, 196, 196, 196, 196, 196, 196, 196, 196, 196, 196, 149, 171, 160], 1, 116, [38, 197, 183, 197, 197, 197, 124, 116, 197, 120, 197, 128, 197, 197, 197, 197, 197, 197, 197, 197, 197, 197, 197, 197, 150, 172, 161], .null) :: x191_116
theorem ox191_1 : sx_oks 191 x191_1 := ⟨⟨⟨_, (sx_dd bb_191 dX8_joined_1)⟩, sx_t2 (by decide +kernel) (by decide +kernel) (Nat.le_of_ble_eq_true rfl) (by decide +kernel) (by decide +kernel)⟩, ox191_116⟩
def x191_0 : List sx_E := (.iload 0, 0, 1, [], .null) :: x191_1
theorem ox191_0 : sx_oks 191 x191_0 := ⟨Or.inr ⟨_, (sx_dd bb_191 dX8_joined_0), rfl, rfl⟩, ox191_1⟩
theorem m191 : sx_mok 191 x191_0 := ⟨ox191_0, by decide +kernel⟩
theorem bb_192 : sx_by 192 = cX8_worked := rfl
theorem oo_192 : (sx_nm 192).cls = "StrawGarrisonModel" := rfl
theorem mm_192 : sx_ml 192 = 6 := rfl
theorem rr_192 : sx_rt 192 = (some .int) := rfl
def x192_169 : List sx_E := (.ireturn, 169, 170, [0], .null) :: []
theorem ox192_169 : sx_oks 192 x192_169 := ⟨sx_q_iret0 (sx_dd bb_192 dX8_worked_169) rr_192, trivial⟩
def x192_168 : List sx_E := (.iaload, 168, 169, [], .null) :: x192_169
theorem ox192_168 : sx_oks 192 x192_168 := ⟨⟨(sx_dd bb_192 dX8_worked_168), rfl⟩, ox192_169⟩
def x192_167 : List sx_E := (.nop, 167, 168, [], .int (nI 0)) :: x192_168
theorem ox192_167 : sx_oks 192 x192_167 := ⟨sx_k_iconst (sx_dd bb_192 dX8_worked_167) (by decide +kernel), ox192_168⟩
def x192_164 : List sx_E := (.getfield 52, 164, 167, [7, 26, 1], .null) :: x192_167
theorem ox192_164 : sx_oks 192 x192_164 := ⟨sx_q_get (w := (RX8, TX8, 31)) (sx_dd bb_192 dX8_worked_164) rfl rfl (Nat.le_of_ble_eq_true rfl) cu_7 (sx_ow3 oo_192 fl_StrawGarrisonModel_52) (by decide +kernel), ox192_167⟩
def x192_163 : List sx_E := (.aload 0, 163, 164, [], .null) :: x192_164
theorem ox192_163 : sx_oks 192 x192_163 := ⟨Or.inr ⟨_, (sx_dd bb_192 dX8_worked_163), rfl, rfl⟩, ox192_164⟩
def x192_160 : List sx_E := (.goto (-156), 160, 163, [4], .null) :: x192_163
theorem ox192_160 : sx_oks 192 x192_160 := ⟨⟨(sx_dd bb_192 dX8_worked_160), sx_t1 (by decide +kernel)⟩, ox192_163⟩
def x192_157 : List sx_E := (.iinc 3 (1), 157, 160, [], .int (nI 1)) :: x192_160
theorem ox192_157 : sx_oks 192 x192_157 := ⟨⟨sx_lt mm_192 (Nat.le_of_ble_eq_true rfl), (sx_dd bb_192 dX8_worked_157), rfl, by decide +kernel⟩, ox192_160⟩
def x192_156 : List sx_E := (.iastore, 156, 157, [], .null) :: x192_157
theorem ox192_156 : sx_oks 192 x192_156 := ⟨⟨(sx_dd bb_192 dX8_worked_156), rfl⟩, ox192_157⟩
def x192_153 : List sx_E := (.invokestatic 302, 153, 156, [191, 3, 0, 0], .null) :: x192_156
theorem ox192_153 : sx_oks 192 x192_153 := ⟨sx_q_S (sx_dd bb_192 dX8_worked_153) oo_192 lk_StrawGarrisonModel_302_S ft_191_h, ox192_156⟩
def x192_152 : List sx_E := (.iaload, 152, 153, [], .null) :: x192_153
theorem ox192_152 : sx_oks 192 x192_152 := ⟨⟨(sx_dd bb_192 dX8_worked_152), rfl⟩, ox192_153⟩
def x192_151 : List sx_E := (.iload 2, 151, 152, [], .null) :: x192_152
theorem ox192_151 : sx_oks 192 x192_151 := ⟨Or.inr ⟨_, (sx_dd bb_192 dX8_worked_151), rfl, rfl⟩, ox192_152⟩
def x192_148 : List sx_E := (.getfield 52, 148, 151, [7, 26, 1], .null) :: x192_151
theorem ox192_148 : sx_oks 192 x192_148 := ⟨sx_q_get (w := (RX8, TX8, 31)) (sx_dd bb_192 dX8_worked_148) rfl rfl (Nat.le_of_ble_eq_true rfl) cu_7 (sx_ow3 oo_192 fl_StrawGarrisonModel_52) (by decide +kernel), ox192_151⟩
def x192_147 : List sx_E := (.aload 0, 147, 148, [], .null) :: x192_148
theorem ox192_147 : sx_oks 192 x192_147 := ⟨Or.inr ⟨_, (sx_dd bb_192 dX8_worked_147), rfl, rfl⟩, ox192_148⟩
def x192_146 : List sx_E := (.iaload, 146, 147, [], .null) :: x192_147
theorem ox192_146 : sx_oks 192 x192_146 := ⟨⟨(sx_dd bb_192 dX8_worked_146), rfl⟩, ox192_147⟩
def x192_145 : List sx_E := (.isub, 145, 146, [], .null) :: x192_146
theorem ox192_145 : sx_oks 192 x192_145 := ⟨⟨(sx_dd bb_192 dX8_worked_145), rfl⟩, ox192_146⟩
def x192_144 : List sx_E := (.nop, 144, 145, [], .int (nI 1)) :: x192_145
theorem ox192_144 : sx_oks 192 x192_144 := ⟨sx_k_iconst (sx_dd bb_192 dX8_worked_144) (by decide +kernel), ox192_145⟩
def x192_143 : List sx_E := (.iload 2, 143, 144, [], .null) :: x192_144
theorem ox192_143 : sx_oks 192 x192_143 := ⟨Or.inr ⟨_, (sx_dd bb_192 dX8_worked_143), rfl, rfl⟩, ox192_144⟩
def x192_140 : List sx_E := (.getfield 52, 140, 143, [7, 26, 1], .null) :: x192_143
theorem ox192_140 : sx_oks 192 x192_140 := ⟨sx_q_get (w := (RX8, TX8, 31)) (sx_dd bb_192 dX8_worked_140) rfl rfl (Nat.le_of_ble_eq_true rfl) cu_7 (sx_ow3 oo_192 fl_StrawGarrisonModel_52) (by decide +kernel), ox192_143⟩
def x192_139 : List sx_E := (.aload 0, 139, 140, [], .null) :: x192_140
theorem ox192_139 : sx_oks 192 x192_139 := ⟨Or.inr ⟨_, (sx_dd bb_192 dX8_worked_139), rfl, rfl⟩, ox192_140⟩
def x192_137 : List sx_E := (.iload 5, 137, 139, [], .null) :: x192_139
theorem ox192_137 : sx_oks 192 x192_137 := ⟨Or.inl ⟨(sx_dd bb_192 dX8_worked_137), rfl⟩, ox192_139⟩
def x192_136 : List sx_E := (.isub, 136, 137, [], .null) :: x192_137
theorem ox192_136 : sx_oks 192 x192_136 := ⟨⟨(sx_dd bb_192 dX8_worked_136), rfl⟩, ox192_137⟩
def x192_135 : List sx_E := (.nop, 135, 136, [], .int (nI 1)) :: x192_136
theorem ox192_135 : sx_oks 192 x192_135 := ⟨sx_k_iconst (sx_dd bb_192 dX8_worked_135) (by decide +kernel), ox192_136⟩
def x192_134 : List sx_E := (.iload 2, 134, 135, [], .null) :: x192_135
theorem ox192_134 : sx_oks 192 x192_134 := ⟨Or.inr ⟨_, (sx_dd bb_192 dX8_worked_134), rfl, rfl⟩, ox192_135⟩
def x192_131 : List sx_E := (.getfield 52, 131, 134, [7, 26, 1], .null) :: x192_134
theorem ox192_131 : sx_oks 192 x192_131 := ⟨sx_q_get (w := (RX8, TX8, 31)) (sx_dd bb_192 dX8_worked_131) rfl rfl (Nat.le_of_ble_eq_true rfl) cu_7 (sx_ow3 oo_192 fl_StrawGarrisonModel_52) (by decide +kernel), ox192_134⟩
def x192_130 : List sx_E := (.aload 0, 130, 131, [], .null) :: x192_131
theorem ox192_130 : sx_oks 192 x192_130 := ⟨Or.inr ⟨_, (sx_dd bb_192 dX8_worked_130), rfl, rfl⟩, ox192_131⟩
def x192_127 : List sx_E := (.iinc 2 (-1), 127, 130, [], .int ((-1))) :: x192_130
theorem ox192_127 : sx_oks 192 x192_127 := ⟨⟨sx_lt mm_192 (Nat.le_of_ble_eq_true rfl), (sx_dd bb_192 dX8_worked_127), rfl, by decide +kernel⟩, ox192_130⟩
def x192_124 : List sx_E := (.goto (33), 124, 127, [157], .null) :: x192_127
theorem ox192_124 : sx_oks 192 x192_124 := ⟨⟨(sx_dd bb_192 dX8_worked_124), sx_t1 (by decide +kernel)⟩, ox192_127⟩
def x192_123 : List sx_E := (.iastore, 123, 124, [], .null) :: x192_124
theorem ox192_123 : sx_oks 192 x192_123 := ⟨⟨(sx_dd bb_192 dX8_worked_123), rfl⟩, ox192_124⟩
def x192_122 : List sx_E := (.nop, 122, 123, [], .int (nI 0)) :: x192_123
theorem ox192_122 : sx_oks 192 x192_122 := ⟨sx_k_iconst (sx_dd bb_192 dX8_worked_122) (by decide +kernel), ox192_123⟩
def x192_119 : List sx_E := (.goto (4), 119, 122, [123], .null) :: x192_122
theorem ox192_119 : sx_oks 192 x192_119 := ⟨⟨(sx_dd bb_192 dX8_worked_119), sx_t1 (by decide +kernel)⟩, ox192_122⟩
def x192_118 : List sx_E := (.nop, 118, 119, [], .int (nI 1)) :: x192_119
theorem ox192_118 : sx_oks 192 x192_118 := ⟨sx_k_iconst (sx_dd bb_192 dX8_worked_118) (by decide +kernel), ox192_119⟩
def x192_115 : List sx_E := (.ifCond .ne (7), 115, 118, [122], .null) :: x192_118
theorem ox192_115 : sx_oks 192 x192_115 := ⟨⟨(sx_dd bb_192 dX8_worked_115), rfl, sx_t1 (by decide +kernel)⟩, ox192_118⟩
def x192_114 : List sx_E := (.iaload, 114, 115, [], .null) :: x192_115
theorem ox192_114 : sx_oks 192 x192_114 := ⟨⟨(sx_dd bb_192 dX8_worked_114), rfl⟩, ox192_115⟩
def x192_113 : List sx_E := (.isub, 113, 114, [], .null) :: x192_114
theorem ox192_113 : sx_oks 192 x192_113 := ⟨⟨(sx_dd bb_192 dX8_worked_113), rfl⟩, ox192_114⟩
def x192_112 : List sx_E := (.nop, 112, 113, [], .int (nI 1)) :: x192_113
theorem ox192_112 : sx_oks 192 x192_112 := ⟨sx_k_iconst (sx_dd bb_192 dX8_worked_112) (by decide +kernel), ox192_113⟩
def x192_111 : List sx_E := (.iload 2, 111, 112, [], .null) :: x192_112
theorem ox192_111 : sx_oks 192 x192_111 := ⟨Or.inr ⟨_, (sx_dd bb_192 dX8_worked_111), rfl, rfl⟩, ox192_112⟩
def x192_108 : List sx_E := (.getfield 52, 108, 111, [7, 26, 1], .null) :: x192_111
theorem ox192_108 : sx_oks 192 x192_108 := ⟨sx_q_get (w := (RX8, TX8, 31)) (sx_dd bb_192 dX8_worked_108) rfl rfl (Nat.le_of_ble_eq_true rfl) cu_7 (sx_ow3 oo_192 fl_StrawGarrisonModel_52) (by decide +kernel), ox192_111⟩
def x192_107 : List sx_E := (.aload 0, 107, 108, [], .null) :: x192_108
theorem ox192_107 : sx_oks 192 x192_107 := ⟨Or.inr ⟨_, (sx_dd bb_192 dX8_worked_107), rfl, rfl⟩, ox192_108⟩
def x192_106 : List sx_E := (.isub, 106, 107, [], .null) :: x192_107
theorem ox192_106 : sx_oks 192 x192_106 := ⟨⟨(sx_dd bb_192 dX8_worked_106), rfl⟩, ox192_107⟩
def x192_105 : List sx_E := (.nop, 105, 106, [], .int (nI 1)) :: x192_106
theorem ox192_105 : sx_oks 192 x192_105 := ⟨sx_k_iconst (sx_dd bb_192 dX8_worked_105) (by decide +kernel), ox192_106⟩
def x192_104 : List sx_E := (.iload 2, 104, 105, [], .null) :: x192_105
theorem ox192_104 : sx_oks 192 x192_104 := ⟨Or.inr ⟨_, (sx_dd bb_192 dX8_worked_104), rfl, rfl⟩, ox192_105⟩
def x192_101 : List sx_E := (.getfield 52, 101, 104, [7, 26, 1], .null) :: x192_104
theorem ox192_101 : sx_oks 192 x192_101 := ⟨sx_q_get (w := (RX8, TX8, 31)) (sx_dd bb_192 dX8_worked_101) rfl rfl (Nat.le_of_ble_eq_true rfl) cu_7 (sx_ow3 oo_192 fl_StrawGarrisonModel_52) (by decide +kernel), ox192_104⟩
def x192_100 : List sx_E := (.aload 0, 100, 101, [], .null) :: x192_101
theorem ox192_100 : sx_oks 192 x192_100 := ⟨Or.inr ⟨_, (sx_dd bb_192 dX8_worked_100), rfl, rfl⟩, ox192_101⟩
def x192_97 : List sx_E := (.if_icmp .ne (30), 97, 100, [127], .null) :: x192_100
theorem ox192_97 : sx_oks 192 x192_97 := ⟨⟨(sx_dd bb_192 dX8_worked_97), rfl, sx_t1 (by decide +kernel)⟩, ox192_100⟩
def x192_95 : List sx_E := (.nop, 95, 97, [], .int (nI 33)) :: x192_97
theorem ox192_95 : sx_oks 192 x192_95 := ⟨sx_k_bipush (sx_dd bb_192 dX8_worked_95) (by decide +kernel), ox192_97⟩
def x192_93 : List sx_E := (.iload 5, 93, 95, [], .null) :: x192_95
theorem ox192_93 : sx_oks 192 x192_93 := ⟨Or.inl ⟨(sx_dd bb_192 dX8_worked_93), rfl⟩, ox192_95⟩
def x192_90 : List sx_E := (.goto (67), 90, 93, [157], .null) :: x192_93
theorem ox192_90 : sx_oks 192 x192_90 := ⟨⟨(sx_dd bb_192 dX8_worked_90), sx_t1 (by decide +kernel)⟩, ox192_93⟩
def x192_87 : List sx_E := (.iinc 2 (1), 87, 90, [], .int (nI 1)) :: x192_90
theorem ox192_87 : sx_oks 192 x192_87 := ⟨⟨sx_lt mm_192 (Nat.le_of_ble_eq_true rfl), (sx_dd bb_192 dX8_worked_87), rfl, by decide +kernel⟩, ox192_90⟩
def x192_86 : List sx_E := (.iastore, 86, 87, [], .null) :: x192_87
theorem ox192_86 : sx_oks 192 x192_86 := ⟨⟨(sx_dd bb_192 dX8_worked_86), rfl⟩, ox192_87⟩
def x192_85 : List sx_E := (.iaload, 85, 86, [], .null) :: x192_86
theorem ox192_85 : sx_oks 192 x192_85 := ⟨⟨(sx_dd bb_192 dX8_worked_85), rfl⟩, ox192_86⟩
def x192_83 : List sx_E := (.iload 5, 83, 85, [], .null) :: x192_85
theorem ox192_83 : sx_oks 192 x192_83 := ⟨Or.inl ⟨(sx_dd bb_192 dX8_worked_83), rfl⟩, ox192_85⟩
def x192_80 : List sx_E := (.getfield 49, 80, 83, [7, 25, 1], .null) :: x192_83
theorem ox192_80 : sx_oks 192 x192_80 := ⟨sx_q_get (w := (RX8, TX8, 31)) (sx_dd bb_192 dX8_worked_80) rfl rfl (Nat.le_of_ble_eq_true rfl) cu_7 (sx_ow3 oo_192 fl_StrawGarrisonModel_49) (by decide +kernel), ox192_83⟩
def x192_79 : List sx_E := (.aload 0, 79, 80, [], .null) :: x192_80
theorem ox192_79 : sx_oks 192 x192_79 := ⟨Or.inr ⟨_, (sx_dd bb_192 dX8_worked_79), rfl, rfl⟩, ox192_80⟩
def x192_76 : List sx_E := (.goto (10), 76, 79, [86], .null) :: x192_79
theorem ox192_76 : sx_oks 192 x192_76 := ⟨⟨(sx_dd bb_192 dX8_worked_76), sx_t1 (by decide +kernel)⟩, ox192_79⟩
def x192_74 : List sx_E := (.iload 5, 74, 76, [], .null) :: x192_76
theorem ox192_74 : sx_oks 192 x192_74 := ⟨Or.inl ⟨(sx_dd bb_192 dX8_worked_74), rfl⟩, ox192_76⟩
def x192_71 : List sx_E := (.ifCond .ne (8), 71, 74, [79], .null) :: x192_74
theorem ox192_71 : sx_oks 192 x192_71 := ⟨⟨(sx_dd bb_192 dX8_worked_71), rfl, sx_t1 (by decide +kernel)⟩, ox192_74⟩
def x192_69 : List sx_E := (.iload 4, 69, 71, [], .null) :: x192_71
theorem ox192_69 : sx_oks 192 x192_69 := ⟨Or.inl ⟨(sx_dd bb_192 dX8_worked_69), rfl⟩, ox192_71⟩
def x192_68 : List sx_E := (.iload 2, 68, 69, [], .null) :: x192_69
theorem ox192_68 : sx_oks 192 x192_68 := ⟨Or.inr ⟨_, (sx_dd bb_192 dX8_worked_68), rfl, rfl⟩, ox192_69⟩
def x192_65 : List sx_E := (.getfield 52, 65, 68, [7, 26, 1], .null) :: x192_68
theorem ox192_65 : sx_oks 192 x192_65 := ⟨sx_q_get (w := (RX8, TX8, 31)) (sx_dd bb_192 dX8_worked_65) rfl rfl (Nat.le_of_ble_eq_true rfl) cu_7 (sx_ow3 oo_192 fl_StrawGarrisonModel_52) (by decide +kernel), ox192_68⟩
def x192_64 : List sx_E := (.aload 0, 64, 65, [], .null) :: x192_65
theorem ox192_64 : sx_oks 192 x192_64 := ⟨Or.inr ⟨_, (sx_dd bb_192 dX8_worked_64), rfl, rfl⟩, ox192_65⟩
def x192_61 : List sx_E := (.if_icmp .eq (32), 61, 64, [93], .null) :: x192_64
theorem ox192_61 : sx_oks 192 x192_61 := ⟨⟨(sx_dd bb_192 dX8_worked_61), rfl, sx_t1 (by decide +kernel)⟩, ox192_64⟩
def x192_60 : List sx_E := (.nop, 60, 61, [], .int (nI 2)) :: x192_61
theorem ox192_60 : sx_oks 192 x192_60 := ⟨sx_k_iconst (sx_dd bb_192 dX8_worked_60) (by decide +kernel), ox192_61⟩
def x192_58 : List sx_E := (.iload 4, 58, 60, [], .null) :: x192_60
theorem ox192_58 : sx_oks 192 x192_58 := ⟨Or.inl ⟨(sx_dd bb_192 dX8_worked_58), rfl⟩, ox192_60⟩
def x192_56 : List sx_E := (.istore 5, 56, 58, [], .null) :: x192_58
theorem ox192_56 : sx_oks 192 x192_56 := ⟨⟨sx_lt mm_192 (Nat.le_of_ble_eq_true rfl), Or.inl ⟨(sx_dd bb_192 dX8_worked_56), rfl⟩⟩, ox192_58⟩
def x192_55 : List sx_E := (.iaload, 55, 56, [], .null) :: x192_56
theorem ox192_55 : sx_oks 192 x192_55 := ⟨⟨(sx_dd bb_192 dX8_worked_55), rfl⟩, ox192_56⟩
def x192_54 : List sx_E := (.iadd, 54, 55, [], .null) :: x192_55
theorem ox192_54 : sx_oks 192 x192_54 := ⟨⟨(sx_dd bb_192 dX8_worked_54), rfl⟩, ox192_55⟩
def x192_53 : List sx_E := (.nop, 53, 54, [], .int (nI 1)) :: x192_54
theorem ox192_53 : sx_oks 192 x192_53 := ⟨sx_k_iconst (sx_dd bb_192 dX8_worked_53) (by decide +kernel), ox192_54⟩
def x192_52 : List sx_E := (.iadd, 52, 53, [], .null) :: x192_53
theorem ox192_52 : sx_oks 192 x192_52 := ⟨⟨(sx_dd bb_192 dX8_worked_52), rfl⟩, ox192_53⟩
def x192_51 : List sx_E := (.imul, 51, 52, [], .null) :: x192_52
theorem ox192_51 : sx_oks 192 x192_51 := ⟨⟨(sx_dd bb_192 dX8_worked_51), rfl⟩, ox192_52⟩
def x192_50 : List sx_E := (.iload 3, 50, 51, [], .null) :: x192_51
theorem ox192_50 : sx_oks 192 x192_50 := ⟨Or.inr ⟨_, (sx_dd bb_192 dX8_worked_50), rfl, rfl⟩, ox192_51⟩
def x192_49 : List sx_E := (.nop, 49, 50, [], .int (nI 2)) :: x192_50
theorem ox192_49 : sx_oks 192 x192_49 := ⟨sx_k_iconst (sx_dd bb_192 dX8_worked_49) (by decide +kernel), ox192_50⟩
def x192_48 : List sx_E := (.iadd, 48, 49, [], .null) :: x192_49
theorem ox192_48 : sx_oks 192 x192_48 := ⟨⟨(sx_dd bb_192 dX8_worked_48), rfl⟩, ox192_49⟩
def x192_47 : List sx_E := (.nop, 47, 48, [], .int (nI 4)) :: x192_48
theorem ox192_47 : sx_oks 192 x192_47 := ⟨sx_k_iconst (sx_dd bb_192 dX8_worked_47) (by decide +kernel), ox192_48⟩
def x192_44 : List sx_E := (.invokevirtual 290, 44, 47, [118, 2, 0, 0, 7], .null) :: x192_47
theorem ox192_44 : sx_oks 192 x192_44 := ⟨sx_q_V (w := (RX8, TX8, 31)) (sx_dd bb_192 dX8_worked_44) oo_192 lk_StrawGarrisonModel_290_V ft_118_h (Nat.le_of_ble_eq_true rfl) rfl rfl, ox192_47⟩
def x192_43 : List sx_E := (.iload 1, 43, 44, [], .null) :: x192_44
theorem ox192_43 : sx_oks 192 x192_43 := ⟨Or.inr ⟨_, (sx_dd bb_192 dX8_worked_43), rfl, rfl⟩, ox192_44⟩
def x192_42 : List sx_E := (.aload 0, 42, 43, [], .null) :: x192_43
theorem ox192_42 : sx_oks 192 x192_42 := ⟨Or.inr ⟨_, (sx_dd bb_192 dX8_worked_42), rfl, rfl⟩, ox192_43⟩
def x192_39 : List sx_E := (.getfield 7, 39, 42, [7, 0, 1], .null) :: x192_42
theorem ox192_39 : sx_oks 192 x192_39 := ⟨sx_q_get (w := (RX8, TX8, 31)) (sx_dd bb_192 dX8_worked_39) rfl rfl (Nat.le_of_ble_eq_true rfl) cu_7 (sx_ow3 oo_192 fl_StrawGarrisonModel_7) (by decide +kernel), ox192_42⟩
def x192_38 : List sx_E := (.aload 0, 38, 39, [], .null) :: x192_39
theorem ox192_38 : sx_oks 192 x192_38 := ⟨Or.inr ⟨_, (sx_dd bb_192 dX8_worked_38), rfl, rfl⟩, ox192_39⟩
def x192_36 : List sx_E := (.istore 4, 36, 38, [], .null) :: x192_38
theorem ox192_36 : sx_oks 192 x192_36 := ⟨⟨sx_lt mm_192 (Nat.le_of_ble_eq_true rfl), Or.inl ⟨(sx_dd bb_192 dX8_worked_36), rfl⟩⟩, ox192_38⟩
def x192_35 : List sx_E := (.iaload, 35, 36, [], .null) :: x192_36
theorem ox192_35 : sx_oks 192 x192_35 := ⟨⟨(sx_dd bb_192 dX8_worked_35), rfl⟩, ox192_36⟩
def x192_34 : List sx_E := (.iadd, 34, 35, [], .null) :: x192_35
theorem ox192_34 : sx_oks 192 x192_34 := ⟨⟨(sx_dd bb_192 dX8_worked_34), rfl⟩, ox192_35⟩
def x192_33 : List sx_E := (.imul, 33, 34, [], .null) :: x192_34
theorem ox192_33 : sx_oks 192 x192_33 := ⟨⟨(sx_dd bb_192 dX8_worked_33), rfl⟩, ox192_34⟩
def x192_32 : List sx_E := (.iload 3, 32, 33, [], .null) :: x192_33
theorem ox192_32 : sx_oks 192 x192_32 := ⟨Or.inr ⟨_, (sx_dd bb_192 dX8_worked_32), rfl, rfl⟩, ox192_33⟩
def x192_31 : List sx_E := (.nop, 31, 32, [], .int (nI 2)) :: x192_32
theorem ox192_31 : sx_oks 192 x192_31 := ⟨sx_k_iconst (sx_dd bb_192 dX8_worked_31) (by decide +kernel), ox192_32⟩
def x192_30 : List sx_E := (.iadd, 30, 31, [], .null) :: x192_31
theorem ox192_30 : sx_oks 192 x192_30 := ⟨⟨(sx_dd bb_192 dX8_worked_30), rfl⟩, ox192_31⟩
def x192_29 : List sx_E := (.nop, 29, 30, [], .int (nI 4)) :: x192_30
theorem ox192_29 : sx_oks 192 x192_29 := ⟨sx_k_iconst (sx_dd bb_192 dX8_worked_29) (by decide +kernel), ox192_30⟩
def x192_26 : List sx_E := (.invokevirtual 290, 26, 29, [118, 2, 0, 0, 7], .null) :: x192_29
theorem ox192_26 : sx_oks 192 x192_26 := ⟨sx_q_V (w := (RX8, TX8, 31)) (sx_dd bb_192 dX8_worked_26) oo_192 lk_StrawGarrisonModel_290_V ft_118_h (Nat.le_of_ble_eq_true rfl) rfl rfl, ox192_29⟩
def x192_25 : List sx_E := (.iload 1, 25, 26, [], .null) :: x192_26
theorem ox192_25 : sx_oks 192 x192_25 := ⟨Or.inr ⟨_, (sx_dd bb_192 dX8_worked_25), rfl, rfl⟩, ox192_26⟩
def x192_24 : List sx_E := (.aload 0, 24, 25, [], .null) :: x192_25
theorem ox192_24 : sx_oks 192 x192_24 := ⟨Or.inr ⟨_, (sx_dd bb_192 dX8_worked_24), rfl, rfl⟩, ox192_25⟩
def x192_21 : List sx_E := (.getfield 7, 21, 24, [7, 0, 1], .null) :: x192_24
theorem ox192_21 : sx_oks 192 x192_21 := ⟨sx_q_get (w := (RX8, TX8, 31)) (sx_dd bb_192 dX8_worked_21) rfl rfl (Nat.le_of_ble_eq_true rfl) cu_7 (sx_ow3 oo_192 fl_StrawGarrisonModel_7) (by decide +kernel), ox192_24⟩
def x192_20 : List sx_E := (.aload 0, 20, 21, [], .null) :: x192_21
theorem ox192_20 : sx_oks 192 x192_20 := ⟨Or.inr ⟨_, (sx_dd bb_192 dX8_worked_20), rfl, rfl⟩, ox192_21⟩
def x192_17 : List sx_E := (.if_icmp .ge (146), 17, 20, [163], .null) :: x192_20
theorem ox192_17 : sx_oks 192 x192_17 := ⟨⟨(sx_dd bb_192 dX8_worked_17), rfl, sx_t1 (by decide +kernel)⟩, ox192_20⟩
def x192_16 : List sx_E := (.iaload, 16, 17, [], .null) :: x192_17
theorem ox192_16 : sx_oks 192 x192_16 := ⟨⟨(sx_dd bb_192 dX8_worked_16), rfl⟩, ox192_17⟩
def x192_15 : List sx_E := (.iadd, 15, 16, [], .null) :: x192_16
theorem ox192_15 : sx_oks 192 x192_15 := ⟨⟨(sx_dd bb_192 dX8_worked_15), rfl⟩, ox192_16⟩
def x192_14 : List sx_E := (.nop, 14, 15, [], .int (nI 2)) :: x192_15
theorem ox192_14 : sx_oks 192 x192_14 := ⟨sx_k_iconst (sx_dd bb_192 dX8_worked_14) (by decide +kernel), ox192_15⟩
def x192_11 : List sx_E := (.invokevirtual 290, 11, 14, [118, 2, 0, 0, 7], .null) :: x192_14
theorem ox192_11 : sx_oks 192 x192_11 := ⟨sx_q_V (w := (RX8, TX8, 31)) (sx_dd bb_192 dX8_worked_11) oo_192 lk_StrawGarrisonModel_290_V ft_118_h (Nat.le_of_ble_eq_true rfl) rfl rfl, ox192_14⟩
def x192_10 : List sx_E := (.iload 1, 10, 11, [], .null) :: x192_11
theorem ox192_10 : sx_oks 192 x192_10 := ⟨Or.inr ⟨_, (sx_dd bb_192 dX8_worked_10), rfl, rfl⟩, ox192_11⟩
def x192_9 : List sx_E := (.aload 0, 9, 10, [], .null) :: x192_10
theorem ox192_9 : sx_oks 192 x192_9 := ⟨Or.inr ⟨_, (sx_dd bb_192 dX8_worked_9), rfl, rfl⟩, ox192_10⟩
def x192_6 : List sx_E := (.getfield 7, 6, 9, [7, 0, 1], .null) :: x192_9
theorem ox192_6 : sx_oks 192 x192_6 := ⟨sx_q_get (w := (RX8, TX8, 31)) (sx_dd bb_192 dX8_worked_6) rfl rfl (Nat.le_of_ble_eq_true rfl) cu_7 (sx_ow3 oo_192 fl_StrawGarrisonModel_7) (by decide +kernel), ox192_9⟩
def x192_5 : List sx_E := (.aload 0, 5, 6, [], .null) :: x192_6
theorem ox192_5 : sx_oks 192 x192_5 := ⟨Or.inr ⟨_, (sx_dd bb_192 dX8_worked_5), rfl, rfl⟩, ox192_6⟩
def x192_4 : List sx_E := (.iload 3, 4, 5, [], .null) :: x192_5
theorem ox192_4 : sx_oks 192 x192_4 := ⟨Or.inr ⟨_, (sx_dd bb_192 dX8_worked_4), rfl, rfl⟩, ox192_5⟩
def x192_4h : List sx_E := (.monitorenter, 4, 4, [0, 1, 2, 3], .null) :: x192_4
theorem ox192_4h : sx_oks 192 x192_4h := ⟨trivial, ox192_4⟩
def x192_3 : List sx_E := (.istore 3, 3, 4, [], .null) :: x192_4h
theorem ox192_3 : sx_oks 192 x192_3 := ⟨⟨sx_lt mm_192 (Nat.le_of_ble_eq_true rfl), Or.inr ⟨_, (sx_dd bb_192 dX8_worked_3), rfl, rfl⟩⟩, ox192_4h⟩
def x192_2 : List sx_E := (.nop, 2, 3, [], .int (nI 0)) :: x192_3
theorem ox192_2 : sx_oks 192 x192_2 := ⟨sx_k_iconst (sx_dd bb_192 dX8_worked_2) (by decide +kernel), ox192_3⟩
def x192_1 : List sx_E := (.istore 2, 1, 2, [], .null) :: x192_2
theorem ox192_1 : sx_oks 192 x192_1 := ⟨⟨sx_lt mm_192 (Nat.le_of_ble_eq_true rfl), Or.inr ⟨_, (sx_dd bb_192 dX8_worked_1), rfl, rfl⟩⟩, ox192_2⟩
def x192_0 : List sx_E := (.nop, 0, 1, [], .int (nI 0)) :: x192_1
theorem ox192_0 : sx_oks 192 x192_0 := ⟨sx_k_iconst (sx_dd bb_192 dX8_worked_0) (by decide +kernel), ox192_1⟩
theorem m192 : sx_mok 192 x192_0 := ⟨ox192_0, by decide +kernel⟩
theorem bb_193 : sx_by 193 = cX8_isSheet := rfl
theorem oo_193 : (sx_nm 193).cls = "StrawGarrisonModel" := rfl
theorem mm_193 : sx_ml 193 = 1 := rfl
theorem rr_193 : sx_rt 193 = (some .boolean) := rfl
def x193_9 : List sx_E := (.ireturn, 9, 10, [1], .null) :: []
theorem ox193_9 : sx_oks 193 x193_9 := ⟨sx_q_iret1 (sx_dd bb_193 dX8_isSheet_9) rr_193, trivial⟩
def x193_6 : List sx_E := (.invokestatic 65, 6, 9, [113, 3, 0, 0], .null) :: x193_9
theorem ox193_6 : sx_oks 193 x193_6 := ⟨sx_q_S (sx_dd bb_193 dX8_isSheet_6) oo_193 lk_StrawGarrisonModel_65_S ft_113_h, ox193_9⟩
def x193_3 : List sx_E := (.nop, 3, 6, [], .long (3)) :: x193_6
theorem ox193_3 : sx_oks 193 x193_3 := ⟨sx_k_ldc2 (sx_dd bb_193 dX8_isSheet_3) (sx_ow2 oo_193 kl_StrawGarrisonModel_142), ox193_6⟩
def x193_2 : List sx_E := (.nop, 2, 3, [], .long (0)) :: x193_3
theorem ox193_2 : sx_oks 193 x193_2 := ⟨sx_k_lconst (sx_dd bb_193 dX8_isSheet_2) (by decide +kernel), ox193_3⟩
def x193_1 : List sx_E := (.i2l, 1, 2, [], .null) :: x193_2
theorem ox193_1 : sx_oks 193 x193_1 := ⟨⟨(sx_dd bb_193 dX8_isSheet_1), rfl⟩, ox193_2⟩
def x193_0 : List sx_E := (.iload 0, 0, 1, [], .null) :: x193_1
theorem ox193_0 : sx_oks 193 x193_0 := ⟨Or.inr ⟨_, (sx_dd bb_193 dX8_isSheet_0), rfl, rfl⟩, ox193_1⟩
theorem m193 : sx_mok 193 x193_0 := ⟨ox193_0, by decide +kernel⟩
theorem bb_194 : sx_by 194 = cX8_sheet := rfl
theorem oo_194 : (sx_nm 194).cls = "StrawGarrisonModel" := rfl
theorem mm_194 : sx_ml 194 = 5 := rfl
theorem rr_194 : sx_rt 194 = (some .int) := rfl
def x194_101 : List sx_E := (.ireturn, 101, 102, [0], .null) :: []
theorem ox194_101 : sx_oks 194 x194_101 := ⟨sx_q_iret0 (sx_dd bb_194 dX8_sheet_101) rr_194, trivial⟩
def x194_100 : List sx_E := (.iaload, 100, 101, [], .null) :: x194_101
theorem ox194_100 : sx_oks 194 x194_100 := ⟨⟨(sx_dd bb_194 dX8_sheet_100), rfl⟩, ox194_101⟩
def x194_99 : List sx_E := (.iload 1, 99, 100, [], .null) :: x194_100
theorem ox194_99 : sx_oks 194 x194_99 := ⟨Or.inr ⟨_, (sx_dd bb_194 dX8_sheet_99), rfl, rfl⟩, ox194_100⟩
def x194_96 : List sx_E := (.getfield 22, 96, 99, [7, 5, 1], .null) :: x194_99
theorem ox194_96 : sx_oks 194 x194_96 := ⟨sx_q_get (w := (RX8, TX8, 31)) (sx_dd bb_194 dX8_sheet_96) rfl rfl (Nat.le_of_ble_eq_true rfl) cu_7 (sx_ow3 oo_194 fl_StrawGarrisonModel_22) (by decide +kernel), ox194_99⟩
def x194_95 : List sx_E := (.aload 0, 95, 96, [], .null) :: x194_96
theorem ox194_95 : sx_oks 194 x194_95 := ⟨Or.inr ⟨_, (sx_dd bb_194 dX8_sheet_95), rfl, rfl⟩, ox194_96⟩
def x194_92 : List sx_E := (.goto (-23), 92, 95, [69], .null) :: x194_95
theorem ox194_92 : sx_oks 194 x194_92 := ⟨⟨(sx_dd bb_194 dX8_sheet_92), sx_t1 (by decide +kernel)⟩, ox194_95⟩
def x194_89 : List sx_E := (.iinc 4 (1), 89, 92, [], .int (nI 1)) :: x194_92
theorem ox194_89 : sx_oks 194 x194_89 := ⟨⟨sx_lt mm_194 (Nat.le_of_ble_eq_true rfl), (sx_dd bb_194 dX8_sheet_89), rfl, by decide +kernel⟩, ox194_92⟩
def x194_88 : List sx_E := (.iastore, 88, 89, [], .null) :: x194_89
theorem ox194_88 : sx_oks 194 x194_88 := ⟨⟨(sx_dd bb_194 dX8_sheet_88), rfl⟩, ox194_89⟩
def x194_87 : List sx_E := (.nop, 87, 88, [], .int (nI 0)) :: x194_88
theorem ox194_87 : sx_oks 194 x194_87 := ⟨sx_k_iconst (sx_dd bb_194 dX8_sheet_87) (by decide +kernel), ox194_88⟩
def x194_86 : List sx_E := (.iadd, 86, 87, [], .null) :: x194_87
theorem ox194_86 : sx_oks 194 x194_86 := ⟨⟨(sx_dd bb_194 dX8_sheet_86), rfl⟩, ox194_87⟩
def x194_84 : List sx_E := (.iload 4, 84, 86, [], .null) :: x194_86
theorem ox194_84 : sx_oks 194 x194_84 := ⟨Or.inl ⟨(sx_dd bb_194 dX8_sheet_84), rfl⟩, ox194_86⟩
def x194_83 : List sx_E := (.imul, 83, 84, [], .null) :: x194_84
theorem ox194_83 : sx_oks 194 x194_83 := ⟨⟨(sx_dd bb_194 dX8_sheet_83), rfl⟩, ox194_84⟩
def x194_82 : List sx_E := (.iload 1, 82, 83, [], .null) :: x194_83
theorem ox194_82 : sx_oks 194 x194_82 := ⟨Or.inr ⟨_, (sx_dd bb_194 dX8_sheet_82), rfl, rfl⟩, ox194_83⟩
def x194_80 : List sx_E := (.nop, 80, 82, [], .int (nI 24)) :: x194_82
theorem ox194_80 : sx_oks 194 x194_80 := ⟨sx_k_bipush (sx_dd bb_194 dX8_sheet_80) (by decide +kernel), ox194_82⟩
def x194_77 : List sx_E := (.getfield 25, 77, 80, [7, 6, 1], .null) :: x194_80
theorem ox194_77 : sx_oks 194 x194_77 := ⟨sx_q_get (w := (RX8, TX8, 31)) (sx_dd bb_194 dX8_sheet_77) rfl rfl (Nat.le_of_ble_eq_true rfl) cu_7 (sx_ow3 oo_194 fl_StrawGarrisonModel_25) (by decide +kernel), ox194_80⟩
def x194_76 : List sx_E := (.aload 0, 76, 77, [], .null) :: x194_77
theorem ox194_76 : sx_oks 194 x194_76 := ⟨Or.inr ⟨_, (sx_dd bb_194 dX8_sheet_76), rfl, rfl⟩, ox194_77⟩
def x194_73 : List sx_E := (.if_icmp .ge (22), 73, 76, [95], .null) :: x194_76
theorem ox194_73 : sx_oks 194 x194_73 := ⟨⟨(sx_dd bb_194 dX8_sheet_73), rfl, sx_t1 (by decide +kernel)⟩, ox194_76⟩
def x194_71 : List sx_E := (.nop, 71, 73, [], .int (nI 24)) :: x194_73
theorem ox194_71 : sx_oks 194 x194_71 := ⟨sx_k_bipush (sx_dd bb_194 dX8_sheet_71) (by decide +kernel), ox194_73⟩
def x194_69 : List sx_E := (.iload 4, 69, 71, [], .null) :: x194_71
theorem ox194_69 : sx_oks 194 x194_69 := ⟨Or.inl ⟨(sx_dd bb_194 dX8_sheet_69), rfl⟩, ox194_71⟩
def x194_69h : List sx_E := (.monitorenter, 69, 69, [0, 1, 4], .null) :: x194_69
theorem ox194_69h : sx_oks 194 x194_69h := ⟨trivial, ox194_69⟩
def x194_67 : List sx_E := (.istore 4, 67, 69, [], .null) :: x194_69h
theorem ox194_67 : sx_oks 194 x194_67 := ⟨⟨sx_lt mm_194 (Nat.le_of_ble_eq_true rfl), Or.inl ⟨(sx_dd bb_194 dX8_sheet_67), rfl⟩⟩, ox194_69h⟩
def x194_66 : List sx_E := (.nop, 66, 67, [], .int (nI 0)) :: x194_67
theorem ox194_66 : sx_oks 194 x194_66 := ⟨sx_k_iconst (sx_dd bb_194 dX8_sheet_66) (by decide +kernel), ox194_67⟩
def x194_65 : List sx_E := (.iastore, 65, 66, [], .null) :: x194_66
theorem ox194_65 : sx_oks 194 x194_65 := ⟨⟨(sx_dd bb_194 dX8_sheet_65), rfl⟩, ox194_66⟩
def x194_64 : List sx_E := (.iload 3, 64, 65, [], .null) :: x194_65
theorem ox194_64 : sx_oks 194 x194_64 := ⟨Or.inr ⟨_, (sx_dd bb_194 dX8_sheet_64), rfl, rfl⟩, ox194_65⟩
def x194_61 : List sx_E := (.goto (4), 61, 64, [65], .null) :: x194_64
theorem ox194_61 : sx_oks 194 x194_61 := ⟨⟨(sx_dd bb_194 dX8_sheet_61), sx_t1 (by decide +kernel)⟩, ox194_64⟩
def x194_60 : List sx_E := (.nop, 60, 61, [], .int (nI 0)) :: x194_61
theorem ox194_60 : sx_oks 194 x194_60 := ⟨sx_k_iconst (sx_dd bb_194 dX8_sheet_60) (by decide +kernel), ox194_61⟩
def x194_57 : List sx_E := (.ifCond .ge (7), 57, 60, [64], .null) :: x194_60
theorem ox194_57 : sx_oks 194 x194_57 := ⟨⟨(sx_dd bb_194 dX8_sheet_57), rfl, sx_t1 (by decide +kernel)⟩, ox194_60⟩
def x194_56 : List sx_E := (.iload 2, 56, 57, [], .null) :: x194_57
theorem ox194_56 : sx_oks 194 x194_56 := ⟨Or.inr ⟨_, (sx_dd bb_194 dX8_sheet_56), rfl, rfl⟩, ox194_57⟩
def x194_55 : List sx_E := (.iload 1, 55, 56, [], .null) :: x194_56
theorem ox194_55 : sx_oks 194 x194_55 := ⟨Or.inr ⟨_, (sx_dd bb_194 dX8_sheet_55), rfl, rfl⟩, ox194_56⟩
def x194_52 : List sx_E := (.getfield 22, 52, 55, [7, 5, 1], .null) :: x194_55
theorem ox194_52 : sx_oks 194 x194_52 := ⟨sx_q_get (w := (RX8, TX8, 31)) (sx_dd bb_194 dX8_sheet_52) rfl rfl (Nat.le_of_ble_eq_true rfl) cu_7 (sx_ow3 oo_194 fl_StrawGarrisonModel_22) (by decide +kernel), ox194_55⟩
def x194_51 : List sx_E := (.aload 0, 51, 52, [], .null) :: x194_52
theorem ox194_51 : sx_oks 194 x194_51 := ⟨Or.inr ⟨_, (sx_dd bb_194 dX8_sheet_51), rfl, rfl⟩, ox194_52⟩
def x194_50 : List sx_E := (.iastore, 50, 51, [], .null) :: x194_51
theorem ox194_50 : sx_oks 194 x194_50 := ⟨⟨(sx_dd bb_194 dX8_sheet_50), rfl⟩, ox194_51⟩
def x194_49 : List sx_E := (.iload 2, 49, 50, [], .null) :: x194_50
theorem ox194_49 : sx_oks 194 x194_49 := ⟨Or.inr ⟨_, (sx_dd bb_194 dX8_sheet_49), rfl, rfl⟩, ox194_50⟩
def x194_48 : List sx_E := (.iload 1, 48, 49, [], .null) :: x194_49
theorem ox194_48 : sx_oks 194 x194_48 := ⟨Or.inr ⟨_, (sx_dd bb_194 dX8_sheet_48), rfl, rfl⟩, ox194_49⟩
def x194_45 : List sx_E := (.getfield 19, 45, 48, [7, 4, 1], .null) :: x194_48
theorem ox194_45 : sx_oks 194 x194_45 := ⟨sx_q_get (w := (RX8, TX8, 31)) (sx_dd bb_194 dX8_sheet_45) rfl rfl (Nat.le_of_ble_eq_true rfl) cu_7 (sx_ow3 oo_194 fl_StrawGarrisonModel_19) (by decide +kernel), ox194_48⟩
def x194_44 : List sx_E := (.aload 0, 44, 45, [], .null) :: x194_45
theorem ox194_44 : sx_oks 194 x194_44 := ⟨Or.inr ⟨_, (sx_dd bb_194 dX8_sheet_44), rfl, rfl⟩, ox194_45⟩
def x194_43 : List sx_E := (.ireturn, 43, 44, [0], .null) :: x194_44
theorem ox194_43 : sx_oks 194 x194_43 := ⟨sx_q_iret0 (sx_dd bb_194 dX8_sheet_43) rr_194, ox194_44⟩
def x194_40 : List sx_E := (.nop, 40, 43, [], .int ((-1000000014))) :: x194_43
theorem ox194_40 : sx_oks 194 x194_40 := ⟨sx_k_ldcw (sx_dd bb_194 dX8_sheet_40) (sx_ow1 oo_194 kc_StrawGarrisonModel_311), ox194_43⟩
def x194_37 : List sx_E := (.ifCond .ge (7), 37, 40, [44], .null) :: x194_40
theorem ox194_37 : sx_oks 194 x194_37 := ⟨⟨(sx_dd bb_194 dX8_sheet_37), rfl, sx_t1 (by decide +kernel)⟩, ox194_40⟩
def x194_36 : List sx_E := (.iload 3, 36, 37, [], .null) :: x194_37
theorem ox194_36 : sx_oks 194 x194_36 := ⟨Or.inr ⟨_, (sx_dd bb_194 dX8_sheet_36), rfl, rfl⟩, ox194_37⟩
def x194_33 : List sx_E := (.ifCond .lt (11), 33, 36, [44], .null) :: x194_36
theorem ox194_33 : sx_oks 194 x194_33 := ⟨⟨(sx_dd bb_194 dX8_sheet_33), rfl, sx_t1 (by decide +kernel)⟩, ox194_36⟩
def x194_32 : List sx_E := (.iload 2, 32, 33, [], .null) :: x194_33
theorem ox194_32 : sx_oks 194 x194_32 := ⟨Or.inr ⟨_, (sx_dd bb_194 dX8_sheet_32), rfl, rfl⟩, ox194_33⟩
def x194_31 : List sx_E := (.ireturn, 31, 32, [0], .null) :: x194_32
theorem ox194_31 : sx_oks 194 x194_31 := ⟨sx_q_iret0 (sx_dd bb_194 dX8_sheet_31) rr_194, ox194_32⟩
def x194_29 : List sx_E := (.nop, 29, 31, [], .int ((-1000000001))) :: x194_31
theorem ox194_29 : sx_oks 194 x194_29 := ⟨sx_k_ldc (sx_dd bb_194 dX8_sheet_29) (sx_ow1 oo_194 kc_StrawGarrisonModel_88), ox194_31⟩
def x194_26 : List sx_E := (.if_icmp .le (6), 26, 29, [32], .null) :: x194_29
theorem ox194_26 : sx_oks 194 x194_26 := ⟨⟨(sx_dd bb_194 dX8_sheet_26), rfl, sx_t1 (by decide +kernel)⟩, ox194_29⟩
def x194_24 : List sx_E := (.nop, 24, 26, [], .int (nI 24)) :: x194_26
theorem ox194_24 : sx_oks 194 x194_24 := ⟨sx_k_bipush (sx_dd bb_194 dX8_sheet_24) (by decide +kernel), ox194_26⟩
def x194_23 : List sx_E := (.iload 3, 23, 24, [], .null) :: x194_24
theorem ox194_23 : sx_oks 194 x194_23 := ⟨Or.inr ⟨_, (sx_dd bb_194 dX8_sheet_23), rfl, rfl⟩, ox194_24⟩
def x194_20 : List sx_E := (.ifCond .lt (12), 20, 23, [32], .null) :: x194_23
theorem ox194_20 : sx_oks 194 x194_20 := ⟨⟨(sx_dd bb_194 dX8_sheet_20), rfl, sx_t1 (by decide +kernel)⟩, ox194_23⟩
def x194_19 : List sx_E := (.iload 2, 19, 20, [], .null) :: x194_20
theorem ox194_19 : sx_oks 194 x194_19 := ⟨Or.inr ⟨_, (sx_dd bb_194 dX8_sheet_19), rfl, rfl⟩, ox194_20⟩
def x194_16 : List sx_E := (.ifCond .eq (13), 16, 19, [29], .null) :: x194_19
theorem ox194_16 : sx_oks 194 x194_16 := ⟨⟨(sx_dd bb_194 dX8_sheet_16), rfl, sx_t1 (by decide +kernel)⟩, ox194_19⟩
def x194_13 : List sx_E := (.invokestatic 65, 13, 16, [113, 3, 0, 0], .null) :: x194_16
theorem ox194_13 : sx_oks 194 x194_13 := ⟨sx_q_S (sx_dd bb_194 dX8_sheet_13) oo_194 lk_StrawGarrisonModel_65_S ft_113_h, ox194_16⟩
def x194_12 : List sx_E := (.nop, 12, 13, [], .long (1)) :: x194_13
theorem ox194_12 : sx_oks 194 x194_12 := ⟨sx_k_lconst (sx_dd bb_194 dX8_sheet_12) (by decide +kernel), ox194_13⟩
def x194_9 : List sx_E := (.nop, 9, 12, [], .long (-1)) :: x194_12
theorem ox194_9 : sx_oks 194 x194_9 := ⟨sx_k_ldc2 (sx_dd bb_194 dX8_sheet_9) (sx_ow2 oo_194 kl_StrawGarrisonModel_309), ox194_12⟩
def x194_8 : List sx_E := (.i2l, 8, 9, [], .null) :: x194_9
theorem ox194_8 : sx_oks 194 x194_8 := ⟨⟨(sx_dd bb_194 dX8_sheet_8), rfl⟩, ox194_9⟩
def x194_7 : List sx_E := (.iload 2, 7, 8, [], .null) :: x194_8
theorem ox194_7 : sx_oks 194 x194_7 := ⟨Or.inr ⟨_, (sx_dd bb_194 dX8_sheet_7), rfl, rfl⟩, ox194_8⟩
def x194_4 : List sx_E := (.ifCond .eq (25), 4, 7, [29], .null) :: x194_7
theorem ox194_4 : sx_oks 194 x194_4 := ⟨⟨(sx_dd bb_194 dX8_sheet_4), rfl, sx_t1 (by decide +kernel)⟩, ox194_7⟩
def x194_1 : List sx_E := (.invokestatic 306, 1, 4, [193, 1, 0, 0], .null) :: x194_4
theorem ox194_1 : sx_oks 194 x194_1 := ⟨sx_q_S (sx_dd bb_194 dX8_sheet_1) oo_194 lk_StrawGarrisonModel_306_S ft_193_h, ox194_4⟩
def x194_0 : List sx_E := (.iload 1, 0, 1, [], .null) :: x194_1
theorem ox194_0 : sx_oks 194 x194_0 := ⟨Or.inr ⟨_, (sx_dd bb_194 dX8_sheet_0), rfl, rfl⟩, ox194_1⟩
theorem m194 : sx_mok 194 x194_0 := ⟨ox194_0, by decide +kernel⟩
theorem bb_195 : sx_by 195 = cX8_mark := rfl
theorem oo_195 : (sx_nm 195).cls = "StrawGarrisonModel" := rfl
theorem mm_195 : sx_ml 195 = 4 := rfl
theorem rr_195 : sx_rt 195 = (some .int) := rfl
def x195_128 : List sx_E := (.ireturn, 128, 129, [0], .null) :: []
theorem ox195_128 : sx_oks 195 x195_128 := ⟨sx_q_iret0 (sx_dd bb_195 dX8_mark_128) rr_195, trivial⟩
def x195_127 : List sx_E := (.nop, 127, 128, [], .int (nI 1)) :: x195_128
theorem ox195_127 : sx_oks 195 x195_127 := ⟨sx_k_iconst (sx_dd bb_195 dX8_mark_127) (by decide +kernel), ox195_128⟩
def x195_126 : List sx_E := (.iastore, 126, 127, [], .null) :: x195_127
theorem ox195_126 : sx_oks 195 x195_126 := ⟨⟨(sx_dd bb_195 dX8_mark_126), rfl⟩, ox195_127⟩
def x195_125 : List sx_E := (.iload 3, 125, 126, [], .null) :: x195_126
theorem ox195_125 : sx_oks 195 x195_125 := ⟨Or.inr ⟨_, (sx_dd bb_195 dX8_mark_125), rfl, rfl⟩, ox195_126⟩
def x195_122 : List sx_E := (.goto (4), 122, 125, [126], .null) :: x195_125
theorem ox195_122 : sx_oks 195 x195_122 := ⟨⟨(sx_dd bb_195 dX8_mark_122), sx_t1 (by decide +kernel)⟩, ox195_125⟩
def x195_121 : List sx_E := (.ishr, 121, 122, [], .null) :: x195_122
theorem ox195_121 : sx_oks 195 x195_121 := ⟨⟨(sx_dd bb_195 dX8_mark_121), rfl⟩, ox195_122⟩
def x195_119 : List sx_E := (.nop, 119, 121, [], .int (nI 16)) :: x195_121
theorem ox195_119 : sx_oks 195 x195_119 := ⟨sx_k_bipush (sx_dd bb_195 dX8_mark_119) (by decide +kernel), ox195_121⟩
def x195_118 : List sx_E := (.ishl, 118, 119, [], .null) :: x195_119
theorem ox195_118 : sx_oks 195 x195_118 := ⟨⟨(sx_dd bb_195 dX8_mark_118), rfl⟩, ox195_119⟩
def x195_116 : List sx_E := (.nop, 116, 118, [], .int (nI 16)) :: x195_118
theorem ox195_116 : sx_oks 195 x195_116 := ⟨sx_k_bipush (sx_dd bb_195 dX8_mark_116) (by decide +kernel), ox195_118⟩
def x195_115 : List sx_E := (.iload 3, 115, 116, [], .null) :: x195_116
theorem ox195_115 : sx_oks 195 x195_115 := ⟨Or.inr ⟨_, (sx_dd bb_195 dX8_mark_115), rfl, rfl⟩, ox195_116⟩
def x195_112 : List sx_E := (.ifCond .ne (13), 112, 115, [125], .null) :: x195_115
theorem ox195_112 : sx_oks 195 x195_112 := ⟨⟨(sx_dd bb_195 dX8_mark_112), rfl, sx_t1 (by decide +kernel)⟩, ox195_115⟩
def x195_111 : List sx_E := (.iaload, 111, 112, [], .null) :: x195_112
theorem ox195_111 : sx_oks 195 x195_111 := ⟨⟨(sx_dd bb_195 dX8_mark_111), rfl⟩, ox195_112⟩
def x195_110 : List sx_E := (.iload 1, 110, 111, [], .null) :: x195_111
theorem ox195_110 : sx_oks 195 x195_110 := ⟨Or.inr ⟨_, (sx_dd bb_195 dX8_mark_110), rfl, rfl⟩, ox195_111⟩
def x195_107 : List sx_E := (.getfield 19, 107, 110, [7, 4, 1], .null) :: x195_110
theorem ox195_107 : sx_oks 195 x195_107 := ⟨sx_q_get (w := (RX8, TX8, 31)) (sx_dd bb_195 dX8_mark_107) rfl rfl (Nat.le_of_ble_eq_true rfl) cu_7 (sx_ow3 oo_195 fl_StrawGarrisonModel_19) (by decide +kernel), ox195_110⟩
def x195_106 : List sx_E := (.aload 0, 106, 107, [], .null) :: x195_107
theorem ox195_106 : sx_oks 195 x195_106 := ⟨Or.inr ⟨_, (sx_dd bb_195 dX8_mark_106), rfl, rfl⟩, ox195_107⟩
def x195_105 : List sx_E := (.iadd, 105, 106, [], .null) :: x195_106
theorem ox195_105 : sx_oks 195 x195_105 := ⟨⟨(sx_dd bb_195 dX8_mark_105), rfl⟩, ox195_106⟩
def x195_104 : List sx_E := (.iload 2, 104, 105, [], .null) :: x195_105
theorem ox195_104 : sx_oks 195 x195_104 := ⟨Or.inr ⟨_, (sx_dd bb_195 dX8_mark_104), rfl, rfl⟩, ox195_105⟩
def x195_103 : List sx_E := (.imul, 103, 104, [], .null) :: x195_104
theorem ox195_103 : sx_oks 195 x195_103 := ⟨⟨(sx_dd bb_195 dX8_mark_103), rfl⟩, ox195_104⟩
def x195_102 : List sx_E := (.iload 1, 102, 103, [], .null) :: x195_103
theorem ox195_102 : sx_oks 195 x195_102 := ⟨Or.inr ⟨_, (sx_dd bb_195 dX8_mark_102), rfl, rfl⟩, ox195_103⟩
def x195_100 : List sx_E := (.nop, 100, 102, [], .int (nI 24)) :: x195_102
theorem ox195_100 : sx_oks 195 x195_100 := ⟨sx_k_bipush (sx_dd bb_195 dX8_mark_100) (by decide +kernel), ox195_102⟩
def x195_97 : List sx_E := (.getfield 25, 97, 100, [7, 6, 1], .null) :: x195_100
theorem ox195_97 : sx_oks 195 x195_97 := ⟨sx_q_get (w := (RX8, TX8, 31)) (sx_dd bb_195 dX8_mark_97) rfl rfl (Nat.le_of_ble_eq_true rfl) cu_7 (sx_ow3 oo_195 fl_StrawGarrisonModel_25) (by decide +kernel), ox195_100⟩
def x195_96 : List sx_E := (.aload 0, 96, 97, [], .null) :: x195_97
theorem ox195_96 : sx_oks 195 x195_96 := ⟨Or.inr ⟨_, (sx_dd bb_195 dX8_mark_96), rfl, rfl⟩, ox195_97⟩
def x195_96h : List sx_E := (.monitorenter, 96, 96, [0, 1, 2, 3], .null) :: x195_96
theorem ox195_96h : sx_oks 195 x195_96h := ⟨trivial, ox195_96⟩
def x195_95 : List sx_E := (.ireturn, 95, 96, [0], .null) :: x195_96h
theorem ox195_95 : sx_oks 195 x195_95 := ⟨sx_q_iret0 (sx_dd bb_195 dX8_mark_95) rr_195, ox195_96h⟩
def x195_93 : List sx_E := (.nop, 93, 95, [], .int ((-1000000001))) :: x195_95
theorem ox195_93 : sx_oks 195 x195_93 := ⟨sx_k_ldc (sx_dd bb_195 dX8_mark_93) (sx_ow1 oo_195 kc_StrawGarrisonModel_88), ox195_95⟩
def x195_90 : List sx_E := (.ifCond .ne (6), 90, 93, [96], .null) :: x195_93
theorem ox195_90 : sx_oks 195 x195_90 := ⟨⟨(sx_dd bb_195 dX8_mark_90), rfl, sx_t1 (by decide +kernel)⟩, ox195_93⟩
def x195_87 : List sx_E := (.invokestatic 65, 87, 90, [113, 3, 0, 0], .null) :: x195_90
theorem ox195_87 : sx_oks 195 x195_87 := ⟨sx_q_S (sx_dd bb_195 dX8_mark_87) oo_195 lk_StrawGarrisonModel_65_S ft_113_h, ox195_90⟩
def x195_84 : List sx_E := (.nop, 84, 87, [], .long (99999)) :: x195_87
theorem ox195_84 : sx_oks 195 x195_84 := ⟨sx_k_ldc2 (sx_dd bb_195 dX8_mark_84) (sx_ow2 oo_195 kl_StrawGarrisonModel_316), ox195_87⟩
def x195_81 : List sx_E := (.nop, 81, 84, [], .long (-99999)) :: x195_84
theorem ox195_81 : sx_oks 195 x195_81 := ⟨sx_k_ldc2 (sx_dd bb_195 dX8_mark_81) (sx_ow2 oo_195 kl_StrawGarrisonModel_314), ox195_84⟩
def x195_80 : List sx_E := (.i2l, 80, 81, [], .null) :: x195_81
theorem ox195_80 : sx_oks 195 x195_80 := ⟨⟨(sx_dd bb_195 dX8_mark_80), rfl⟩, ox195_81⟩
def x195_79 : List sx_E := (.iload 3, 79, 80, [], .null) :: x195_80
theorem ox195_79 : sx_oks 195 x195_79 := ⟨Or.inr ⟨_, (sx_dd bb_195 dX8_mark_79), rfl, rfl⟩, ox195_80⟩
def x195_76 : List sx_E := (.if_icmp .eq (20), 76, 79, [96], .null) :: x195_79
theorem ox195_76 : sx_oks 195 x195_76 := ⟨⟨(sx_dd bb_195 dX8_mark_76), rfl, sx_t1 (by decide +kernel)⟩, ox195_79⟩
def x195_74 : List sx_E := (.nop, 74, 76, [], .int ((-1000000005))) :: x195_76
theorem ox195_74 : sx_oks 195 x195_74 := ⟨sx_k_ldc (sx_dd bb_195 dX8_mark_74) (sx_ow1 oo_195 kc_StrawGarrisonModel_64), ox195_76⟩
def x195_73 : List sx_E := (.iload 3, 73, 74, [], .null) :: x195_74
theorem ox195_73 : sx_oks 195 x195_73 := ⟨Or.inr ⟨_, (sx_dd bb_195 dX8_mark_73), rfl, rfl⟩, ox195_74⟩
def x195_70 : List sx_E := (.if_icmp .ne (26), 70, 73, [96], .null) :: x195_73
theorem ox195_70 : sx_oks 195 x195_70 := ⟨⟨(sx_dd bb_195 dX8_mark_70), rfl, sx_t1 (by decide +kernel)⟩, ox195_73⟩
def x195_69 : List sx_E := (.nop, 69, 70, [], .int (nI 1)) :: x195_70
theorem ox195_69 : sx_oks 195 x195_69 := ⟨sx_k_iconst (sx_dd bb_195 dX8_mark_69) (by decide +kernel), ox195_70⟩
def x195_68 : List sx_E := (.iaload, 68, 69, [], .null) :: x195_69
theorem ox195_68 : sx_oks 195 x195_68 := ⟨⟨(sx_dd bb_195 dX8_mark_68), rfl⟩, ox195_69⟩
def x195_67 : List sx_E := (.iload 1, 67, 68, [], .null) :: x195_68
theorem ox195_67 : sx_oks 195 x195_67 := ⟨Or.inr ⟨_, (sx_dd bb_195 dX8_mark_67), rfl, rfl⟩, ox195_68⟩
def x195_64 : List sx_E := (.getfield 19, 64, 67, [7, 4, 1], .null) :: x195_67
theorem ox195_64 : sx_oks 195 x195_64 := ⟨sx_q_get (w := (RX8, TX8, 31)) (sx_dd bb_195 dX8_mark_64) rfl rfl (Nat.le_of_ble_eq_true rfl) cu_7 (sx_ow3 oo_195 fl_StrawGarrisonModel_19) (by decide +kernel), ox195_67⟩
def x195_63 : List sx_E := (.aload 0, 63, 64, [], .null) :: x195_64
theorem ox195_63 : sx_oks 195 x195_63 := ⟨Or.inr ⟨_, (sx_dd bb_195 dX8_mark_63), rfl, rfl⟩, ox195_64⟩
def x195_63h : List sx_E := (.monitorenter, 63, 63, [0, 1, 2, 3], .null) :: x195_63
theorem ox195_63h : sx_oks 195 x195_63h := ⟨trivial, ox195_63⟩
def x195_62 : List sx_E := (.ireturn, 62, 63, [0], .null) :: x195_63h
theorem ox195_62 : sx_oks 195 x195_62 := ⟨sx_q_iret0 (sx_dd bb_195 dX8_mark_62) rr_195, ox195_63h⟩
def x195_60 : List sx_E := (.nop, 60, 62, [], .int ((-1000000012))) :: x195_62
theorem ox195_60 : sx_oks 195 x195_60 := ⟨sx_k_ldc (sx_dd bb_195 dX8_mark_60) (sx_ow1 oo_195 kc_StrawGarrisonModel_131), ox195_62⟩
def x195_57 : List sx_E := (.if_icmp .ne (6), 57, 60, [63], .null) :: x195_60
theorem ox195_57 : sx_oks 195 x195_57 := ⟨⟨(sx_dd bb_195 dX8_mark_57), rfl, sx_t1 (by decide +kernel)⟩, ox195_60⟩
def x195_55 : List sx_E := (.nop, 55, 57, [], .int ((-1000000005))) :: x195_57
theorem ox195_55 : sx_oks 195 x195_55 := ⟨sx_k_ldc (sx_dd bb_195 dX8_mark_55) (sx_ow1 oo_195 kc_StrawGarrisonModel_64), ox195_57⟩
def x195_54 : List sx_E := (.iload 3, 54, 55, [], .null) :: x195_55
theorem ox195_54 : sx_oks 195 x195_54 := ⟨Or.inr ⟨_, (sx_dd bb_195 dX8_mark_54), rfl, rfl⟩, ox195_55⟩
def x195_51 : List sx_E := (.ifCond .ne (12), 51, 54, [63], .null) :: x195_54
theorem ox195_51 : sx_oks 195 x195_51 := ⟨⟨(sx_dd bb_195 dX8_mark_51), rfl, sx_t1 (by decide +kernel)⟩, ox195_54⟩
def x195_50 : List sx_E := (.iaload, 50, 51, [], .null) :: x195_51
theorem ox195_50 : sx_oks 195 x195_50 := ⟨⟨(sx_dd bb_195 dX8_mark_50), rfl⟩, ox195_51⟩
def x195_49 : List sx_E := (.iload 1, 49, 50, [], .null) :: x195_50
theorem ox195_49 : sx_oks 195 x195_49 := ⟨Or.inr ⟨_, (sx_dd bb_195 dX8_mark_49), rfl, rfl⟩, ox195_50⟩
def x195_46 : List sx_E := (.getfield 19, 46, 49, [7, 4, 1], .null) :: x195_49
theorem ox195_46 : sx_oks 195 x195_46 := ⟨sx_q_get (w := (RX8, TX8, 31)) (sx_dd bb_195 dX8_mark_46) rfl rfl (Nat.le_of_ble_eq_true rfl) cu_7 (sx_ow3 oo_195 fl_StrawGarrisonModel_19) (by decide +kernel), ox195_49⟩
def x195_45 : List sx_E := (.aload 0, 45, 46, [], .null) :: x195_46
theorem ox195_45 : sx_oks 195 x195_45 := ⟨Or.inr ⟨_, (sx_dd bb_195 dX8_mark_45), rfl, rfl⟩, ox195_46⟩
def x195_44 : List sx_E := (.ireturn, 44, 45, [0], .null) :: x195_45
theorem ox195_44 : sx_oks 195 x195_44 := ⟨sx_q_iret0 (sx_dd bb_195 dX8_mark_44) rr_195, ox195_45⟩
def x195_41 : List sx_E := (.nop, 41, 44, [], .int ((-1000000013))) :: x195_44
theorem ox195_41 : sx_oks 195 x195_41 := ⟨sx_k_ldcw (sx_dd bb_195 dX8_mark_41) (sx_ow1 oo_195 kc_StrawGarrisonModel_313), ox195_44⟩
def x195_38 : List sx_E := (.ifCond .ne (7), 38, 41, [45], .null) :: x195_41
theorem ox195_38 : sx_oks 195 x195_38 := ⟨⟨(sx_dd bb_195 dX8_mark_38), rfl, sx_t1 (by decide +kernel)⟩, ox195_41⟩
def x195_35 : List sx_E := (.invokestatic 65, 35, 38, [113, 3, 0, 0], .null) :: x195_38
theorem ox195_35 : sx_oks 195 x195_35 := ⟨sx_q_S (sx_dd bb_195 dX8_mark_35) oo_195 lk_StrawGarrisonModel_65_S ft_113_h, ox195_38⟩
def x195_34 : List sx_E := (.i2l, 34, 35, [], .null) :: x195_35
theorem ox195_34 : sx_oks 195 x195_34 := ⟨⟨(sx_dd bb_195 dX8_mark_34), rfl⟩, ox195_35⟩
def x195_33 : List sx_E := (.isub, 33, 34, [], .null) :: x195_34
theorem ox195_33 : sx_oks 195 x195_33 := ⟨⟨(sx_dd bb_195 dX8_mark_33), rfl⟩, ox195_34⟩
def x195_32 : List sx_E := (.nop, 32, 33, [], .int (nI 1)) :: x195_33
theorem ox195_32 : sx_oks 195 x195_32 := ⟨sx_k_iconst (sx_dd bb_195 dX8_mark_32) (by decide +kernel), ox195_33⟩
def x195_31 : List sx_E := (.iaload, 31, 32, [], .null) :: x195_32
theorem ox195_31 : sx_oks 195 x195_31 := ⟨⟨(sx_dd bb_195 dX8_mark_31), rfl⟩, ox195_32⟩
def x195_30 : List sx_E := (.iload 1, 30, 31, [], .null) :: x195_31
theorem ox195_30 : sx_oks 195 x195_30 := ⟨Or.inr ⟨_, (sx_dd bb_195 dX8_mark_30), rfl, rfl⟩, ox195_31⟩
def x195_27 : List sx_E := (.getfield 22, 27, 30, [7, 5, 1], .null) :: x195_30
theorem ox195_27 : sx_oks 195 x195_27 := ⟨sx_q_get (w := (RX8, TX8, 31)) (sx_dd bb_195 dX8_mark_27) rfl rfl (Nat.le_of_ble_eq_true rfl) cu_7 (sx_ow3 oo_195 fl_StrawGarrisonModel_22) (by decide +kernel), ox195_30⟩
def x195_26 : List sx_E := (.aload 0, 26, 27, [], .null) :: x195_27
theorem ox195_26 : sx_oks 195 x195_26 := ⟨Or.inr ⟨_, (sx_dd bb_195 dX8_mark_26), rfl, rfl⟩, ox195_27⟩
def x195_25 : List sx_E := (.nop, 25, 26, [], .long (0)) :: x195_26
theorem ox195_25 : sx_oks 195 x195_25 := ⟨sx_k_lconst (sx_dd bb_195 dX8_mark_25) (by decide +kernel), ox195_26⟩
def x195_24 : List sx_E := (.i2l, 24, 25, [], .null) :: x195_25
theorem ox195_24 : sx_oks 195 x195_24 := ⟨⟨(sx_dd bb_195 dX8_mark_24), rfl⟩, ox195_25⟩
def x195_23 : List sx_E := (.iload 2, 23, 24, [], .null) :: x195_24
theorem ox195_23 : sx_oks 195 x195_23 := ⟨Or.inr ⟨_, (sx_dd bb_195 dX8_mark_23), rfl, rfl⟩, ox195_24⟩
def x195_22 : List sx_E := (.ireturn, 22, 23, [0], .null) :: x195_23
theorem ox195_22 : sx_oks 195 x195_22 := ⟨sx_q_iret0 (sx_dd bb_195 dX8_mark_22) rr_195, ox195_23⟩
def x195_19 : List sx_E := (.nop, 19, 22, [], .int ((-1000000011))) :: x195_22
theorem ox195_19 : sx_oks 195 x195_19 := ⟨sx_k_ldcw (sx_dd bb_195 dX8_mark_19) (sx_ow1 oo_195 kc_StrawGarrisonModel_312), ox195_22⟩
def x195_16 : List sx_E := (.ifCond .ge (7), 16, 19, [23], .null) :: x195_19
theorem ox195_16 : sx_oks 195 x195_16 := ⟨⟨(sx_dd bb_195 dX8_mark_16), rfl, sx_t1 (by decide +kernel)⟩, ox195_19⟩
def x195_15 : List sx_E := (.iaload, 15, 16, [], .null) :: x195_16
theorem ox195_15 : sx_oks 195 x195_15 := ⟨⟨(sx_dd bb_195 dX8_mark_15), rfl⟩, ox195_16⟩
def x195_14 : List sx_E := (.iload 1, 14, 15, [], .null) :: x195_15
theorem ox195_14 : sx_oks 195 x195_14 := ⟨Or.inr ⟨_, (sx_dd bb_195 dX8_mark_14), rfl, rfl⟩, ox195_15⟩
def x195_11 : List sx_E := (.getfield 19, 11, 14, [7, 4, 1], .null) :: x195_14
theorem ox195_11 : sx_oks 195 x195_11 := ⟨sx_q_get (w := (RX8, TX8, 31)) (sx_dd bb_195 dX8_mark_11) rfl rfl (Nat.le_of_ble_eq_true rfl) cu_7 (sx_ow3 oo_195 fl_StrawGarrisonModel_19) (by decide +kernel), ox195_14⟩
def x195_10 : List sx_E := (.aload 0, 10, 11, [], .null) :: x195_11
theorem ox195_10 : sx_oks 195 x195_10 := ⟨Or.inr ⟨_, (sx_dd bb_195 dX8_mark_10), rfl, rfl⟩, ox195_11⟩
def x195_9 : List sx_E := (.ireturn, 9, 10, [0], .null) :: x195_10
theorem ox195_9 : sx_oks 195 x195_9 := ⟨sx_q_iret0 (sx_dd bb_195 dX8_mark_9) rr_195, ox195_10⟩
def x195_7 : List sx_E := (.nop, 7, 9, [], .int ((-1000000001))) :: x195_9
theorem ox195_7 : sx_oks 195 x195_7 := ⟨sx_k_ldc (sx_dd bb_195 dX8_mark_7) (sx_ow1 oo_195 kc_StrawGarrisonModel_88), ox195_9⟩
def x195_4 : List sx_E := (.ifCond .ne (6), 4, 7, [10], .null) :: x195_7
theorem ox195_4 : sx_oks 195 x195_4 := ⟨⟨(sx_dd bb_195 dX8_mark_4), rfl, sx_t1 (by decide +kernel)⟩, ox195_7⟩
def x195_1 : List sx_E := (.invokestatic 306, 1, 4, [193, 1, 0, 0], .null) :: x195_4
theorem ox195_1 : sx_oks 195 x195_1 := ⟨sx_q_S (sx_dd bb_195 dX8_mark_1) oo_195 lk_StrawGarrisonModel_306_S ft_193_h, ox195_4⟩
def x195_0 : List sx_E := (.iload 1, 0, 1, [], .null) :: x195_1
theorem ox195_0 : sx_oks 195 x195_0 := ⟨Or.inr ⟨_, (sx_dd bb_195 dX8_mark_0), rfl, rfl⟩, ox195_1⟩
theorem m195 : sx_mok 195 x195_0 := ⟨ox195_0, by decide +kernel⟩
theorem bb_196 : sx_by 196 = cX8_pour := rfl
theorem oo_196 : (sx_nm 196).cls = "StrawGarrisonModel" := rfl
theorem mm_196 : sx_ml 196 = 6 := rfl
theorem rr_196 : sx_rt 196 = (some .int) := rfl
def x196_126 : List sx_E := (.ireturn, 126, 127, [0], .null) :: []
theorem ox196_126 : sx_oks 196 x196_126 := ⟨sx_q_iret0 (sx_dd bb_196 dX8_pour_126) rr_196, trivial⟩
def x196_125 : List sx_E := (.iload 2, 125, 126, [], .null) :: x196_126
theorem ox196_125 : sx_oks 196 x196_125 := ⟨Or.inr ⟨_, (sx_dd bb_196 dX8_pour_125), rfl, rfl⟩, ox196_126⟩
def x196_122 : List sx_E := (.goto (-95), 122, 125, [27], .null) :: x196_125
theorem ox196_122 : sx_oks 196 x196_122 := ⟨⟨(sx_dd bb_196 dX8_pour_122), sx_t1 (by decide +kernel)⟩, ox196_125⟩
def x196_119 : List sx_E := (.iinc 3 (1), 119, 122, [], .int (nI 1)) :: x196_122
theorem ox196_119 : sx_oks 196 x196_119 := ⟨⟨sx_lt mm_196 (Nat.le_of_ble_eq_true rfl), (sx_dd bb_196 dX8_pour_119), rfl, by decide +kernel⟩, ox196_122⟩
def x196_118 : List sx_E := (.istore 2, 118, 119, [], .null) :: x196_119
theorem ox196_118 : sx_oks 196 x196_118 := ⟨⟨sx_lt mm_196 (Nat.le_of_ble_eq_true rfl), Or.inr ⟨_, (sx_dd bb_196 dX8_pour_118), rfl, rfl⟩⟩, ox196_119⟩
def x196_117 : List sx_E := (.iadd, 117, 118, [], .null) :: x196_118
theorem ox196_117 : sx_oks 196 x196_117 := ⟨⟨(sx_dd bb_196 dX8_pour_117), rfl⟩, ox196_118⟩
def x196_116 : List sx_E := (.nop, 116, 117, [], .int (nI 1)) :: x196_117
theorem ox196_116 : sx_oks 196 x196_116 := ⟨sx_k_iconst (sx_dd bb_196 dX8_pour_116) (by decide +kernel), ox196_117⟩
def x196_113 : List sx_E := (.goto (4), 113, 116, [117], .null) :: x196_116
theorem ox196_113 : sx_oks 196 x196_113 := ⟨⟨(sx_dd bb_196 dX8_pour_113), sx_t1 (by decide +kernel)⟩, ox196_116⟩
def x196_112 : List sx_E := (.nop, 112, 113, [], .int (nI 0)) :: x196_113
theorem ox196_112 : sx_oks 196 x196_112 := ⟨sx_k_iconst (sx_dd bb_196 dX8_pour_112) (by decide +kernel), ox196_113⟩
def x196_109 : List sx_E := (.if_icmp .ne (7), 109, 112, [116], .null) :: x196_112
theorem ox196_109 : sx_oks 196 x196_109 := ⟨⟨(sx_dd bb_196 dX8_pour_109), rfl, sx_t1 (by decide +kernel)⟩, ox196_112⟩
def x196_106 : List sx_E := (.invokevirtual 132, 106, 109, [117, 3, 0, 0, 7], .null) :: x196_109
theorem ox196_106 : sx_oks 196 x196_106 := ⟨sx_q_V (w := (RX8, TX8, 31)) (sx_dd bb_196 dX8_pour_106) oo_196 lk_StrawGarrisonModel_132_V ft_117_h (Nat.le_of_ble_eq_true rfl) rfl rfl, ox196_109⟩
def x196_104 : List sx_E := (.iload 5, 104, 106, [], .null) :: x196_106
theorem ox196_104 : sx_oks 196 x196_104 := ⟨Or.inl ⟨(sx_dd bb_196 dX8_pour_104), rfl⟩, ox196_106⟩
def x196_103 : List sx_E := (.iadd, 103, 104, [], .null) :: x196_104
theorem ox196_103 : sx_oks 196 x196_103 := ⟨⟨(sx_dd bb_196 dX8_pour_103), rfl⟩, ox196_104⟩
def x196_102 : List sx_E := (.nop, 102, 103, [], .int (nI 2)) :: x196_103
theorem ox196_102 : sx_oks 196 x196_102 := ⟨sx_k_iconst (sx_dd bb_196 dX8_pour_102) (by decide +kernel), ox196_103⟩
def x196_101 : List sx_E := (.iadd, 101, 102, [], .null) :: x196_102
theorem ox196_101 : sx_oks 196 x196_101 := ⟨⟨(sx_dd bb_196 dX8_pour_101), rfl⟩, ox196_102⟩
def x196_100 : List sx_E := (.imul, 100, 101, [], .null) :: x196_101
theorem ox196_100 : sx_oks 196 x196_100 := ⟨⟨(sx_dd bb_196 dX8_pour_100), rfl⟩, ox196_101⟩
def x196_99 : List sx_E := (.iload 3, 99, 100, [], .null) :: x196_100
theorem ox196_99 : sx_oks 196 x196_99 := ⟨Or.inr ⟨_, (sx_dd bb_196 dX8_pour_99), rfl, rfl⟩, ox196_100⟩
def x196_98 : List sx_E := (.nop, 98, 99, [], .int (nI 5)) :: x196_99
theorem ox196_98 : sx_oks 196 x196_98 := ⟨sx_k_iconst (sx_dd bb_196 dX8_pour_98) (by decide +kernel), ox196_99⟩
def x196_96 : List sx_E := (.nop, 96, 98, [], .int (nI 12)) :: x196_98
theorem ox196_96 : sx_oks 196 x196_96 := ⟨sx_k_bipush (sx_dd bb_196 dX8_pour_96) (by decide +kernel), ox196_98⟩
def x196_95 : List sx_E := (.aload 0, 95, 96, [], .null) :: x196_96
theorem ox196_95 : sx_oks 196 x196_95 := ⟨Or.inr ⟨_, (sx_dd bb_196 dX8_pour_95), rfl, rfl⟩, ox196_96⟩
def x196_93 : List sx_E := (.iload 5, 93, 95, [], .null) :: x196_95
theorem ox196_93 : sx_oks 196 x196_93 := ⟨Or.inl ⟨(sx_dd bb_196 dX8_pour_93), rfl⟩, ox196_95⟩
def x196_92 : List sx_E := (.iload 2, 92, 93, [], .null) :: x196_93
theorem ox196_92 : sx_oks 196 x196_92 := ⟨Or.inr ⟨_, (sx_dd bb_196 dX8_pour_92), rfl, rfl⟩, ox196_93⟩
def x196_92h : List sx_E := (.monitorenter, 92, 92, [0, 1, 2, 3, 5], .null) :: x196_92
theorem ox196_92h : sx_oks 196 x196_92h := ⟨trivial, ox196_92⟩
def x196_90 : List sx_E := (.istore 5, 90, 92, [], .null) :: x196_92h
theorem ox196_90 : sx_oks 196 x196_90 := ⟨⟨sx_lt mm_196 (Nat.le_of_ble_eq_true rfl), Or.inl ⟨(sx_dd bb_196 dX8_pour_90), rfl⟩⟩, ox196_92h⟩
def x196_87 : List sx_E := (.invokestatic 104, 87, 90, [115, 2, 0, 0], .null) :: x196_90
theorem ox196_87 : sx_oks 196 x196_87 := ⟨sx_q_S (sx_dd bb_196 dX8_pour_87) oo_196 lk_StrawGarrisonModel_104_S ft_115_h, ox196_90⟩
def x196_85 : List sx_E := (.nop, 85, 87, [], .int (nI 99)) :: x196_87
theorem ox196_85 : sx_oks 196 x196_85 := ⟨sx_k_bipush (sx_dd bb_196 dX8_pour_85) (by decide +kernel), ox196_87⟩
def x196_83 : List sx_E := (.iload 4, 83, 85, [], .null) :: x196_85
theorem ox196_83 : sx_oks 196 x196_83 := ⟨Or.inl ⟨(sx_dd bb_196 dX8_pour_83), rfl⟩, ox196_85⟩
def x196_80 : List sx_E := (.goto (10), 80, 83, [90], .null) :: x196_83
theorem ox196_80 : sx_oks 196 x196_80 := ⟨⟨(sx_dd bb_196 dX8_pour_80), sx_t1 (by decide +kernel)⟩, ox196_83⟩
def x196_79 : List sx_E := (.iaload, 79, 80, [], .null) :: x196_80
theorem ox196_79 : sx_oks 196 x196_79 := ⟨⟨(sx_dd bb_196 dX8_pour_79), rfl⟩, ox196_80⟩
def x196_78 : List sx_E := (.iadd, 78, 79, [], .null) :: x196_79
theorem ox196_78 : sx_oks 196 x196_78 := ⟨⟨(sx_dd bb_196 dX8_pour_78), rfl⟩, ox196_79⟩
def x196_77 : List sx_E := (.nop, 77, 78, [], .int (nI 2)) :: x196_78
theorem ox196_77 : sx_oks 196 x196_77 := ⟨sx_k_iconst (sx_dd bb_196 dX8_pour_77) (by decide +kernel), ox196_78⟩
def x196_76 : List sx_E := (.iadd, 76, 77, [], .null) :: x196_77
theorem ox196_76 : sx_oks 196 x196_76 := ⟨⟨(sx_dd bb_196 dX8_pour_76), rfl⟩, ox196_77⟩
def x196_75 : List sx_E := (.imul, 75, 76, [], .null) :: x196_76
theorem ox196_75 : sx_oks 196 x196_75 := ⟨⟨(sx_dd bb_196 dX8_pour_75), rfl⟩, ox196_76⟩
def x196_74 : List sx_E := (.iload 3, 74, 75, [], .null) :: x196_75
theorem ox196_74 : sx_oks 196 x196_74 := ⟨Or.inr ⟨_, (sx_dd bb_196 dX8_pour_74), rfl, rfl⟩, ox196_75⟩
def x196_73 : List sx_E := (.nop, 73, 74, [], .int (nI 5)) :: x196_74
theorem ox196_73 : sx_oks 196 x196_73 := ⟨sx_k_iconst (sx_dd bb_196 dX8_pour_73) (by decide +kernel), ox196_74⟩
def x196_71 : List sx_E := (.nop, 71, 73, [], .int (nI 12)) :: x196_73
theorem ox196_71 : sx_oks 196 x196_71 := ⟨sx_k_bipush (sx_dd bb_196 dX8_pour_71) (by decide +kernel), ox196_73⟩
def x196_68 : List sx_E := (.getfield 7, 68, 71, [7, 0, 1], .null) :: x196_71
theorem ox196_68 : sx_oks 196 x196_68 := ⟨sx_q_get (w := (RX8, TX8, 31)) (sx_dd bb_196 dX8_pour_68) rfl rfl (Nat.le_of_ble_eq_true rfl) cu_7 (sx_ow3 oo_196 fl_StrawGarrisonModel_7) (by decide +kernel), ox196_71⟩
def x196_67 : List sx_E := (.aload 0, 67, 68, [], .null) :: x196_68
theorem ox196_67 : sx_oks 196 x196_67 := ⟨Or.inr ⟨_, (sx_dd bb_196 dX8_pour_67), rfl, rfl⟩, ox196_68⟩
def x196_64 : List sx_E := (.if_icmp .ne (19), 64, 67, [83], .null) :: x196_67
theorem ox196_64 : sx_oks 196 x196_64 := ⟨⟨(sx_dd bb_196 dX8_pour_64), rfl, sx_t1 (by decide +kernel)⟩, ox196_67⟩
def x196_62 : List sx_E := (.nop, 62, 64, [], .int ((-1000000005))) :: x196_64
theorem ox196_62 : sx_oks 196 x196_62 := ⟨sx_k_ldc (sx_dd bb_196 dX8_pour_62) (sx_ow1 oo_196 kc_StrawGarrisonModel_64), ox196_64⟩
def x196_60 : List sx_E := (.iload 4, 60, 62, [], .null) :: x196_62
theorem ox196_60 : sx_oks 196 x196_60 := ⟨Or.inl ⟨(sx_dd bb_196 dX8_pour_60), rfl⟩, ox196_62⟩
def x196_58 : List sx_E := (.istore 4, 58, 60, [], .null) :: x196_60
theorem ox196_58 : sx_oks 196 x196_58 := ⟨⟨sx_lt mm_196 (Nat.le_of_ble_eq_true rfl), Or.inl ⟨(sx_dd bb_196 dX8_pour_58), rfl⟩⟩, ox196_60⟩
def x196_57 : List sx_E := (.iaload, 57, 58, [], .null) :: x196_58
theorem ox196_57 : sx_oks 196 x196_57 := ⟨⟨(sx_dd bb_196 dX8_pour_57), rfl⟩, ox196_58⟩
def x196_56 : List sx_E := (.iadd, 56, 57, [], .null) :: x196_57
theorem ox196_56 : sx_oks 196 x196_56 := ⟨⟨(sx_dd bb_196 dX8_pour_56), rfl⟩, ox196_57⟩
def x196_55 : List sx_E := (.iload 3, 55, 56, [], .null) :: x196_56
theorem ox196_55 : sx_oks 196 x196_55 := ⟨Or.inr ⟨_, (sx_dd bb_196 dX8_pour_55), rfl, rfl⟩, ox196_56⟩
def x196_54 : List sx_E := (.imul, 54, 55, [], .null) :: x196_55
theorem ox196_54 : sx_oks 196 x196_54 := ⟨⟨(sx_dd bb_196 dX8_pour_54), rfl⟩, ox196_55⟩
def x196_53 : List sx_E := (.iload 1, 53, 54, [], .null) :: x196_54
theorem ox196_53 : sx_oks 196 x196_53 := ⟨Or.inr ⟨_, (sx_dd bb_196 dX8_pour_53), rfl, rfl⟩, ox196_54⟩
def x196_51 : List sx_E := (.nop, 51, 53, [], .int (nI 24)) :: x196_53
theorem ox196_51 : sx_oks 196 x196_51 := ⟨sx_k_bipush (sx_dd bb_196 dX8_pour_51) (by decide +kernel), ox196_53⟩
def x196_48 : List sx_E := (.getfield 25, 48, 51, [7, 6, 1], .null) :: x196_51
theorem ox196_48 : sx_oks 196 x196_48 := ⟨sx_q_get (w := (RX8, TX8, 31)) (sx_dd bb_196 dX8_pour_48) rfl rfl (Nat.le_of_ble_eq_true rfl) cu_7 (sx_ow3 oo_196 fl_StrawGarrisonModel_25) (by decide +kernel), ox196_51⟩
def x196_47 : List sx_E := (.aload 0, 47, 48, [], .null) :: x196_48
theorem ox196_47 : sx_oks 196 x196_47 := ⟨Or.inr ⟨_, (sx_dd bb_196 dX8_pour_47), rfl, rfl⟩, ox196_48⟩
def x196_44 : List sx_E := (.if_icmp .ge (81), 44, 47, [125], .null) :: x196_47
theorem ox196_44 : sx_oks 196 x196_44 := ⟨⟨(sx_dd bb_196 dX8_pour_44), rfl, sx_t1 (by decide +kernel)⟩, ox196_47⟩
def x196_43 : List sx_E := (.iaload, 43, 44, [], .null) :: x196_44
theorem ox196_43 : sx_oks 196 x196_43 := ⟨⟨(sx_dd bb_196 dX8_pour_43), rfl⟩, ox196_44⟩
def x196_42 : List sx_E := (.nop, 42, 43, [], .int (nI 0)) :: x196_43
theorem ox196_42 : sx_oks 196 x196_42 := ⟨sx_k_iconst (sx_dd bb_196 dX8_pour_42) (by decide +kernel), ox196_43⟩
def x196_39 : List sx_E := (.getfield 7, 39, 42, [7, 0, 1], .null) :: x196_42
theorem ox196_39 : sx_oks 196 x196_39 := ⟨sx_q_get (w := (RX8, TX8, 31)) (sx_dd bb_196 dX8_pour_39) rfl rfl (Nat.le_of_ble_eq_true rfl) cu_7 (sx_ow3 oo_196 fl_StrawGarrisonModel_7) (by decide +kernel), ox196_42⟩
def x196_38 : List sx_E := (.aload 0, 38, 39, [], .null) :: x196_39
theorem ox196_38 : sx_oks 196 x196_38 := ⟨Or.inr ⟨_, (sx_dd bb_196 dX8_pour_38), rfl, rfl⟩, ox196_39⟩
def x196_37 : List sx_E := (.iload 3, 37, 38, [], .null) :: x196_38
theorem ox196_37 : sx_oks 196 x196_37 := ⟨Or.inr ⟨_, (sx_dd bb_196 dX8_pour_37), rfl, rfl⟩, ox196_38⟩
def x196_34 : List sx_E := (.if_icmp .ge (91), 34, 37, [125], .null) :: x196_37
theorem ox196_34 : sx_oks 196 x196_34 := ⟨⟨(sx_dd bb_196 dX8_pour_34), rfl, sx_t1 (by decide +kernel)⟩, ox196_37⟩
def x196_33 : List sx_E := (.iaload, 33, 34, [], .null) :: x196_34
theorem ox196_33 : sx_oks 196 x196_33 := ⟨⟨(sx_dd bb_196 dX8_pour_33), rfl⟩, ox196_34⟩
def x196_32 : List sx_E := (.iload 1, 32, 33, [], .null) :: x196_33
theorem ox196_32 : sx_oks 196 x196_32 := ⟨Or.inr ⟨_, (sx_dd bb_196 dX8_pour_32), rfl, rfl⟩, ox196_33⟩
def x196_29 : List sx_E := (.getfield 22, 29, 32, [7, 5, 1], .null) :: x196_32
theorem ox196_29 : sx_oks 196 x196_29 := ⟨sx_q_get (w := (RX8, TX8, 31)) (sx_dd bb_196 dX8_pour_29) rfl rfl (Nat.le_of_ble_eq_true rfl) cu_7 (sx_ow3 oo_196 fl_StrawGarrisonModel_22) (by decide +kernel), ox196_32⟩
def x196_28 : List sx_E := (.aload 0, 28, 29, [], .null) :: x196_29
theorem ox196_28 : sx_oks 196 x196_28 := ⟨Or.inr ⟨_, (sx_dd bb_196 dX8_pour_28), rfl, rfl⟩, ox196_29⟩
def x196_27 : List sx_E := (.iload 3, 27, 28, [], .null) :: x196_28
theorem ox196_27 : sx_oks 196 x196_27 := ⟨Or.inr ⟨_, (sx_dd bb_196 dX8_pour_27), rfl, rfl⟩, ox196_28⟩
def x196_27h : List sx_E := (.monitorenter, 27, 27, [0, 1, 2, 3], .null) :: x196_27
theorem ox196_27h : sx_oks 196 x196_27h := ⟨trivial, ox196_27⟩
def x196_26 : List sx_E := (.istore 3, 26, 27, [], .null) :: x196_27h
theorem ox196_26 : sx_oks 196 x196_26 := ⟨⟨sx_lt mm_196 (Nat.le_of_ble_eq_true rfl), Or.inr ⟨_, (sx_dd bb_196 dX8_pour_26), rfl, rfl⟩⟩, ox196_27h⟩
def x196_25 : List sx_E := (.nop, 25, 26, [], .int (nI 0)) :: x196_26
theorem ox196_25 : sx_oks 196 x196_25 := ⟨sx_k_iconst (sx_dd bb_196 dX8_pour_25) (by decide +kernel), ox196_26⟩
def x196_24 : List sx_E := (.istore 2, 24, 25, [], .null) :: x196_25
theorem ox196_24 : sx_oks 196 x196_24 := ⟨⟨sx_lt mm_196 (Nat.le_of_ble_eq_true rfl), Or.inr ⟨_, (sx_dd bb_196 dX8_pour_24), rfl, rfl⟩⟩, ox196_25⟩
def x196_23 : List sx_E := (.nop, 23, 24, [], .int (nI 0)) :: x196_24
theorem ox196_23 : sx_oks 196 x196_23 := ⟨sx_k_iconst (sx_dd bb_196 dX8_pour_23) (by decide +kernel), ox196_24⟩
def x196_22 : List sx_E := (.ireturn, 22, 23, [0], .null) :: x196_23
theorem ox196_22 : sx_oks 196 x196_22 := ⟨sx_q_iret0 (sx_dd bb_196 dX8_pour_22) rr_196, ox196_23⟩
def x196_19 : List sx_E := (.nop, 19, 22, [], .int ((-1000000011))) :: x196_22
theorem ox196_19 : sx_oks 196 x196_19 := ⟨sx_k_ldcw (sx_dd bb_196 dX8_pour_19) (sx_ow1 oo_196 kc_StrawGarrisonModel_312), ox196_22⟩
def x196_16 : List sx_E := (.ifCond .ge (7), 16, 19, [23], .null) :: x196_19
theorem ox196_16 : sx_oks 196 x196_16 := ⟨⟨(sx_dd bb_196 dX8_pour_16), rfl, sx_t1 (by decide +kernel)⟩, ox196_19⟩
def x196_15 : List sx_E := (.iaload, 15, 16, [], .null) :: x196_16
theorem ox196_15 : sx_oks 196 x196_15 := ⟨⟨(sx_dd bb_196 dX8_pour_15), rfl⟩, ox196_16⟩
def x196_14 : List sx_E := (.iload 1, 14, 15, [], .null) :: x196_15
theorem ox196_14 : sx_oks 196 x196_14 := ⟨Or.inr ⟨_, (sx_dd bb_196 dX8_pour_14), rfl, rfl⟩, ox196_15⟩
def x196_11 : List sx_E := (.getfield 19, 11, 14, [7, 4, 1], .null) :: x196_14
theorem ox196_11 : sx_oks 196 x196_11 := ⟨sx_q_get (w := (RX8, TX8, 31)) (sx_dd bb_196 dX8_pour_11) rfl rfl (Nat.le_of_ble_eq_true rfl) cu_7 (sx_ow3 oo_196 fl_StrawGarrisonModel_19) (by decide +kernel), ox196_14⟩
def x196_10 : List sx_E := (.aload 0, 10, 11, [], .null) :: x196_11
theorem ox196_10 : sx_oks 196 x196_10 := ⟨Or.inr ⟨_, (sx_dd bb_196 dX8_pour_10), rfl, rfl⟩, ox196_11⟩
def x196_9 : List sx_E := (.ireturn, 9, 10, [0], .null) :: x196_10
theorem ox196_9 : sx_oks 196 x196_9 := ⟨sx_q_iret0 (sx_dd bb_196 dX8_pour_9) rr_196, ox196_10⟩
def x196_7 : List sx_E := (.nop, 7, 9, [], .int ((-1000000001))) :: x196_9
theorem ox196_7 : sx_oks 196 x196_7 := ⟨sx_k_ldc (sx_dd bb_196 dX8_pour_7) (sx_ow1 oo_196 kc_StrawGarrisonModel_88), ox196_9⟩
def x196_4 : List sx_E := (.ifCond .ne (6), 4, 7, [10], .null) :: x196_7
theorem ox196_4 : sx_oks 196 x196_4 := ⟨⟨(sx_dd bb_196 dX8_pour_4), rfl, sx_t1 (by decide +kernel)⟩, ox196_7⟩
def x196_1 : List sx_E := (.invokestatic 306, 1, 4, [193, 1, 0, 0], .null) :: x196_4
theorem ox196_1 : sx_oks 196 x196_1 := ⟨sx_q_S (sx_dd bb_196 dX8_pour_1) oo_196 lk_StrawGarrisonModel_306_S ft_193_h, ox196_4⟩
def x196_0 : List sx_E := (.iload 1, 0, 1, [], .null) :: x196_1
theorem ox196_0 : sx_oks 196 x196_0 := ⟨Or.inr ⟨_, (sx_dd bb_196 dX8_pour_0), rfl, rfl⟩, ox196_1⟩
theorem m196 : sx_mok 196 x196_0 := ⟨ox196_0, by decide +kernel⟩
theorem bb_197 : sx_by 197 = cX8_reads := rfl
theorem oo_197 : (sx_nm 197).cls = "StrawGarrisonModel" := rfl
theorem mm_197 : sx_ml 197 = 4 := rfl
theorem rr_197 : sx_rt 197 = (some .int) := rfl
def x197_83 : List sx_E := (.ireturn, 83, 84, [0], .null) :: []
theorem ox197_83 : sx_oks 197 x197_83 := ⟨sx_q_iret0 (sx_dd bb_197 dX8_reads_83) rr_197, trivial⟩
def x197_81 : List sx_E := (.nop, 81, 83, [], .int ((-1000000005))) :: x197_83
theorem ox197_81 : sx_oks 197 x197_81 := ⟨sx_k_ldc (sx_dd bb_197 dX8_reads_81) (sx_ow1 oo_197 kc_StrawGarrisonModel_64), ox197_83⟩
def x197_78 : List sx_E := (.goto (-53), 78, 81, [25], .null) :: x197_81
theorem ox197_78 : sx_oks 197 x197_78 := ⟨⟨(sx_dd bb_197 dX8_reads_78), sx_t1 (by decide +kernel)⟩, ox197_81⟩
def x197_75 : List sx_E := (.iinc 2 (1), 75, 78, [], .int (nI 1)) :: x197_78
theorem ox197_75 : sx_oks 197 x197_75 := ⟨⟨sx_lt mm_197 (Nat.le_of_ble_eq_true rfl), (sx_dd bb_197 dX8_reads_75), rfl, by decide +kernel⟩, ox197_78⟩
def x197_74 : List sx_E := (.ireturn, 74, 75, [0], .null) :: x197_75
theorem ox197_74 : sx_oks 197 x197_74 := ⟨sx_q_iret0 (sx_dd bb_197 dX8_reads_74) rr_197, ox197_75⟩
def x197_73 : List sx_E := (.iload 2, 73, 74, [], .null) :: x197_74
theorem ox197_73 : sx_oks 197 x197_73 := ⟨Or.inr ⟨_, (sx_dd bb_197 dX8_reads_73), rfl, rfl⟩, ox197_74⟩
def x197_70 : List sx_E := (.if_icmp .eq (5), 70, 73, [75], .null) :: x197_73
theorem ox197_70 : sx_oks 197 x197_70 := ⟨⟨(sx_dd bb_197 dX8_reads_70), rfl, sx_t1 (by decide +kernel)⟩, ox197_73⟩
def x197_67 : List sx_E := (.invokevirtual 72, 67, 70, [119, 3, 0, 0, 7], .null) :: x197_70
theorem ox197_67 : sx_oks 197 x197_67 := ⟨sx_q_V (w := (RX8, TX8, 31)) (sx_dd bb_197 dX8_reads_67) oo_197 lk_StrawGarrisonModel_72_V ft_119_h (Nat.le_of_ble_eq_true rfl) rfl rfl, ox197_70⟩
def x197_66 : List sx_E := (.nop, 66, 67, [], .int (nI 1)) :: x197_67
theorem ox197_66 : sx_oks 197 x197_66 := ⟨sx_k_iconst (sx_dd bb_197 dX8_reads_66) (by decide +kernel), ox197_67⟩
def x197_65 : List sx_E := (.iload 2, 65, 66, [], .null) :: x197_66
theorem ox197_65 : sx_oks 197 x197_65 := ⟨Or.inr ⟨_, (sx_dd bb_197 dX8_reads_65), rfl, rfl⟩, ox197_66⟩
def x197_64 : List sx_E := (.aload 0, 64, 65, [], .null) :: x197_65
theorem ox197_64 : sx_oks 197 x197_64 := ⟨Or.inr ⟨_, (sx_dd bb_197 dX8_reads_64), rfl, rfl⟩, ox197_65⟩
def x197_63 : List sx_E := (.iload 3, 63, 64, [], .null) :: x197_64
theorem ox197_63 : sx_oks 197 x197_63 := ⟨Or.inr ⟨_, (sx_dd bb_197 dX8_reads_63), rfl, rfl⟩, ox197_64⟩
def x197_60 : List sx_E := (.if_icmp .ge (13), 60, 63, [73], .null) :: x197_63
theorem ox197_60 : sx_oks 197 x197_60 := ⟨⟨(sx_dd bb_197 dX8_reads_60), rfl, sx_t1 (by decide +kernel)⟩, ox197_63⟩
def x197_59 : List sx_E := (.iaload, 59, 60, [], .null) :: x197_60
theorem ox197_59 : sx_oks 197 x197_59 := ⟨⟨(sx_dd bb_197 dX8_reads_59), rfl⟩, ox197_60⟩
def x197_58 : List sx_E := (.nop, 58, 59, [], .int (nI 0)) :: x197_59
theorem ox197_58 : sx_oks 197 x197_58 := ⟨sx_k_iconst (sx_dd bb_197 dX8_reads_58) (by decide +kernel), ox197_59⟩
def x197_55 : List sx_E := (.getfield 7, 55, 58, [7, 0, 1], .null) :: x197_58
theorem ox197_55 : sx_oks 197 x197_55 := ⟨sx_q_get (w := (RX8, TX8, 31)) (sx_dd bb_197 dX8_reads_55) rfl rfl (Nat.le_of_ble_eq_true rfl) cu_7 (sx_ow3 oo_197 fl_StrawGarrisonModel_7) (by decide +kernel), ox197_58⟩
def x197_54 : List sx_E := (.aload 0, 54, 55, [], .null) :: x197_55
theorem ox197_54 : sx_oks 197 x197_54 := ⟨Or.inr ⟨_, (sx_dd bb_197 dX8_reads_54), rfl, rfl⟩, ox197_55⟩
def x197_53 : List sx_E := (.iload 2, 53, 54, [], .null) :: x197_54
theorem ox197_53 : sx_oks 197 x197_53 := ⟨Or.inr ⟨_, (sx_dd bb_197 dX8_reads_53), rfl, rfl⟩, ox197_54⟩
def x197_50 : List sx_E := (.if_icmp .eq (25), 50, 53, [75], .null) :: x197_53
theorem ox197_50 : sx_oks 197 x197_50 := ⟨⟨(sx_dd bb_197 dX8_reads_50), rfl, sx_t1 (by decide +kernel)⟩, ox197_53⟩
def x197_48 : List sx_E := (.nop, 48, 50, [], .int ((-1000000005))) :: x197_50
theorem ox197_48 : sx_oks 197 x197_48 := ⟨sx_k_ldc (sx_dd bb_197 dX8_reads_48) (sx_ow1 oo_197 kc_StrawGarrisonModel_64), ox197_50⟩
def x197_47 : List sx_E := (.iload 3, 47, 48, [], .null) :: x197_48
theorem ox197_47 : sx_oks 197 x197_47 := ⟨Or.inr ⟨_, (sx_dd bb_197 dX8_reads_47), rfl, rfl⟩, ox197_48⟩
def x197_46 : List sx_E := (.istore 3, 46, 47, [], .null) :: x197_47
theorem ox197_46 : sx_oks 197 x197_46 := ⟨⟨sx_lt mm_197 (Nat.le_of_ble_eq_true rfl), Or.inr ⟨_, (sx_dd bb_197 dX8_reads_46), rfl, rfl⟩⟩, ox197_47⟩
def x197_45 : List sx_E := (.iaload, 45, 46, [], .null) :: x197_46
theorem ox197_45 : sx_oks 197 x197_45 := ⟨⟨(sx_dd bb_197 dX8_reads_45), rfl⟩, ox197_46⟩
def x197_44 : List sx_E := (.iadd, 44, 45, [], .null) :: x197_45
theorem ox197_44 : sx_oks 197 x197_44 := ⟨⟨(sx_dd bb_197 dX8_reads_44), rfl⟩, ox197_45⟩
def x197_43 : List sx_E := (.iload 2, 43, 44, [], .null) :: x197_44
theorem ox197_43 : sx_oks 197 x197_43 := ⟨Or.inr ⟨_, (sx_dd bb_197 dX8_reads_43), rfl, rfl⟩, ox197_44⟩
def x197_42 : List sx_E := (.imul, 42, 43, [], .null) :: x197_43
theorem ox197_42 : sx_oks 197 x197_42 := ⟨⟨(sx_dd bb_197 dX8_reads_42), rfl⟩, ox197_43⟩
def x197_41 : List sx_E := (.iload 1, 41, 42, [], .null) :: x197_42
theorem ox197_41 : sx_oks 197 x197_41 := ⟨Or.inr ⟨_, (sx_dd bb_197 dX8_reads_41), rfl, rfl⟩, ox197_42⟩
def x197_39 : List sx_E := (.nop, 39, 41, [], .int (nI 24)) :: x197_41
theorem ox197_39 : sx_oks 197 x197_39 := ⟨sx_k_bipush (sx_dd bb_197 dX8_reads_39) (by decide +kernel), ox197_41⟩
def x197_36 : List sx_E := (.getfield 25, 36, 39, [7, 6, 1], .null) :: x197_39
theorem ox197_36 : sx_oks 197 x197_36 := ⟨sx_q_get (w := (RX8, TX8, 31)) (sx_dd bb_197 dX8_reads_36) rfl rfl (Nat.le_of_ble_eq_true rfl) cu_7 (sx_ow3 oo_197 fl_StrawGarrisonModel_25) (by decide +kernel), ox197_39⟩
def x197_35 : List sx_E := (.aload 0, 35, 36, [], .null) :: x197_36
theorem ox197_35 : sx_oks 197 x197_35 := ⟨Or.inr ⟨_, (sx_dd bb_197 dX8_reads_35), rfl, rfl⟩, ox197_36⟩
def x197_32 : List sx_E := (.if_icmp .ge (49), 32, 35, [81], .null) :: x197_35
theorem ox197_32 : sx_oks 197 x197_32 := ⟨⟨(sx_dd bb_197 dX8_reads_32), rfl, sx_t1 (by decide +kernel)⟩, ox197_35⟩
def x197_31 : List sx_E := (.iaload, 31, 32, [], .null) :: x197_32
theorem ox197_31 : sx_oks 197 x197_31 := ⟨⟨(sx_dd bb_197 dX8_reads_31), rfl⟩, ox197_32⟩
def x197_30 : List sx_E := (.iload 1, 30, 31, [], .null) :: x197_31
theorem ox197_30 : sx_oks 197 x197_30 := ⟨Or.inr ⟨_, (sx_dd bb_197 dX8_reads_30), rfl, rfl⟩, ox197_31⟩
def x197_27 : List sx_E := (.getfield 22, 27, 30, [7, 5, 1], .null) :: x197_30
theorem ox197_27 : sx_oks 197 x197_27 := ⟨sx_q_get (w := (RX8, TX8, 31)) (sx_dd bb_197 dX8_reads_27) rfl rfl (Nat.le_of_ble_eq_true rfl) cu_7 (sx_ow3 oo_197 fl_StrawGarrisonModel_22) (by decide +kernel), ox197_30⟩
def x197_26 : List sx_E := (.aload 0, 26, 27, [], .null) :: x197_27
theorem ox197_26 : sx_oks 197 x197_26 := ⟨Or.inr ⟨_, (sx_dd bb_197 dX8_reads_26), rfl, rfl⟩, ox197_27⟩
def x197_25 : List sx_E := (.iload 2, 25, 26, [], .null) :: x197_26
theorem ox197_25 : sx_oks 197 x197_25 := ⟨Or.inr ⟨_, (sx_dd bb_197 dX8_reads_25), rfl, rfl⟩, ox197_26⟩
def x197_25h : List sx_E := (.monitorenter, 25, 25, [0, 1, 2], .null) :: x197_25
theorem ox197_25h : sx_oks 197 x197_25h := ⟨trivial, ox197_25⟩
def x197_24 : List sx_E := (.istore 2, 24, 25, [], .null) :: x197_25h
theorem ox197_24 : sx_oks 197 x197_24 := ⟨⟨sx_lt mm_197 (Nat.le_of_ble_eq_true rfl), Or.inr ⟨_, (sx_dd bb_197 dX8_reads_24), rfl, rfl⟩⟩, ox197_25h⟩
def x197_23 : List sx_E := (.nop, 23, 24, [], .int (nI 0)) :: x197_24
theorem ox197_23 : sx_oks 197 x197_23 := ⟨sx_k_iconst (sx_dd bb_197 dX8_reads_23) (by decide +kernel), ox197_24⟩
def x197_22 : List sx_E := (.ireturn, 22, 23, [0], .null) :: x197_23
theorem ox197_22 : sx_oks 197 x197_22 := ⟨sx_q_iret0 (sx_dd bb_197 dX8_reads_22) rr_197, ox197_23⟩
def x197_19 : List sx_E := (.nop, 19, 22, [], .int ((-1000000011))) :: x197_22
theorem ox197_19 : sx_oks 197 x197_19 := ⟨sx_k_ldcw (sx_dd bb_197 dX8_reads_19) (sx_ow1 oo_197 kc_StrawGarrisonModel_312), ox197_22⟩
def x197_16 : List sx_E := (.ifCond .ge (7), 16, 19, [23], .null) :: x197_19
theorem ox197_16 : sx_oks 197 x197_16 := ⟨⟨(sx_dd bb_197 dX8_reads_16), rfl, sx_t1 (by decide +kernel)⟩, ox197_19⟩
def x197_15 : List sx_E := (.iaload, 15, 16, [], .null) :: x197_16
theorem ox197_15 : sx_oks 197 x197_15 := ⟨⟨(sx_dd bb_197 dX8_reads_15), rfl⟩, ox197_16⟩
def x197_14 : List sx_E := (.iload 1, 14, 15, [], .null) :: x197_15
theorem ox197_14 : sx_oks 197 x197_14 := ⟨Or.inr ⟨_, (sx_dd bb_197 dX8_reads_14), rfl, rfl⟩, ox197_15⟩
def x197_11 : List sx_E := (.getfield 19, 11, 14, [7, 4, 1], .null) :: x197_14
theorem ox197_11 : sx_oks 197 x197_11 := ⟨sx_q_get (w := (RX8, TX8, 31)) (sx_dd bb_197 dX8_reads_11) rfl rfl (Nat.le_of_ble_eq_true rfl) cu_7 (sx_ow3 oo_197 fl_StrawGarrisonModel_19) (by decide +kernel), ox197_14⟩
def x197_10 : List sx_E := (.aload 0, 10, 11, [], .null) :: x197_11
theorem ox197_10 : sx_oks 197 x197_10 := ⟨Or.inr ⟨_, (sx_dd bb_197 dX8_reads_10), rfl, rfl⟩, ox197_11⟩
def x197_9 : List sx_E := (.ireturn, 9, 10, [0], .null) :: x197_10
theorem ox197_9 : sx_oks 197 x197_9 := ⟨sx_q_iret0 (sx_dd bb_197 dX8_reads_9) rr_197, ox197_10⟩
def x197_7 : List sx_E := (.nop, 7, 9, [], .int ((-1000000001))) :: x197_9
theorem ox197_7 : sx_oks 197 x197_7 := ⟨sx_k_ldc (sx_dd bb_197 dX8_reads_7) (sx_ow1 oo_197 kc_StrawGarrisonModel_88), ox197_9⟩
def x197_4 : List sx_E := (.ifCond .ne (6), 4, 7, [10], .null) :: x197_7
theorem ox197_4 : sx_oks 197 x197_4 := ⟨⟨(sx_dd bb_197 dX8_reads_4), rfl, sx_t1 (by decide +kernel)⟩, ox197_7⟩
def x197_1 : List sx_E := (.invokestatic 306, 1, 4, [193, 1, 0, 0], .null) :: x197_4
theorem ox197_1 : sx_oks 197 x197_1 := ⟨sx_q_S (sx_dd bb_197 dX8_reads_1) oo_197 lk_StrawGarrisonModel_306_S ft_193_h, ox197_4⟩
def x197_0 : List sx_E := (.iload 1, 0, 1, [], .null) :: x197_1
theorem ox197_0 : sx_oks 197 x197_0 := ⟨Or.inr ⟨_, (sx_dd bb_197 dX8_reads_0), rfl, rfl⟩, ox197_1⟩
theorem m197 : sx_mok 197 x197_0 := ⟨ox197_0, by decide +kernel⟩
theorem bb_198 : sx_by 198 = cX8_offBy := rfl
theorem oo_198 : (sx_nm 198).cls = "StrawGarrisonModel" := rfl
theorem mm_198 : sx_ml 198 = 6 := rfl
theorem rr_198 : sx_rt 198 = (some .int) := rfl
def x198_74 : List sx_E := (.ireturn, 74, 75, [0], .null) :: []
theorem ox198_74 : sx_oks 198 x198_74 := ⟨sx_q_iret0 (sx_dd bb_198 dX8_offBy_74) rr_198, trivial⟩
def x198_73 : List sx_E := (.iload 3, 73, 74, [], .null) :: x198_74
theorem ox198_73 : sx_oks 198 x198_73 := ⟨Or.inr ⟨_, (sx_dd bb_198 dX8_offBy_73), rfl, rfl⟩, ox198_74⟩
def x198_70 : List sx_E := (.invokevirtual 199, 70, 73, [161, 1, 0, 0, 7], .null) :: x198_73
theorem ox198_70 : sx_oks 198 x198_70 := ⟨sx_q_V (w := (RX8, TX8, 31)) (sx_dd bb_198 dX8_offBy_70) oo_198 lk_StrawGarrisonModel_199_V ft_161_h (Nat.le_of_ble_eq_true rfl) rfl rfl, ox198_73⟩
def x198_69 : List sx_E := (.aload 0, 69, 70, [], .null) :: x198_70
theorem ox198_69 : sx_oks 198 x198_69 := ⟨Or.inr ⟨_, (sx_dd bb_198 dX8_offBy_69), rfl, rfl⟩, ox198_70⟩
def x198_66 : List sx_E := (.goto (-57), 66, 69, [9], .null) :: x198_69
theorem ox198_66 : sx_oks 198 x198_66 := ⟨⟨(sx_dd bb_198 dX8_offBy_66), sx_t1 (by decide +kernel)⟩, ox198_69⟩
def x198_63 : List sx_E := (.iinc 4 (1), 63, 66, [], .int (nI 1)) :: x198_66
theorem ox198_63 : sx_oks 198 x198_63 := ⟨⟨sx_lt mm_198 (Nat.le_of_ble_eq_true rfl), (sx_dd bb_198 dX8_offBy_63), rfl, by decide +kernel⟩, ox198_66⟩
def x198_60 : List sx_E := (.invokevirtual 176, 60, 63, [149, 1, 0, 0, 7], .null) :: x198_63
theorem ox198_60 : sx_oks 198 x198_60 := ⟨sx_q_V (w := (RX8, TX8, 31)) (sx_dd bb_198 dX8_offBy_60) oo_198 lk_StrawGarrisonModel_176_V ft_149_h (Nat.le_of_ble_eq_true rfl) rfl rfl, ox198_63⟩
def x198_59 : List sx_E := (.aload 0, 59, 60, [], .null) :: x198_60
theorem ox198_59 : sx_oks 198 x198_59 := ⟨Or.inr ⟨_, (sx_dd bb_198 dX8_offBy_59), rfl, rfl⟩, ox198_60⟩
def x198_58 : List sx_E := (.istore 3, 58, 59, [], .null) :: x198_59
theorem ox198_58 : sx_oks 198 x198_58 := ⟨⟨sx_lt mm_198 (Nat.le_of_ble_eq_true rfl), Or.inr ⟨_, (sx_dd bb_198 dX8_offBy_58), rfl, rfl⟩⟩, ox198_59⟩
def x198_57 : List sx_E := (.iadd, 57, 58, [], .null) :: x198_58
theorem ox198_57 : sx_oks 198 x198_57 := ⟨⟨(sx_dd bb_198 dX8_offBy_57), rfl⟩, ox198_58⟩
def x198_54 : List sx_E := (.invokestatic 154, 54, 57, [116, 2, 0, 0], .null) :: x198_57
theorem ox198_54 : sx_oks 198 x198_54 := ⟨sx_q_S (sx_dd bb_198 dX8_offBy_54) oo_198 lk_StrawGarrisonModel_154_S ft_116_h, ox198_57⟩
def x198_51 : List sx_E := (.invokevirtual 72, 51, 54, [119, 3, 0, 0, 7], .null) :: x198_54
theorem ox198_51 : sx_oks 198 x198_51 := ⟨sx_q_V (w := (RX8, TX8, 31)) (sx_dd bb_198 dX8_offBy_51) oo_198 lk_StrawGarrisonModel_72_V ft_119_h (Nat.le_of_ble_eq_true rfl) rfl rfl, ox198_54⟩
def x198_50 : List sx_E := (.nop, 50, 51, [], .int (nI 3)) :: x198_51
theorem ox198_50 : sx_oks 198 x198_50 := ⟨sx_k_iconst (sx_dd bb_198 dX8_offBy_50) (by decide +kernel), ox198_51⟩
def x198_49 : List sx_E := (.iload 2, 49, 50, [], .null) :: x198_50
theorem ox198_49 : sx_oks 198 x198_49 := ⟨Or.inr ⟨_, (sx_dd bb_198 dX8_offBy_49), rfl, rfl⟩, ox198_50⟩
def x198_48 : List sx_E := (.aload 0, 48, 49, [], .null) :: x198_49
theorem ox198_48 : sx_oks 198 x198_48 := ⟨Or.inr ⟨_, (sx_dd bb_198 dX8_offBy_48), rfl, rfl⟩, ox198_49⟩
def x198_46 : List sx_E := (.iload 5, 46, 48, [], .null) :: x198_48
theorem ox198_46 : sx_oks 198 x198_46 := ⟨Or.inl ⟨(sx_dd bb_198 dX8_offBy_46), rfl⟩, ox198_48⟩
def x198_43 : List sx_E := (.goto (14), 43, 46, [57], .null) :: x198_46
theorem ox198_43 : sx_oks 198 x198_43 := ⟨⟨(sx_dd bb_198 dX8_offBy_43), sx_t1 (by decide +kernel)⟩, ox198_46⟩
def x198_42 : List sx_E := (.nop, 42, 43, [], .int (nI 0)) :: x198_43
theorem ox198_42 : sx_oks 198 x198_42 := ⟨sx_k_iconst (sx_dd bb_198 dX8_offBy_42) (by decide +kernel), ox198_43⟩
def x198_39 : List sx_E := (.if_icmp .ne (7), 39, 42, [46], .null) :: x198_42
theorem ox198_39 : sx_oks 198 x198_39 := ⟨⟨(sx_dd bb_198 dX8_offBy_39), rfl, sx_t1 (by decide +kernel)⟩, ox198_42⟩
def x198_37 : List sx_E := (.nop, 37, 39, [], .int ((-1000000005))) :: x198_39
theorem ox198_37 : sx_oks 198 x198_37 := ⟨sx_k_ldc (sx_dd bb_198 dX8_offBy_37) (sx_ow1 oo_198 kc_StrawGarrisonModel_64), ox198_39⟩
def x198_35 : List sx_E := (.iload 5, 35, 37, [], .null) :: x198_37
theorem ox198_35 : sx_oks 198 x198_35 := ⟨Or.inl ⟨(sx_dd bb_198 dX8_offBy_35), rfl⟩, ox198_37⟩
def x198_34 : List sx_E := (.iload 3, 34, 35, [], .null) :: x198_35
theorem ox198_34 : sx_oks 198 x198_34 := ⟨Or.inr ⟨_, (sx_dd bb_198 dX8_offBy_34), rfl, rfl⟩, ox198_35⟩
def x198_32 : List sx_E := (.istore 5, 32, 34, [], .null) :: x198_34
theorem ox198_32 : sx_oks 198 x198_32 := ⟨⟨sx_lt mm_198 (Nat.le_of_ble_eq_true rfl), Or.inl ⟨(sx_dd bb_198 dX8_offBy_32), rfl⟩⟩, ox198_34⟩
def x198_31 : List sx_E := (.iaload, 31, 32, [], .null) :: x198_32
theorem ox198_31 : sx_oks 198 x198_31 := ⟨⟨(sx_dd bb_198 dX8_offBy_31), rfl⟩, ox198_32⟩
def x198_30 : List sx_E := (.iadd, 30, 31, [], .null) :: x198_31
theorem ox198_30 : sx_oks 198 x198_30 := ⟨⟨(sx_dd bb_198 dX8_offBy_30), rfl⟩, ox198_31⟩
def x198_28 : List sx_E := (.iload 4, 28, 30, [], .null) :: x198_30
theorem ox198_28 : sx_oks 198 x198_28 := ⟨Or.inl ⟨(sx_dd bb_198 dX8_offBy_28), rfl⟩, ox198_30⟩
def x198_27 : List sx_E := (.imul, 27, 28, [], .null) :: x198_28
theorem ox198_27 : sx_oks 198 x198_27 := ⟨⟨(sx_dd bb_198 dX8_offBy_27), rfl⟩, ox198_28⟩
def x198_26 : List sx_E := (.iload 1, 26, 27, [], .null) :: x198_27
theorem ox198_26 : sx_oks 198 x198_26 := ⟨Or.inr ⟨_, (sx_dd bb_198 dX8_offBy_26), rfl, rfl⟩, ox198_27⟩
def x198_24 : List sx_E := (.nop, 24, 26, [], .int (nI 24)) :: x198_26
theorem ox198_24 : sx_oks 198 x198_24 := ⟨sx_k_bipush (sx_dd bb_198 dX8_offBy_24) (by decide +kernel), ox198_26⟩
def x198_21 : List sx_E := (.getfield 25, 21, 24, [7, 6, 1], .null) :: x198_24
theorem ox198_21 : sx_oks 198 x198_21 := ⟨sx_q_get (w := (RX8, TX8, 31)) (sx_dd bb_198 dX8_offBy_21) rfl rfl (Nat.le_of_ble_eq_true rfl) cu_7 (sx_ow3 oo_198 fl_StrawGarrisonModel_25) (by decide +kernel), ox198_24⟩
def x198_20 : List sx_E := (.aload 0, 20, 21, [], .null) :: x198_21
theorem ox198_20 : sx_oks 198 x198_20 := ⟨Or.inr ⟨_, (sx_dd bb_198 dX8_offBy_20), rfl, rfl⟩, ox198_21⟩
def x198_17 : List sx_E := (.if_icmp .ge (52), 17, 20, [69], .null) :: x198_20
theorem ox198_17 : sx_oks 198 x198_17 := ⟨⟨(sx_dd bb_198 dX8_offBy_17), rfl, sx_t1 (by decide +kernel)⟩, ox198_20⟩
def x198_16 : List sx_E := (.iaload, 16, 17, [], .null) :: x198_17
theorem ox198_16 : sx_oks 198 x198_16 := ⟨⟨(sx_dd bb_198 dX8_offBy_16), rfl⟩, ox198_17⟩
def x198_15 : List sx_E := (.iload 1, 15, 16, [], .null) :: x198_16
theorem ox198_15 : sx_oks 198 x198_15 := ⟨Or.inr ⟨_, (sx_dd bb_198 dX8_offBy_15), rfl, rfl⟩, ox198_16⟩
def x198_12 : List sx_E := (.getfield 22, 12, 15, [7, 5, 1], .null) :: x198_15
theorem ox198_12 : sx_oks 198 x198_12 := ⟨sx_q_get (w := (RX8, TX8, 31)) (sx_dd bb_198 dX8_offBy_12) rfl rfl (Nat.le_of_ble_eq_true rfl) cu_7 (sx_ow3 oo_198 fl_StrawGarrisonModel_22) (by decide +kernel), ox198_15⟩
def x198_11 : List sx_E := (.aload 0, 11, 12, [], .null) :: x198_12
theorem ox198_11 : sx_oks 198 x198_11 := ⟨Or.inr ⟨_, (sx_dd bb_198 dX8_offBy_11), rfl, rfl⟩, ox198_12⟩
def x198_9 : List sx_E := (.iload 4, 9, 11, [], .null) :: x198_11
theorem ox198_9 : sx_oks 198 x198_9 := ⟨Or.inl ⟨(sx_dd bb_198 dX8_offBy_9), rfl⟩, ox198_11⟩
def x198_9h : List sx_E := (.monitorenter, 9, 9, [0, 1, 2, 3, 4], .null) :: x198_9
theorem ox198_9h : sx_oks 198 x198_9h := ⟨trivial, ox198_9⟩
def x198_7 : List sx_E := (.istore 4, 7, 9, [], .null) :: x198_9h
theorem ox198_7 : sx_oks 198 x198_7 := ⟨⟨sx_lt mm_198 (Nat.le_of_ble_eq_true rfl), Or.inl ⟨(sx_dd bb_198 dX8_offBy_7), rfl⟩⟩, ox198_9h⟩
def x198_6 : List sx_E := (.nop, 6, 7, [], .int (nI 0)) :: x198_7
theorem ox198_6 : sx_oks 198 x198_6 := ⟨sx_k_iconst (sx_dd bb_198 dX8_offBy_6) (by decide +kernel), ox198_7⟩
def x198_5 : List sx_E := (.istore 3, 5, 6, [], .null) :: x198_6
theorem ox198_5 : sx_oks 198 x198_5 := ⟨⟨sx_lt mm_198 (Nat.le_of_ble_eq_true rfl), Or.inr ⟨_, (sx_dd bb_198 dX8_offBy_5), rfl, rfl⟩⟩, ox198_6⟩
def x198_4 : List sx_E := (.nop, 4, 5, [], .int (nI 0)) :: x198_5
theorem ox198_4 : sx_oks 198 x198_4 := ⟨sx_k_iconst (sx_dd bb_198 dX8_offBy_4) (by decide +kernel), ox198_5⟩
def x198_1 : List sx_E := (.invokevirtual 196, 1, 4, [160, 1, 0, 0, 7], .null) :: x198_4
theorem ox198_1 : sx_oks 198 x198_1 := ⟨sx_q_V (w := (RX8, TX8, 31)) (sx_dd bb_198 dX8_offBy_1) oo_198 lk_StrawGarrisonModel_196_V ft_160_h (Nat.le_of_ble_eq_true rfl) rfl rfl, ox198_4⟩
def x198_0 : List sx_E := (.aload 0, 0, 1, [], .null) :: x198_1
theorem ox198_0 : sx_oks 198 x198_0 := ⟨Or.inr ⟨_, (sx_dd bb_198 dX8_offBy_0), rfl, rfl⟩, ox198_1⟩
theorem m198 : sx_mok 198 x198_0 := ⟨ox198_0, by decide +kernel⟩
