theorem bb_72 : sx_by 72 = cX7_covers := rfl
theorem oo_72 : (sx_nm 72).cls = "StrawGarrison" := rfl
theorem mm_72 : sx_ml 72 = 8 := rfl
theorem rr_72 : sx_rt 72 = (some .int) := rfl
def x72_102 : List sx_E := (.ireturn, 102, 103, [0], .null) :: []
theorem ox72_102 : sx_oks 72 x72_102 := ⟨sx_q_iret0 (sx_dd bb_72 dX7_covers_102) rr_72, trivial⟩
def x72_100 : List sx_E := (.iload 4, 100, 102, [], .null) :: x72_102
theorem ox72_100 : sx_oks 72 x72_100 := ⟨Or.inl ⟨(sx_dd bb_72 dX7_covers_100), rfl⟩, ox72_102⟩
def x72_97 : List sx_E := (.goto (5), 97, 100, [102], .null) :: x72_100
theorem ox72_97 : sx_oks 72 x72_97 := ⟨⟨(sx_dd bb_72 dX7_covers_97), sx_t1 (by decide +kernel)⟩, ox72_100⟩
def x72_96 : List sx_E := (.iload 3, 96, 97, [], .null) :: x72_97
theorem ox72_96 : sx_oks 72 x72_96 := ⟨Or.inr ⟨_, (sx_dd bb_72 dX7_covers_96), rfl, rfl⟩, ox72_97⟩
def x72_93 : List sx_E := (.ifCond .ne (7), 93, 96, [100], .null) :: x72_96
theorem ox72_93 : sx_oks 72 x72_93 := ⟨⟨(sx_dd bb_72 dX7_covers_93), rfl, sx_t1 (by decide +kernel)⟩, ox72_96⟩
def x72_92 : List sx_E := (.iload 2, 92, 93, [], .null) :: x72_93
theorem ox72_92 : sx_oks 72 x72_92 := ⟨Or.inr ⟨_, (sx_dd bb_72 dX7_covers_92), rfl, rfl⟩, ox72_93⟩
def x72_89 : List sx_E := (.goto (-60), 89, 92, [29], .null) :: x72_92
theorem ox72_89 : sx_oks 72 x72_89 := ⟨⟨(sx_dd bb_72 dX7_covers_89), sx_t1 (by decide +kernel)⟩, ox72_92⟩
def x72_86 : List sx_E := (.iinc 5 (1), 86, 89, [], .int (nI 1)) :: x72_89
theorem ox72_86 : sx_oks 72 x72_86 := ⟨⟨sx_lt mm_72 (Nat.le_of_ble_eq_true rfl), (sx_dd bb_72 dX7_covers_86), rfl, by decide +kernel⟩, ox72_89⟩
def x72_85 : List sx_E := (.istore 3, 85, 86, [], .null) :: x72_86
theorem ox72_85 : sx_oks 72 x72_85 := ⟨⟨sx_lt mm_72 (Nat.le_of_ble_eq_true rfl), Or.inr ⟨_, (sx_dd bb_72 dX7_covers_85), rfl, rfl⟩⟩, ox72_86⟩
def x72_83 : List sx_E := (.iload 5, 83, 85, [], .null) :: x72_85
theorem ox72_83 : sx_oks 72 x72_83 := ⟨Or.inl ⟨(sx_dd bb_72 dX7_covers_83), rfl⟩, ox72_85⟩
def x72_81 : List sx_E := (.istore 4, 81, 83, [], .null) :: x72_83
theorem ox72_81 : sx_oks 72 x72_81 := ⟨⟨sx_lt mm_72 (Nat.le_of_ble_eq_true rfl), Or.inl ⟨(sx_dd bb_72 dX7_covers_81), rfl⟩⟩, ox72_83⟩
def x72_79 : List sx_E := (.iload 7, 79, 81, [], .null) :: x72_81
theorem ox72_79 : sx_oks 72 x72_79 := ⟨Or.inl ⟨(sx_dd bb_72 dX7_covers_79), rfl⟩, ox72_81⟩
def x72_76 : List sx_E := (.if_icmp .le (10), 76, 79, [86], .null) :: x72_79
theorem ox72_76 : sx_oks 72 x72_76 := ⟨⟨(sx_dd bb_72 dX7_covers_76), rfl, sx_t1 (by decide +kernel)⟩, ox72_79⟩
def x72_74 : List sx_E := (.iload 4, 74, 76, [], .null) :: x72_76
theorem ox72_74 : sx_oks 72 x72_74 := ⟨Or.inl ⟨(sx_dd bb_72 dX7_covers_74), rfl⟩, ox72_76⟩
def x72_72 : List sx_E := (.iload 7, 72, 74, [], .null) :: x72_74
theorem ox72_72 : sx_oks 72 x72_72 := ⟨Or.inl ⟨(sx_dd bb_72 dX7_covers_72), rfl⟩, ox72_74⟩
def x72_70 : List sx_E := (.istore 7, 70, 72, [], .null) :: x72_72
theorem ox72_70 : sx_oks 72 x72_70 := ⟨⟨sx_lt mm_72 (Nat.le_of_ble_eq_true rfl), Or.inl ⟨(sx_dd bb_72 dX7_covers_70), rfl⟩⟩, ox72_72⟩
def x72_67 : List sx_E := (.invokevirtual 172, 67, 70, [18, 3, 0, 0, 1], .null) :: x72_70
theorem ox72_67 : sx_oks 72 x72_67 := ⟨sx_q_V (w := (RX1, TX1, 11)) (sx_dd bb_72 dX7_covers_67) oo_72 lk_StrawGarrison_172_V ft_18_h (Nat.le_of_ble_eq_true rfl) rfl rfl, ox72_70⟩
def x72_65 : List sx_E := (.iload 5, 65, 67, [], .null) :: x72_67
theorem ox72_65 : sx_oks 72 x72_65 := ⟨Or.inl ⟨(sx_dd bb_72 dX7_covers_65), rfl⟩, ox72_67⟩
def x72_64 : List sx_E := (.iload 1, 64, 65, [], .null) :: x72_65
theorem ox72_64 : sx_oks 72 x72_64 := ⟨Or.inr ⟨_, (sx_dd bb_72 dX7_covers_64), rfl, rfl⟩, ox72_65⟩
def x72_61 : List sx_E := (.getfield 10, 61, 64, [6, 1, 1], .null) :: x72_64
theorem ox72_61 : sx_oks 72 x72_61 := ⟨sx_q_get (w := (RX7, TX7, 12)) (sx_dd bb_72 dX7_covers_61) rfl rfl (Nat.le_of_ble_eq_true rfl) cu_6 (sx_ow3 oo_72 fl_StrawGarrison_10) (by decide +kernel), ox72_64⟩
def x72_60 : List sx_E := (.aload 0, 60, 61, [], .null) :: x72_61
theorem ox72_60 : sx_oks 72 x72_60 := ⟨Or.inr ⟨_, (sx_dd bb_72 dX7_covers_60), rfl, rfl⟩, ox72_61⟩
def x72_57 : List sx_E := (.if_icmp .ne (29), 57, 60, [86], .null) :: x72_60
theorem ox72_57 : sx_oks 72 x72_57 := ⟨⟨(sx_dd bb_72 dX7_covers_57), rfl, sx_t1 (by decide +kernel)⟩, ox72_60⟩
def x72_56 : List sx_E := (.iload 1, 56, 57, [], .null) :: x72_57
theorem ox72_56 : sx_oks 72 x72_56 := ⟨Or.inr ⟨_, (sx_dd bb_72 dX7_covers_56), rfl, rfl⟩, ox72_57⟩
def x72_54 : List sx_E := (.iload 6, 54, 56, [], .null) :: x72_56
theorem ox72_54 : sx_oks 72 x72_54 := ⟨Or.inl ⟨(sx_dd bb_72 dX7_covers_54), rfl⟩, ox72_56⟩
def x72_51 : List sx_E := (.if_icmp .eq (9), 51, 54, [60], .null) :: x72_54
theorem ox72_51 : sx_oks 72 x72_51 := ⟨⟨(sx_dd bb_72 dX7_covers_51), rfl, sx_t1 (by decide +kernel)⟩, ox72_54⟩
def x72_49 : List sx_E := (.nop, 49, 51, [], .int ((-1000000005))) :: x72_51
theorem ox72_49 : sx_oks 72 x72_49 := ⟨sx_k_ldc (sx_dd bb_72 dX7_covers_49) (sx_ow1 oo_72 kc_StrawGarrison_81), ox72_51⟩
def x72_47 : List sx_E := (.iload 6, 47, 49, [], .null) :: x72_49
theorem ox72_47 : sx_oks 72 x72_47 := ⟨Or.inl ⟨(sx_dd bb_72 dX7_covers_47), rfl⟩, ox72_49⟩
def x72_45 : List sx_E := (.istore 6, 45, 47, [], .null) :: x72_47
theorem ox72_45 : sx_oks 72 x72_45 := ⟨⟨sx_lt mm_72 (Nat.le_of_ble_eq_true rfl), Or.inl ⟨(sx_dd bb_72 dX7_covers_45), rfl⟩⟩, ox72_47⟩
def x72_42 : List sx_E := (.invokevirtual 77, 42, 45, [10, 2, 0, 0, 1], .null) :: x72_45
theorem ox72_42 : sx_oks 72 x72_42 := ⟨sx_q_V (w := (RX1, TX1, 11)) (sx_dd bb_72 dX7_covers_42) oo_72 lk_StrawGarrison_77_V ft_10_h (Nat.le_of_ble_eq_true rfl) rfl rfl, ox72_45⟩
def x72_40 : List sx_E := (.iload 5, 40, 42, [], .null) :: x72_42
theorem ox72_40 : sx_oks 72 x72_40 := ⟨Or.inl ⟨(sx_dd bb_72 dX7_covers_40), rfl⟩, ox72_42⟩
def x72_37 : List sx_E := (.getfield 10, 37, 40, [6, 1, 1], .null) :: x72_40
theorem ox72_37 : sx_oks 72 x72_37 := ⟨sx_q_get (w := (RX7, TX7, 12)) (sx_dd bb_72 dX7_covers_37) rfl rfl (Nat.le_of_ble_eq_true rfl) cu_6 (sx_ow3 oo_72 fl_StrawGarrison_10) (by decide +kernel), ox72_40⟩
def x72_36 : List sx_E := (.aload 0, 36, 37, [], .null) :: x72_37
theorem ox72_36 : sx_oks 72 x72_36 := ⟨Or.inr ⟨_, (sx_dd bb_72 dX7_covers_36), rfl, rfl⟩, ox72_37⟩
def x72_33 : List sx_E := (.if_icmp .ge (59), 33, 36, [92], .null) :: x72_36
theorem ox72_33 : sx_oks 72 x72_33 := ⟨⟨(sx_dd bb_72 dX7_covers_33), rfl, sx_t1 (by decide +kernel)⟩, ox72_36⟩
def x72_31 : List sx_E := (.nop, 31, 33, [], .int (nI 20)) :: x72_33
theorem ox72_31 : sx_oks 72 x72_31 := ⟨sx_k_bipush (sx_dd bb_72 dX7_covers_31) (by decide +kernel), ox72_33⟩
def x72_29 : List sx_E := (.iload 5, 29, 31, [], .null) :: x72_31
theorem ox72_29 : sx_oks 72 x72_29 := ⟨Or.inl ⟨(sx_dd bb_72 dX7_covers_29), rfl⟩, ox72_31⟩
def x72_29h : List sx_E := (.monitorenter, 29, 29, [0, 1, 2, 3, 4, 5], .null) :: x72_29
theorem ox72_29h : sx_oks 72 x72_29h := ⟨trivial, ox72_29⟩
def x72_27 : List sx_E := (.istore 5, 27, 29, [], .null) :: x72_29h
theorem ox72_27 : sx_oks 72 x72_27 := ⟨⟨sx_lt mm_72 (Nat.le_of_ble_eq_true rfl), Or.inl ⟨(sx_dd bb_72 dX7_covers_27), rfl⟩⟩, ox72_29h⟩
def x72_26 : List sx_E := (.nop, 26, 27, [], .int (nI 0)) :: x72_27
theorem ox72_26 : sx_oks 72 x72_26 := ⟨sx_k_iconst (sx_dd bb_72 dX7_covers_26) (by decide +kernel), ox72_27⟩
def x72_24 : List sx_E := (.istore 4, 24, 26, [], .null) :: x72_26
theorem ox72_24 : sx_oks 72 x72_24 := ⟨⟨sx_lt mm_72 (Nat.le_of_ble_eq_true rfl), Or.inl ⟨(sx_dd bb_72 dX7_covers_24), rfl⟩⟩, ox72_26⟩
def x72_23 : List sx_E := (.nop, 23, 24, [], .int ((-1))) :: x72_24
theorem ox72_23 : sx_oks 72 x72_23 := ⟨sx_k_iconst (sx_dd bb_72 dX7_covers_23) (by decide +kernel), ox72_24⟩
def x72_22 : List sx_E := (.istore 3, 22, 23, [], .null) :: x72_23
theorem ox72_22 : sx_oks 72 x72_22 := ⟨⟨sx_lt mm_72 (Nat.le_of_ble_eq_true rfl), Or.inr ⟨_, (sx_dd bb_72 dX7_covers_22), rfl, rfl⟩⟩, ox72_23⟩
def x72_20 : List sx_E := (.nop, 20, 22, [], .int ((-1000000005))) :: x72_22
theorem ox72_20 : sx_oks 72 x72_20 := ⟨sx_k_ldc (sx_dd bb_72 dX7_covers_20) (sx_ow1 oo_72 kc_StrawGarrison_81), ox72_22⟩
def x72_19 : List sx_E := (.ireturn, 19, 20, [0], .null) :: x72_20
theorem ox72_19 : sx_oks 72 x72_19 := ⟨sx_q_iret0 (sx_dd bb_72 dX7_covers_19) rr_72, ox72_20⟩
def x72_17 : List sx_E := (.nop, 17, 19, [], .int ((-1000000001))) :: x72_19
theorem ox72_17 : sx_oks 72 x72_17 := ⟨sx_k_ldc (sx_dd bb_72 dX7_covers_17) (sx_ow1 oo_72 kc_StrawGarrison_76), ox72_19⟩
def x72_14 : List sx_E := (.ifCond .ne (6), 14, 17, [20], .null) :: x72_17
theorem ox72_14 : sx_oks 72 x72_14 := ⟨⟨(sx_dd bb_72 dX7_covers_14), rfl, sx_t1 (by decide +kernel)⟩, ox72_17⟩
def x72_11 : List sx_E := (.invokestatic 72, 11, 14, [106, 3, 0, 0], .null) :: x72_14
theorem ox72_11 : sx_oks 72 x72_11 := ⟨sx_q_S (sx_dd bb_72 dX7_covers_11) oo_72 lk_StrawGarrison_72_S ft_106_h, ox72_14⟩
def x72_10 : List sx_E := (.nop, 10, 11, [], .int (nI 1)) :: x72_11
theorem ox72_10 : sx_oks 72 x72_10 := ⟨sx_k_iconst (sx_dd bb_72 dX7_covers_10) (by decide +kernel), ox72_11⟩
def x72_9 : List sx_E := (.nop, 9, 10, [], .int (nI 0)) :: x72_10
theorem ox72_9 : sx_oks 72 x72_9 := ⟨sx_k_iconst (sx_dd bb_72 dX7_covers_9) (by decide +kernel), ox72_10⟩
def x72_8 : List sx_E := (.iload 2, 8, 9, [], .null) :: x72_9
theorem ox72_8 : sx_oks 72 x72_8 := ⟨Or.inr ⟨_, (sx_dd bb_72 dX7_covers_8), rfl, rfl⟩, ox72_9⟩
def x72_5 : List sx_E := (.ifCond .eq (12), 5, 8, [17], .null) :: x72_8
theorem ox72_5 : sx_oks 72 x72_5 := ⟨⟨(sx_dd bb_72 dX7_covers_5), rfl, sx_t1 (by decide +kernel)⟩, ox72_8⟩
def x72_2 : List sx_E := (.invokevirtual 91, 2, 5, [101, 2, 0, 0, 6], .null) :: x72_5
theorem ox72_2 : sx_oks 72 x72_2 := ⟨sx_q_V (w := (RX7, TX7, 12)) (sx_dd bb_72 dX7_covers_2) oo_72 lk_StrawGarrison_91_V ft_101_h (Nat.le_of_ble_eq_true rfl) rfl rfl, ox72_5⟩
def x72_1 : List sx_E := (.iload 1, 1, 2, [], .null) :: x72_2
theorem ox72_1 : sx_oks 72 x72_1 := ⟨Or.inr ⟨_, (sx_dd bb_72 dX7_covers_1), rfl, rfl⟩, ox72_2⟩
def x72_0 : List sx_E := (.aload 0, 0, 1, [], .null) :: x72_1
theorem ox72_0 : sx_oks 72 x72_0 := ⟨Or.inr ⟨_, (sx_dd bb_72 dX7_covers_0), rfl, rfl⟩, ox72_1⟩
theorem m72 : sx_mok 72 x72_0 := ⟨ox72_0, by decide +kernel⟩
theorem bb_73 : sx_by 73 = cX7_fewest := rfl
theorem oo_73 : (sx_nm 73).cls = "StrawGarrison" := rfl
theorem mm_73 : sx_ml 73 = 5 := rfl
theorem rr_73 : sx_rt 73 = (some .int) := rfl
def x73_66 : List sx_E := (.ireturn, 66, 67, [0], .null) :: []
theorem ox73_66 : sx_oks 73 x73_66 := ⟨sx_q_iret0 (sx_dd bb_73 dX7_fewest_66) rr_73, trivial⟩
def x73_65 : List sx_E := (.iload 1, 65, 66, [], .null) :: x73_66
theorem ox73_65 : sx_oks 73 x73_65 := ⟨Or.inr ⟨_, (sx_dd bb_73 dX7_fewest_65), rfl, rfl⟩, ox73_66⟩
def x73_62 : List sx_E := (.goto (-56), 62, 65, [6], .null) :: x73_65
theorem ox73_62 : sx_oks 73 x73_62 := ⟨⟨(sx_dd bb_73 dX7_fewest_62), sx_t1 (by decide +kernel)⟩, ox73_65⟩
def x73_59 : List sx_E := (.iinc 3 (1), 59, 62, [], .int (nI 1)) :: x73_62
theorem ox73_59 : sx_oks 73 x73_59 := ⟨⟨sx_lt mm_73 (Nat.le_of_ble_eq_true rfl), (sx_dd bb_73 dX7_fewest_59), rfl, by decide +kernel⟩, ox73_62⟩
def x73_56 : List sx_E := (.iinc 1 (1), 56, 59, [], .int (nI 1)) :: x73_59
theorem ox73_56 : sx_oks 73 x73_56 := ⟨⟨sx_lt mm_73 (Nat.le_of_ble_eq_true rfl), (sx_dd bb_73 dX7_fewest_56), rfl, by decide +kernel⟩, ox73_59⟩
def x73_55 : List sx_E := (.istore 2, 55, 56, [], .null) :: x73_56
theorem ox73_55 : sx_oks 73 x73_55 := ⟨⟨sx_lt mm_73 (Nat.le_of_ble_eq_true rfl), Or.inr ⟨_, (sx_dd bb_73 dX7_fewest_55), rfl, rfl⟩⟩, ox73_56⟩
def x73_54 : List sx_E := (.iadd, 54, 55, [], .null) :: x73_55
theorem ox73_54 : sx_oks 73 x73_54 := ⟨⟨(sx_dd bb_73 dX7_fewest_54), rfl⟩, ox73_55⟩
def x73_53 : List sx_E := (.nop, 53, 54, [], .int (nI 2)) :: x73_54
theorem ox73_53 : sx_oks 73 x73_53 := ⟨sx_k_iconst (sx_dd bb_73 dX7_fewest_53) (by decide +kernel), ox73_54⟩
def x73_52 : List sx_E := (.iadd, 52, 53, [], .null) :: x73_53
theorem ox73_52 : sx_oks 73 x73_52 := ⟨⟨(sx_dd bb_73 dX7_fewest_52), rfl⟩, ox73_53⟩
def x73_51 : List sx_E := (.nop, 51, 52, [], .int (nI 2)) :: x73_52
theorem ox73_51 : sx_oks 73 x73_51 := ⟨sx_k_iconst (sx_dd bb_73 dX7_fewest_51) (by decide +kernel), ox73_52⟩
def x73_50 : List sx_E := (.iload 3, 50, 51, [], .null) :: x73_51
theorem ox73_50 : sx_oks 73 x73_50 := ⟨Or.inr ⟨_, (sx_dd bb_73 dX7_fewest_50), rfl, rfl⟩, ox73_51⟩
def x73_47 : List sx_E := (.ifCond .ne (12), 47, 50, [59], .null) :: x73_50
theorem ox73_47 : sx_oks 73 x73_47 := ⟨⟨(sx_dd bb_73 dX7_fewest_47), rfl, sx_t1 (by decide +kernel)⟩, ox73_50⟩
def x73_44 : List sx_E := (.invokestatic 175, 44, 47, [26, 1, 0, 0], .null) :: x73_47
theorem ox73_44 : sx_oks 73 x73_44 := ⟨sx_q_S (sx_dd bb_73 dX7_fewest_44) oo_73 lk_StrawGarrison_175_S ft_26_h, ox73_47⟩
def x73_43 : List sx_E := (.iaload, 43, 44, [], .null) :: x73_44
theorem ox73_43 : sx_oks 73 x73_43 := ⟨⟨(sx_dd bb_73 dX7_fewest_43), rfl⟩, ox73_44⟩
def x73_41 : List sx_E := (.iload 4, 41, 43, [], .null) :: x73_43
theorem ox73_41 : sx_oks 73 x73_41 := ⟨Or.inl ⟨(sx_dd bb_73 dX7_fewest_41), rfl⟩, ox73_43⟩
def x73_38 : List sx_E := (.getfield 94, 38, 41, [1, 2, 1], .null) :: x73_41
theorem ox73_38 : sx_oks 73 x73_38 := ⟨sx_q_get (w := (RX1, TX1, 11)) (sx_dd bb_73 dX7_fewest_38) rfl rfl (Nat.le_of_ble_eq_true rfl) cu_1 (sx_ow3 oo_73 fl_StrawGarrison_94) (by decide +kernel), ox73_41⟩
def x73_35 : List sx_E := (.getfield 10, 35, 38, [6, 1, 1], .null) :: x73_38
theorem ox73_35 : sx_oks 73 x73_35 := ⟨sx_q_get (w := (RX7, TX7, 12)) (sx_dd bb_73 dX7_fewest_35) rfl rfl (Nat.le_of_ble_eq_true rfl) cu_6 (sx_ow3 oo_73 fl_StrawGarrison_10) (by decide +kernel), ox73_38⟩
def x73_34 : List sx_E := (.aload 0, 34, 35, [], .null) :: x73_35
theorem ox73_34 : sx_oks 73 x73_34 := ⟨Or.inr ⟨_, (sx_dd bb_73 dX7_fewest_34), rfl, rfl⟩, ox73_35⟩
def x73_31 : List sx_E := (.if_icmp .eq (28), 31, 34, [59], .null) :: x73_34
theorem ox73_31 : sx_oks 73 x73_31 := ⟨⟨(sx_dd bb_73 dX7_fewest_31), rfl, sx_t1 (by decide +kernel)⟩, ox73_34⟩
def x73_29 : List sx_E := (.nop, 29, 31, [], .int ((-1000000005))) :: x73_31
theorem ox73_29 : sx_oks 73 x73_29 := ⟨sx_k_ldc (sx_dd bb_73 dX7_fewest_29) (sx_ow1 oo_73 kc_StrawGarrison_81), ox73_31⟩
def x73_27 : List sx_E := (.iload 4, 27, 29, [], .null) :: x73_29
theorem ox73_27 : sx_oks 73 x73_27 := ⟨Or.inl ⟨(sx_dd bb_73 dX7_fewest_27), rfl⟩, ox73_29⟩
def x73_24 : List sx_E := (.if_icmp .le (35), 24, 27, [59], .null) :: x73_27
theorem ox73_24 : sx_oks 73 x73_24 := ⟨⟨(sx_dd bb_73 dX7_fewest_24), rfl, sx_t1 (by decide +kernel)⟩, ox73_27⟩
def x73_23 : List sx_E := (.iload 2, 23, 24, [], .null) :: x73_24
theorem ox73_23 : sx_oks 73 x73_23 := ⟨Or.inr ⟨_, (sx_dd bb_73 dX7_fewest_23), rfl, rfl⟩, ox73_24⟩
def x73_22 : List sx_E := (.iload 3, 22, 23, [], .null) :: x73_23
theorem ox73_22 : sx_oks 73 x73_22 := ⟨Or.inr ⟨_, (sx_dd bb_73 dX7_fewest_22), rfl, rfl⟩, ox73_23⟩
def x73_20 : List sx_E := (.istore 4, 20, 22, [], .null) :: x73_22
theorem ox73_20 : sx_oks 73 x73_20 := ⟨⟨sx_lt mm_73 (Nat.le_of_ble_eq_true rfl), Or.inl ⟨(sx_dd bb_73 dX7_fewest_20), rfl⟩⟩, ox73_22⟩
def x73_17 : List sx_E := (.invokevirtual 77, 17, 20, [10, 2, 0, 0, 1], .null) :: x73_20
theorem ox73_17 : sx_oks 73 x73_17 := ⟨sx_q_V (w := (RX1, TX1, 11)) (sx_dd bb_73 dX7_fewest_17) oo_73 lk_StrawGarrison_77_V ft_10_h (Nat.le_of_ble_eq_true rfl) rfl rfl, ox73_20⟩
def x73_16 : List sx_E := (.iload 3, 16, 17, [], .null) :: x73_17
theorem ox73_16 : sx_oks 73 x73_16 := ⟨Or.inr ⟨_, (sx_dd bb_73 dX7_fewest_16), rfl, rfl⟩, ox73_17⟩
def x73_13 : List sx_E := (.getfield 10, 13, 16, [6, 1, 1], .null) :: x73_16
theorem ox73_13 : sx_oks 73 x73_13 := ⟨sx_q_get (w := (RX7, TX7, 12)) (sx_dd bb_73 dX7_fewest_13) rfl rfl (Nat.le_of_ble_eq_true rfl) cu_6 (sx_ow3 oo_73 fl_StrawGarrison_10) (by decide +kernel), ox73_16⟩
def x73_12 : List sx_E := (.aload 0, 12, 13, [], .null) :: x73_13
theorem ox73_12 : sx_oks 73 x73_12 := ⟨Or.inr ⟨_, (sx_dd bb_73 dX7_fewest_12), rfl, rfl⟩, ox73_13⟩
def x73_9 : List sx_E := (.if_icmp .ge (56), 9, 12, [65], .null) :: x73_12
theorem ox73_9 : sx_oks 73 x73_9 := ⟨⟨(sx_dd bb_73 dX7_fewest_9), rfl, sx_t1 (by decide +kernel)⟩, ox73_12⟩
def x73_7 : List sx_E := (.nop, 7, 9, [], .int (nI 20)) :: x73_9
theorem ox73_7 : sx_oks 73 x73_7 := ⟨sx_k_bipush (sx_dd bb_73 dX7_fewest_7) (by decide +kernel), ox73_9⟩
def x73_6 : List sx_E := (.iload 3, 6, 7, [], .null) :: x73_7
theorem ox73_6 : sx_oks 73 x73_6 := ⟨Or.inr ⟨_, (sx_dd bb_73 dX7_fewest_6), rfl, rfl⟩, ox73_7⟩
def x73_6h : List sx_E := (.monitorenter, 6, 6, [0, 1, 2, 3], .null) :: x73_6
theorem ox73_6h : sx_oks 73 x73_6h := ⟨trivial, ox73_6⟩
def x73_5 : List sx_E := (.istore 3, 5, 6, [], .null) :: x73_6h
theorem ox73_5 : sx_oks 73 x73_5 := ⟨⟨sx_lt mm_73 (Nat.le_of_ble_eq_true rfl), Or.inr ⟨_, (sx_dd bb_73 dX7_fewest_5), rfl, rfl⟩⟩, ox73_6h⟩
def x73_4 : List sx_E := (.nop, 4, 5, [], .int (nI 0)) :: x73_5
theorem ox73_4 : sx_oks 73 x73_4 := ⟨sx_k_iconst (sx_dd bb_73 dX7_fewest_4) (by decide +kernel), ox73_5⟩
def x73_3 : List sx_E := (.istore 2, 3, 4, [], .null) :: x73_4
theorem ox73_3 : sx_oks 73 x73_3 := ⟨⟨sx_lt mm_73 (Nat.le_of_ble_eq_true rfl), Or.inr ⟨_, (sx_dd bb_73 dX7_fewest_3), rfl, rfl⟩⟩, ox73_4⟩
def x73_2 : List sx_E := (.nop, 2, 3, [], .int ((-1))) :: x73_3
theorem ox73_2 : sx_oks 73 x73_2 := ⟨sx_k_iconst (sx_dd bb_73 dX7_fewest_2) (by decide +kernel), ox73_3⟩
def x73_1 : List sx_E := (.istore 1, 1, 2, [], .null) :: x73_2
theorem ox73_1 : sx_oks 73 x73_1 := ⟨⟨sx_lt mm_73 (Nat.le_of_ble_eq_true rfl), Or.inr ⟨_, (sx_dd bb_73 dX7_fewest_1), rfl, rfl⟩⟩, ox73_2⟩
def x73_0 : List sx_E := (.nop, 0, 1, [], .int (nI 0)) :: x73_1
theorem ox73_0 : sx_oks 73 x73_0 := ⟨sx_k_iconst (sx_dd bb_73 dX7_fewest_0) (by decide +kernel), ox73_1⟩
theorem m73 : sx_mok 73 x73_0 := ⟨ox73_0, by decide +kernel⟩
theorem bb_74 : sx_by 74 = cX7_behind := rfl
theorem oo_74 : (sx_nm 74).cls = "StrawGarrison" := rfl
theorem mm_74 : sx_ml 74 = 4 := rfl
theorem rr_74 : sx_rt 74 = (some .int) := rfl
def x74_82 : List sx_E := (.ireturn, 82, 83, [0], .null) :: []
theorem ox74_82 : sx_oks 74 x74_82 := ⟨sx_q_iret0 (sx_dd bb_74 dX7_behind_82) rr_74, trivial⟩
def x74_81 : List sx_E := (.iaload, 81, 82, [], .null) :: x74_82
theorem ox74_81 : sx_oks 74 x74_81 := ⟨⟨(sx_dd bb_74 dX7_behind_81), rfl⟩, ox74_82⟩
def x74_80 : List sx_E := (.isub, 80, 81, [], .null) :: x74_81
theorem ox74_80 : sx_oks 74 x74_80 := ⟨⟨(sx_dd bb_74 dX7_behind_80), rfl⟩, ox74_81⟩
def x74_79 : List sx_E := (.nop, 79, 80, [], .int (nI 4)) :: x74_80
theorem ox74_79 : sx_oks 74 x74_79 := ⟨sx_k_iconst (sx_dd bb_74 dX7_behind_79) (by decide +kernel), ox74_80⟩
def x74_78 : List sx_E := (.iload 2, 78, 79, [], .null) :: x74_79
theorem ox74_78 : sx_oks 74 x74_78 := ⟨Or.inr ⟨_, (sx_dd bb_74 dX7_behind_78), rfl, rfl⟩, ox74_79⟩
def x74_75 : List sx_E := (.getfield 103, 75, 78, [1, 5, 1], .null) :: x74_78
theorem ox74_75 : sx_oks 74 x74_75 := ⟨sx_q_get (w := (RX1, TX1, 11)) (sx_dd bb_74 dX7_behind_75) rfl rfl (Nat.le_of_ble_eq_true rfl) cu_1 (sx_ow3 oo_74 fl_StrawGarrison_103) (by decide +kernel), ox74_78⟩
def x74_72 : List sx_E := (.getfield 19, 72, 75, [6, 3, 1], .null) :: x74_75
theorem ox74_72 : sx_oks 74 x74_72 := ⟨sx_q_get (w := (RX7, TX7, 12)) (sx_dd bb_74 dX7_behind_72) rfl rfl (Nat.le_of_ble_eq_true rfl) cu_6 (sx_ow3 oo_74 fl_StrawGarrison_19) (by decide +kernel), ox74_75⟩
def x74_71 : List sx_E := (.aload 0, 71, 72, [], .null) :: x74_72
theorem ox74_71 : sx_oks 74 x74_71 := ⟨Or.inr ⟨_, (sx_dd bb_74 dX7_behind_71), rfl, rfl⟩, ox74_72⟩
def x74_68 : List sx_E := (.goto (14), 68, 71, [82], .null) :: x74_71
theorem ox74_68 : sx_oks 74 x74_68 := ⟨⟨(sx_dd bb_74 dX7_behind_68), sx_t1 (by decide +kernel)⟩, ox74_71⟩
def x74_67 : List sx_E := (.iload 3, 67, 68, [], .null) :: x74_68
theorem ox74_67 : sx_oks 74 x74_67 := ⟨Or.inr ⟨_, (sx_dd bb_74 dX7_behind_67), rfl, rfl⟩, ox74_68⟩
def x74_64 : List sx_E := (.if_icmp .ne (7), 64, 67, [71], .null) :: x74_67
theorem ox74_64 : sx_oks 74 x74_64 := ⟨⟨(sx_dd bb_74 dX7_behind_64), rfl, sx_t1 (by decide +kernel)⟩, ox74_67⟩
def x74_63 : List sx_E := (.nop, 63, 64, [], .int (nI 3)) :: x74_64
theorem ox74_63 : sx_oks 74 x74_63 := ⟨sx_k_iconst (sx_dd bb_74 dX7_behind_63) (by decide +kernel), ox74_64⟩
def x74_62 : List sx_E := (.iload 2, 62, 63, [], .null) :: x74_63
theorem ox74_62 : sx_oks 74 x74_62 := ⟨Or.inr ⟨_, (sx_dd bb_74 dX7_behind_62), rfl, rfl⟩, ox74_63⟩
def x74_61 : List sx_E := (.ireturn, 61, 62, [0], .null) :: x74_62
theorem ox74_61 : sx_oks 74 x74_61 := ⟨sx_q_iret0 (sx_dd bb_74 dX7_behind_61) rr_74, ox74_62⟩
def x74_60 : List sx_E := (.iaload, 60, 61, [], .null) :: x74_61
theorem ox74_60 : sx_oks 74 x74_60 := ⟨⟨(sx_dd bb_74 dX7_behind_60), rfl⟩, ox74_61⟩
def x74_59 : List sx_E := (.iload 2, 59, 60, [], .null) :: x74_60
theorem ox74_59 : sx_oks 74 x74_59 := ⟨Or.inr ⟨_, (sx_dd bb_74 dX7_behind_59), rfl, rfl⟩, ox74_60⟩
def x74_56 : List sx_E := (.getfield 156, 56, 59, [1, 8, 1], .null) :: x74_59
theorem ox74_56 : sx_oks 74 x74_56 := ⟨sx_q_get (w := (RX1, TX1, 11)) (sx_dd bb_74 dX7_behind_56) rfl rfl (Nat.le_of_ble_eq_true rfl) cu_1 (sx_ow3 oo_74 fl_StrawGarrison_156) (by decide +kernel), ox74_59⟩
def x74_53 : List sx_E := (.getfield 19, 53, 56, [6, 3, 1], .null) :: x74_56
theorem ox74_53 : sx_oks 74 x74_53 := ⟨sx_q_get (w := (RX7, TX7, 12)) (sx_dd bb_74 dX7_behind_53) rfl rfl (Nat.le_of_ble_eq_true rfl) cu_6 (sx_ow3 oo_74 fl_StrawGarrison_19) (by decide +kernel), ox74_56⟩
def x74_52 : List sx_E := (.aload 0, 52, 53, [], .null) :: x74_53
theorem ox74_52 : sx_oks 74 x74_52 := ⟨Or.inr ⟨_, (sx_dd bb_74 dX7_behind_52), rfl, rfl⟩, ox74_53⟩
def x74_49 : List sx_E := (.if_icmp .gt (13), 49, 52, [62], .null) :: x74_52
theorem ox74_49 : sx_oks 74 x74_49 := ⟨⟨(sx_dd bb_74 dX7_behind_49), rfl, sx_t1 (by decide +kernel)⟩, ox74_52⟩
def x74_48 : List sx_E := (.nop, 48, 49, [], .int (nI 2)) :: x74_49
theorem ox74_48 : sx_oks 74 x74_48 := ⟨sx_k_iconst (sx_dd bb_74 dX7_behind_48) (by decide +kernel), ox74_49⟩
def x74_47 : List sx_E := (.iload 2, 47, 48, [], .null) :: x74_48
theorem ox74_47 : sx_oks 74 x74_47 := ⟨Or.inr ⟨_, (sx_dd bb_74 dX7_behind_47), rfl, rfl⟩, ox74_48⟩
def x74_46 : List sx_E := (.istore 3, 46, 47, [], .null) :: x74_47
theorem ox74_46 : sx_oks 74 x74_46 := ⟨⟨sx_lt mm_74 (Nat.le_of_ble_eq_true rfl), Or.inr ⟨_, (sx_dd bb_74 dX7_behind_46), rfl, rfl⟩⟩, ox74_47⟩
def x74_43 : List sx_E := (.invokevirtual 182, 43, 46, [108, 2, 0, 0, 6], .null) :: x74_46
theorem ox74_43 : sx_oks 74 x74_43 := ⟨sx_q_V (w := (RX7, TX7, 12)) (sx_dd bb_74 dX7_behind_43) oo_74 lk_StrawGarrison_182_V ft_108_h (Nat.le_of_ble_eq_true rfl) rfl rfl, ox74_46⟩
def x74_42 : List sx_E := (.iload 1, 42, 43, [], .null) :: x74_43
theorem ox74_42 : sx_oks 74 x74_42 := ⟨Or.inr ⟨_, (sx_dd bb_74 dX7_behind_42), rfl, rfl⟩, ox74_43⟩
def x74_41 : List sx_E := (.aload 0, 41, 42, [], .null) :: x74_42
theorem ox74_41 : sx_oks 74 x74_41 := ⟨Or.inr ⟨_, (sx_dd bb_74 dX7_behind_41), rfl, rfl⟩, ox74_42⟩
def x74_38 : List sx_E := (.invokevirtual 178, 38, 41, [6, 2, 0, 0, 1], .null) :: x74_41
theorem ox74_38 : sx_oks 74 x74_38 := ⟨sx_q_V (w := (RX1, TX1, 11)) (sx_dd bb_74 dX7_behind_38) oo_74 lk_StrawGarrison_178_V ft_6_h (Nat.le_of_ble_eq_true rfl) rfl rfl, ox74_41⟩
def x74_35 : List sx_E := (.getfield 10, 35, 38, [6, 1, 1], .null) :: x74_38
theorem ox74_35 : sx_oks 74 x74_35 := ⟨sx_q_get (w := (RX7, TX7, 12)) (sx_dd bb_74 dX7_behind_35) rfl rfl (Nat.le_of_ble_eq_true rfl) cu_6 (sx_ow3 oo_74 fl_StrawGarrison_10) (by decide +kernel), ox74_38⟩
def x74_34 : List sx_E := (.aload 0, 34, 35, [], .null) :: x74_35
theorem ox74_34 : sx_oks 74 x74_34 := ⟨Or.inr ⟨_, (sx_dd bb_74 dX7_behind_34), rfl, rfl⟩, ox74_35⟩
def x74_31 : List sx_E := (.getfield 19, 31, 34, [6, 3, 1], .null) :: x74_34
theorem ox74_31 : sx_oks 74 x74_31 := ⟨sx_q_get (w := (RX7, TX7, 12)) (sx_dd bb_74 dX7_behind_31) rfl rfl (Nat.le_of_ble_eq_true rfl) cu_6 (sx_ow3 oo_74 fl_StrawGarrison_19) (by decide +kernel), ox74_34⟩
def x74_30 : List sx_E := (.aload 0, 30, 31, [], .null) :: x74_31
theorem ox74_30 : sx_oks 74 x74_30 := ⟨Or.inr ⟨_, (sx_dd bb_74 dX7_behind_30), rfl, rfl⟩, ox74_31⟩
def x74_29 : List sx_E := (.ireturn, 29, 30, [0], .null) :: x74_30
theorem ox74_29 : sx_oks 74 x74_29 := ⟨sx_q_iret0 (sx_dd bb_74 dX7_behind_29) rr_74, ox74_30⟩
def x74_27 : List sx_E := (.nop, 27, 29, [], .int ((-1000000001))) :: x74_29
theorem ox74_27 : sx_oks 74 x74_27 := ⟨sx_k_ldc (sx_dd bb_74 dX7_behind_27) (sx_ow1 oo_74 kc_StrawGarrison_76), ox74_29⟩
def x74_24 : List sx_E := (.ifCond .ne (6), 24, 27, [30], .null) :: x74_27
theorem ox74_24 : sx_oks 74 x74_24 := ⟨⟨(sx_dd bb_74 dX7_behind_24), rfl, sx_t1 (by decide +kernel)⟩, ox74_27⟩
def x74_21 : List sx_E := (.invokestatic 72, 21, 24, [106, 3, 0, 0], .null) :: x74_24
theorem ox74_21 : sx_oks 74 x74_21 := ⟨sx_q_S (sx_dd bb_74 dX7_behind_21) oo_74 lk_StrawGarrison_72_S ft_106_h, ox74_24⟩
def x74_20 : List sx_E := (.iadd, 20, 21, [], .null) :: x74_21
theorem ox74_20 : sx_oks 74 x74_20 := ⟨⟨(sx_dd bb_74 dX7_behind_20), rfl⟩, ox74_21⟩
def x74_17 : List sx_E := (.getfield 83, 17, 20, [1, 1, 0], .null) :: x74_20
theorem ox74_17 : sx_oks 74 x74_17 := ⟨sx_q_get (w := (RX1, TX1, 11)) (sx_dd bb_74 dX7_behind_17) rfl rfl (Nat.le_of_ble_eq_true rfl) cu_1 (sx_ow3 oo_74 fl_StrawGarrison_83) (by decide +kernel), ox74_20⟩
def x74_14 : List sx_E := (.getfield 10, 14, 17, [6, 1, 1], .null) :: x74_17
theorem ox74_14 : sx_oks 74 x74_14 := ⟨sx_q_get (w := (RX7, TX7, 12)) (sx_dd bb_74 dX7_behind_14) rfl rfl (Nat.le_of_ble_eq_true rfl) cu_6 (sx_ow3 oo_74 fl_StrawGarrison_10) (by decide +kernel), ox74_17⟩
def x74_13 : List sx_E := (.aload 0, 13, 14, [], .null) :: x74_14
theorem ox74_13 : sx_oks 74 x74_13 := ⟨Or.inr ⟨_, (sx_dd bb_74 dX7_behind_13), rfl, rfl⟩, ox74_14⟩
def x74_12 : List sx_E := (.nop, 12, 13, [], .int (nI 3)) :: x74_13
theorem ox74_12 : sx_oks 74 x74_12 := ⟨sx_k_iconst (sx_dd bb_74 dX7_behind_12) (by decide +kernel), ox74_13⟩
def x74_11 : List sx_E := (.nop, 11, 12, [], .int (nI 0)) :: x74_12
theorem ox74_11 : sx_oks 74 x74_11 := ⟨sx_k_iconst (sx_dd bb_74 dX7_behind_11) (by decide +kernel), ox74_12⟩
def x74_10 : List sx_E := (.iload 2, 10, 11, [], .null) :: x74_11
theorem ox74_10 : sx_oks 74 x74_10 := ⟨Or.inr ⟨_, (sx_dd bb_74 dX7_behind_10), rfl, rfl⟩, ox74_11⟩
def x74_7 : List sx_E := (.ifCond .eq (20), 7, 10, [27], .null) :: x74_10
theorem ox74_7 : sx_oks 74 x74_7 := ⟨⟨(sx_dd bb_74 dX7_behind_7), rfl, sx_t1 (by decide +kernel)⟩, ox74_10⟩
def x74_4 : List sx_E := (.invokestatic 72, 4, 7, [106, 3, 0, 0], .null) :: x74_7
theorem ox74_4 : sx_oks 74 x74_4 := ⟨sx_q_S (sx_dd bb_74 dX7_behind_4) oo_74 lk_StrawGarrison_72_S ft_106_h, ox74_7⟩
def x74_2 : List sx_E := (.nop, 2, 4, [], .int (nI 100)) :: x74_4
theorem ox74_2 : sx_oks 74 x74_2 := ⟨sx_k_bipush (sx_dd bb_74 dX7_behind_2) (by decide +kernel), ox74_4⟩
def x74_1 : List sx_E := (.nop, 1, 2, [], .int (nI 0)) :: x74_2
theorem ox74_1 : sx_oks 74 x74_1 := ⟨sx_k_iconst (sx_dd bb_74 dX7_behind_1) (by decide +kernel), ox74_2⟩
def x74_0 : List sx_E := (.iload 1, 0, 1, [], .null) :: x74_1
theorem ox74_0 : sx_oks 74 x74_0 := ⟨Or.inr ⟨_, (sx_dd bb_74 dX7_behind_0), rfl, rfl⟩, ox74_1⟩
theorem m74 : sx_mok 74 x74_0 := ⟨ox74_0, by decide +kernel⟩
theorem bb_75 : sx_by 75 = cX7_bluff := rfl
theorem oo_75 : (sx_nm 75).cls = "StrawGarrison" := rfl
theorem mm_75 : sx_ml 75 = 2 := rfl
theorem rr_75 : sx_rt 75 = (some .int) := rfl
def x75_29 : List sx_E := (.ireturn, 29, 30, [0], .null) :: []
theorem ox75_29 : sx_oks 75 x75_29 := ⟨sx_q_iret0 (sx_dd bb_75 dX7_bluff_29) rr_75, trivial⟩
def x75_28 : List sx_E := (.iload 1, 28, 29, [], .null) :: x75_29
theorem ox75_28 : sx_oks 75 x75_28 := ⟨Or.inr ⟨_, (sx_dd bb_75 dX7_bluff_28), rfl, rfl⟩, ox75_29⟩
def x75_25 : List sx_E := (.goto (4), 25, 28, [29], .null) :: x75_28
theorem ox75_25 : sx_oks 75 x75_25 := ⟨⟨(sx_dd bb_75 dX7_bluff_25), sx_t1 (by decide +kernel)⟩, ox75_28⟩
def x75_23 : List sx_E := (.nop, 23, 25, [], .int ((-1000000005))) :: x75_25
theorem ox75_23 : sx_oks 75 x75_23 := ⟨sx_k_ldc (sx_dd bb_75 dX7_bluff_23) (sx_ow1 oo_75 kc_StrawGarrison_81), ox75_25⟩
def x75_20 : List sx_E := (.ifCond .ne (8), 20, 23, [28], .null) :: x75_23
theorem ox75_20 : sx_oks 75 x75_20 := ⟨⟨(sx_dd bb_75 dX7_bluff_20), rfl, sx_t1 (by decide +kernel)⟩, ox75_23⟩
def x75_19 : List sx_E := (.iload 1, 19, 20, [], .null) :: x75_20
theorem ox75_19 : sx_oks 75 x75_19 := ⟨Or.inr ⟨_, (sx_dd bb_75 dX7_bluff_19), rfl, rfl⟩, ox75_20⟩
def x75_18 : List sx_E := (.istore 1, 18, 19, [], .null) :: x75_19
theorem ox75_18 : sx_oks 75 x75_18 := ⟨⟨sx_lt mm_75 (Nat.le_of_ble_eq_true rfl), Or.inr ⟨_, (sx_dd bb_75 dX7_bluff_18), rfl, rfl⟩⟩, ox75_19⟩
def x75_15 : List sx_E := (.invokevirtual 185, 15, 18, [109, 2, 0, 0, 6], .null) :: x75_18
theorem ox75_15 : sx_oks 75 x75_15 := ⟨sx_q_V (w := (RX7, TX7, 12)) (sx_dd bb_75 dX7_bluff_15) oo_75 lk_StrawGarrison_185_V ft_109_h (Nat.le_of_ble_eq_true rfl) rfl rfl, ox75_18⟩
def x75_12 : List sx_E := (.nop, 12, 15, [], .int (nI 200)) :: x75_15
theorem ox75_12 : sx_oks 75 x75_12 := ⟨sx_k_sipush (sx_dd bb_75 dX7_bluff_12) (by decide +kernel), ox75_15⟩
def x75_11 : List sx_E := (.aload 0, 11, 12, [], .null) :: x75_12
theorem ox75_11 : sx_oks 75 x75_11 := ⟨Or.inr ⟨_, (sx_dd bb_75 dX7_bluff_11), rfl, rfl⟩, ox75_12⟩
def x75_8 : List sx_E := (.invokevirtual 178, 8, 11, [6, 2, 0, 0, 1], .null) :: x75_11
theorem ox75_8 : sx_oks 75 x75_8 := ⟨sx_q_V (w := (RX1, TX1, 11)) (sx_dd bb_75 dX7_bluff_8) oo_75 lk_StrawGarrison_178_V ft_6_h (Nat.le_of_ble_eq_true rfl) rfl rfl, ox75_11⟩
def x75_5 : List sx_E := (.getfield 10, 5, 8, [6, 1, 1], .null) :: x75_8
theorem ox75_5 : sx_oks 75 x75_5 := ⟨sx_q_get (w := (RX7, TX7, 12)) (sx_dd bb_75 dX7_bluff_5) rfl rfl (Nat.le_of_ble_eq_true rfl) cu_6 (sx_ow3 oo_75 fl_StrawGarrison_10) (by decide +kernel), ox75_8⟩
def x75_4 : List sx_E := (.aload 0, 4, 5, [], .null) :: x75_5
theorem ox75_4 : sx_oks 75 x75_4 := ⟨Or.inr ⟨_, (sx_dd bb_75 dX7_bluff_4), rfl, rfl⟩, ox75_5⟩
def x75_1 : List sx_E := (.getfield 19, 1, 4, [6, 3, 1], .null) :: x75_4
theorem ox75_1 : sx_oks 75 x75_1 := ⟨sx_q_get (w := (RX7, TX7, 12)) (sx_dd bb_75 dX7_bluff_1) rfl rfl (Nat.le_of_ble_eq_true rfl) cu_6 (sx_ow3 oo_75 fl_StrawGarrison_19) (by decide +kernel), ox75_4⟩
def x75_0 : List sx_E := (.aload 0, 0, 1, [], .null) :: x75_1
theorem ox75_0 : sx_oks 75 x75_0 := ⟨Or.inr ⟨_, (sx_dd bb_75 dX7_bluff_0), rfl, rfl⟩, ox75_1⟩
theorem m75 : sx_mok 75 x75_0 := ⟨ox75_0, by decide +kernel⟩
theorem bb_76 : sx_by 76 = cX7_washed := rfl
theorem oo_76 : (sx_nm 76).cls = "StrawGarrison" := rfl
theorem mm_76 : sx_ml 76 = 7 := rfl
theorem rr_76 : sx_rt 76 = (some .int) := rfl
def x76_103 : List sx_E := (.ireturn, 103, 104, [0], .null) :: []
theorem ox76_103 : sx_oks 76 x76_103 := ⟨sx_q_iret0 (sx_dd bb_76 dX7_washed_103) rr_76, trivial⟩
def x76_101 : List sx_E := (.iload 4, 101, 103, [], .null) :: x76_103
theorem ox76_101 : sx_oks 76 x76_101 := ⟨Or.inl ⟨(sx_dd bb_76 dX7_washed_101), rfl⟩, ox76_103⟩
def x76_98 : List sx_E := (.goto (5), 98, 101, [103], .null) :: x76_101
theorem ox76_98 : sx_oks 76 x76_98 := ⟨⟨(sx_dd bb_76 dX7_washed_98), sx_t1 (by decide +kernel)⟩, ox76_101⟩
def x76_97 : List sx_E := (.iload 3, 97, 98, [], .null) :: x76_98
theorem ox76_97 : sx_oks 76 x76_97 := ⟨Or.inr ⟨_, (sx_dd bb_76 dX7_washed_97), rfl, rfl⟩, ox76_98⟩
def x76_94 : List sx_E := (.ifCond .ne (7), 94, 97, [101], .null) :: x76_97
theorem ox76_94 : sx_oks 76 x76_94 := ⟨⟨(sx_dd bb_76 dX7_washed_94), rfl, sx_t1 (by decide +kernel)⟩, ox76_97⟩
def x76_93 : List sx_E := (.iload 2, 93, 94, [], .null) :: x76_94
theorem ox76_93 : sx_oks 76 x76_93 := ⟨Or.inr ⟨_, (sx_dd bb_76 dX7_washed_93), rfl, rfl⟩, ox76_94⟩
def x76_90 : List sx_E := (.goto (-58), 90, 93, [32], .null) :: x76_93
theorem ox76_90 : sx_oks 76 x76_90 := ⟨⟨(sx_dd bb_76 dX7_washed_90), sx_t1 (by decide +kernel)⟩, ox76_93⟩
def x76_87 : List sx_E := (.iinc 5 (1), 87, 90, [], .int (nI 1)) :: x76_90
theorem ox76_87 : sx_oks 76 x76_87 := ⟨⟨sx_lt mm_76 (Nat.le_of_ble_eq_true rfl), (sx_dd bb_76 dX7_washed_87), rfl, by decide +kernel⟩, ox76_90⟩
def x76_86 : List sx_E := (.istore 3, 86, 87, [], .null) :: x76_87
theorem ox76_86 : sx_oks 76 x76_86 := ⟨⟨sx_lt mm_76 (Nat.le_of_ble_eq_true rfl), Or.inr ⟨_, (sx_dd bb_76 dX7_washed_86), rfl, rfl⟩⟩, ox76_87⟩
def x76_84 : List sx_E := (.iload 5, 84, 86, [], .null) :: x76_86
theorem ox76_84 : sx_oks 76 x76_84 := ⟨Or.inl ⟨(sx_dd bb_76 dX7_washed_84), rfl⟩, ox76_86⟩
def x76_82 : List sx_E := (.istore 4, 82, 84, [], .null) :: x76_84
theorem ox76_82 : sx_oks 76 x76_82 := ⟨⟨sx_lt mm_76 (Nat.le_of_ble_eq_true rfl), Or.inl ⟨(sx_dd bb_76 dX7_washed_82), rfl⟩⟩, ox76_84⟩
def x76_80 : List sx_E := (.iload 6, 80, 82, [], .null) :: x76_82
theorem ox76_80 : sx_oks 76 x76_80 := ⟨Or.inl ⟨(sx_dd bb_76 dX7_washed_80), rfl⟩, ox76_82⟩
def x76_77 : List sx_E := (.if_icmp .le (10), 77, 80, [87], .null) :: x76_80
theorem ox76_77 : sx_oks 76 x76_77 := ⟨⟨(sx_dd bb_76 dX7_washed_77), rfl, sx_t1 (by decide +kernel)⟩, ox76_80⟩
def x76_75 : List sx_E := (.iload 4, 75, 77, [], .null) :: x76_77
theorem ox76_75 : sx_oks 76 x76_75 := ⟨Or.inl ⟨(sx_dd bb_76 dX7_washed_75), rfl⟩, ox76_77⟩
def x76_73 : List sx_E := (.iload 6, 73, 75, [], .null) :: x76_75
theorem ox76_73 : sx_oks 76 x76_73 := ⟨Or.inl ⟨(sx_dd bb_76 dX7_washed_73), rfl⟩, ox76_75⟩
def x76_71 : List sx_E := (.istore 6, 71, 73, [], .null) :: x76_73
theorem ox76_71 : sx_oks 76 x76_71 := ⟨⟨sx_lt mm_76 (Nat.le_of_ble_eq_true rfl), Or.inl ⟨(sx_dd bb_76 dX7_washed_71), rfl⟩⟩, ox76_73⟩
def x76_68 : List sx_E := (.invokevirtual 182, 68, 71, [108, 2, 0, 0, 6], .null) :: x76_71
theorem ox76_68 : sx_oks 76 x76_68 := ⟨sx_q_V (w := (RX7, TX7, 12)) (sx_dd bb_76 dX7_washed_68) oo_76 lk_StrawGarrison_182_V ft_108_h (Nat.le_of_ble_eq_true rfl) rfl rfl, ox76_71⟩
def x76_67 : List sx_E := (.iload 1, 67, 68, [], .null) :: x76_68
theorem ox76_67 : sx_oks 76 x76_67 := ⟨Or.inr ⟨_, (sx_dd bb_76 dX7_washed_67), rfl, rfl⟩, ox76_68⟩
def x76_66 : List sx_E := (.aload 0, 66, 67, [], .null) :: x76_67
theorem ox76_66 : sx_oks 76 x76_66 := ⟨Or.inr ⟨_, (sx_dd bb_76 dX7_washed_66), rfl, rfl⟩, ox76_67⟩
def x76_65 : List sx_E := (.iastore, 65, 66, [], .null) :: x76_66
theorem ox76_65 : sx_oks 76 x76_65 := ⟨⟨(sx_dd bb_76 dX7_washed_65), rfl⟩, ox76_66⟩
def x76_64 : List sx_E := (.nop, 64, 65, [], .int (nI 0)) :: x76_65
theorem ox76_64 : sx_oks 76 x76_64 := ⟨sx_k_iconst (sx_dd bb_76 dX7_washed_64) (by decide +kernel), ox76_65⟩
def x76_62 : List sx_E := (.iload 5, 62, 64, [], .null) :: x76_64
theorem ox76_62 : sx_oks 76 x76_62 := ⟨Or.inl ⟨(sx_dd bb_76 dX7_washed_62), rfl⟩, ox76_64⟩
def x76_59 : List sx_E := (.getfield 97, 59, 62, [1, 4, 1], .null) :: x76_62
theorem ox76_59 : sx_oks 76 x76_59 := ⟨sx_q_get (w := (RX1, TX1, 11)) (sx_dd bb_76 dX7_washed_59) rfl rfl (Nat.le_of_ble_eq_true rfl) cu_1 (sx_ow3 oo_76 fl_StrawGarrison_97) (by decide +kernel), ox76_62⟩
def x76_56 : List sx_E := (.getfield 19, 56, 59, [6, 3, 1], .null) :: x76_59
theorem ox76_56 : sx_oks 76 x76_56 := ⟨sx_q_get (w := (RX7, TX7, 12)) (sx_dd bb_76 dX7_washed_56) rfl rfl (Nat.le_of_ble_eq_true rfl) cu_6 (sx_ow3 oo_76 fl_StrawGarrison_19) (by decide +kernel), ox76_59⟩
def x76_55 : List sx_E := (.aload 0, 55, 56, [], .null) :: x76_56
theorem ox76_55 : sx_oks 76 x76_55 := ⟨Or.inr ⟨_, (sx_dd bb_76 dX7_washed_55), rfl, rfl⟩, ox76_56⟩
def x76_52 : List sx_E := (.invokevirtual 178, 52, 55, [6, 2, 0, 0, 1], .null) :: x76_55
theorem ox76_52 : sx_oks 76 x76_52 := ⟨sx_q_V (w := (RX1, TX1, 11)) (sx_dd bb_76 dX7_washed_52) oo_76 lk_StrawGarrison_178_V ft_6_h (Nat.le_of_ble_eq_true rfl) rfl rfl, ox76_55⟩
def x76_49 : List sx_E := (.getfield 10, 49, 52, [6, 1, 1], .null) :: x76_52
theorem ox76_49 : sx_oks 76 x76_49 := ⟨sx_q_get (w := (RX7, TX7, 12)) (sx_dd bb_76 dX7_washed_49) rfl rfl (Nat.le_of_ble_eq_true rfl) cu_6 (sx_ow3 oo_76 fl_StrawGarrison_10) (by decide +kernel), ox76_52⟩
def x76_48 : List sx_E := (.aload 0, 48, 49, [], .null) :: x76_49
theorem ox76_48 : sx_oks 76 x76_48 := ⟨Or.inr ⟨_, (sx_dd bb_76 dX7_washed_48), rfl, rfl⟩, ox76_49⟩
def x76_45 : List sx_E := (.getfield 19, 45, 48, [6, 3, 1], .null) :: x76_48
theorem ox76_45 : sx_oks 76 x76_45 := ⟨sx_q_get (w := (RX7, TX7, 12)) (sx_dd bb_76 dX7_washed_45) rfl rfl (Nat.le_of_ble_eq_true rfl) cu_6 (sx_ow3 oo_76 fl_StrawGarrison_19) (by decide +kernel), ox76_48⟩
def x76_44 : List sx_E := (.aload 0, 44, 45, [], .null) :: x76_45
theorem ox76_44 : sx_oks 76 x76_44 := ⟨Or.inr ⟨_, (sx_dd bb_76 dX7_washed_44), rfl, rfl⟩, ox76_45⟩
def x76_41 : List sx_E := (.if_icmp .ge (52), 41, 44, [93], .null) :: x76_44
theorem ox76_41 : sx_oks 76 x76_41 := ⟨⟨(sx_dd bb_76 dX7_washed_41), rfl, sx_t1 (by decide +kernel)⟩, ox76_44⟩
def x76_38 : List sx_E := (.getfield 83, 38, 41, [1, 1, 0], .null) :: x76_41
theorem ox76_38 : sx_oks 76 x76_38 := ⟨sx_q_get (w := (RX1, TX1, 11)) (sx_dd bb_76 dX7_washed_38) rfl rfl (Nat.le_of_ble_eq_true rfl) cu_1 (sx_ow3 oo_76 fl_StrawGarrison_83) (by decide +kernel), ox76_41⟩
def x76_35 : List sx_E := (.getfield 10, 35, 38, [6, 1, 1], .null) :: x76_38
theorem ox76_35 : sx_oks 76 x76_35 := ⟨sx_q_get (w := (RX7, TX7, 12)) (sx_dd bb_76 dX7_washed_35) rfl rfl (Nat.le_of_ble_eq_true rfl) cu_6 (sx_ow3 oo_76 fl_StrawGarrison_10) (by decide +kernel), ox76_38⟩
def x76_34 : List sx_E := (.aload 0, 34, 35, [], .null) :: x76_35
theorem ox76_34 : sx_oks 76 x76_34 := ⟨Or.inr ⟨_, (sx_dd bb_76 dX7_washed_34), rfl, rfl⟩, ox76_35⟩
def x76_32 : List sx_E := (.iload 5, 32, 34, [], .null) :: x76_34
theorem ox76_32 : sx_oks 76 x76_32 := ⟨Or.inl ⟨(sx_dd bb_76 dX7_washed_32), rfl⟩, ox76_34⟩
def x76_32h : List sx_E := (.monitorenter, 32, 32, [0, 1, 2, 3, 4, 5], .null) :: x76_32
theorem ox76_32h : sx_oks 76 x76_32h := ⟨trivial, ox76_32⟩
def x76_30 : List sx_E := (.istore 5, 30, 32, [], .null) :: x76_32h
theorem ox76_30 : sx_oks 76 x76_30 := ⟨⟨sx_lt mm_76 (Nat.le_of_ble_eq_true rfl), Or.inl ⟨(sx_dd bb_76 dX7_washed_30), rfl⟩⟩, ox76_32h⟩
def x76_29 : List sx_E := (.nop, 29, 30, [], .int (nI 0)) :: x76_30
theorem ox76_29 : sx_oks 76 x76_29 := ⟨sx_k_iconst (sx_dd bb_76 dX7_washed_29) (by decide +kernel), ox76_30⟩
def x76_27 : List sx_E := (.istore 4, 27, 29, [], .null) :: x76_29
theorem ox76_27 : sx_oks 76 x76_27 := ⟨⟨sx_lt mm_76 (Nat.le_of_ble_eq_true rfl), Or.inl ⟨(sx_dd bb_76 dX7_washed_27), rfl⟩⟩, ox76_29⟩
def x76_25 : List sx_E := (.nop, 25, 27, [], .int ((-1000000005))) :: x76_27
theorem ox76_25 : sx_oks 76 x76_25 := ⟨sx_k_ldc (sx_dd bb_76 dX7_washed_25) (sx_ow1 oo_76 kc_StrawGarrison_81), ox76_27⟩
def x76_24 : List sx_E := (.istore 3, 24, 25, [], .null) :: x76_25
theorem ox76_24 : sx_oks 76 x76_24 := ⟨⟨sx_lt mm_76 (Nat.le_of_ble_eq_true rfl), Or.inr ⟨_, (sx_dd bb_76 dX7_washed_24), rfl, rfl⟩⟩, ox76_25⟩
def x76_22 : List sx_E := (.nop, 22, 24, [], .int ((-1000000005))) :: x76_24
theorem ox76_22 : sx_oks 76 x76_22 := ⟨sx_k_ldc (sx_dd bb_76 dX7_washed_22) (sx_ow1 oo_76 kc_StrawGarrison_81), ox76_24⟩
def x76_21 : List sx_E := (.ireturn, 21, 22, [0], .null) :: x76_22
theorem ox76_21 : sx_oks 76 x76_21 := ⟨sx_q_iret0 (sx_dd bb_76 dX7_washed_21) rr_76, ox76_22⟩
def x76_19 : List sx_E := (.nop, 19, 21, [], .int ((-1000000001))) :: x76_21
theorem ox76_19 : sx_oks 76 x76_19 := ⟨sx_k_ldc (sx_dd bb_76 dX7_washed_19) (sx_ow1 oo_76 kc_StrawGarrison_76), ox76_21⟩
def x76_16 : List sx_E := (.ifCond .ne (6), 16, 19, [22], .null) :: x76_19
theorem ox76_16 : sx_oks 76 x76_16 := ⟨⟨(sx_dd bb_76 dX7_washed_16), rfl, sx_t1 (by decide +kernel)⟩, ox76_19⟩
def x76_13 : List sx_E := (.invokestatic 72, 13, 16, [106, 3, 0, 0], .null) :: x76_16
theorem ox76_13 : sx_oks 76 x76_13 := ⟨sx_q_S (sx_dd bb_76 dX7_washed_13) oo_76 lk_StrawGarrison_72_S ft_106_h, ox76_16⟩
def x76_12 : List sx_E := (.nop, 12, 13, [], .int (nI 1)) :: x76_13
theorem ox76_12 : sx_oks 76 x76_12 := ⟨sx_k_iconst (sx_dd bb_76 dX7_washed_12) (by decide +kernel), ox76_13⟩
def x76_11 : List sx_E := (.nop, 11, 12, [], .int (nI 0)) :: x76_12
theorem ox76_11 : sx_oks 76 x76_11 := ⟨sx_k_iconst (sx_dd bb_76 dX7_washed_11) (by decide +kernel), ox76_12⟩
def x76_10 : List sx_E := (.iload 2, 10, 11, [], .null) :: x76_11
theorem ox76_10 : sx_oks 76 x76_10 := ⟨Or.inr ⟨_, (sx_dd bb_76 dX7_washed_10), rfl, rfl⟩, ox76_11⟩
def x76_7 : List sx_E := (.ifCond .eq (12), 7, 10, [19], .null) :: x76_10
theorem ox76_7 : sx_oks 76 x76_7 := ⟨⟨(sx_dd bb_76 dX7_washed_7), rfl, sx_t1 (by decide +kernel)⟩, ox76_10⟩
def x76_4 : List sx_E := (.invokestatic 72, 4, 7, [106, 3, 0, 0], .null) :: x76_7
theorem ox76_4 : sx_oks 76 x76_4 := ⟨sx_q_S (sx_dd bb_76 dX7_washed_4) oo_76 lk_StrawGarrison_72_S ft_106_h, ox76_7⟩
def x76_2 : List sx_E := (.nop, 2, 4, [], .int (nI 60)) :: x76_4
theorem ox76_2 : sx_oks 76 x76_2 := ⟨sx_k_bipush (sx_dd bb_76 dX7_washed_2) (by decide +kernel), ox76_4⟩
def x76_1 : List sx_E := (.nop, 1, 2, [], .int (nI 1)) :: x76_2
theorem ox76_1 : sx_oks 76 x76_1 := ⟨sx_k_iconst (sx_dd bb_76 dX7_washed_1) (by decide +kernel), ox76_2⟩
def x76_0 : List sx_E := (.iload 1, 0, 1, [], .null) :: x76_1
theorem ox76_0 : sx_oks 76 x76_0 := ⟨Or.inr ⟨_, (sx_dd bb_76 dX7_washed_0), rfl, rfl⟩, ox76_1⟩
theorem m76 : sx_mok 76 x76_0 := ⟨ox76_0, by decide +kernel⟩
theorem bb_77 : sx_by 77 = cX7_needed := rfl
theorem oo_77 : (sx_nm 77).cls = "StrawGarrison" := rfl
theorem mm_77 : sx_ml 77 = 3 := rfl
theorem rr_77 : sx_rt 77 = (some .int) := rfl
def x77_63 : List sx_E := (.ireturn, 63, 64, [0], .null) :: []
theorem ox77_63 : sx_oks 77 x77_63 := ⟨sx_q_iret0 (sx_dd bb_77 dX7_needed_63) rr_77, trivial⟩
def x77_61 : List sx_E := (.nop, 61, 63, [], .int ((-1000000005))) :: x77_63
theorem ox77_61 : sx_oks 77 x77_61 := ⟨sx_k_ldc (sx_dd bb_77 dX7_needed_61) (sx_ow1 oo_77 kc_StrawGarrison_81), ox77_63⟩
def x77_58 : List sx_E := (.goto (-43), 58, 61, [15], .null) :: x77_61
theorem ox77_58 : sx_oks 77 x77_58 := ⟨⟨(sx_dd bb_77 dX7_needed_58), sx_t1 (by decide +kernel)⟩, ox77_61⟩
def x77_55 : List sx_E := (.iinc 2 (1), 55, 58, [], .int (nI 1)) :: x77_58
theorem ox77_55 : sx_oks 77 x77_55 := ⟨⟨sx_lt mm_77 (Nat.le_of_ble_eq_true rfl), (sx_dd bb_77 dX7_needed_55), rfl, by decide +kernel⟩, ox77_58⟩
def x77_54 : List sx_E := (.ireturn, 54, 55, [0], .null) :: x77_55
theorem ox77_54 : sx_oks 77 x77_54 := ⟨sx_q_iret0 (sx_dd bb_77 dX7_needed_54) rr_77, ox77_55⟩
def x77_53 : List sx_E := (.iload 2, 53, 54, [], .null) :: x77_54
theorem ox77_53 : sx_oks 77 x77_53 := ⟨Or.inr ⟨_, (sx_dd bb_77 dX7_needed_53), rfl, rfl⟩, ox77_54⟩
def x77_50 : List sx_E := (.ifCond .ne (5), 50, 53, [55], .null) :: x77_53
theorem ox77_50 : sx_oks 77 x77_50 := ⟨⟨(sx_dd bb_77 dX7_needed_50), rfl, sx_t1 (by decide +kernel)⟩, ox77_53⟩
def x77_47 : List sx_E := (.invokevirtual 185, 47, 50, [109, 2, 0, 0, 6], .null) :: x77_50
theorem ox77_47 : sx_oks 77 x77_47 := ⟨sx_q_V (w := (RX7, TX7, 12)) (sx_dd bb_77 dX7_needed_47) oo_77 lk_StrawGarrison_185_V ft_109_h (Nat.le_of_ble_eq_true rfl) rfl rfl, ox77_50⟩
def x77_46 : List sx_E := (.iload 1, 46, 47, [], .null) :: x77_47
theorem ox77_46 : sx_oks 77 x77_46 := ⟨Or.inr ⟨_, (sx_dd bb_77 dX7_needed_46), rfl, rfl⟩, ox77_47⟩
def x77_45 : List sx_E := (.aload 0, 45, 46, [], .null) :: x77_46
theorem ox77_45 : sx_oks 77 x77_45 := ⟨Or.inr ⟨_, (sx_dd bb_77 dX7_needed_45), rfl, rfl⟩, ox77_46⟩
def x77_44 : List sx_E := (.iastore, 44, 45, [], .null) :: x77_45
theorem ox77_44 : sx_oks 77 x77_44 := ⟨⟨(sx_dd bb_77 dX7_needed_44), rfl⟩, ox77_45⟩
def x77_43 : List sx_E := (.iload 2, 43, 44, [], .null) :: x77_44
theorem ox77_43 : sx_oks 77 x77_43 := ⟨Or.inr ⟨_, (sx_dd bb_77 dX7_needed_43), rfl, rfl⟩, ox77_44⟩
def x77_42 : List sx_E := (.nop, 42, 43, [], .int (nI 0)) :: x77_43
theorem ox77_42 : sx_oks 77 x77_42 := ⟨sx_k_iconst (sx_dd bb_77 dX7_needed_42) (by decide +kernel), ox77_43⟩
def x77_39 : List sx_E := (.getfield 132, 39, 42, [1, 7, 1], .null) :: x77_42
theorem ox77_39 : sx_oks 77 x77_39 := ⟨sx_q_get (w := (RX1, TX1, 11)) (sx_dd bb_77 dX7_needed_39) rfl rfl (Nat.le_of_ble_eq_true rfl) cu_1 (sx_ow3 oo_77 fl_StrawGarrison_132) (by decide +kernel), ox77_42⟩
def x77_36 : List sx_E := (.getfield 19, 36, 39, [6, 3, 1], .null) :: x77_39
theorem ox77_36 : sx_oks 77 x77_36 := ⟨sx_q_get (w := (RX7, TX7, 12)) (sx_dd bb_77 dX7_needed_36) rfl rfl (Nat.le_of_ble_eq_true rfl) cu_6 (sx_ow3 oo_77 fl_StrawGarrison_19) (by decide +kernel), ox77_39⟩
def x77_35 : List sx_E := (.aload 0, 35, 36, [], .null) :: x77_36
theorem ox77_35 : sx_oks 77 x77_35 := ⟨Or.inr ⟨_, (sx_dd bb_77 dX7_needed_35), rfl, rfl⟩, ox77_36⟩
def x77_32 : List sx_E := (.invokevirtual 178, 32, 35, [6, 2, 0, 0, 1], .null) :: x77_35
theorem ox77_32 : sx_oks 77 x77_32 := ⟨sx_q_V (w := (RX1, TX1, 11)) (sx_dd bb_77 dX7_needed_32) oo_77 lk_StrawGarrison_178_V ft_6_h (Nat.le_of_ble_eq_true rfl) rfl rfl, ox77_35⟩
def x77_29 : List sx_E := (.getfield 10, 29, 32, [6, 1, 1], .null) :: x77_32
theorem ox77_29 : sx_oks 77 x77_29 := ⟨sx_q_get (w := (RX7, TX7, 12)) (sx_dd bb_77 dX7_needed_29) rfl rfl (Nat.le_of_ble_eq_true rfl) cu_6 (sx_ow3 oo_77 fl_StrawGarrison_10) (by decide +kernel), ox77_32⟩
def x77_28 : List sx_E := (.aload 0, 28, 29, [], .null) :: x77_29
theorem ox77_28 : sx_oks 77 x77_28 := ⟨Or.inr ⟨_, (sx_dd bb_77 dX7_needed_28), rfl, rfl⟩, ox77_29⟩
def x77_25 : List sx_E := (.getfield 19, 25, 28, [6, 3, 1], .null) :: x77_28
theorem ox77_25 : sx_oks 77 x77_25 := ⟨sx_q_get (w := (RX7, TX7, 12)) (sx_dd bb_77 dX7_needed_25) rfl rfl (Nat.le_of_ble_eq_true rfl) cu_6 (sx_ow3 oo_77 fl_StrawGarrison_19) (by decide +kernel), ox77_28⟩
def x77_24 : List sx_E := (.aload 0, 24, 25, [], .null) :: x77_25
theorem ox77_24 : sx_oks 77 x77_24 := ⟨Or.inr ⟨_, (sx_dd bb_77 dX7_needed_24), rfl, rfl⟩, ox77_25⟩
def x77_21 : List sx_E := (.if_icmp .gt (40), 21, 24, [61], .null) :: x77_24
theorem ox77_21 : sx_oks 77 x77_21 := ⟨⟨(sx_dd bb_77 dX7_needed_21), rfl, sx_t1 (by decide +kernel)⟩, ox77_24⟩
def x77_20 : List sx_E := (.iaload, 20, 21, [], .null) :: x77_21
theorem ox77_20 : sx_oks 77 x77_20 := ⟨⟨(sx_dd bb_77 dX7_needed_20), rfl⟩, ox77_21⟩
def x77_19 : List sx_E := (.nop, 19, 20, [], .int (nI 0)) :: x77_20
theorem ox77_19 : sx_oks 77 x77_19 := ⟨sx_k_iconst (sx_dd bb_77 dX7_needed_19) (by decide +kernel), ox77_20⟩
def x77_16 : List sx_E := (.nop, 16, 19, [], .ref 0) :: x77_19
theorem ox77_16 : sx_oks 77 x77_16 := ⟨sx_k_most (sx_dd bb_77 dX7_needed_16) (sx_ow3 oo_77 fs_StrawGarrison_129), ox77_19⟩
def x77_15 : List sx_E := (.iload 2, 15, 16, [], .null) :: x77_16
theorem ox77_15 : sx_oks 77 x77_15 := ⟨Or.inr ⟨_, (sx_dd bb_77 dX7_needed_15), rfl, rfl⟩, ox77_16⟩
def x77_15h : List sx_E := (.monitorenter, 15, 15, [0, 1, 2], .null) :: x77_15
theorem ox77_15h : sx_oks 77 x77_15h := ⟨trivial, ox77_15⟩
def x77_14 : List sx_E := (.istore 2, 14, 15, [], .null) :: x77_15h
theorem ox77_14 : sx_oks 77 x77_14 := ⟨⟨sx_lt mm_77 (Nat.le_of_ble_eq_true rfl), Or.inr ⟨_, (sx_dd bb_77 dX7_needed_14), rfl, rfl⟩⟩, ox77_15h⟩
def x77_13 : List sx_E := (.nop, 13, 14, [], .int (nI 0)) :: x77_14
theorem ox77_13 : sx_oks 77 x77_13 := ⟨sx_k_iconst (sx_dd bb_77 dX7_needed_13) (by decide +kernel), ox77_14⟩
def x77_12 : List sx_E := (.ireturn, 12, 13, [0], .null) :: x77_13
theorem ox77_12 : sx_oks 77 x77_12 := ⟨sx_q_iret0 (sx_dd bb_77 dX7_needed_12) rr_77, ox77_13⟩
def x77_10 : List sx_E := (.nop, 10, 12, [], .int ((-1000000001))) :: x77_12
theorem ox77_10 : sx_oks 77 x77_10 := ⟨sx_k_ldc (sx_dd bb_77 dX7_needed_10) (sx_ow1 oo_77 kc_StrawGarrison_76), ox77_12⟩
def x77_7 : List sx_E := (.ifCond .ne (6), 7, 10, [13], .null) :: x77_10
theorem ox77_7 : sx_oks 77 x77_7 := ⟨⟨(sx_dd bb_77 dX7_needed_7), rfl, sx_t1 (by decide +kernel)⟩, ox77_10⟩
def x77_4 : List sx_E := (.invokestatic 72, 4, 7, [106, 3, 0, 0], .null) :: x77_7
theorem ox77_4 : sx_oks 77 x77_4 := ⟨sx_q_S (sx_dd bb_77 dX7_needed_4) oo_77 lk_StrawGarrison_72_S ft_106_h, ox77_7⟩
def x77_2 : List sx_E := (.nop, 2, 4, [], .int (nI 60)) :: x77_4
theorem ox77_2 : sx_oks 77 x77_2 := ⟨sx_k_bipush (sx_dd bb_77 dX7_needed_2) (by decide +kernel), ox77_4⟩
def x77_1 : List sx_E := (.nop, 1, 2, [], .int (nI 1)) :: x77_2
theorem ox77_1 : sx_oks 77 x77_1 := ⟨sx_k_iconst (sx_dd bb_77 dX7_needed_1) (by decide +kernel), ox77_2⟩
def x77_0 : List sx_E := (.iload 1, 0, 1, [], .null) :: x77_1
theorem ox77_0 : sx_oks 77 x77_0 := ⟨Or.inr ⟨_, (sx_dd bb_77 dX7_needed_0), rfl, rfl⟩, ox77_1⟩
theorem m77 : sx_mok 77 x77_0 := ⟨ox77_0, by decide +kernel⟩
theorem bb_78 : sx_by 78 = cX7_becomes := rfl
theorem oo_78 : (sx_nm 78).cls = "StrawGarrison" := rfl
theorem mm_78 : sx_ml 78 = 8 := rfl
theorem rr_78 : sx_rt 78 = (some .int) := rfl
def x78_109 : List sx_E := (.ireturn, 109, 110, [0], .null) :: []
theorem ox78_109 : sx_oks 78 x78_109 := ⟨sx_q_iret0 (sx_dd bb_78 dX7_becomes_109) rr_78, trivial⟩
def x78_107 : List sx_E := (.iload 5, 107, 109, [], .null) :: x78_109
theorem ox78_107 : sx_oks 78 x78_107 := ⟨Or.inl ⟨(sx_dd bb_78 dX7_becomes_107), rfl⟩, ox78_109⟩
def x78_104 : List sx_E := (.goto (5), 104, 107, [109], .null) :: x78_107
theorem ox78_104 : sx_oks 78 x78_104 := ⟨⟨(sx_dd bb_78 dX7_becomes_104), sx_t1 (by decide +kernel)⟩, ox78_107⟩
def x78_102 : List sx_E := (.iload 4, 102, 104, [], .null) :: x78_104
theorem ox78_102 : sx_oks 78 x78_102 := ⟨Or.inl ⟨(sx_dd bb_78 dX7_becomes_102), rfl⟩, ox78_104⟩
def x78_99 : List sx_E := (.ifCond .ne (8), 99, 102, [107], .null) :: x78_102
theorem ox78_99 : sx_oks 78 x78_99 := ⟨⟨(sx_dd bb_78 dX7_becomes_99), rfl, sx_t1 (by decide +kernel)⟩, ox78_102⟩
def x78_98 : List sx_E := (.iload 3, 98, 99, [], .null) :: x78_99
theorem ox78_98 : sx_oks 78 x78_98 := ⟨Or.inr ⟨_, (sx_dd bb_78 dX7_becomes_98), rfl, rfl⟩, ox78_99⟩
def x78_95 : List sx_E := (.goto (-54), 95, 98, [41], .null) :: x78_98
theorem ox78_95 : sx_oks 78 x78_95 := ⟨⟨(sx_dd bb_78 dX7_becomes_95), sx_t1 (by decide +kernel)⟩, ox78_98⟩
def x78_92 : List sx_E := (.iinc 6 (1), 92, 95, [], .int (nI 1)) :: x78_95
theorem ox78_92 : sx_oks 78 x78_92 := ⟨⟨sx_lt mm_78 (Nat.le_of_ble_eq_true rfl), (sx_dd bb_78 dX7_becomes_92), rfl, by decide +kernel⟩, ox78_95⟩
def x78_90 : List sx_E := (.istore 4, 90, 92, [], .null) :: x78_92
theorem ox78_90 : sx_oks 78 x78_90 := ⟨⟨sx_lt mm_78 (Nat.le_of_ble_eq_true rfl), Or.inl ⟨(sx_dd bb_78 dX7_becomes_90), rfl⟩⟩, ox78_92⟩
def x78_88 : List sx_E := (.iload 6, 88, 90, [], .null) :: x78_90
theorem ox78_88 : sx_oks 78 x78_88 := ⟨Or.inl ⟨(sx_dd bb_78 dX7_becomes_88), rfl⟩, ox78_90⟩
def x78_86 : List sx_E := (.istore 5, 86, 88, [], .null) :: x78_88
theorem ox78_86 : sx_oks 78 x78_86 := ⟨⟨sx_lt mm_78 (Nat.le_of_ble_eq_true rfl), Or.inl ⟨(sx_dd bb_78 dX7_becomes_86), rfl⟩⟩, ox78_88⟩
def x78_84 : List sx_E := (.iload 7, 84, 86, [], .null) :: x78_86
theorem ox78_84 : sx_oks 78 x78_84 := ⟨Or.inl ⟨(sx_dd bb_78 dX7_becomes_84), rfl⟩, ox78_86⟩
def x78_81 : List sx_E := (.if_icmp .le (11), 81, 84, [92], .null) :: x78_84
theorem ox78_81 : sx_oks 78 x78_81 := ⟨⟨(sx_dd bb_78 dX7_becomes_81), rfl, sx_t1 (by decide +kernel)⟩, ox78_84⟩
def x78_79 : List sx_E := (.iload 5, 79, 81, [], .null) :: x78_81
theorem ox78_79 : sx_oks 78 x78_79 := ⟨Or.inl ⟨(sx_dd bb_78 dX7_becomes_79), rfl⟩, ox78_81⟩
def x78_77 : List sx_E := (.iload 7, 77, 79, [], .null) :: x78_79
theorem ox78_77 : sx_oks 78 x78_77 := ⟨Or.inl ⟨(sx_dd bb_78 dX7_becomes_77), rfl⟩, ox78_79⟩
def x78_75 : List sx_E := (.istore 7, 75, 77, [], .null) :: x78_77
theorem ox78_75 : sx_oks 78 x78_75 := ⟨⟨sx_lt mm_78 (Nat.le_of_ble_eq_true rfl), Or.inl ⟨(sx_dd bb_78 dX7_becomes_75), rfl⟩⟩, ox78_77⟩
def x78_72 : List sx_E := (.invokevirtual 182, 72, 75, [108, 2, 0, 0, 6], .null) :: x78_75
theorem ox78_72 : sx_oks 78 x78_72 := ⟨sx_q_V (w := (RX7, TX7, 12)) (sx_dd bb_78 dX7_becomes_72) oo_78 lk_StrawGarrison_182_V ft_108_h (Nat.le_of_ble_eq_true rfl) rfl rfl, ox78_75⟩
def x78_71 : List sx_E := (.iload 2, 71, 72, [], .null) :: x78_72
theorem ox78_71 : sx_oks 78 x78_71 := ⟨Or.inr ⟨_, (sx_dd bb_78 dX7_becomes_71), rfl, rfl⟩, ox78_72⟩
def x78_70 : List sx_E := (.aload 0, 70, 71, [], .null) :: x78_71
theorem ox78_70 : sx_oks 78 x78_70 := ⟨Or.inr ⟨_, (sx_dd bb_78 dX7_becomes_70), rfl, rfl⟩, ox78_71⟩
def x78_69 : List sx_E := (.iastore, 69, 70, [], .null) :: x78_70
theorem ox78_69 : sx_oks 78 x78_69 := ⟨⟨(sx_dd bb_78 dX7_becomes_69), rfl⟩, ox78_70⟩
def x78_67 : List sx_E := (.iload 6, 67, 69, [], .null) :: x78_69
theorem ox78_67 : sx_oks 78 x78_67 := ⟨Or.inl ⟨(sx_dd bb_78 dX7_becomes_67), rfl⟩, ox78_69⟩
def x78_66 : List sx_E := (.iload 1, 66, 67, [], .null) :: x78_67
theorem ox78_66 : sx_oks 78 x78_66 := ⟨Or.inr ⟨_, (sx_dd bb_78 dX7_becomes_66), rfl, rfl⟩, ox78_67⟩
def x78_63 : List sx_E := (.getfield 94, 63, 66, [1, 2, 1], .null) :: x78_66
theorem ox78_63 : sx_oks 78 x78_63 := ⟨sx_q_get (w := (RX1, TX1, 11)) (sx_dd bb_78 dX7_becomes_63) rfl rfl (Nat.le_of_ble_eq_true rfl) cu_1 (sx_ow3 oo_78 fl_StrawGarrison_94) (by decide +kernel), ox78_66⟩
def x78_60 : List sx_E := (.getfield 19, 60, 63, [6, 3, 1], .null) :: x78_63
theorem ox78_60 : sx_oks 78 x78_60 := ⟨sx_q_get (w := (RX7, TX7, 12)) (sx_dd bb_78 dX7_becomes_60) rfl rfl (Nat.le_of_ble_eq_true rfl) cu_6 (sx_ow3 oo_78 fl_StrawGarrison_19) (by decide +kernel), ox78_63⟩
def x78_59 : List sx_E := (.aload 0, 59, 60, [], .null) :: x78_60
theorem ox78_59 : sx_oks 78 x78_59 := ⟨Or.inr ⟨_, (sx_dd bb_78 dX7_becomes_59), rfl, rfl⟩, ox78_60⟩
def x78_56 : List sx_E := (.invokevirtual 178, 56, 59, [6, 2, 0, 0, 1], .null) :: x78_59
theorem ox78_56 : sx_oks 78 x78_56 := ⟨sx_q_V (w := (RX1, TX1, 11)) (sx_dd bb_78 dX7_becomes_56) oo_78 lk_StrawGarrison_178_V ft_6_h (Nat.le_of_ble_eq_true rfl) rfl rfl, ox78_59⟩
def x78_53 : List sx_E := (.getfield 10, 53, 56, [6, 1, 1], .null) :: x78_56
theorem ox78_53 : sx_oks 78 x78_53 := ⟨sx_q_get (w := (RX7, TX7, 12)) (sx_dd bb_78 dX7_becomes_53) rfl rfl (Nat.le_of_ble_eq_true rfl) cu_6 (sx_ow3 oo_78 fl_StrawGarrison_10) (by decide +kernel), ox78_56⟩
def x78_52 : List sx_E := (.aload 0, 52, 53, [], .null) :: x78_53
theorem ox78_52 : sx_oks 78 x78_52 := ⟨Or.inr ⟨_, (sx_dd bb_78 dX7_becomes_52), rfl, rfl⟩, ox78_53⟩
def x78_49 : List sx_E := (.getfield 19, 49, 52, [6, 3, 1], .null) :: x78_52
theorem ox78_49 : sx_oks 78 x78_49 := ⟨sx_q_get (w := (RX7, TX7, 12)) (sx_dd bb_78 dX7_becomes_49) rfl rfl (Nat.le_of_ble_eq_true rfl) cu_6 (sx_ow3 oo_78 fl_StrawGarrison_19) (by decide +kernel), ox78_52⟩
def x78_48 : List sx_E := (.aload 0, 48, 49, [], .null) :: x78_49
theorem ox78_48 : sx_oks 78 x78_48 := ⟨Or.inr ⟨_, (sx_dd bb_78 dX7_becomes_48), rfl, rfl⟩, ox78_49⟩
def x78_45 : List sx_E := (.if_icmp .ge (53), 45, 48, [98], .null) :: x78_48
theorem ox78_45 : sx_oks 78 x78_45 := ⟨⟨(sx_dd bb_78 dX7_becomes_45), rfl, sx_t1 (by decide +kernel)⟩, ox78_48⟩
def x78_43 : List sx_E := (.nop, 43, 45, [], .int (nI 6)) :: x78_45
theorem ox78_43 : sx_oks 78 x78_43 := ⟨sx_k_bipush (sx_dd bb_78 dX7_becomes_43) (by decide +kernel), ox78_45⟩
def x78_41 : List sx_E := (.iload 6, 41, 43, [], .null) :: x78_43
theorem ox78_41 : sx_oks 78 x78_41 := ⟨Or.inl ⟨(sx_dd bb_78 dX7_becomes_41), rfl⟩, ox78_43⟩
def x78_41h : List sx_E := (.monitorenter, 41, 41, [0, 1, 2, 3, 4, 5, 6], .null) :: x78_41
theorem ox78_41h : sx_oks 78 x78_41h := ⟨trivial, ox78_41⟩
def x78_39 : List sx_E := (.istore 6, 39, 41, [], .null) :: x78_41h
theorem ox78_39 : sx_oks 78 x78_39 := ⟨⟨sx_lt mm_78 (Nat.le_of_ble_eq_true rfl), Or.inl ⟨(sx_dd bb_78 dX7_becomes_39), rfl⟩⟩, ox78_41h⟩
def x78_38 : List sx_E := (.nop, 38, 39, [], .int (nI 0)) :: x78_39
theorem ox78_38 : sx_oks 78 x78_38 := ⟨sx_k_iconst (sx_dd bb_78 dX7_becomes_38) (by decide +kernel), ox78_39⟩
def x78_36 : List sx_E := (.istore 5, 36, 38, [], .null) :: x78_38
theorem ox78_36 : sx_oks 78 x78_36 := ⟨⟨sx_lt mm_78 (Nat.le_of_ble_eq_true rfl), Or.inl ⟨(sx_dd bb_78 dX7_becomes_36), rfl⟩⟩, ox78_38⟩
def x78_34 : List sx_E := (.nop, 34, 36, [], .int ((-1000000005))) :: x78_36
theorem ox78_34 : sx_oks 78 x78_34 := ⟨sx_k_ldc (sx_dd bb_78 dX7_becomes_34) (sx_ow1 oo_78 kc_StrawGarrison_81), ox78_36⟩
def x78_32 : List sx_E := (.istore 4, 32, 34, [], .null) :: x78_34
theorem ox78_32 : sx_oks 78 x78_32 := ⟨⟨sx_lt mm_78 (Nat.le_of_ble_eq_true rfl), Or.inl ⟨(sx_dd bb_78 dX7_becomes_32), rfl⟩⟩, ox78_34⟩
def x78_30 : List sx_E := (.nop, 30, 32, [], .int ((-1000000005))) :: x78_32
theorem ox78_30 : sx_oks 78 x78_30 := ⟨sx_k_ldc (sx_dd bb_78 dX7_becomes_30) (sx_ow1 oo_78 kc_StrawGarrison_81), ox78_32⟩
def x78_29 : List sx_E := (.ireturn, 29, 30, [0], .null) :: x78_30
theorem ox78_29 : sx_oks 78 x78_29 := ⟨sx_q_iret0 (sx_dd bb_78 dX7_becomes_29) rr_78, ox78_30⟩
def x78_27 : List sx_E := (.nop, 27, 29, [], .int ((-1000000001))) :: x78_29
theorem ox78_27 : sx_oks 78 x78_27 := ⟨sx_k_ldc (sx_dd bb_78 dX7_becomes_27) (sx_ow1 oo_78 kc_StrawGarrison_76), ox78_29⟩
def x78_24 : List sx_E := (.ifCond .ne (6), 24, 27, [30], .null) :: x78_27
theorem ox78_24 : sx_oks 78 x78_24 := ⟨⟨(sx_dd bb_78 dX7_becomes_24), rfl, sx_t1 (by decide +kernel)⟩, ox78_27⟩
def x78_21 : List sx_E := (.invokestatic 72, 21, 24, [106, 3, 0, 0], .null) :: x78_24
theorem ox78_21 : sx_oks 78 x78_21 := ⟨sx_q_S (sx_dd bb_78 dX7_becomes_21) oo_78 lk_StrawGarrison_72_S ft_106_h, ox78_24⟩
def x78_20 : List sx_E := (.nop, 20, 21, [], .int (nI 1)) :: x78_21
theorem ox78_20 : sx_oks 78 x78_20 := ⟨sx_k_iconst (sx_dd bb_78 dX7_becomes_20) (by decide +kernel), ox78_21⟩
def x78_19 : List sx_E := (.nop, 19, 20, [], .int (nI 0)) :: x78_20
theorem ox78_19 : sx_oks 78 x78_19 := ⟨sx_k_iconst (sx_dd bb_78 dX7_becomes_19) (by decide +kernel), ox78_20⟩
def x78_18 : List sx_E := (.iload 3, 18, 19, [], .null) :: x78_19
theorem ox78_18 : sx_oks 78 x78_18 := ⟨Or.inr ⟨_, (sx_dd bb_78 dX7_becomes_18), rfl, rfl⟩, ox78_19⟩
def x78_15 : List sx_E := (.ifCond .eq (12), 15, 18, [27], .null) :: x78_18
theorem ox78_15 : sx_oks 78 x78_15 := ⟨⟨(sx_dd bb_78 dX7_becomes_15), rfl, sx_t1 (by decide +kernel)⟩, ox78_18⟩
def x78_12 : List sx_E := (.invokestatic 72, 12, 15, [106, 3, 0, 0], .null) :: x78_15
theorem ox78_12 : sx_oks 78 x78_12 := ⟨sx_q_S (sx_dd bb_78 dX7_becomes_12) oo_78 lk_StrawGarrison_72_S ft_106_h, ox78_15⟩
def x78_10 : List sx_E := (.nop, 10, 12, [], .int (nI 60)) :: x78_12
theorem ox78_10 : sx_oks 78 x78_10 := ⟨sx_k_bipush (sx_dd bb_78 dX7_becomes_10) (by decide +kernel), ox78_12⟩
def x78_9 : List sx_E := (.nop, 9, 10, [], .int (nI 1)) :: x78_10
theorem ox78_9 : sx_oks 78 x78_9 := ⟨sx_k_iconst (sx_dd bb_78 dX7_becomes_9) (by decide +kernel), ox78_10⟩
def x78_8 : List sx_E := (.iload 2, 8, 9, [], .null) :: x78_9
theorem ox78_8 : sx_oks 78 x78_8 := ⟨Or.inr ⟨_, (sx_dd bb_78 dX7_becomes_8), rfl, rfl⟩, ox78_9⟩
def x78_5 : List sx_E := (.ifCond .eq (22), 5, 8, [27], .null) :: x78_8
theorem ox78_5 : sx_oks 78 x78_5 := ⟨⟨(sx_dd bb_78 dX7_becomes_5), rfl, sx_t1 (by decide +kernel)⟩, ox78_8⟩
def x78_2 : List sx_E := (.invokevirtual 91, 2, 5, [101, 2, 0, 0, 6], .null) :: x78_5
theorem ox78_2 : sx_oks 78 x78_2 := ⟨sx_q_V (w := (RX7, TX7, 12)) (sx_dd bb_78 dX7_becomes_2) oo_78 lk_StrawGarrison_91_V ft_101_h (Nat.le_of_ble_eq_true rfl) rfl rfl, ox78_5⟩
def x78_1 : List sx_E := (.iload 1, 1, 2, [], .null) :: x78_2
theorem ox78_1 : sx_oks 78 x78_1 := ⟨Or.inr ⟨_, (sx_dd bb_78 dX7_becomes_1), rfl, rfl⟩, ox78_2⟩
def x78_0 : List sx_E := (.aload 0, 0, 1, [], .null) :: x78_1
theorem ox78_0 : sx_oks 78 x78_0 := ⟨Or.inr ⟨_, (sx_dd bb_78 dX7_becomes_0), rfl, rfl⟩, ox78_1⟩
theorem m78 : sx_mok 78 x78_0 := ⟨ox78_0, by decide +kernel⟩
theorem bb_79 : sx_by 79 = cX7_like := rfl
theorem oo_79 : (sx_nm 79).cls = "StrawGarrison" := rfl
theorem mm_79 : sx_ml 79 = 5 := rfl
theorem rr_79 : sx_rt 79 = (some .int) := rfl
def x79_114 : List sx_E := (.ireturn, 114, 115, [0], .null) :: []
theorem ox79_114 : sx_oks 79 x79_114 := ⟨sx_q_iret0 (sx_dd bb_79 dX7_like_114) rr_79, trivial⟩
def x79_113 : List sx_E := (.iaload, 113, 114, [], .null) :: x79_114
theorem ox79_113 : sx_oks 79 x79_113 := ⟨⟨(sx_dd bb_79 dX7_like_113), rfl⟩, ox79_114⟩
def x79_112 : List sx_E := (.iload 3, 112, 113, [], .null) :: x79_113
theorem ox79_112 : sx_oks 79 x79_112 := ⟨Or.inr ⟨_, (sx_dd bb_79 dX7_like_112), rfl, rfl⟩, ox79_113⟩
def x79_109 : List sx_E := (.getfield 60, 109, 112, [6, 0, 1], .null) :: x79_112
theorem ox79_109 : sx_oks 79 x79_109 := ⟨sx_q_get (w := (RX7, TX7, 12)) (sx_dd bb_79 dX7_like_109) rfl rfl (Nat.le_of_ble_eq_true rfl) cu_6 (sx_ow3 oo_79 fl_StrawGarrison_60) (by decide +kernel), ox79_112⟩
def x79_108 : List sx_E := (.aload 0, 108, 109, [], .null) :: x79_109
theorem ox79_108 : sx_oks 79 x79_108 := ⟨Or.inr ⟨_, (sx_dd bb_79 dX7_like_108), rfl, rfl⟩, ox79_109⟩
def x79_105 : List sx_E := (.goto (9), 105, 108, [114], .null) :: x79_108
theorem ox79_105 : sx_oks 79 x79_105 := ⟨⟨(sx_dd bb_79 dX7_like_105), sx_t1 (by decide +kernel)⟩, ox79_108⟩
def x79_104 : List sx_E := (.iload 3, 104, 105, [], .null) :: x79_105
theorem ox79_104 : sx_oks 79 x79_104 := ⟨Or.inr ⟨_, (sx_dd bb_79 dX7_like_104), rfl, rfl⟩, ox79_105⟩
def x79_101 : List sx_E := (.ifCond .ne (7), 101, 104, [108], .null) :: x79_104
theorem ox79_101 : sx_oks 79 x79_101 := ⟨⟨(sx_dd bb_79 dX7_like_101), rfl, sx_t1 (by decide +kernel)⟩, ox79_104⟩
def x79_100 : List sx_E := (.iload 2, 100, 101, [], .null) :: x79_101
theorem ox79_100 : sx_oks 79 x79_100 := ⟨Or.inr ⟨_, (sx_dd bb_79 dX7_like_100), rfl, rfl⟩, ox79_101⟩
def x79_97 : List sx_E := (.goto (-34), 97, 100, [63], .null) :: x79_100
theorem ox79_97 : sx_oks 79 x79_97 := ⟨⟨(sx_dd bb_79 dX7_like_97), sx_t1 (by decide +kernel)⟩, ox79_100⟩
def x79_94 : List sx_E := (.iinc 4 (1), 94, 97, [], .int (nI 1)) :: x79_97
theorem ox79_94 : sx_oks 79 x79_94 := ⟨⟨sx_lt mm_79 (Nat.le_of_ble_eq_true rfl), (sx_dd bb_79 dX7_like_94), rfl, by decide +kernel⟩, ox79_97⟩
def x79_93 : List sx_E := (.istore 3, 93, 94, [], .null) :: x79_94
theorem ox79_93 : sx_oks 79 x79_93 := ⟨⟨sx_lt mm_79 (Nat.le_of_ble_eq_true rfl), Or.inr ⟨_, (sx_dd bb_79 dX7_like_93), rfl, rfl⟩⟩, ox79_94⟩
def x79_91 : List sx_E := (.iload 4, 91, 93, [], .null) :: x79_93
theorem ox79_91 : sx_oks 79 x79_91 := ⟨Or.inl ⟨(sx_dd bb_79 dX7_like_91), rfl⟩, ox79_93⟩
def x79_88 : List sx_E := (.if_icmp .ge (6), 88, 91, [94], .null) :: x79_91
theorem ox79_88 : sx_oks 79 x79_88 := ⟨⟨(sx_dd bb_79 dX7_like_88), rfl, sx_t1 (by decide +kernel)⟩, ox79_91⟩
def x79_87 : List sx_E := (.iaload, 87, 88, [], .null) :: x79_88
theorem ox79_87 : sx_oks 79 x79_87 := ⟨⟨(sx_dd bb_79 dX7_like_87), rfl⟩, ox79_88⟩
def x79_86 : List sx_E := (.iload 3, 86, 87, [], .null) :: x79_87
theorem ox79_86 : sx_oks 79 x79_86 := ⟨Or.inr ⟨_, (sx_dd bb_79 dX7_like_86), rfl, rfl⟩, ox79_87⟩
def x79_83 : List sx_E := (.getfield 60, 83, 86, [6, 0, 1], .null) :: x79_86
theorem ox79_83 : sx_oks 79 x79_83 := ⟨sx_q_get (w := (RX7, TX7, 12)) (sx_dd bb_79 dX7_like_83) rfl rfl (Nat.le_of_ble_eq_true rfl) cu_6 (sx_ow3 oo_79 fl_StrawGarrison_60) (by decide +kernel), ox79_86⟩
def x79_82 : List sx_E := (.aload 0, 82, 83, [], .null) :: x79_83
theorem ox79_82 : sx_oks 79 x79_82 := ⟨Or.inr ⟨_, (sx_dd bb_79 dX7_like_82), rfl, rfl⟩, ox79_83⟩
def x79_81 : List sx_E := (.iaload, 81, 82, [], .null) :: x79_82
theorem ox79_81 : sx_oks 79 x79_81 := ⟨⟨(sx_dd bb_79 dX7_like_81), rfl⟩, ox79_82⟩
def x79_79 : List sx_E := (.iload 4, 79, 81, [], .null) :: x79_81
theorem ox79_79 : sx_oks 79 x79_79 := ⟨Or.inl ⟨(sx_dd bb_79 dX7_like_79), rfl⟩, ox79_81⟩
def x79_76 : List sx_E := (.getfield 60, 76, 79, [6, 0, 1], .null) :: x79_79
theorem ox79_76 : sx_oks 79 x79_76 := ⟨sx_q_get (w := (RX7, TX7, 12)) (sx_dd bb_79 dX7_like_76) rfl rfl (Nat.le_of_ble_eq_true rfl) cu_6 (sx_ow3 oo_79 fl_StrawGarrison_60) (by decide +kernel), ox79_79⟩
def x79_75 : List sx_E := (.aload 0, 75, 76, [], .null) :: x79_76
theorem ox79_75 : sx_oks 79 x79_75 := ⟨Or.inr ⟨_, (sx_dd bb_79 dX7_like_75), rfl, rfl⟩, ox79_76⟩
def x79_72 : List sx_E := (.if_icmp .ge (28), 72, 75, [100], .null) :: x79_75
theorem ox79_72 : sx_oks 79 x79_72 := ⟨⟨(sx_dd bb_79 dX7_like_72), rfl, sx_t1 (by decide +kernel)⟩, ox79_75⟩
def x79_69 : List sx_E := (.getfield 83, 69, 72, [1, 1, 0], .null) :: x79_72
theorem ox79_69 : sx_oks 79 x79_69 := ⟨sx_q_get (w := (RX1, TX1, 11)) (sx_dd bb_79 dX7_like_69) rfl rfl (Nat.le_of_ble_eq_true rfl) cu_1 (sx_ow3 oo_79 fl_StrawGarrison_83) (by decide +kernel), ox79_72⟩
def x79_66 : List sx_E := (.getfield 10, 66, 69, [6, 1, 1], .null) :: x79_69
theorem ox79_66 : sx_oks 79 x79_66 := ⟨sx_q_get (w := (RX7, TX7, 12)) (sx_dd bb_79 dX7_like_66) rfl rfl (Nat.le_of_ble_eq_true rfl) cu_6 (sx_ow3 oo_79 fl_StrawGarrison_10) (by decide +kernel), ox79_69⟩
def x79_65 : List sx_E := (.aload 0, 65, 66, [], .null) :: x79_66
theorem ox79_65 : sx_oks 79 x79_65 := ⟨Or.inr ⟨_, (sx_dd bb_79 dX7_like_65), rfl, rfl⟩, ox79_66⟩
def x79_63 : List sx_E := (.iload 4, 63, 65, [], .null) :: x79_65
theorem ox79_63 : sx_oks 79 x79_63 := ⟨Or.inl ⟨(sx_dd bb_79 dX7_like_63), rfl⟩, ox79_65⟩
def x79_63h : List sx_E := (.monitorenter, 63, 63, [0, 2, 3, 4], .null) :: x79_63
theorem ox79_63h : sx_oks 79 x79_63h := ⟨trivial, ox79_63⟩
def x79_61 : List sx_E := (.istore 4, 61, 63, [], .null) :: x79_63h
theorem ox79_61 : sx_oks 79 x79_61 := ⟨⟨sx_lt mm_79 (Nat.le_of_ble_eq_true rfl), Or.inl ⟨(sx_dd bb_79 dX7_like_61), rfl⟩⟩, ox79_63h⟩
def x79_60 : List sx_E := (.nop, 60, 61, [], .int (nI 1)) :: x79_61
theorem ox79_60 : sx_oks 79 x79_60 := ⟨sx_k_iconst (sx_dd bb_79 dX7_like_60) (by decide +kernel), ox79_61⟩
def x79_59 : List sx_E := (.istore 3, 59, 60, [], .null) :: x79_60
theorem ox79_59 : sx_oks 79 x79_59 := ⟨⟨sx_lt mm_79 (Nat.le_of_ble_eq_true rfl), Or.inr ⟨_, (sx_dd bb_79 dX7_like_59), rfl, rfl⟩⟩, ox79_60⟩
def x79_58 : List sx_E := (.nop, 58, 59, [], .int (nI 0)) :: x79_59
theorem ox79_58 : sx_oks 79 x79_58 := ⟨sx_k_iconst (sx_dd bb_79 dX7_like_58) (by decide +kernel), ox79_59⟩
def x79_55 : List sx_E := (.invokevirtual 195, 55, 58, [110, 2, 0, 0, 6], .null) :: x79_58
theorem ox79_55 : sx_oks 79 x79_55 := ⟨sx_q_V (w := (RX7, TX7, 12)) (sx_dd bb_79 dX7_like_55) oo_79 lk_StrawGarrison_195_V ft_110_h (Nat.le_of_ble_eq_true rfl) rfl rfl, ox79_58⟩
def x79_54 : List sx_E := (.aaload, 54, 55, [], .null) :: x79_55
theorem ox79_54 : sx_oks 79 x79_54 := ⟨⟨(sx_dd bb_79 dX7_like_54), rfl⟩, ox79_55⟩
def x79_53 : List sx_E := (.iload 1, 53, 54, [], .null) :: x79_54
theorem ox79_53 : sx_oks 79 x79_53 := ⟨Or.inr ⟨_, (sx_dd bb_79 dX7_like_53), rfl, rfl⟩, ox79_54⟩
def x79_50 : List sx_E := (.getfield 43, 50, 53, [6, 8, 1], .null) :: x79_53
theorem ox79_50 : sx_oks 79 x79_50 := ⟨sx_q_get (w := (RX7, TX7, 12)) (sx_dd bb_79 dX7_like_50) rfl rfl (Nat.le_of_ble_eq_true rfl) cu_6 (sx_ow3 oo_79 fl_StrawGarrison_43) (by decide +kernel), ox79_53⟩
def x79_49 : List sx_E := (.aload 0, 49, 50, [], .null) :: x79_50
theorem ox79_49 : sx_oks 79 x79_49 := ⟨Or.inr ⟨_, (sx_dd bb_79 dX7_like_49), rfl, rfl⟩, ox79_50⟩
def x79_48 : List sx_E := (.aload 0, 48, 49, [], .null) :: x79_49
theorem ox79_48 : sx_oks 79 x79_48 := ⟨Or.inr ⟨_, (sx_dd bb_79 dX7_like_48), rfl, rfl⟩, ox79_49⟩
def x79_47 : List sx_E := (.ireturn, 47, 48, [0], .null) :: x79_48
theorem ox79_47 : sx_oks 79 x79_47 := ⟨sx_q_iret0 (sx_dd bb_79 dX7_like_47) rr_79, ox79_48⟩
def x79_45 : List sx_E := (.nop, 45, 47, [], .int ((-1000000005))) :: x79_47
theorem ox79_45 : sx_oks 79 x79_45 := ⟨sx_k_ldc (sx_dd bb_79 dX7_like_45) (sx_ow1 oo_79 kc_StrawGarrison_81), ox79_47⟩
def x79_42 : List sx_E := (.ifCond .ne (6), 42, 45, [48], .null) :: x79_45
theorem ox79_42 : sx_oks 79 x79_42 := ⟨⟨(sx_dd bb_79 dX7_like_42), rfl, sx_t1 (by decide +kernel)⟩, ox79_45⟩
def x79_39 : List sx_E := (.getfield 83, 39, 42, [1, 1, 0], .null) :: x79_42
theorem ox79_39 : sx_oks 79 x79_39 := ⟨sx_q_get (w := (RX1, TX1, 11)) (sx_dd bb_79 dX7_like_39) rfl rfl (Nat.le_of_ble_eq_true rfl) cu_1 (sx_ow3 oo_79 fl_StrawGarrison_83) (by decide +kernel), ox79_42⟩
def x79_36 : List sx_E := (.getfield 10, 36, 39, [6, 1, 1], .null) :: x79_39
theorem ox79_36 : sx_oks 79 x79_36 := ⟨sx_q_get (w := (RX7, TX7, 12)) (sx_dd bb_79 dX7_like_36) rfl rfl (Nat.le_of_ble_eq_true rfl) cu_6 (sx_ow3 oo_79 fl_StrawGarrison_10) (by decide +kernel), ox79_39⟩
def x79_35 : List sx_E := (.aload 0, 35, 36, [], .null) :: x79_36
theorem ox79_35 : sx_oks 79 x79_35 := ⟨Or.inr ⟨_, (sx_dd bb_79 dX7_like_35), rfl, rfl⟩, ox79_36⟩
def x79_34 : List sx_E := (.ireturn, 34, 35, [0], .null) :: x79_35
theorem ox79_34 : sx_oks 79 x79_34 := ⟨sx_q_iret0 (sx_dd bb_79 dX7_like_34) rr_79, ox79_35⟩
def x79_32 : List sx_E := (.nop, 32, 34, [], .int ((-1000000011))) :: x79_34
theorem ox79_32 : sx_oks 79 x79_32 := ⟨sx_k_ldc (sx_dd bb_79 dX7_like_32) (sx_ow1 oo_79 kc_StrawGarrison_194), ox79_34⟩
def x79_29 : List sx_E := (.if_icmp .ne (6), 29, 32, [35], .null) :: x79_32
theorem ox79_29 : sx_oks 79 x79_29 := ⟨⟨(sx_dd bb_79 dX7_like_29), rfl, sx_t1 (by decide +kernel)⟩, ox79_32⟩
def x79_28 : List sx_E := (.nop, 28, 29, [], .int ((-1))) :: x79_29
theorem ox79_28 : sx_oks 79 x79_28 := ⟨sx_k_iconst (sx_dd bb_79 dX7_like_28) (by decide +kernel), ox79_29⟩
def x79_25 : List sx_E := (.getfield 191, 25, 28, [3, 0, 0], .null) :: x79_28
theorem ox79_25 : sx_oks 79 x79_25 := ⟨sx_q_get (w := (RX4, TX4, 3)) (sx_dd bb_79 dX7_like_25) rfl rfl (Nat.le_of_ble_eq_true rfl) cu_3 (sx_ow3 oo_79 fl_StrawGarrison_191) (by decide +kernel), ox79_28⟩
def x79_24 : List sx_E := (.aaload, 24, 25, [], .null) :: x79_25
theorem ox79_24 : sx_oks 79 x79_24 := ⟨⟨(sx_dd bb_79 dX7_like_24), rfl⟩, ox79_25⟩
def x79_23 : List sx_E := (.iload 1, 23, 24, [], .null) :: x79_24
theorem ox79_23 : sx_oks 79 x79_23 := ⟨Or.inr ⟨_, (sx_dd bb_79 dX7_like_23), rfl, rfl⟩, ox79_24⟩
def x79_20 : List sx_E := (.getfield 43, 20, 23, [6, 8, 1], .null) :: x79_23
theorem ox79_20 : sx_oks 79 x79_20 := ⟨sx_q_get (w := (RX7, TX7, 12)) (sx_dd bb_79 dX7_like_20) rfl rfl (Nat.le_of_ble_eq_true rfl) cu_6 (sx_ow3 oo_79 fl_StrawGarrison_43) (by decide +kernel), ox79_23⟩
def x79_19 : List sx_E := (.aload 0, 19, 20, [], .null) :: x79_20
theorem ox79_19 : sx_oks 79 x79_19 := ⟨Or.inr ⟨_, (sx_dd bb_79 dX7_like_19), rfl, rfl⟩, ox79_20⟩
def x79_18 : List sx_E := (.ireturn, 18, 19, [0], .null) :: x79_19
theorem ox79_18 : sx_oks 79 x79_18 := ⟨sx_q_iret0 (sx_dd bb_79 dX7_like_18) rr_79, ox79_19⟩
def x79_16 : List sx_E := (.nop, 16, 18, [], .int ((-1000000001))) :: x79_18
theorem ox79_16 : sx_oks 79 x79_16 := ⟨sx_k_ldc (sx_dd bb_79 dX7_like_16) (sx_ow1 oo_79 kc_StrawGarrison_76), ox79_18⟩
def x79_13 : List sx_E := (.ifCond .ne (6), 13, 16, [19], .null) :: x79_16
theorem ox79_13 : sx_oks 79 x79_13 := ⟨⟨(sx_dd bb_79 dX7_like_13), rfl, sx_t1 (by decide +kernel)⟩, ox79_16⟩
def x79_10 : List sx_E := (.invokestatic 72, 10, 13, [106, 3, 0, 0], .null) :: x79_13
theorem ox79_10 : sx_oks 79 x79_10 := ⟨sx_q_S (sx_dd bb_79 dX7_like_10) oo_79 lk_StrawGarrison_72_S ft_106_h, ox79_13⟩
def x79_9 : List sx_E := (.nop, 9, 10, [], .int (nI 1)) :: x79_10
theorem ox79_9 : sx_oks 79 x79_9 := ⟨sx_k_iconst (sx_dd bb_79 dX7_like_9) (by decide +kernel), ox79_10⟩
def x79_8 : List sx_E := (.nop, 8, 9, [], .int (nI 0)) :: x79_9
theorem ox79_8 : sx_oks 79 x79_8 := ⟨sx_k_iconst (sx_dd bb_79 dX7_like_8) (by decide +kernel), ox79_9⟩
def x79_7 : List sx_E := (.iload 2, 7, 8, [], .null) :: x79_8
theorem ox79_7 : sx_oks 79 x79_7 := ⟨Or.inr ⟨_, (sx_dd bb_79 dX7_like_7), rfl, rfl⟩, ox79_8⟩
def x79_4 : List sx_E := (.ifCond .eq (12), 4, 7, [16], .null) :: x79_7
theorem ox79_4 : sx_oks 79 x79_4 := ⟨⟨(sx_dd bb_79 dX7_like_4), rfl, sx_t1 (by decide +kernel)⟩, ox79_7⟩
def x79_1 : List sx_E := (.invokestatic 188, 1, 4, [104, 1, 0, 0], .null) :: x79_4
theorem ox79_1 : sx_oks 79 x79_1 := ⟨sx_q_S (sx_dd bb_79 dX7_like_1) oo_79 lk_StrawGarrison_188_S ft_104_h, ox79_4⟩
def x79_0 : List sx_E := (.iload 1, 0, 1, [], .null) :: x79_1
theorem ox79_0 : sx_oks 79 x79_0 := ⟨Or.inr ⟨_, (sx_dd bb_79 dX7_like_0), rfl, rfl⟩, ox79_1⟩
theorem m79 : sx_mok 79 x79_0 := ⟨ox79_0, by decide +kernel⟩
theorem bb_80 : sx_by 80 = cX7_fee := rfl
theorem oo_80 : (sx_nm 80).cls = "StrawGarrison" := rfl
theorem mm_80 : sx_ml 80 = 2 := rfl
theorem rr_80 : sx_rt 80 = (some .int) := rfl
def x80_51 : List sx_E := (.ireturn, 51, 52, [0], .null) :: []
theorem ox80_51 : sx_oks 80 x80_51 := ⟨sx_q_iret0 (sx_dd bb_80 dX7_fee_51) rr_80, trivial⟩
def x80_48 : List sx_E := (.invokevirtual 209, 48, 51, [3, 4, 0, 0, 5], .null) :: x80_51
theorem ox80_48 : sx_oks 80 x80_48 := ⟨sx_q_V (w := (RX6, TX6, 4)) (sx_dd bb_80 dX7_fee_48) oo_80 lk_StrawGarrison_209_V ft_3_h (Nat.le_of_ble_eq_true rfl) rfl rfl, ox80_51⟩
def x80_47 : List sx_E := (.nop, 47, 48, [], .int (nI 0)) :: x80_48
theorem ox80_47 : sx_oks 80 x80_47 := ⟨sx_k_iconst (sx_dd bb_80 dX7_fee_47) (by decide +kernel), ox80_48⟩
def x80_46 : List sx_E := (.iaload, 46, 47, [], .null) :: x80_47
theorem ox80_46 : sx_oks 80 x80_46 := ⟨⟨(sx_dd bb_80 dX7_fee_46), rfl⟩, ox80_47⟩
def x80_45 : List sx_E := (.nop, 45, 46, [], .int (nI 2)) :: x80_46
theorem ox80_45 : sx_oks 80 x80_45 := ⟨sx_k_iconst (sx_dd bb_80 dX7_fee_45) (by decide +kernel), ox80_46⟩
def x80_42 : List sx_E := (.getfield 156, 42, 45, [1, 8, 1], .null) :: x80_45
theorem ox80_42 : sx_oks 80 x80_42 := ⟨sx_q_get (w := (RX1, TX1, 11)) (sx_dd bb_80 dX7_fee_42) rfl rfl (Nat.le_of_ble_eq_true rfl) cu_1 (sx_ow3 oo_80 fl_StrawGarrison_156) (by decide +kernel), ox80_45⟩
def x80_39 : List sx_E := (.getfield 10, 39, 42, [6, 1, 1], .null) :: x80_42
theorem ox80_39 : sx_oks 80 x80_39 := ⟨sx_q_get (w := (RX7, TX7, 12)) (sx_dd bb_80 dX7_fee_39) rfl rfl (Nat.le_of_ble_eq_true rfl) cu_6 (sx_ow3 oo_80 fl_StrawGarrison_10) (by decide +kernel), ox80_42⟩
def x80_38 : List sx_E := (.aload 0, 38, 39, [], .null) :: x80_39
theorem ox80_38 : sx_oks 80 x80_38 := ⟨Or.inr ⟨_, (sx_dd bb_80 dX7_fee_38), rfl, rfl⟩, ox80_39⟩
def x80_37 : List sx_E := (.iaload, 37, 38, [], .null) :: x80_38
theorem ox80_37 : sx_oks 80 x80_37 := ⟨⟨(sx_dd bb_80 dX7_fee_37), rfl⟩, ox80_38⟩
def x80_36 : List sx_E := (.nop, 36, 37, [], .int (nI 1)) :: x80_37
theorem ox80_36 : sx_oks 80 x80_36 := ⟨sx_k_iconst (sx_dd bb_80 dX7_fee_36) (by decide +kernel), ox80_37⟩
def x80_33 : List sx_E := (.getfield 156, 33, 36, [1, 8, 1], .null) :: x80_36
theorem ox80_33 : sx_oks 80 x80_33 := ⟨sx_q_get (w := (RX1, TX1, 11)) (sx_dd bb_80 dX7_fee_33) rfl rfl (Nat.le_of_ble_eq_true rfl) cu_1 (sx_ow3 oo_80 fl_StrawGarrison_156) (by decide +kernel), ox80_36⟩
def x80_30 : List sx_E := (.getfield 10, 30, 33, [6, 1, 1], .null) :: x80_33
theorem ox80_30 : sx_oks 80 x80_30 := ⟨sx_q_get (w := (RX7, TX7, 12)) (sx_dd bb_80 dX7_fee_30) rfl rfl (Nat.le_of_ble_eq_true rfl) cu_6 (sx_ow3 oo_80 fl_StrawGarrison_10) (by decide +kernel), ox80_33⟩
def x80_29 : List sx_E := (.aload 0, 29, 30, [], .null) :: x80_30
theorem ox80_29 : sx_oks 80 x80_29 := ⟨Or.inr ⟨_, (sx_dd bb_80 dX7_fee_29), rfl, rfl⟩, ox80_30⟩
def x80_28 : List sx_E := (.aload 1, 28, 29, [], .null) :: x80_29
theorem ox80_28 : sx_oks 80 x80_28 := ⟨Or.inr ⟨_, (sx_dd bb_80 dX7_fee_28), rfl, rfl⟩, ox80_29⟩
def x80_25 : List sx_E := (.goto (26), 25, 28, [51], .null) :: x80_28
theorem ox80_25 : sx_oks 80 x80_25 := ⟨⟨(sx_dd bb_80 dX7_fee_25), sx_t1 (by decide +kernel)⟩, ox80_28⟩
def x80_24 : List sx_E := (.iaload, 24, 25, [], .null) :: x80_25
theorem ox80_24 : sx_oks 80 x80_24 := ⟨⟨(sx_dd bb_80 dX7_fee_24), rfl⟩, ox80_25⟩
def x80_23 : List sx_E := (.nop, 23, 24, [], .int (nI 1)) :: x80_24
theorem ox80_23 : sx_oks 80 x80_23 := ⟨sx_k_iconst (sx_dd bb_80 dX7_fee_23) (by decide +kernel), ox80_24⟩
def x80_20 : List sx_E := (.getfield 156, 20, 23, [1, 8, 1], .null) :: x80_23
theorem ox80_20 : sx_oks 80 x80_20 := ⟨sx_q_get (w := (RX1, TX1, 11)) (sx_dd bb_80 dX7_fee_20) rfl rfl (Nat.le_of_ble_eq_true rfl) cu_1 (sx_ow3 oo_80 fl_StrawGarrison_156) (by decide +kernel), ox80_23⟩
def x80_17 : List sx_E := (.getfield 10, 17, 20, [6, 1, 1], .null) :: x80_20
theorem ox80_17 : sx_oks 80 x80_17 := ⟨sx_q_get (w := (RX7, TX7, 12)) (sx_dd bb_80 dX7_fee_17) rfl rfl (Nat.le_of_ble_eq_true rfl) cu_6 (sx_ow3 oo_80 fl_StrawGarrison_10) (by decide +kernel), ox80_20⟩
def x80_16 : List sx_E := (.aload 0, 16, 17, [], .null) :: x80_17
theorem ox80_16 : sx_oks 80 x80_16 := ⟨Or.inr ⟨_, (sx_dd bb_80 dX7_fee_16), rfl, rfl⟩, ox80_17⟩
def x80_13 : List sx_E := (.ifnonnull (15), 13, 16, [28], .null) :: x80_16
theorem ox80_13 : sx_oks 80 x80_13 := ⟨⟨(sx_dd bb_80 dX7_fee_13), rfl, sx_t1 (by decide +kernel)⟩, ox80_16⟩
def x80_12 : List sx_E := (.aload 1, 12, 13, [], .null) :: x80_13
theorem ox80_12 : sx_oks 80 x80_12 := ⟨Or.inr ⟨_, (sx_dd bb_80 dX7_fee_12), rfl, rfl⟩, ox80_13⟩
def x80_11 : List sx_E := (.astore 1, 11, 12, [], .null) :: x80_12
theorem ox80_11 : sx_oks 80 x80_11 := ⟨⟨sx_lt mm_80 (Nat.le_of_ble_eq_true rfl), Or.inr ⟨_, (sx_dd bb_80 dX7_fee_11), rfl, rfl⟩⟩, ox80_12⟩
def x80_8 : List sx_E := (.invokevirtual 203, 8, 11, [231, 2, 0, 0, 0], .null) :: x80_11
theorem ox80_8 : sx_oks 80 x80_8 := ⟨sx_q_V (w := (RX0, TX0, 3)) (sx_dd bb_80 dX7_fee_8) oo_80 lk_StrawGarrison_203_V ft_231_h (Nat.le_of_ble_eq_true rfl) rfl rfl, ox80_11⟩
def x80_7 : List sx_E := (.nop, 7, 8, [], .int (nI 1)) :: x80_8
theorem ox80_7 : sx_oks 80 x80_7 := ⟨sx_k_iconst (sx_dd bb_80 dX7_fee_7) (by decide +kernel), ox80_8⟩
def x80_4 : List sx_E := (.getfield 199, 4, 7, [1, 0, 1], .null) :: x80_7
theorem ox80_4 : sx_oks 80 x80_4 := ⟨sx_q_get (w := (RX1, TX1, 11)) (sx_dd bb_80 dX7_fee_4) rfl rfl (Nat.le_of_ble_eq_true rfl) cu_1 (sx_ow3 oo_80 fl_StrawGarrison_199) (by decide +kernel), ox80_7⟩
def x80_1 : List sx_E := (.getfield 10, 1, 4, [6, 1, 1], .null) :: x80_4
theorem ox80_1 : sx_oks 80 x80_1 := ⟨sx_q_get (w := (RX7, TX7, 12)) (sx_dd bb_80 dX7_fee_1) rfl rfl (Nat.le_of_ble_eq_true rfl) cu_6 (sx_ow3 oo_80 fl_StrawGarrison_10) (by decide +kernel), ox80_4⟩
def x80_0 : List sx_E := (.aload 0, 0, 1, [], .null) :: x80_1
theorem ox80_0 : sx_oks 80 x80_0 := ⟨Or.inr ⟨_, (sx_dd bb_80 dX7_fee_0), rfl, rfl⟩, ox80_1⟩
theorem m80 : sx_mok 80 x80_0 := ⟨ox80_0, by decide +kernel⟩
theorem bb_81 : sx_by 81 = cX7_fine := rfl
theorem oo_81 : (sx_nm 81).cls = "StrawGarrison" := rfl
theorem mm_81 : sx_ml 81 = 3 := rfl
theorem rr_81 : sx_rt 81 = (some .int) := rfl
def x81_62 : List sx_E := (.ireturn, 62, 63, [0], .null) :: []
theorem ox81_62 : sx_oks 81 x81_62 := ⟨sx_q_iret0 (sx_dd bb_81 dX7_fine_62) rr_81, trivial⟩
def x81_59 : List sx_E := (.invokevirtual 209, 59, 62, [3, 4, 0, 0, 5], .null) :: x81_62
theorem ox81_59 : sx_oks 81 x81_59 := ⟨sx_q_V (w := (RX6, TX6, 4)) (sx_dd bb_81 dX7_fine_59) oo_81 lk_StrawGarrison_209_V ft_3_h (Nat.le_of_ble_eq_true rfl) rfl rfl, ox81_62⟩
def x81_58 : List sx_E := (.nop, 58, 59, [], .int (nI 0)) :: x81_59
theorem ox81_58 : sx_oks 81 x81_58 := ⟨sx_k_iconst (sx_dd bb_81 dX7_fine_58) (by decide +kernel), ox81_59⟩
def x81_57 : List sx_E := (.iaload, 57, 58, [], .null) :: x81_58
theorem ox81_57 : sx_oks 81 x81_57 := ⟨⟨(sx_dd bb_81 dX7_fine_57), rfl⟩, ox81_58⟩
def x81_56 : List sx_E := (.iload 1, 56, 57, [], .null) :: x81_57
theorem ox81_56 : sx_oks 81 x81_56 := ⟨Or.inr ⟨_, (sx_dd bb_81 dX7_fine_56), rfl, rfl⟩, ox81_57⟩
def x81_53 : List sx_E := (.getfield 103, 53, 56, [1, 5, 1], .null) :: x81_56
theorem ox81_53 : sx_oks 81 x81_53 := ⟨sx_q_get (w := (RX1, TX1, 11)) (sx_dd bb_81 dX7_fine_53) rfl rfl (Nat.le_of_ble_eq_true rfl) cu_1 (sx_ow3 oo_81 fl_StrawGarrison_103) (by decide +kernel), ox81_56⟩
def x81_50 : List sx_E := (.getfield 10, 50, 53, [6, 1, 1], .null) :: x81_53
theorem ox81_50 : sx_oks 81 x81_50 := ⟨sx_q_get (w := (RX7, TX7, 12)) (sx_dd bb_81 dX7_fine_50) rfl rfl (Nat.le_of_ble_eq_true rfl) cu_6 (sx_ow3 oo_81 fl_StrawGarrison_10) (by decide +kernel), ox81_53⟩
def x81_49 : List sx_E := (.aload 0, 49, 50, [], .null) :: x81_50
theorem ox81_49 : sx_oks 81 x81_49 := ⟨Or.inr ⟨_, (sx_dd bb_81 dX7_fine_49), rfl, rfl⟩, ox81_50⟩
def x81_48 : List sx_E := (.iaload, 48, 49, [], .null) :: x81_49
theorem ox81_48 : sx_oks 81 x81_48 := ⟨⟨(sx_dd bb_81 dX7_fine_48), rfl⟩, ox81_49⟩
def x81_47 : List sx_E := (.iload 1, 47, 48, [], .null) :: x81_48
theorem ox81_47 : sx_oks 81 x81_47 := ⟨Or.inr ⟨_, (sx_dd bb_81 dX7_fine_47), rfl, rfl⟩, ox81_48⟩
def x81_44 : List sx_E := (.getfield 97, 44, 47, [1, 4, 1], .null) :: x81_47
theorem ox81_44 : sx_oks 81 x81_44 := ⟨sx_q_get (w := (RX1, TX1, 11)) (sx_dd bb_81 dX7_fine_44) rfl rfl (Nat.le_of_ble_eq_true rfl) cu_1 (sx_ow3 oo_81 fl_StrawGarrison_97) (by decide +kernel), ox81_47⟩
def x81_41 : List sx_E := (.getfield 10, 41, 44, [6, 1, 1], .null) :: x81_44
theorem ox81_41 : sx_oks 81 x81_41 := ⟨sx_q_get (w := (RX7, TX7, 12)) (sx_dd bb_81 dX7_fine_41) rfl rfl (Nat.le_of_ble_eq_true rfl) cu_6 (sx_ow3 oo_81 fl_StrawGarrison_10) (by decide +kernel), ox81_44⟩
def x81_40 : List sx_E := (.aload 0, 40, 41, [], .null) :: x81_41
theorem ox81_40 : sx_oks 81 x81_40 := ⟨Or.inr ⟨_, (sx_dd bb_81 dX7_fine_40), rfl, rfl⟩, ox81_41⟩
def x81_39 : List sx_E := (.aload 2, 39, 40, [], .null) :: x81_40
theorem ox81_39 : sx_oks 81 x81_39 := ⟨Or.inr ⟨_, (sx_dd bb_81 dX7_fine_39), rfl, rfl⟩, ox81_40⟩
def x81_36 : List sx_E := (.goto (26), 36, 39, [62], .null) :: x81_39
theorem ox81_36 : sx_oks 81 x81_36 := ⟨⟨(sx_dd bb_81 dX7_fine_36), sx_t1 (by decide +kernel)⟩, ox81_39⟩
def x81_35 : List sx_E := (.iaload, 35, 36, [], .null) :: x81_36
theorem ox81_35 : sx_oks 81 x81_35 := ⟨⟨(sx_dd bb_81 dX7_fine_35), rfl⟩, ox81_36⟩
def x81_34 : List sx_E := (.iload 1, 34, 35, [], .null) :: x81_35
theorem ox81_34 : sx_oks 81 x81_34 := ⟨Or.inr ⟨_, (sx_dd bb_81 dX7_fine_34), rfl, rfl⟩, ox81_35⟩
def x81_31 : List sx_E := (.getfield 103, 31, 34, [1, 5, 1], .null) :: x81_34
theorem ox81_31 : sx_oks 81 x81_31 := ⟨sx_q_get (w := (RX1, TX1, 11)) (sx_dd bb_81 dX7_fine_31) rfl rfl (Nat.le_of_ble_eq_true rfl) cu_1 (sx_ow3 oo_81 fl_StrawGarrison_103) (by decide +kernel), ox81_34⟩
def x81_28 : List sx_E := (.getfield 10, 28, 31, [6, 1, 1], .null) :: x81_31
theorem ox81_28 : sx_oks 81 x81_28 := ⟨sx_q_get (w := (RX7, TX7, 12)) (sx_dd bb_81 dX7_fine_28) rfl rfl (Nat.le_of_ble_eq_true rfl) cu_6 (sx_ow3 oo_81 fl_StrawGarrison_10) (by decide +kernel), ox81_31⟩
def x81_27 : List sx_E := (.aload 0, 27, 28, [], .null) :: x81_28
theorem ox81_27 : sx_oks 81 x81_27 := ⟨Or.inr ⟨_, (sx_dd bb_81 dX7_fine_27), rfl, rfl⟩, ox81_28⟩
def x81_24 : List sx_E := (.ifnonnull (15), 24, 27, [39], .null) :: x81_27
theorem ox81_24 : sx_oks 81 x81_24 := ⟨⟨(sx_dd bb_81 dX7_fine_24), rfl, sx_t1 (by decide +kernel)⟩, ox81_27⟩
def x81_23 : List sx_E := (.aload 2, 23, 24, [], .null) :: x81_24
theorem ox81_23 : sx_oks 81 x81_23 := ⟨Or.inr ⟨_, (sx_dd bb_81 dX7_fine_23), rfl, rfl⟩, ox81_24⟩
def x81_22 : List sx_E := (.astore 2, 22, 23, [], .null) :: x81_23
theorem ox81_22 : sx_oks 81 x81_22 := ⟨⟨sx_lt mm_81 (Nat.le_of_ble_eq_true rfl), Or.inr ⟨_, (sx_dd bb_81 dX7_fine_22), rfl, rfl⟩⟩, ox81_23⟩
def x81_19 : List sx_E := (.invokevirtual 203, 19, 22, [231, 2, 0, 0, 0], .null) :: x81_22
theorem ox81_19 : sx_oks 81 x81_19 := ⟨sx_q_V (w := (RX0, TX0, 3)) (sx_dd bb_81 dX7_fine_19) oo_81 lk_StrawGarrison_203_V ft_231_h (Nat.le_of_ble_eq_true rfl) rfl rfl, ox81_22⟩
def x81_18 : List sx_E := (.nop, 18, 19, [], .int (nI 2)) :: x81_19
theorem ox81_18 : sx_oks 81 x81_18 := ⟨sx_k_iconst (sx_dd bb_81 dX7_fine_18) (by decide +kernel), ox81_19⟩
def x81_15 : List sx_E := (.getfield 199, 15, 18, [1, 0, 1], .null) :: x81_18
theorem ox81_15 : sx_oks 81 x81_15 := ⟨sx_q_get (w := (RX1, TX1, 11)) (sx_dd bb_81 dX7_fine_15) rfl rfl (Nat.le_of_ble_eq_true rfl) cu_1 (sx_ow3 oo_81 fl_StrawGarrison_199) (by decide +kernel), ox81_18⟩
def x81_12 : List sx_E := (.getfield 10, 12, 15, [6, 1, 1], .null) :: x81_15
theorem ox81_12 : sx_oks 81 x81_12 := ⟨sx_q_get (w := (RX7, TX7, 12)) (sx_dd bb_81 dX7_fine_12) rfl rfl (Nat.le_of_ble_eq_true rfl) cu_6 (sx_ow3 oo_81 fl_StrawGarrison_10) (by decide +kernel), ox81_15⟩
def x81_11 : List sx_E := (.aload 0, 11, 12, [], .null) :: x81_12
theorem ox81_11 : sx_oks 81 x81_11 := ⟨Or.inr ⟨_, (sx_dd bb_81 dX7_fine_11), rfl, rfl⟩, ox81_12⟩
def x81_10 : List sx_E := (.ireturn, 10, 11, [0], .null) :: x81_11
theorem ox81_10 : sx_oks 81 x81_10 := ⟨sx_q_iret0 (sx_dd bb_81 dX7_fine_10) rr_81, ox81_11⟩
def x81_8 : List sx_E := (.nop, 8, 10, [], .int ((-1000000001))) :: x81_10
theorem ox81_8 : sx_oks 81 x81_8 := ⟨sx_k_ldc (sx_dd bb_81 dX7_fine_8) (sx_ow1 oo_81 kc_StrawGarrison_76), ox81_10⟩
def x81_5 : List sx_E := (.ifCond .ne (6), 5, 8, [11], .null) :: x81_8
theorem ox81_5 : sx_oks 81 x81_5 := ⟨⟨(sx_dd bb_81 dX7_fine_5), rfl, sx_t1 (by decide +kernel)⟩, ox81_8⟩
def x81_2 : List sx_E := (.invokevirtual 91, 2, 5, [101, 2, 0, 0, 6], .null) :: x81_5
theorem ox81_2 : sx_oks 81 x81_2 := ⟨sx_q_V (w := (RX7, TX7, 12)) (sx_dd bb_81 dX7_fine_2) oo_81 lk_StrawGarrison_91_V ft_101_h (Nat.le_of_ble_eq_true rfl) rfl rfl, ox81_5⟩
def x81_1 : List sx_E := (.iload 1, 1, 2, [], .null) :: x81_2
theorem ox81_1 : sx_oks 81 x81_1 := ⟨Or.inr ⟨_, (sx_dd bb_81 dX7_fine_1), rfl, rfl⟩, ox81_2⟩
def x81_0 : List sx_E := (.aload 0, 0, 1, [], .null) :: x81_1
theorem ox81_0 : sx_oks 81 x81_0 := ⟨Or.inr ⟨_, (sx_dd bb_81 dX7_fine_0), rfl, rfl⟩, ox81_1⟩
theorem m81 : sx_mok 81 x81_0 := ⟨ox81_0, by decide +kernel⟩
theorem bb_82 : sx_by 82 = cX7_feed := rfl
theorem oo_82 : (sx_nm 82).cls = "StrawGarrison" := rfl
theorem mm_82 : sx_ml 82 = 4 := rfl
theorem rr_82 : sx_rt 82 = (some .int) := rfl
def x82_34 : List sx_E := (.ireturn, 34, 35, [0], .null) :: []
theorem ox82_34 : sx_oks 82 x82_34 := ⟨sx_q_iret0 (sx_dd bb_82 dX7_feed_34) rr_82, trivial⟩
def x82_31 : List sx_E := (.getfield 37, 31, 34, [6, 7, 0], .null) :: x82_34
theorem ox82_31 : sx_oks 82 x82_31 := ⟨sx_q_get (w := (RX7, TX7, 12)) (sx_dd bb_82 dX7_feed_31) rfl rfl (Nat.le_of_ble_eq_true rfl) cu_6 (sx_ow3 oo_82 fl_StrawGarrison_37) (by decide +kernel), ox82_34⟩
def x82_30 : List sx_E := (.aload 0, 30, 31, [], .null) :: x82_31
theorem ox82_30 : sx_oks 82 x82_30 := ⟨Or.inr ⟨_, (sx_dd bb_82 dX7_feed_30), rfl, rfl⟩, ox82_31⟩
def x82_27 : List sx_E := (.invokevirtual 214, 27, 30, [111, 2, 0, 0, 6], .null) :: x82_30
theorem ox82_27 : sx_oks 82 x82_27 := ⟨sx_q_V (w := (RX7, TX7, 12)) (sx_dd bb_82 dX7_feed_27) oo_82 lk_StrawGarrison_214_V ft_111_h (Nat.le_of_ble_eq_true rfl) rfl rfl, ox82_30⟩
def x82_26 : List sx_E := (.iload 3, 26, 27, [], .null) :: x82_27
theorem ox82_26 : sx_oks 82 x82_26 := ⟨Or.inr ⟨_, (sx_dd bb_82 dX7_feed_26), rfl, rfl⟩, ox82_27⟩
def x82_25 : List sx_E := (.aload 0, 25, 26, [], .null) :: x82_26
theorem ox82_25 : sx_oks 82 x82_25 := ⟨Or.inr ⟨_, (sx_dd bb_82 dX7_feed_25), rfl, rfl⟩, ox82_26⟩
def x82_22 : List sx_E := (.invokevirtual 214, 22, 25, [111, 2, 0, 0, 6], .null) :: x82_25
theorem ox82_22 : sx_oks 82 x82_22 := ⟨sx_q_V (w := (RX7, TX7, 12)) (sx_dd bb_82 dX7_feed_22) oo_82 lk_StrawGarrison_214_V ft_111_h (Nat.le_of_ble_eq_true rfl) rfl rfl, ox82_25⟩
def x82_21 : List sx_E := (.iload 2, 21, 22, [], .null) :: x82_22
theorem ox82_21 : sx_oks 82 x82_21 := ⟨Or.inr ⟨_, (sx_dd bb_82 dX7_feed_21), rfl, rfl⟩, ox82_22⟩
def x82_20 : List sx_E := (.aload 0, 20, 21, [], .null) :: x82_21
theorem ox82_20 : sx_oks 82 x82_20 := ⟨Or.inr ⟨_, (sx_dd bb_82 dX7_feed_20), rfl, rfl⟩, ox82_21⟩
def x82_17 : List sx_E := (.invokevirtual 214, 17, 20, [111, 2, 0, 0, 6], .null) :: x82_20
theorem ox82_17 : sx_oks 82 x82_17 := ⟨sx_q_V (w := (RX7, TX7, 12)) (sx_dd bb_82 dX7_feed_17) oo_82 lk_StrawGarrison_214_V ft_111_h (Nat.le_of_ble_eq_true rfl) rfl rfl, ox82_20⟩
def x82_16 : List sx_E := (.iload 1, 16, 17, [], .null) :: x82_17
theorem ox82_16 : sx_oks 82 x82_16 := ⟨Or.inr ⟨_, (sx_dd bb_82 dX7_feed_16), rfl, rfl⟩, ox82_17⟩
def x82_15 : List sx_E := (.aload 0, 15, 16, [], .null) :: x82_16
theorem ox82_15 : sx_oks 82 x82_15 := ⟨Or.inr ⟨_, (sx_dd bb_82 dX7_feed_15), rfl, rfl⟩, ox82_16⟩
def x82_14 : List sx_E := (.ireturn, 14, 15, [0], .null) :: x82_15
theorem ox82_14 : sx_oks 82 x82_14 := ⟨sx_q_iret0 (sx_dd bb_82 dX7_feed_14) rr_82, ox82_15⟩
def x82_12 : List sx_E := (.nop, 12, 14, [], .int ((-1000000003))) :: x82_14
theorem ox82_12 : sx_oks 82 x82_12 := ⟨sx_k_ldc (sx_dd bb_82 dX7_feed_12) (sx_ow1 oo_82 kc_StrawGarrison_86), ox82_14⟩
def x82_9 : List sx_E := (.if_icmp .le (6), 9, 12, [15], .null) :: x82_12
theorem ox82_9 : sx_oks 82 x82_9 := ⟨⟨(sx_dd bb_82 dX7_feed_9), rfl, sx_t1 (by decide +kernel)⟩, ox82_12⟩
def x82_7 : List sx_E := (.nop, 7, 9, [], .int (nI 96)) :: x82_9
theorem ox82_7 : sx_oks 82 x82_7 := ⟨sx_k_bipush (sx_dd bb_82 dX7_feed_7) (by decide +kernel), ox82_9⟩
def x82_6 : List sx_E := (.iadd, 6, 7, [], .null) :: x82_7
theorem ox82_6 : sx_oks 82 x82_6 := ⟨⟨(sx_dd bb_82 dX7_feed_6), rfl⟩, ox82_7⟩
def x82_4 : List sx_E := (.nop, 4, 6, [], .int (nI 12)) :: x82_6
theorem ox82_4 : sx_oks 82 x82_4 := ⟨sx_k_bipush (sx_dd bb_82 dX7_feed_4) (by decide +kernel), ox82_6⟩
def x82_1 : List sx_E := (.getfield 37, 1, 4, [6, 7, 0], .null) :: x82_4
theorem ox82_1 : sx_oks 82 x82_1 := ⟨sx_q_get (w := (RX7, TX7, 12)) (sx_dd bb_82 dX7_feed_1) rfl rfl (Nat.le_of_ble_eq_true rfl) cu_6 (sx_ow3 oo_82 fl_StrawGarrison_37) (by decide +kernel), ox82_4⟩
def x82_0 : List sx_E := (.aload 0, 0, 1, [], .null) :: x82_1
theorem ox82_0 : sx_oks 82 x82_0 := ⟨Or.inr ⟨_, (sx_dd bb_82 dX7_feed_0), rfl, rfl⟩, ox82_1⟩
theorem m82 : sx_mok 82 x82_0 := ⟨ox82_0, by decide +kernel⟩
theorem bb_83 : sx_by 83 = cX7_trim := rfl
theorem oo_83 : (sx_nm 83).cls = "StrawGarrison" := rfl
theorem mm_83 : sx_ml 83 = 2 := rfl
theorem rr_83 : sx_rt 83 = (some .int) := rfl
def x83_21 : List sx_E := (.ireturn, 21, 22, [0], .null) :: []
theorem ox83_21 : sx_oks 83 x83_21 := ⟨sx_q_iret0 (sx_dd bb_83 dX7_trim_21) rr_83, trivial⟩
def x83_20 : List sx_E := (.iload 1, 20, 21, [], .null) :: x83_21
theorem ox83_20 : sx_oks 83 x83_20 := ⟨Or.inr ⟨_, (sx_dd bb_83 dX7_trim_20), rfl, rfl⟩, ox83_21⟩
def x83_17 : List sx_E := (.putfield 37, 17, 20, [6, 7, 0], .null) :: x83_20
theorem ox83_17 : sx_oks 83 x83_17 := ⟨sx_q_put (w := (RX7, TX7, 12)) (ty0 := tyX7) (sx_dd bb_83 dX7_trim_17) rfl (Nat.le_of_ble_eq_true rfl) cu_6 (sx_ow3 oo_83 fl_StrawGarrison_37) (by decide +kernel) tyX7_ok nmX7 (Or.inl rfl) (fun _ => rfl) (fun h => absurd h (by decide)) (fun h => absurd h (by decide)), ox83_20⟩
def x83_16 : List sx_E := (.iload 1, 16, 17, [], .null) :: x83_17
theorem ox83_16 : sx_oks 83 x83_16 := ⟨Or.inr ⟨_, (sx_dd bb_83 dX7_trim_16), rfl, rfl⟩, ox83_17⟩
def x83_15 : List sx_E := (.aload 0, 15, 16, [], .null) :: x83_16
theorem ox83_15 : sx_oks 83 x83_15 := ⟨Or.inr ⟨_, (sx_dd bb_83 dX7_trim_15), rfl, rfl⟩, ox83_16⟩
def x83_14 : List sx_E := (.ireturn, 14, 15, [0], .null) :: x83_15
theorem ox83_14 : sx_oks 83 x83_14 := ⟨sx_q_iret0 (sx_dd bb_83 dX7_trim_14) rr_83, ox83_15⟩
def x83_12 : List sx_E := (.nop, 12, 14, [], .int ((-1000000001))) :: x83_14
theorem ox83_12 : sx_oks 83 x83_12 := ⟨sx_k_ldc (sx_dd bb_83 dX7_trim_12) (sx_ow1 oo_83 kc_StrawGarrison_76), ox83_14⟩
def x83_9 : List sx_E := (.ifCond .ne (6), 9, 12, [15], .null) :: x83_12
theorem ox83_9 : sx_oks 83 x83_9 := ⟨⟨(sx_dd bb_83 dX7_trim_9), rfl, sx_t1 (by decide +kernel)⟩, ox83_12⟩
def x83_6 : List sx_E := (.invokestatic 72, 6, 9, [106, 3, 0, 0], .null) :: x83_9
theorem ox83_6 : sx_oks 83 x83_6 := ⟨sx_q_S (sx_dd bb_83 dX7_trim_6) oo_83 lk_StrawGarrison_72_S ft_106_h, ox83_9⟩
def x83_3 : List sx_E := (.getfield 37, 3, 6, [6, 7, 0], .null) :: x83_6
theorem ox83_3 : sx_oks 83 x83_3 := ⟨sx_q_get (w := (RX7, TX7, 12)) (sx_dd bb_83 dX7_trim_3) rfl rfl (Nat.le_of_ble_eq_true rfl) cu_6 (sx_ow3 oo_83 fl_StrawGarrison_37) (by decide +kernel), ox83_6⟩
def x83_2 : List sx_E := (.aload 0, 2, 3, [], .null) :: x83_3
theorem ox83_2 : sx_oks 83 x83_2 := ⟨Or.inr ⟨_, (sx_dd bb_83 dX7_trim_2), rfl, rfl⟩, ox83_3⟩
def x83_1 : List sx_E := (.nop, 1, 2, [], .int (nI 0)) :: x83_2
theorem ox83_1 : sx_oks 83 x83_1 := ⟨sx_k_iconst (sx_dd bb_83 dX7_trim_1) (by decide +kernel), ox83_2⟩
def x83_0 : List sx_E := (.iload 1, 0, 1, [], .null) :: x83_1
theorem ox83_0 : sx_oks 83 x83_0 := ⟨Or.inr ⟨_, (sx_dd bb_83 dX7_trim_0), rfl, rfl⟩, ox83_1⟩
theorem m83 : sx_mok 83 x83_0 := ⟨ox83_0, by decide +kernel⟩
theorem bb_84 : sx_by 84 = cX7_text := rfl
theorem oo_84 : (sx_nm 84).cls = "StrawGarrison" := rfl
theorem mm_84 : sx_ml 84 = 3 := rfl
theorem rr_84 : sx_rt 84 = (some .int) := rfl
def x84_50 : List sx_E := (.ireturn, 50, 51, [0], .null) :: []
theorem ox84_50 : sx_oks 84 x84_50 := ⟨sx_q_iret0 (sx_dd bb_84 dX7_text_50) rr_84, trivial⟩
def x84_49 : List sx_E := (.isub, 49, 50, [], .null) :: x84_50
theorem ox84_49 : sx_oks 84 x84_49 := ⟨⟨(sx_dd bb_84 dX7_text_49), rfl⟩, ox84_50⟩
def x84_48 : List sx_E := (.iload 2, 48, 49, [], .null) :: x84_49
theorem ox84_48 : sx_oks 84 x84_48 := ⟨Or.inr ⟨_, (sx_dd bb_84 dX7_text_48), rfl, rfl⟩, ox84_49⟩
def x84_46 : List sx_E := (.nop, 46, 48, [], .int ((-100))) :: x84_48
theorem ox84_46 : sx_oks 84 x84_46 := ⟨sx_k_bipush (sx_dd bb_84 dX7_text_46) (by decide +kernel), ox84_48⟩
def x84_43 : List sx_E := (.goto (7), 43, 46, [50], .null) :: x84_46
theorem ox84_43 : sx_oks 84 x84_43 := ⟨⟨(sx_dd bb_84 dX7_text_43), sx_t1 (by decide +kernel)⟩, ox84_46⟩
def x84_40 : List sx_E := (.invokevirtual 222, 40, 43, [230, 2, 3, 196, 0], .null) :: x84_43
theorem ox84_40 : sx_oks 84 x84_40 := ⟨sx_q_V (w := (RX0, TX0, 3)) (sx_dd bb_84 dX7_text_40) oo_84 lk_StrawGarrison_222_V ft_230_h (Nat.le_of_ble_eq_true rfl) rfl rfl, ox84_43⟩
def x84_37 : List sx_E := (.getfield 29, 37, 40, [6, 5, 1], .null) :: x84_40
theorem ox84_37 : sx_oks 84 x84_37 := ⟨sx_q_get (w := (RX7, TX7, 12)) (sx_dd bb_84 dX7_text_37) rfl rfl (Nat.le_of_ble_eq_true rfl) cu_6 (sx_ow3 oo_84 fl_StrawGarrison_29) (by decide +kernel), ox84_40⟩
def x84_36 : List sx_E := (.aload 0, 36, 37, [], .null) :: x84_37
theorem ox84_36 : sx_oks 84 x84_36 := ⟨Or.inr ⟨_, (sx_dd bb_84 dX7_text_36), rfl, rfl⟩, ox84_37⟩
def x84_33 : List sx_E := (.getfield 199, 33, 36, [1, 0, 1], .null) :: x84_36
theorem ox84_33 : sx_oks 84 x84_33 := ⟨sx_q_get (w := (RX1, TX1, 11)) (sx_dd bb_84 dX7_text_33) rfl rfl (Nat.le_of_ble_eq_true rfl) cu_1 (sx_ow3 oo_84 fl_StrawGarrison_199) (by decide +kernel), ox84_36⟩
def x84_30 : List sx_E := (.getfield 10, 30, 33, [6, 1, 1], .null) :: x84_33
theorem ox84_30 : sx_oks 84 x84_30 := ⟨sx_q_get (w := (RX7, TX7, 12)) (sx_dd bb_84 dX7_text_30) rfl rfl (Nat.le_of_ble_eq_true rfl) cu_6 (sx_ow3 oo_84 fl_StrawGarrison_10) (by decide +kernel), ox84_33⟩
def x84_29 : List sx_E := (.aload 0, 29, 30, [], .null) :: x84_30
theorem ox84_29 : sx_oks 84 x84_29 := ⟨Or.inr ⟨_, (sx_dd bb_84 dX7_text_29), rfl, rfl⟩, ox84_30⟩
def x84_26 : List sx_E := (.if_icmp .ne (20), 26, 29, [46], .null) :: x84_29
theorem ox84_26 : sx_oks 84 x84_26 := ⟨⟨(sx_dd bb_84 dX7_text_26), rfl, sx_t1 (by decide +kernel)⟩, ox84_29⟩
def x84_24 : List sx_E := (.nop, 24, 26, [], .int ((-1000000005))) :: x84_26
theorem ox84_24 : sx_oks 84 x84_24 := ⟨sx_k_ldc (sx_dd bb_84 dX7_text_24) (sx_ow1 oo_84 kc_StrawGarrison_81), ox84_26⟩
def x84_23 : List sx_E := (.iload 2, 23, 24, [], .null) :: x84_24
theorem ox84_23 : sx_oks 84 x84_23 := ⟨Or.inr ⟨_, (sx_dd bb_84 dX7_text_23), rfl, rfl⟩, ox84_24⟩
def x84_22 : List sx_E := (.istore 2, 22, 23, [], .null) :: x84_23
theorem ox84_22 : sx_oks 84 x84_22 := ⟨⟨sx_lt mm_84 (Nat.le_of_ble_eq_true rfl), Or.inr ⟨_, (sx_dd bb_84 dX7_text_22), rfl, rfl⟩⟩, ox84_23⟩
def x84_19 : List sx_E := (.invokevirtual 218, 19, 22, [32, 3, 0, 0, 2], .null) :: x84_22
theorem ox84_19 : sx_oks 84 x84_19 := ⟨sx_q_V (w := (RX3, TX3, 10)) (sx_dd bb_84 dX7_text_19) oo_84 lk_StrawGarrison_218_V ft_32_h (Nat.le_of_ble_eq_true rfl) rfl rfl, ox84_22⟩
def x84_18 : List sx_E := (.iload 1, 18, 19, [], .null) :: x84_19
theorem ox84_18 : sx_oks 84 x84_18 := ⟨Or.inr ⟨_, (sx_dd bb_84 dX7_text_18), rfl, rfl⟩, ox84_19⟩
def x84_15 : List sx_E := (.getfield 33, 15, 18, [6, 6, 1], .null) :: x84_18
theorem ox84_15 : sx_oks 84 x84_15 := ⟨sx_q_get (w := (RX7, TX7, 12)) (sx_dd bb_84 dX7_text_15) rfl rfl (Nat.le_of_ble_eq_true rfl) cu_6 (sx_ow3 oo_84 fl_StrawGarrison_33) (by decide +kernel), ox84_18⟩
def x84_14 : List sx_E := (.aload 0, 14, 15, [], .null) :: x84_15
theorem ox84_14 : sx_oks 84 x84_14 := ⟨Or.inr ⟨_, (sx_dd bb_84 dX7_text_14), rfl, rfl⟩, ox84_15⟩
def x84_11 : List sx_E := (.getfield 29, 11, 14, [6, 5, 1], .null) :: x84_14
theorem ox84_11 : sx_oks 84 x84_11 := ⟨sx_q_get (w := (RX7, TX7, 12)) (sx_dd bb_84 dX7_text_11) rfl rfl (Nat.le_of_ble_eq_true rfl) cu_6 (sx_ow3 oo_84 fl_StrawGarrison_29) (by decide +kernel), ox84_14⟩
def x84_10 : List sx_E := (.aload 0, 10, 11, [], .null) :: x84_11
theorem ox84_10 : sx_oks 84 x84_10 := ⟨Or.inr ⟨_, (sx_dd bb_84 dX7_text_10), rfl, rfl⟩, ox84_11⟩
def x84_7 : List sx_E := (.putfield 37, 7, 10, [6, 7, 0], .null) :: x84_10
theorem ox84_7 : sx_oks 84 x84_7 := ⟨sx_q_put (w := (RX7, TX7, 12)) (ty0 := tyX7) (sx_dd bb_84 dX7_text_7) rfl (Nat.le_of_ble_eq_true rfl) cu_6 (sx_ow3 oo_84 fl_StrawGarrison_37) (by decide +kernel) tyX7_ok nmX7 (Or.inl rfl) (fun _ => rfl) (fun h => absurd h (by decide)) (fun h => absurd h (by decide)), ox84_10⟩
def x84_6 : List sx_E := (.nop, 6, 7, [], .int (nI 0)) :: x84_7
theorem ox84_6 : sx_oks 84 x84_6 := ⟨sx_k_iconst (sx_dd bb_84 dX7_text_6) (by decide +kernel), ox84_7⟩
def x84_5 : List sx_E := (.aload 0, 5, 6, [], .null) :: x84_6
theorem ox84_5 : sx_oks 84 x84_5 := ⟨Or.inr ⟨_, (sx_dd bb_84 dX7_text_5), rfl, rfl⟩, ox84_6⟩
def x84_4 : List sx_E := (.istore 1, 4, 5, [], .null) :: x84_5
theorem ox84_4 : sx_oks 84 x84_4 := ⟨⟨sx_lt mm_84 (Nat.le_of_ble_eq_true rfl), Or.inr ⟨_, (sx_dd bb_84 dX7_text_4), rfl, rfl⟩⟩, ox84_5⟩
def x84_1 : List sx_E := (.getfield 37, 1, 4, [6, 7, 0], .null) :: x84_4
theorem ox84_1 : sx_oks 84 x84_1 := ⟨sx_q_get (w := (RX7, TX7, 12)) (sx_dd bb_84 dX7_text_1) rfl rfl (Nat.le_of_ble_eq_true rfl) cu_6 (sx_ow3 oo_84 fl_StrawGarrison_37) (by decide +kernel), ox84_4⟩
def x84_0 : List sx_E := (.aload 0, 0, 1, [], .null) :: x84_1
theorem ox84_0 : sx_oks 84 x84_0 := ⟨Or.inr ⟨_, (sx_dd bb_84 dX7_text_0), rfl, rfl⟩, ox84_1⟩
theorem m84 : sx_mok 84 x84_0 := ⟨ox84_0, by decide +kernel⟩
theorem bb_85 : sx_by 85 = cX7_textTold := rfl
theorem oo_85 : (sx_nm 85).cls = "StrawGarrison" := rfl
theorem mm_85 : sx_ml 85 = 4 := rfl
theorem rr_85 : sx_rt 85 = (some .int) := rfl
def x85_44 : List sx_E := (.ireturn, 44, 45, [0], .null) :: []
theorem ox85_44 : sx_oks 85 x85_44 := ⟨sx_q_iret0 (sx_dd bb_85 dX7_textTold_44) rr_85, trivial⟩
def x85_42 : List sx_E := (.nop, 42, 44, [], .int ((-1000000001))) :: x85_44
theorem ox85_42 : sx_oks 85 x85_42 := ⟨sx_k_ldc (sx_dd bb_85 dX7_textTold_42) (sx_ow1 oo_85 kc_StrawGarrison_76), ox85_44⟩
def x85_39 : List sx_E := (.goto (5), 39, 42, [44], .null) :: x85_42
theorem ox85_39 : sx_oks 85 x85_39 := ⟨⟨(sx_dd bb_85 dX7_textTold_39), sx_t1 (by decide +kernel)⟩, ox85_42⟩
def x85_36 : List sx_E := (.getfield 232, 36, 39, [5, 1, 0], .null) :: x85_39
theorem ox85_36 : sx_oks 85 x85_36 := ⟨sx_q_get (w := (RX6, TX6, 4)) (sx_dd bb_85 dX7_textTold_36) rfl rfl (Nat.le_of_ble_eq_true rfl) cu_5 (sx_ow3 oo_85 fl_StrawGarrison_232) (by decide +kernel), ox85_39⟩
def x85_35 : List sx_E := (.aload 3, 35, 36, [], .null) :: x85_36
theorem ox85_35 : sx_oks 85 x85_35 := ⟨Or.inr ⟨_, (sx_dd bb_85 dX7_textTold_35), rfl, rfl⟩, ox85_36⟩
def x85_32 : List sx_E := (.if_icmp .ne (10), 32, 35, [42], .null) :: x85_35
theorem ox85_32 : sx_oks 85 x85_32 := ⟨⟨(sx_dd bb_85 dX7_textTold_32), rfl, sx_t1 (by decide +kernel)⟩, ox85_35⟩
def x85_31 : List sx_E := (.nop, 31, 32, [], .int (nI 1)) :: x85_32
theorem ox85_31 : sx_oks 85 x85_31 := ⟨sx_k_iconst (sx_dd bb_85 dX7_textTold_31) (by decide +kernel), ox85_32⟩
def x85_30 : List sx_E := (.iload 2, 30, 31, [], .null) :: x85_31
theorem ox85_30 : sx_oks 85 x85_30 := ⟨Or.inr ⟨_, (sx_dd bb_85 dX7_textTold_30), rfl, rfl⟩, ox85_31⟩
def x85_27 : List sx_E := (.goto (17), 27, 30, [44], .null) :: x85_30
theorem ox85_27 : sx_oks 85 x85_27 := ⟨⟨(sx_dd bb_85 dX7_textTold_27), sx_t1 (by decide +kernel)⟩, ox85_30⟩
def x85_24 : List sx_E := (.getfield 229, 24, 27, [5, 0, 0], .null) :: x85_27
theorem ox85_24 : sx_oks 85 x85_24 := ⟨sx_q_get (w := (RX6, TX6, 4)) (sx_dd bb_85 dX7_textTold_24) rfl rfl (Nat.le_of_ble_eq_true rfl) cu_5 (sx_ow3 oo_85 fl_StrawGarrison_229) (by decide +kernel), ox85_27⟩
def x85_23 : List sx_E := (.aload 3, 23, 24, [], .null) :: x85_24
theorem ox85_23 : sx_oks 85 x85_23 := ⟨Or.inr ⟨_, (sx_dd bb_85 dX7_textTold_23), rfl, rfl⟩, ox85_24⟩
def x85_20 : List sx_E := (.ifCond .ne (10), 20, 23, [30], .null) :: x85_23
theorem ox85_20 : sx_oks 85 x85_20 := ⟨⟨(sx_dd bb_85 dX7_textTold_20), rfl, sx_t1 (by decide +kernel)⟩, ox85_23⟩
def x85_19 : List sx_E := (.iload 2, 19, 20, [], .null) :: x85_20
theorem ox85_19 : sx_oks 85 x85_19 := ⟨Or.inr ⟨_, (sx_dd bb_85 dX7_textTold_19), rfl, rfl⟩, ox85_20⟩
def x85_18 : List sx_E := (.ireturn, 18, 19, [0], .null) :: x85_19
theorem ox85_18 : sx_oks 85 x85_18 := ⟨sx_q_iret0 (sx_dd bb_85 dX7_textTold_18) rr_85, ox85_19⟩
def x85_16 : List sx_E := (.nop, 16, 18, [], .int ((-1000000001))) :: x85_18
theorem ox85_16 : sx_oks 85 x85_16 := ⟨sx_k_ldc (sx_dd bb_85 dX7_textTold_16) (sx_ow1 oo_85 kc_StrawGarrison_76), ox85_18⟩
def x85_13 : List sx_E := (.ifnonnull (6), 13, 16, [19], .null) :: x85_16
theorem ox85_13 : sx_oks 85 x85_13 := ⟨⟨(sx_dd bb_85 dX7_textTold_13), rfl, sx_t1 (by decide +kernel)⟩, ox85_16⟩
def x85_12 : List sx_E := (.aload 3, 12, 13, [], .null) :: x85_13
theorem ox85_12 : sx_oks 85 x85_12 := ⟨Or.inr ⟨_, (sx_dd bb_85 dX7_textTold_12), rfl, rfl⟩, ox85_13⟩
def x85_11 : List sx_E := (.astore 3, 11, 12, [], .null) :: x85_12
theorem ox85_11 : sx_oks 85 x85_11 := ⟨⟨sx_lt mm_85 (Nat.le_of_ble_eq_true rfl), Or.inr ⟨_, (sx_dd bb_85 dX7_textTold_11), rfl, rfl⟩⟩, ox85_12⟩
def x85_8 : List sx_E := (.invokevirtual 226, 8, 11, [2, 2, 0, 0, 0], .null) :: x85_11
theorem ox85_8 : sx_oks 85 x85_8 := ⟨sx_q_V (w := (RX0, TX0, 3)) (sx_dd bb_85 dX7_textTold_8) oo_85 lk_StrawGarrison_226_V ft_2_h (Nat.le_of_ble_eq_true rfl) rfl rfl, ox85_11⟩
def x85_7 : List sx_E := (.iload 1, 7, 8, [], .null) :: x85_8
theorem ox85_7 : sx_oks 85 x85_7 := ⟨Or.inr ⟨_, (sx_dd bb_85 dX7_textTold_7), rfl, rfl⟩, ox85_8⟩
def x85_4 : List sx_E := (.getfield 199, 4, 7, [1, 0, 1], .null) :: x85_7
theorem ox85_4 : sx_oks 85 x85_4 := ⟨sx_q_get (w := (RX1, TX1, 11)) (sx_dd bb_85 dX7_textTold_4) rfl rfl (Nat.le_of_ble_eq_true rfl) cu_1 (sx_ow3 oo_85 fl_StrawGarrison_199) (by decide +kernel), ox85_7⟩
def x85_1 : List sx_E := (.getfield 10, 1, 4, [6, 1, 1], .null) :: x85_4
theorem ox85_1 : sx_oks 85 x85_1 := ⟨sx_q_get (w := (RX7, TX7, 12)) (sx_dd bb_85 dX7_textTold_1) rfl rfl (Nat.le_of_ble_eq_true rfl) cu_6 (sx_ow3 oo_85 fl_StrawGarrison_10) (by decide +kernel), ox85_4⟩
def x85_0 : List sx_E := (.aload 0, 0, 1, [], .null) :: x85_1
theorem ox85_0 : sx_oks 85 x85_0 := ⟨Or.inr ⟨_, (sx_dd bb_85 dX7_textTold_0), rfl, rfl⟩, ox85_1⟩
theorem m85 : sx_mok 85 x85_0 := ⟨ox85_0, by decide +kernel⟩
theorem bb_86 : sx_by 86 = cX7_why := rfl
theorem oo_86 : (sx_nm 86).cls = "StrawGarrison" := rfl
theorem mm_86 : sx_ml 86 = 2 := rfl
theorem rr_86 : sx_rt 86 = (some .int) := rfl
def x86_26 : List sx_E := (.ireturn, 26, 27, [0], .null) :: []
theorem ox86_26 : sx_oks 86 x86_26 := ⟨sx_q_iret0 (sx_dd bb_86 dX7_why_26) rr_86, trivial⟩
def x86_24 : List sx_E := (.nop, 24, 26, [], .int ((-1000000001))) :: x86_26
theorem ox86_24 : sx_oks 86 x86_24 := ⟨sx_k_ldc (sx_dd bb_86 dX7_why_24) (sx_ow1 oo_86 kc_StrawGarrison_76), ox86_26⟩
def x86_21 : List sx_E := (.goto (5), 21, 24, [26], .null) :: x86_24
theorem ox86_21 : sx_oks 86 x86_21 := ⟨⟨(sx_dd bb_86 dX7_why_21), sx_t1 (by decide +kernel)⟩, ox86_24⟩
def x86_20 : List sx_E := (.iaload, 20, 21, [], .null) :: x86_21
theorem ox86_20 : sx_oks 86 x86_20 := ⟨⟨(sx_dd bb_86 dX7_why_20), rfl⟩, ox86_21⟩
def x86_19 : List sx_E := (.iload 1, 19, 20, [], .null) :: x86_20
theorem ox86_19 : sx_oks 86 x86_19 := ⟨Or.inr ⟨_, (sx_dd bb_86 dX7_why_19), rfl, rfl⟩, ox86_20⟩
def x86_16 : List sx_E := (.getfield 235, 16, 19, [0, 2, 1], .null) :: x86_19
theorem ox86_16 : sx_oks 86 x86_16 := ⟨sx_q_get (w := (RX0, TX0, 3)) (sx_dd bb_86 dX7_why_16) rfl rfl (Nat.le_of_ble_eq_true rfl) cu_0 (sx_ow3 oo_86 fl_StrawGarrison_235) (by decide +kernel), ox86_19⟩
def x86_13 : List sx_E := (.getfield 199, 13, 16, [1, 0, 1], .null) :: x86_16
theorem ox86_13 : sx_oks 86 x86_13 := ⟨sx_q_get (w := (RX1, TX1, 11)) (sx_dd bb_86 dX7_why_13) rfl rfl (Nat.le_of_ble_eq_true rfl) cu_1 (sx_ow3 oo_86 fl_StrawGarrison_199) (by decide +kernel), ox86_16⟩
def x86_10 : List sx_E := (.getfield 10, 10, 13, [6, 1, 1], .null) :: x86_13
theorem ox86_10 : sx_oks 86 x86_10 := ⟨sx_q_get (w := (RX7, TX7, 12)) (sx_dd bb_86 dX7_why_10) rfl rfl (Nat.le_of_ble_eq_true rfl) cu_6 (sx_ow3 oo_86 fl_StrawGarrison_10) (by decide +kernel), ox86_13⟩
def x86_9 : List sx_E := (.aload 0, 9, 10, [], .null) :: x86_10
theorem ox86_9 : sx_oks 86 x86_9 := ⟨Or.inr ⟨_, (sx_dd bb_86 dX7_why_9), rfl, rfl⟩, ox86_10⟩
def x86_6 : List sx_E := (.ifCond .eq (18), 6, 9, [24], .null) :: x86_9
theorem ox86_6 : sx_oks 86 x86_6 := ⟨⟨(sx_dd bb_86 dX7_why_6), rfl, sx_t1 (by decide +kernel)⟩, ox86_9⟩
def x86_3 : List sx_E := (.invokestatic 72, 3, 6, [106, 3, 0, 0], .null) :: x86_6
theorem ox86_3 : sx_oks 86 x86_3 := ⟨sx_q_S (sx_dd bb_86 dX7_why_3) oo_86 lk_StrawGarrison_72_S ft_106_h, ox86_6⟩
def x86_2 : List sx_E := (.nop, 2, 3, [], .int (nI 2)) :: x86_3
theorem ox86_2 : sx_oks 86 x86_2 := ⟨sx_k_iconst (sx_dd bb_86 dX7_why_2) (by decide +kernel), ox86_3⟩
def x86_1 : List sx_E := (.nop, 1, 2, [], .int (nI 0)) :: x86_2
theorem ox86_1 : sx_oks 86 x86_1 := ⟨sx_k_iconst (sx_dd bb_86 dX7_why_1) (by decide +kernel), ox86_2⟩
def x86_0 : List sx_E := (.iload 1, 0, 1, [], .null) :: x86_1
theorem ox86_0 : sx_oks 86 x86_0 := ⟨Or.inr ⟨_, (sx_dd bb_86 dX7_why_0), rfl, rfl⟩, ox86_1⟩
theorem m86 : sx_mok 86 x86_0 := ⟨ox86_0, by decide +kernel⟩
theorem bb_87 : sx_by 87 = cX7_sheet := rfl
theorem oo_87 : (sx_nm 87).cls = "StrawGarrison" := rfl
theorem mm_87 : sx_ml 87 = 4 := rfl
theorem rr_87 : sx_rt 87 = (some .int) := rfl
def x87_65 : List sx_E := (.ireturn, 65, 66, [0], .null) :: []
theorem ox87_65 : sx_oks 87 x87_65 := ⟨sx_q_iret0 (sx_dd bb_87 dX7_sheet_65) rr_87, trivial⟩
def x87_64 : List sx_E := (.iload 3, 64, 65, [], .null) :: x87_65
theorem ox87_64 : sx_oks 87 x87_64 := ⟨Or.inr ⟨_, (sx_dd bb_87 dX7_sheet_64), rfl, rfl⟩, ox87_65⟩
def x87_61 : List sx_E := (.invokevirtual 238, 61, 64, [52, 3, 0, 0, 3], .null) :: x87_64
theorem ox87_61 : sx_oks 87 x87_61 := ⟨sx_q_V (w := (RX4, TX4, 3)) (sx_dd bb_87 dX7_sheet_61) oo_87 lk_StrawGarrison_238_V ft_52_h (Nat.le_of_ble_eq_true rfl) rfl rfl, ox87_64⟩
def x87_60 : List sx_E := (.iload 3, 60, 61, [], .null) :: x87_61
theorem ox87_60 : sx_oks 87 x87_60 := ⟨Or.inr ⟨_, (sx_dd bb_87 dX7_sheet_60), rfl, rfl⟩, ox87_61⟩
def x87_59 : List sx_E := (.iload 2, 59, 60, [], .null) :: x87_60
theorem ox87_59 : sx_oks 87 x87_59 := ⟨Or.inr ⟨_, (sx_dd bb_87 dX7_sheet_59), rfl, rfl⟩, ox87_60⟩
def x87_58 : List sx_E := (.aaload, 58, 59, [], .null) :: x87_59
theorem ox87_58 : sx_oks 87 x87_58 := ⟨⟨(sx_dd bb_87 dX7_sheet_58), rfl⟩, ox87_59⟩
def x87_57 : List sx_E := (.iload 1, 57, 58, [], .null) :: x87_58
theorem ox87_57 : sx_oks 87 x87_57 := ⟨Or.inr ⟨_, (sx_dd bb_87 dX7_sheet_57), rfl, rfl⟩, ox87_58⟩
def x87_54 : List sx_E := (.getfield 43, 54, 57, [6, 8, 1], .null) :: x87_57
theorem ox87_54 : sx_oks 87 x87_54 := ⟨sx_q_get (w := (RX7, TX7, 12)) (sx_dd bb_87 dX7_sheet_54) rfl rfl (Nat.le_of_ble_eq_true rfl) cu_6 (sx_ow3 oo_87 fl_StrawGarrison_43) (by decide +kernel), ox87_57⟩
def x87_53 : List sx_E := (.aload 0, 53, 54, [], .null) :: x87_54
theorem ox87_53 : sx_oks 87 x87_53 := ⟨Or.inr ⟨_, (sx_dd bb_87 dX7_sheet_53), rfl, rfl⟩, ox87_54⟩
def x87_52 : List sx_E := (.ireturn, 52, 53, [0], .null) :: x87_53
theorem ox87_52 : sx_oks 87 x87_52 := ⟨sx_q_iret0 (sx_dd bb_87 dX7_sheet_52) rr_87, ox87_53⟩
def x87_50 : List sx_E := (.nop, 50, 52, [], .int ((-1000000014))) :: x87_52
theorem ox87_50 : sx_oks 87 x87_50 := ⟨sx_k_ldc (sx_dd bb_87 dX7_sheet_50) (sx_ow1 oo_87 kc_StrawGarrison_242), ox87_52⟩
def x87_47 : List sx_E := (.ifCond .ge (6), 47, 50, [53], .null) :: x87_50
theorem ox87_47 : sx_oks 87 x87_47 := ⟨⟨(sx_dd bb_87 dX7_sheet_47), rfl, sx_t1 (by decide +kernel)⟩, ox87_50⟩
def x87_46 : List sx_E := (.iload 3, 46, 47, [], .null) :: x87_47
theorem ox87_46 : sx_oks 87 x87_46 := ⟨Or.inr ⟨_, (sx_dd bb_87 dX7_sheet_46), rfl, rfl⟩, ox87_47⟩
def x87_45 : List sx_E := (.ireturn, 45, 46, [0], .null) :: x87_46
theorem ox87_45 : sx_oks 87 x87_45 := ⟨sx_q_iret0 (sx_dd bb_87 dX7_sheet_45) rr_87, ox87_46⟩
def x87_43 : List sx_E := (.nop, 43, 45, [], .int ((-1000000001))) :: x87_45
theorem ox87_43 : sx_oks 87 x87_43 := ⟨sx_k_ldc (sx_dd bb_87 dX7_sheet_43) (sx_ow1 oo_87 kc_StrawGarrison_76), ox87_45⟩
def x87_40 : List sx_E := (.if_icmp .le (6), 40, 43, [46], .null) :: x87_43
theorem ox87_40 : sx_oks 87 x87_40 := ⟨⟨(sx_dd bb_87 dX7_sheet_40), rfl, sx_t1 (by decide +kernel)⟩, ox87_43⟩
def x87_38 : List sx_E := (.nop, 38, 40, [], .int (nI 24)) :: x87_40
theorem ox87_38 : sx_oks 87 x87_38 := ⟨sx_k_bipush (sx_dd bb_87 dX7_sheet_38) (by decide +kernel), ox87_40⟩
def x87_37 : List sx_E := (.iload 3, 37, 38, [], .null) :: x87_38
theorem ox87_37 : sx_oks 87 x87_37 := ⟨Or.inr ⟨_, (sx_dd bb_87 dX7_sheet_37), rfl, rfl⟩, ox87_38⟩
def x87_36 : List sx_E := (.ireturn, 36, 37, [0], .null) :: x87_37
theorem ox87_36 : sx_oks 87 x87_36 := ⟨sx_q_iret0 (sx_dd bb_87 dX7_sheet_36) rr_87, ox87_37⟩
def x87_35 : List sx_E := (.nop, 35, 36, [], .int (nI 0)) :: x87_36
theorem ox87_35 : sx_oks 87 x87_35 := ⟨sx_k_iconst (sx_dd bb_87 dX7_sheet_35) (by decide +kernel), ox87_36⟩
def x87_32 : List sx_E := (.invokevirtual 238, 32, 35, [52, 3, 0, 0, 3], .null) :: x87_35
theorem ox87_32 : sx_oks 87 x87_32 := ⟨sx_q_V (w := (RX4, TX4, 3)) (sx_dd bb_87 dX7_sheet_32) oo_87 lk_StrawGarrison_238_V ft_52_h (Nat.le_of_ble_eq_true rfl) rfl rfl, ox87_35⟩
def x87_31 : List sx_E := (.nop, 31, 32, [], .int (nI 0)) :: x87_32
theorem ox87_31 : sx_oks 87 x87_31 := ⟨sx_k_iconst (sx_dd bb_87 dX7_sheet_31) (by decide +kernel), ox87_32⟩
def x87_30 : List sx_E := (.nop, 30, 31, [], .int ((-1))) :: x87_31
theorem ox87_30 : sx_oks 87 x87_30 := ⟨sx_k_iconst (sx_dd bb_87 dX7_sheet_30) (by decide +kernel), ox87_31⟩
def x87_29 : List sx_E := (.aaload, 29, 30, [], .null) :: x87_30
theorem ox87_29 : sx_oks 87 x87_29 := ⟨⟨(sx_dd bb_87 dX7_sheet_29), rfl⟩, ox87_30⟩
def x87_28 : List sx_E := (.iload 1, 28, 29, [], .null) :: x87_29
theorem ox87_28 : sx_oks 87 x87_28 := ⟨Or.inr ⟨_, (sx_dd bb_87 dX7_sheet_28), rfl, rfl⟩, ox87_29⟩
def x87_25 : List sx_E := (.getfield 43, 25, 28, [6, 8, 1], .null) :: x87_28
theorem ox87_25 : sx_oks 87 x87_25 := ⟨sx_q_get (w := (RX7, TX7, 12)) (sx_dd bb_87 dX7_sheet_25) rfl rfl (Nat.le_of_ble_eq_true rfl) cu_6 (sx_ow3 oo_87 fl_StrawGarrison_43) (by decide +kernel), ox87_28⟩
def x87_24 : List sx_E := (.aload 0, 24, 25, [], .null) :: x87_25
theorem ox87_24 : sx_oks 87 x87_24 := ⟨Or.inr ⟨_, (sx_dd bb_87 dX7_sheet_24), rfl, rfl⟩, ox87_25⟩
def x87_21 : List sx_E := (.if_icmp .ne (16), 21, 24, [37], .null) :: x87_24
theorem ox87_21 : sx_oks 87 x87_21 := ⟨⟨(sx_dd bb_87 dX7_sheet_21), rfl, sx_t1 (by decide +kernel)⟩, ox87_24⟩
def x87_20 : List sx_E := (.nop, 20, 21, [], .int ((-1))) :: x87_21
theorem ox87_20 : sx_oks 87 x87_20 := ⟨sx_k_iconst (sx_dd bb_87 dX7_sheet_20) (by decide +kernel), ox87_21⟩
def x87_19 : List sx_E := (.iload 2, 19, 20, [], .null) :: x87_20
theorem ox87_19 : sx_oks 87 x87_19 := ⟨Or.inr ⟨_, (sx_dd bb_87 dX7_sheet_19), rfl, rfl⟩, ox87_20⟩
def x87_18 : List sx_E := (.ireturn, 18, 19, [0], .null) :: x87_19
theorem ox87_18 : sx_oks 87 x87_18 := ⟨sx_q_iret0 (sx_dd bb_87 dX7_sheet_18) rr_87, ox87_19⟩
def x87_16 : List sx_E := (.nop, 16, 18, [], .int ((-1000000001))) :: x87_18
theorem ox87_16 : sx_oks 87 x87_16 := ⟨sx_k_ldc (sx_dd bb_87 dX7_sheet_16) (sx_ow1 oo_87 kc_StrawGarrison_76), ox87_18⟩
def x87_13 : List sx_E := (.ifCond .ne (6), 13, 16, [19], .null) :: x87_16
theorem ox87_13 : sx_oks 87 x87_13 := ⟨⟨(sx_dd bb_87 dX7_sheet_13), rfl, sx_t1 (by decide +kernel)⟩, ox87_16⟩
def x87_10 : List sx_E := (.invokestatic 72, 10, 13, [106, 3, 0, 0], .null) :: x87_13
theorem ox87_10 : sx_oks 87 x87_10 := ⟨sx_q_S (sx_dd bb_87 dX7_sheet_10) oo_87 lk_StrawGarrison_72_S ft_106_h, ox87_13⟩
def x87_9 : List sx_E := (.nop, 9, 10, [], .int (nI 1)) :: x87_10
theorem ox87_9 : sx_oks 87 x87_9 := ⟨sx_k_iconst (sx_dd bb_87 dX7_sheet_9) (by decide +kernel), ox87_10⟩
def x87_8 : List sx_E := (.nop, 8, 9, [], .int ((-1))) :: x87_9
theorem ox87_8 : sx_oks 87 x87_8 := ⟨sx_k_iconst (sx_dd bb_87 dX7_sheet_8) (by decide +kernel), ox87_9⟩
def x87_7 : List sx_E := (.iload 2, 7, 8, [], .null) :: x87_8
theorem ox87_7 : sx_oks 87 x87_7 := ⟨Or.inr ⟨_, (sx_dd bb_87 dX7_sheet_7), rfl, rfl⟩, ox87_8⟩
def x87_4 : List sx_E := (.ifCond .eq (12), 4, 7, [16], .null) :: x87_7
theorem ox87_4 : sx_oks 87 x87_4 := ⟨⟨(sx_dd bb_87 dX7_sheet_4), rfl, sx_t1 (by decide +kernel)⟩, ox87_7⟩
def x87_1 : List sx_E := (.invokestatic 188, 1, 4, [104, 1, 0, 0], .null) :: x87_4
theorem ox87_1 : sx_oks 87 x87_1 := ⟨sx_q_S (sx_dd bb_87 dX7_sheet_1) oo_87 lk_StrawGarrison_188_S ft_104_h, ox87_4⟩
def x87_0 : List sx_E := (.iload 1, 0, 1, [], .null) :: x87_1
theorem ox87_0 : sx_oks 87 x87_0 := ⟨Or.inr ⟨_, (sx_dd bb_87 dX7_sheet_0), rfl, rfl⟩, ox87_1⟩
theorem m87 : sx_mok 87 x87_0 := ⟨ox87_0, by decide +kernel⟩
theorem bb_88 : sx_by 88 = cX7_mark := rfl
theorem oo_88 : (sx_nm 88).cls = "StrawGarrison" := rfl
theorem mm_88 : sx_ml 88 = 5 := rfl
theorem rr_88 : sx_rt 88 = (some .int) := rfl
def x88_105 : List sx_E := (.ireturn, 105, 106, [0], .null) :: []
theorem ox88_105 : sx_oks 88 x88_105 := ⟨sx_q_iret0 (sx_dd bb_88 dX7_mark_105) rr_88, trivial⟩
def x88_104 : List sx_E := (.nop, 104, 105, [], .int (nI 1)) :: x88_105
theorem ox88_104 : sx_oks 88 x88_104 := ⟨sx_k_iconst (sx_dd bb_88 dX7_mark_104) (by decide +kernel), ox88_105⟩
def x88_103 : List sx_E := (.iastore, 103, 104, [], .null) :: x88_104
theorem ox88_103 : sx_oks 88 x88_103 := ⟨⟨(sx_dd bb_88 dX7_mark_103), rfl⟩, ox88_104⟩
def x88_102 : List sx_E := (.iload 3, 102, 103, [], .null) :: x88_103
theorem ox88_102 : sx_oks 88 x88_102 := ⟨Or.inr ⟨_, (sx_dd bb_88 dX7_mark_102), rfl, rfl⟩, ox88_103⟩
def x88_101 : List sx_E := (.iload 2, 101, 102, [], .null) :: x88_102
theorem ox88_101 : sx_oks 88 x88_101 := ⟨Or.inr ⟨_, (sx_dd bb_88 dX7_mark_101), rfl, rfl⟩, ox88_102⟩
def x88_98 : List sx_E := (.getfield 247, 98, 101, [3, 2, 1], .null) :: x88_101
theorem ox88_98 : sx_oks 88 x88_98 := ⟨sx_q_get (w := (RX4, TX4, 3)) (sx_dd bb_88 dX7_mark_98) rfl rfl (Nat.le_of_ble_eq_true rfl) cu_3 (sx_ow3 oo_88 fl_StrawGarrison_247) (by decide +kernel), ox88_101⟩
def x88_96 : List sx_E := (.aload 4, 96, 98, [], .null) :: x88_98
theorem ox88_96 : sx_oks 88 x88_96 := ⟨Or.inl ⟨(sx_dd bb_88 dX7_mark_96), rfl⟩, ox88_98⟩
def x88_95 : List sx_E := (.ireturn, 95, 96, [0], .null) :: x88_96
theorem ox88_95 : sx_oks 88 x88_95 := ⟨sx_q_iret0 (sx_dd bb_88 dX7_mark_95) rr_88, ox88_96⟩
def x88_93 : List sx_E := (.nop, 93, 95, [], .int ((-1000000001))) :: x88_95
theorem ox88_93 : sx_oks 88 x88_93 := ⟨sx_k_ldc (sx_dd bb_88 dX7_mark_93) (sx_ow1 oo_88 kc_StrawGarrison_76), ox88_95⟩
def x88_90 : List sx_E := (.ifCond .ne (6), 90, 93, [96], .null) :: x88_93
theorem ox88_90 : sx_oks 88 x88_90 := ⟨⟨(sx_dd bb_88 dX7_mark_90), rfl, sx_t1 (by decide +kernel)⟩, ox88_93⟩
def x88_87 : List sx_E := (.invokestatic 72, 87, 90, [106, 3, 0, 0], .null) :: x88_90
theorem ox88_87 : sx_oks 88 x88_87 := ⟨sx_q_S (sx_dd bb_88 dX7_mark_87) oo_88 lk_StrawGarrison_72_S ft_106_h, ox88_90⟩
def x88_85 : List sx_E := (.nop, 85, 87, [], .int (nI 99999)) :: x88_87
theorem ox88_85 : sx_oks 88 x88_85 := ⟨sx_k_ldc (sx_dd bb_88 dX7_mark_85) (sx_ow1 oo_88 kc_StrawGarrison_251), ox88_87⟩
def x88_83 : List sx_E := (.nop, 83, 85, [], .int ((-99999))) :: x88_85
theorem ox88_83 : sx_oks 88 x88_83 := ⟨sx_k_ldc (sx_dd bb_88 dX7_mark_83) (sx_ow1 oo_88 kc_StrawGarrison_250), ox88_85⟩
def x88_82 : List sx_E := (.iload 3, 82, 83, [], .null) :: x88_83
theorem ox88_82 : sx_oks 88 x88_82 := ⟨Or.inr ⟨_, (sx_dd bb_88 dX7_mark_82), rfl, rfl⟩, ox88_83⟩
def x88_79 : List sx_E := (.if_icmp .eq (17), 79, 82, [96], .null) :: x88_82
theorem ox88_79 : sx_oks 88 x88_79 := ⟨⟨(sx_dd bb_88 dX7_mark_79), rfl, sx_t1 (by decide +kernel)⟩, ox88_82⟩
def x88_77 : List sx_E := (.nop, 77, 79, [], .int ((-1000000005))) :: x88_79
theorem ox88_77 : sx_oks 88 x88_77 := ⟨sx_k_ldc (sx_dd bb_88 dX7_mark_77) (sx_ow1 oo_88 kc_StrawGarrison_81), ox88_79⟩
def x88_76 : List sx_E := (.iload 3, 76, 77, [], .null) :: x88_77
theorem ox88_76 : sx_oks 88 x88_76 := ⟨Or.inr ⟨_, (sx_dd bb_88 dX7_mark_76), rfl, rfl⟩, ox88_77⟩
def x88_75 : List sx_E := (.ireturn, 75, 76, [0], .null) :: x88_76
theorem ox88_75 : sx_oks 88 x88_75 := ⟨sx_q_iret0 (sx_dd bb_88 dX7_mark_75) rr_88, ox88_76⟩
def x88_74 : List sx_E := (.nop, 74, 75, [], .int (nI 1)) :: x88_75
theorem ox88_74 : sx_oks 88 x88_74 := ⟨sx_k_iconst (sx_dd bb_88 dX7_mark_74) (by decide +kernel), ox88_75⟩
def x88_73 : List sx_E := (.iastore, 73, 74, [], .null) :: x88_74
theorem ox88_73 : sx_oks 88 x88_73 := ⟨⟨(sx_dd bb_88 dX7_mark_73), rfl⟩, ox88_74⟩
def x88_72 : List sx_E := (.i2s, 72, 73, [], .null) :: x88_73
theorem ox88_72 : sx_oks 88 x88_72 := ⟨⟨(sx_dd bb_88 dX7_mark_72), rfl⟩, ox88_73⟩
def x88_71 : List sx_E := (.iload 3, 71, 72, [], .null) :: x88_72
theorem ox88_71 : sx_oks 88 x88_71 := ⟨Or.inr ⟨_, (sx_dd bb_88 dX7_mark_71), rfl, rfl⟩, ox88_72⟩
def x88_70 : List sx_E := (.iload 2, 70, 71, [], .null) :: x88_71
theorem ox88_70 : sx_oks 88 x88_70 := ⟨Or.inr ⟨_, (sx_dd bb_88 dX7_mark_70), rfl, rfl⟩, ox88_71⟩
def x88_67 : List sx_E := (.getfield 247, 67, 70, [3, 2, 1], .null) :: x88_70
theorem ox88_67 : sx_oks 88 x88_67 := ⟨sx_q_get (w := (RX4, TX4, 3)) (sx_dd bb_88 dX7_mark_67) rfl rfl (Nat.le_of_ble_eq_true rfl) cu_3 (sx_ow3 oo_88 fl_StrawGarrison_247) (by decide +kernel), ox88_70⟩
def x88_65 : List sx_E := (.aload 4, 65, 67, [], .null) :: x88_67
theorem ox88_65 : sx_oks 88 x88_65 := ⟨Or.inl ⟨(sx_dd bb_88 dX7_mark_65), rfl⟩, ox88_67⟩
def x88_64 : List sx_E := (.ireturn, 64, 65, [0], .null) :: x88_65
theorem ox88_64 : sx_oks 88 x88_64 := ⟨sx_q_iret0 (sx_dd bb_88 dX7_mark_64) rr_88, ox88_65⟩
def x88_62 : List sx_E := (.nop, 62, 64, [], .int ((-1000000012))) :: x88_64
theorem ox88_62 : sx_oks 88 x88_62 := ⟨sx_k_ldc (sx_dd bb_88 dX7_mark_62) (sx_ow1 oo_88 kc_StrawGarrison_128), ox88_64⟩
def x88_59 : List sx_E := (.if_icmp .ne (6), 59, 62, [65], .null) :: x88_62
theorem ox88_59 : sx_oks 88 x88_59 := ⟨⟨(sx_dd bb_88 dX7_mark_59), rfl, sx_t1 (by decide +kernel)⟩, ox88_62⟩
def x88_57 : List sx_E := (.nop, 57, 59, [], .int ((-1000000005))) :: x88_59
theorem ox88_57 : sx_oks 88 x88_57 := ⟨sx_k_ldc (sx_dd bb_88 dX7_mark_57) (sx_ow1 oo_88 kc_StrawGarrison_81), ox88_59⟩
def x88_56 : List sx_E := (.iload 3, 56, 57, [], .null) :: x88_57
theorem ox88_56 : sx_oks 88 x88_56 := ⟨Or.inr ⟨_, (sx_dd bb_88 dX7_mark_56), rfl, rfl⟩, ox88_57⟩
def x88_53 : List sx_E := (.ifCond .ne (23), 53, 56, [76], .null) :: x88_56
theorem ox88_53 : sx_oks 88 x88_53 := ⟨⟨(sx_dd bb_88 dX7_mark_53), rfl, sx_t1 (by decide +kernel)⟩, ox88_56⟩
def x88_50 : List sx_E := (.getfield 191, 50, 53, [3, 0, 0], .null) :: x88_53
theorem ox88_50 : sx_oks 88 x88_50 := ⟨sx_q_get (w := (RX4, TX4, 3)) (sx_dd bb_88 dX7_mark_50) rfl rfl (Nat.le_of_ble_eq_true rfl) cu_3 (sx_ow3 oo_88 fl_StrawGarrison_191) (by decide +kernel), ox88_53⟩
def x88_48 : List sx_E := (.aload 4, 48, 50, [], .null) :: x88_50
theorem ox88_48 : sx_oks 88 x88_48 := ⟨Or.inl ⟨(sx_dd bb_88 dX7_mark_48), rfl⟩, ox88_50⟩
def x88_47 : List sx_E := (.ireturn, 47, 48, [0], .null) :: x88_48
theorem ox88_47 : sx_oks 88 x88_47 := ⟨sx_q_iret0 (sx_dd bb_88 dX7_mark_47) rr_88, ox88_48⟩
def x88_45 : List sx_E := (.nop, 45, 47, [], .int ((-1000000013))) :: x88_47
theorem ox88_45 : sx_oks 88 x88_45 := ⟨sx_k_ldc (sx_dd bb_88 dX7_mark_45) (sx_ow1 oo_88 kc_StrawGarrison_246), ox88_47⟩
def x88_42 : List sx_E := (.ifCond .ne (6), 42, 45, [48], .null) :: x88_45
theorem ox88_42 : sx_oks 88 x88_42 := ⟨⟨(sx_dd bb_88 dX7_mark_42), rfl, sx_t1 (by decide +kernel)⟩, ox88_45⟩
def x88_39 : List sx_E := (.invokestatic 72, 39, 42, [106, 3, 0, 0], .null) :: x88_42
theorem ox88_39 : sx_oks 88 x88_39 := ⟨sx_q_S (sx_dd bb_88 dX7_mark_39) oo_88 lk_StrawGarrison_72_S ft_106_h, ox88_42⟩
def x88_38 : List sx_E := (.isub, 38, 39, [], .null) :: x88_39
theorem ox88_38 : sx_oks 88 x88_38 := ⟨⟨(sx_dd bb_88 dX7_mark_38), rfl⟩, ox88_39⟩
def x88_37 : List sx_E := (.nop, 37, 38, [], .int (nI 1)) :: x88_38
theorem ox88_37 : sx_oks 88 x88_37 := ⟨sx_k_iconst (sx_dd bb_88 dX7_mark_37) (by decide +kernel), ox88_38⟩
def x88_34 : List sx_E := (.getfield 243, 34, 37, [3, 1, 0], .null) :: x88_37
theorem ox88_34 : sx_oks 88 x88_34 := ⟨sx_q_get (w := (RX4, TX4, 3)) (sx_dd bb_88 dX7_mark_34) rfl rfl (Nat.le_of_ble_eq_true rfl) cu_3 (sx_ow3 oo_88 fl_StrawGarrison_243) (by decide +kernel), ox88_37⟩
def x88_32 : List sx_E := (.aload 4, 32, 34, [], .null) :: x88_34
theorem ox88_32 : sx_oks 88 x88_32 := ⟨Or.inl ⟨(sx_dd bb_88 dX7_mark_32), rfl⟩, ox88_34⟩
def x88_31 : List sx_E := (.nop, 31, 32, [], .int (nI 0)) :: x88_32
theorem ox88_31 : sx_oks 88 x88_31 := ⟨sx_k_iconst (sx_dd bb_88 dX7_mark_31) (by decide +kernel), ox88_32⟩
def x88_30 : List sx_E := (.iload 2, 30, 31, [], .null) :: x88_31
theorem ox88_30 : sx_oks 88 x88_30 := ⟨Or.inr ⟨_, (sx_dd bb_88 dX7_mark_30), rfl, rfl⟩, ox88_31⟩
def x88_29 : List sx_E := (.ireturn, 29, 30, [0], .null) :: x88_30
theorem ox88_29 : sx_oks 88 x88_29 := ⟨sx_q_iret0 (sx_dd bb_88 dX7_mark_29) rr_88, ox88_30⟩
def x88_27 : List sx_E := (.nop, 27, 29, [], .int ((-1000000011))) :: x88_29
theorem ox88_27 : sx_oks 88 x88_27 := ⟨sx_k_ldc (sx_dd bb_88 dX7_mark_27) (sx_ow1 oo_88 kc_StrawGarrison_194), ox88_29⟩
def x88_24 : List sx_E := (.if_icmp .ne (6), 24, 27, [30], .null) :: x88_27
theorem ox88_24 : sx_oks 88 x88_24 := ⟨⟨(sx_dd bb_88 dX7_mark_24), rfl, sx_t1 (by decide +kernel)⟩, ox88_27⟩
def x88_23 : List sx_E := (.nop, 23, 24, [], .int ((-1))) :: x88_24
theorem ox88_23 : sx_oks 88 x88_23 := ⟨sx_k_iconst (sx_dd bb_88 dX7_mark_23) (by decide +kernel), ox88_24⟩
def x88_20 : List sx_E := (.getfield 191, 20, 23, [3, 0, 0], .null) :: x88_23
theorem ox88_20 : sx_oks 88 x88_20 := ⟨sx_q_get (w := (RX4, TX4, 3)) (sx_dd bb_88 dX7_mark_20) rfl rfl (Nat.le_of_ble_eq_true rfl) cu_3 (sx_ow3 oo_88 fl_StrawGarrison_191) (by decide +kernel), ox88_23⟩
def x88_18 : List sx_E := (.aload 4, 18, 20, [], .null) :: x88_20
theorem ox88_18 : sx_oks 88 x88_18 := ⟨Or.inl ⟨(sx_dd bb_88 dX7_mark_18), rfl⟩, ox88_20⟩
def x88_16 : List sx_E := (.astore 4, 16, 18, [], .null) :: x88_18
theorem ox88_16 : sx_oks 88 x88_16 := ⟨⟨sx_lt mm_88 (Nat.le_of_ble_eq_true rfl), Or.inl ⟨(sx_dd bb_88 dX7_mark_16), rfl⟩⟩, ox88_18⟩
def x88_15 : List sx_E := (.aaload, 15, 16, [], .null) :: x88_16
theorem ox88_15 : sx_oks 88 x88_15 := ⟨⟨(sx_dd bb_88 dX7_mark_15), rfl⟩, ox88_16⟩
def x88_14 : List sx_E := (.iload 1, 14, 15, [], .null) :: x88_15
theorem ox88_14 : sx_oks 88 x88_14 := ⟨Or.inr ⟨_, (sx_dd bb_88 dX7_mark_14), rfl, rfl⟩, ox88_15⟩
def x88_11 : List sx_E := (.getfield 43, 11, 14, [6, 8, 1], .null) :: x88_14
theorem ox88_11 : sx_oks 88 x88_11 := ⟨sx_q_get (w := (RX7, TX7, 12)) (sx_dd bb_88 dX7_mark_11) rfl rfl (Nat.le_of_ble_eq_true rfl) cu_6 (sx_ow3 oo_88 fl_StrawGarrison_43) (by decide +kernel), ox88_14⟩
def x88_10 : List sx_E := (.aload 0, 10, 11, [], .null) :: x88_11
theorem ox88_10 : sx_oks 88 x88_10 := ⟨Or.inr ⟨_, (sx_dd bb_88 dX7_mark_10), rfl, rfl⟩, ox88_11⟩
def x88_9 : List sx_E := (.ireturn, 9, 10, [0], .null) :: x88_10
theorem ox88_9 : sx_oks 88 x88_9 := ⟨sx_q_iret0 (sx_dd bb_88 dX7_mark_9) rr_88, ox88_10⟩
def x88_7 : List sx_E := (.nop, 7, 9, [], .int ((-1000000001))) :: x88_9
theorem ox88_7 : sx_oks 88 x88_7 := ⟨sx_k_ldc (sx_dd bb_88 dX7_mark_7) (sx_ow1 oo_88 kc_StrawGarrison_76), ox88_9⟩
def x88_4 : List sx_E := (.ifCond .ne (6), 4, 7, [10], .null) :: x88_7
theorem ox88_4 : sx_oks 88 x88_4 := ⟨⟨(sx_dd bb_88 dX7_mark_4), rfl, sx_t1 (by decide +kernel)⟩, ox88_7⟩
def x88_1 : List sx_E := (.invokestatic 188, 1, 4, [104, 1, 0, 0], .null) :: x88_4
theorem ox88_1 : sx_oks 88 x88_1 := ⟨sx_q_S (sx_dd bb_88 dX7_mark_1) oo_88 lk_StrawGarrison_188_S ft_104_h, ox88_4⟩
def x88_0 : List sx_E := (.iload 1, 0, 1, [], .null) :: x88_1
theorem ox88_0 : sx_oks 88 x88_0 := ⟨Or.inr ⟨_, (sx_dd bb_88 dX7_mark_0), rfl, rfl⟩, ox88_1⟩
theorem m88 : sx_mok 88 x88_0 := ⟨ox88_0, by decide +kernel⟩
theorem bb_89 : sx_by 89 = cX7_pour := rfl
theorem oo_89 : (sx_nm 89).cls = "StrawGarrison" := rfl
theorem mm_89 : sx_ml 89 = 7 := rfl
theorem rr_89 : sx_rt 89 = (some .int) := rfl
def x89_127 : List sx_E := (.ireturn, 127, 128, [0], .null) :: []
theorem ox89_127 : sx_oks 89 x89_127 := ⟨sx_q_iret0 (sx_dd bb_89 dX7_pour_127) rr_89, trivial⟩
def x89_126 : List sx_E := (.iload 3, 126, 127, [], .null) :: x89_127
theorem ox89_126 : sx_oks 89 x89_126 := ⟨Or.inr ⟨_, (sx_dd bb_89 dX7_pour_126), rfl, rfl⟩, ox89_127⟩
def x89_123 : List sx_E := (.goto (-74), 123, 126, [49], .null) :: x89_126
theorem ox89_123 : sx_oks 89 x89_123 := ⟨⟨(sx_dd bb_89 dX7_pour_123), sx_t1 (by decide +kernel)⟩, ox89_126⟩
def x89_120 : List sx_E := (.iinc 5 (1), 120, 123, [], .int (nI 1)) :: x89_123
theorem ox89_120 : sx_oks 89 x89_120 := ⟨⟨sx_lt mm_89 (Nat.le_of_ble_eq_true rfl), (sx_dd bb_89 dX7_pour_120), rfl, by decide +kernel⟩, ox89_123⟩
def x89_117 : List sx_E := (.iinc 3 (1), 117, 120, [], .int (nI 1)) :: x89_120
theorem ox89_117 : sx_oks 89 x89_117 := ⟨⟨sx_lt mm_89 (Nat.le_of_ble_eq_true rfl), (sx_dd bb_89 dX7_pour_117), rfl, by decide +kernel⟩, ox89_120⟩
def x89_116 : List sx_E := (.iastore, 116, 117, [], .null) :: x89_117
theorem ox89_116 : sx_oks 89 x89_116 := ⟨⟨(sx_dd bb_89 dX7_pour_116), rfl⟩, ox89_117⟩
def x89_114 : List sx_E := (.iload 6, 114, 116, [], .null) :: x89_116
theorem ox89_114 : sx_oks 89 x89_114 := ⟨Or.inl ⟨(sx_dd bb_89 dX7_pour_114), rfl⟩, ox89_116⟩
def x89_112 : List sx_E := (.iload 5, 112, 114, [], .null) :: x89_114
theorem ox89_112 : sx_oks 89 x89_112 := ⟨Or.inl ⟨(sx_dd bb_89 dX7_pour_112), rfl⟩, ox89_114⟩
def x89_109 : List sx_E := (.getfield 97, 109, 112, [1, 4, 1], .null) :: x89_112
theorem ox89_109 : sx_oks 89 x89_109 := ⟨sx_q_get (w := (RX1, TX1, 11)) (sx_dd bb_89 dX7_pour_109) rfl rfl (Nat.le_of_ble_eq_true rfl) cu_1 (sx_ow3 oo_89 fl_StrawGarrison_97) (by decide +kernel), ox89_112⟩
def x89_106 : List sx_E := (.getfield 10, 106, 109, [6, 1, 1], .null) :: x89_109
theorem ox89_106 : sx_oks 89 x89_106 := ⟨sx_q_get (w := (RX7, TX7, 12)) (sx_dd bb_89 dX7_pour_106) rfl rfl (Nat.le_of_ble_eq_true rfl) cu_6 (sx_ow3 oo_89 fl_StrawGarrison_10) (by decide +kernel), ox89_109⟩
def x89_105 : List sx_E := (.aload 0, 105, 106, [], .null) :: x89_106
theorem ox89_105 : sx_oks 89 x89_105 := ⟨Or.inr ⟨_, (sx_dd bb_89 dX7_pour_105), rfl, rfl⟩, ox89_106⟩
def x89_102 : List sx_E := (.if_icmp .eq (18), 102, 105, [120], .null) :: x89_105
theorem ox89_102 : sx_oks 89 x89_102 := ⟨⟨(sx_dd bb_89 dX7_pour_102), rfl, sx_t1 (by decide +kernel)⟩, ox89_105⟩
def x89_100 : List sx_E := (.iload 6, 100, 102, [], .null) :: x89_102
theorem ox89_100 : sx_oks 89 x89_100 := ⟨Or.inl ⟨(sx_dd bb_89 dX7_pour_100), rfl⟩, ox89_102⟩
def x89_99 : List sx_E := (.iaload, 99, 100, [], .null) :: x89_100
theorem ox89_99 : sx_oks 89 x89_99 := ⟨⟨(sx_dd bb_89 dX7_pour_99), rfl⟩, ox89_100⟩
def x89_97 : List sx_E := (.iload 5, 97, 99, [], .null) :: x89_99
theorem ox89_97 : sx_oks 89 x89_97 := ⟨Or.inl ⟨(sx_dd bb_89 dX7_pour_97), rfl⟩, ox89_99⟩
def x89_94 : List sx_E := (.getfield 97, 94, 97, [1, 4, 1], .null) :: x89_97
theorem ox89_94 : sx_oks 89 x89_94 := ⟨sx_q_get (w := (RX1, TX1, 11)) (sx_dd bb_89 dX7_pour_94) rfl rfl (Nat.le_of_ble_eq_true rfl) cu_1 (sx_ow3 oo_89 fl_StrawGarrison_97) (by decide +kernel), ox89_97⟩
def x89_91 : List sx_E := (.getfield 10, 91, 94, [6, 1, 1], .null) :: x89_94
theorem ox89_91 : sx_oks 89 x89_91 := ⟨sx_q_get (w := (RX7, TX7, 12)) (sx_dd bb_89 dX7_pour_91) rfl rfl (Nat.le_of_ble_eq_true rfl) cu_6 (sx_ow3 oo_89 fl_StrawGarrison_10) (by decide +kernel), ox89_94⟩
def x89_90 : List sx_E := (.aload 0, 90, 91, [], .null) :: x89_91
theorem ox89_90 : sx_oks 89 x89_90 := ⟨Or.inr ⟨_, (sx_dd bb_89 dX7_pour_90), rfl, rfl⟩, ox89_91⟩
def x89_88 : List sx_E := (.istore 6, 88, 90, [], .null) :: x89_90
theorem ox89_88 : sx_oks 89 x89_88 := ⟨⟨sx_lt mm_89 (Nat.le_of_ble_eq_true rfl), Or.inl ⟨(sx_dd bb_89 dX7_pour_88), rfl⟩⟩, ox89_90⟩
def x89_87 : List sx_E := (.iaload, 87, 88, [], .null) :: x89_88
theorem ox89_87 : sx_oks 89 x89_87 := ⟨⟨(sx_dd bb_89 dX7_pour_87), rfl⟩, ox89_88⟩
def x89_85 : List sx_E := (.iload 5, 85, 87, [], .null) :: x89_87
theorem ox89_85 : sx_oks 89 x89_85 := ⟨Or.inl ⟨(sx_dd bb_89 dX7_pour_85), rfl⟩, ox89_87⟩
def x89_82 : List sx_E := (.getfield 97, 82, 85, [1, 4, 1], .null) :: x89_85
theorem ox89_82 : sx_oks 89 x89_82 := ⟨sx_q_get (w := (RX1, TX1, 11)) (sx_dd bb_89 dX7_pour_82) rfl rfl (Nat.le_of_ble_eq_true rfl) cu_1 (sx_ow3 oo_89 fl_StrawGarrison_97) (by decide +kernel), ox89_85⟩
def x89_79 : List sx_E := (.getfield 10, 79, 82, [6, 1, 1], .null) :: x89_82
theorem ox89_79 : sx_oks 89 x89_79 := ⟨sx_q_get (w := (RX7, TX7, 12)) (sx_dd bb_89 dX7_pour_79) rfl rfl (Nat.le_of_ble_eq_true rfl) cu_6 (sx_ow3 oo_89 fl_StrawGarrison_10) (by decide +kernel), ox89_82⟩
def x89_78 : List sx_E := (.aload 0, 78, 79, [], .null) :: x89_79
theorem ox89_78 : sx_oks 89 x89_78 := ⟨Or.inr ⟨_, (sx_dd bb_89 dX7_pour_78), rfl, rfl⟩, ox89_79⟩
def x89_75 : List sx_E := (.goto (13), 75, 78, [88], .null) :: x89_78
theorem ox89_75 : sx_oks 89 x89_75 := ⟨⟨(sx_dd bb_89 dX7_pour_75), sx_t1 (by decide +kernel)⟩, ox89_78⟩
def x89_72 : List sx_E := (.invokestatic 255, 72, 75, [107, 1, 0, 0], .null) :: x89_75
theorem ox89_72 : sx_oks 89 x89_72 := ⟨sx_q_S (sx_dd bb_89 dX7_pour_72) oo_89 lk_StrawGarrison_255_S ft_107_h, ox89_75⟩
def x89_71 : List sx_E := (.iaload, 71, 72, [], .null) :: x89_72
theorem ox89_71 : sx_oks 89 x89_71 := ⟨⟨(sx_dd bb_89 dX7_pour_71), rfl⟩, ox89_72⟩
def x89_69 : List sx_E := (.iload 5, 69, 71, [], .null) :: x89_71
theorem ox89_69 : sx_oks 89 x89_69 := ⟨Or.inl ⟨(sx_dd bb_89 dX7_pour_69), rfl⟩, ox89_71⟩
def x89_66 : List sx_E := (.getfield 247, 66, 69, [3, 2, 1], .null) :: x89_69
theorem ox89_66 : sx_oks 89 x89_66 := ⟨sx_q_get (w := (RX4, TX4, 3)) (sx_dd bb_89 dX7_pour_66) rfl rfl (Nat.le_of_ble_eq_true rfl) cu_3 (sx_ow3 oo_89 fl_StrawGarrison_247) (by decide +kernel), ox89_69⟩
def x89_65 : List sx_E := (.aload 2, 65, 66, [], .null) :: x89_66
theorem ox89_65 : sx_oks 89 x89_65 := ⟨Or.inr ⟨_, (sx_dd bb_89 dX7_pour_65), rfl, rfl⟩, ox89_66⟩
def x89_62 : List sx_E := (.ifCond .eq (16), 62, 65, [78], .null) :: x89_65
theorem ox89_62 : sx_oks 89 x89_62 := ⟨⟨(sx_dd bb_89 dX7_pour_62), rfl, sx_t1 (by decide +kernel)⟩, ox89_65⟩
def x89_59 : List sx_E := (.invokevirtual 252, 59, 62, [54, 2, 0, 0, 3], .null) :: x89_62
theorem ox89_59 : sx_oks 89 x89_59 := ⟨sx_q_V (w := (RX4, TX4, 3)) (sx_dd bb_89 dX7_pour_59) oo_89 lk_StrawGarrison_252_V ft_54_h (Nat.le_of_ble_eq_true rfl) rfl rfl, ox89_62⟩
def x89_57 : List sx_E := (.iload 5, 57, 59, [], .null) :: x89_59
theorem ox89_57 : sx_oks 89 x89_57 := ⟨Or.inl ⟨(sx_dd bb_89 dX7_pour_57), rfl⟩, ox89_59⟩
def x89_56 : List sx_E := (.aload 2, 56, 57, [], .null) :: x89_57
theorem ox89_56 : sx_oks 89 x89_56 := ⟨Or.inr ⟨_, (sx_dd bb_89 dX7_pour_56), rfl, rfl⟩, ox89_57⟩
def x89_53 : List sx_E := (.if_icmp .ge (73), 53, 56, [126], .null) :: x89_56
theorem ox89_53 : sx_oks 89 x89_53 := ⟨⟨(sx_dd bb_89 dX7_pour_53), rfl, sx_t1 (by decide +kernel)⟩, ox89_56⟩
def x89_51 : List sx_E := (.iload 4, 51, 53, [], .null) :: x89_53
theorem ox89_51 : sx_oks 89 x89_51 := ⟨Or.inl ⟨(sx_dd bb_89 dX7_pour_51), rfl⟩, ox89_53⟩
def x89_49 : List sx_E := (.iload 5, 49, 51, [], .null) :: x89_51
theorem ox89_49 : sx_oks 89 x89_49 := ⟨Or.inl ⟨(sx_dd bb_89 dX7_pour_49), rfl⟩, ox89_51⟩
def x89_49h : List sx_E := (.monitorenter, 49, 49, [0, 2, 3, 4, 5], .null) :: x89_49
theorem ox89_49h : sx_oks 89 x89_49h := ⟨trivial, ox89_49⟩
def x89_47 : List sx_E := (.istore 5, 47, 49, [], .null) :: x89_49h
theorem ox89_47 : sx_oks 89 x89_47 := ⟨⟨sx_lt mm_89 (Nat.le_of_ble_eq_true rfl), Or.inl ⟨(sx_dd bb_89 dX7_pour_47), rfl⟩⟩, ox89_49h⟩
def x89_46 : List sx_E := (.nop, 46, 47, [], .int (nI 0)) :: x89_47
theorem ox89_46 : sx_oks 89 x89_46 := ⟨sx_k_iconst (sx_dd bb_89 dX7_pour_46) (by decide +kernel), ox89_47⟩
def x89_44 : List sx_E := (.istore 4, 44, 46, [], .null) :: x89_46
theorem ox89_44 : sx_oks 89 x89_44 := ⟨⟨sx_lt mm_89 (Nat.le_of_ble_eq_true rfl), Or.inl ⟨(sx_dd bb_89 dX7_pour_44), rfl⟩⟩, ox89_46⟩
def x89_41 : List sx_E := (.invokestatic 135, 41, 44, [214, 2, 0, 0], .null) :: x89_44
theorem ox89_41 : sx_oks 89 x89_41 := ⟨sx_q_S (sx_dd bb_89 dX7_pour_41) oo_89 lk_StrawGarrison_135_S ft_214_h, ox89_44⟩
def x89_38 : List sx_E := (.getfield 243, 38, 41, [3, 1, 0], .null) :: x89_41
theorem ox89_38 : sx_oks 89 x89_38 := ⟨sx_q_get (w := (RX4, TX4, 3)) (sx_dd bb_89 dX7_pour_38) rfl rfl (Nat.le_of_ble_eq_true rfl) cu_3 (sx_ow3 oo_89 fl_StrawGarrison_243) (by decide +kernel), ox89_41⟩
def x89_37 : List sx_E := (.aload 2, 37, 38, [], .null) :: x89_38
theorem ox89_37 : sx_oks 89 x89_37 := ⟨Or.inr ⟨_, (sx_dd bb_89 dX7_pour_37), rfl, rfl⟩, ox89_38⟩
def x89_34 : List sx_E := (.getfield 83, 34, 37, [1, 1, 0], .null) :: x89_37
theorem ox89_34 : sx_oks 89 x89_34 := ⟨sx_q_get (w := (RX1, TX1, 11)) (sx_dd bb_89 dX7_pour_34) rfl rfl (Nat.le_of_ble_eq_true rfl) cu_1 (sx_ow3 oo_89 fl_StrawGarrison_83) (by decide +kernel), ox89_37⟩
def x89_31 : List sx_E := (.getfield 10, 31, 34, [6, 1, 1], .null) :: x89_34
theorem ox89_31 : sx_oks 89 x89_31 := ⟨sx_q_get (w := (RX7, TX7, 12)) (sx_dd bb_89 dX7_pour_31) rfl rfl (Nat.le_of_ble_eq_true rfl) cu_6 (sx_ow3 oo_89 fl_StrawGarrison_10) (by decide +kernel), ox89_34⟩
def x89_30 : List sx_E := (.aload 0, 30, 31, [], .null) :: x89_31
theorem ox89_30 : sx_oks 89 x89_30 := ⟨Or.inr ⟨_, (sx_dd bb_89 dX7_pour_30), rfl, rfl⟩, ox89_31⟩
def x89_29 : List sx_E := (.istore 3, 29, 30, [], .null) :: x89_30
theorem ox89_29 : sx_oks 89 x89_29 := ⟨⟨sx_lt mm_89 (Nat.le_of_ble_eq_true rfl), Or.inr ⟨_, (sx_dd bb_89 dX7_pour_29), rfl, rfl⟩⟩, ox89_30⟩
def x89_28 : List sx_E := (.nop, 28, 29, [], .int (nI 0)) :: x89_29
theorem ox89_28 : sx_oks 89 x89_28 := ⟨sx_k_iconst (sx_dd bb_89 dX7_pour_28) (by decide +kernel), ox89_29⟩
def x89_27 : List sx_E := (.ireturn, 27, 28, [0], .null) :: x89_28
theorem ox89_27 : sx_oks 89 x89_27 := ⟨sx_q_iret0 (sx_dd bb_89 dX7_pour_27) rr_89, ox89_28⟩
def x89_25 : List sx_E := (.nop, 25, 27, [], .int ((-1000000011))) :: x89_27
theorem ox89_25 : sx_oks 89 x89_25 := ⟨sx_k_ldc (sx_dd bb_89 dX7_pour_25) (sx_ow1 oo_89 kc_StrawGarrison_194), ox89_27⟩
def x89_22 : List sx_E := (.if_icmp .ne (6), 22, 25, [28], .null) :: x89_25
theorem ox89_22 : sx_oks 89 x89_22 := ⟨⟨(sx_dd bb_89 dX7_pour_22), rfl, sx_t1 (by decide +kernel)⟩, ox89_25⟩
def x89_21 : List sx_E := (.nop, 21, 22, [], .int ((-1))) :: x89_22
theorem ox89_21 : sx_oks 89 x89_21 := ⟨sx_k_iconst (sx_dd bb_89 dX7_pour_21) (by decide +kernel), ox89_22⟩
def x89_18 : List sx_E := (.getfield 191, 18, 21, [3, 0, 0], .null) :: x89_21
theorem ox89_18 : sx_oks 89 x89_18 := ⟨sx_q_get (w := (RX4, TX4, 3)) (sx_dd bb_89 dX7_pour_18) rfl rfl (Nat.le_of_ble_eq_true rfl) cu_3 (sx_ow3 oo_89 fl_StrawGarrison_191) (by decide +kernel), ox89_21⟩
def x89_17 : List sx_E := (.aload 2, 17, 18, [], .null) :: x89_18
theorem ox89_17 : sx_oks 89 x89_17 := ⟨Or.inr ⟨_, (sx_dd bb_89 dX7_pour_17), rfl, rfl⟩, ox89_18⟩
def x89_16 : List sx_E := (.astore 2, 16, 17, [], .null) :: x89_17
theorem ox89_16 : sx_oks 89 x89_16 := ⟨⟨sx_lt mm_89 (Nat.le_of_ble_eq_true rfl), Or.inr ⟨_, (sx_dd bb_89 dX7_pour_16), rfl, rfl⟩⟩, ox89_17⟩
def x89_15 : List sx_E := (.aaload, 15, 16, [], .null) :: x89_16
theorem ox89_15 : sx_oks 89 x89_15 := ⟨⟨(sx_dd bb_89 dX7_pour_15), rfl⟩, ox89_16⟩
def x89_14 : List sx_E := (.iload 1, 14, 15, [], .null) :: x89_15
theorem ox89_14 : sx_oks 89 x89_14 := ⟨Or.inr ⟨_, (sx_dd bb_89 dX7_pour_14), rfl, rfl⟩, ox89_15⟩
def x89_11 : List sx_E := (.getfield 43, 11, 14, [6, 8, 1], .null) :: x89_14
theorem ox89_11 : sx_oks 89 x89_11 := ⟨sx_q_get (w := (RX7, TX7, 12)) (sx_dd bb_89 dX7_pour_11) rfl rfl (Nat.le_of_ble_eq_true rfl) cu_6 (sx_ow3 oo_89 fl_StrawGarrison_43) (by decide +kernel), ox89_14⟩
def x89_10 : List sx_E := (.aload 0, 10, 11, [], .null) :: x89_11
theorem ox89_10 : sx_oks 89 x89_10 := ⟨Or.inr ⟨_, (sx_dd bb_89 dX7_pour_10), rfl, rfl⟩, ox89_11⟩
def x89_9 : List sx_E := (.ireturn, 9, 10, [0], .null) :: x89_10
theorem ox89_9 : sx_oks 89 x89_9 := ⟨sx_q_iret0 (sx_dd bb_89 dX7_pour_9) rr_89, ox89_10⟩
def x89_7 : List sx_E := (.nop, 7, 9, [], .int ((-1000000001))) :: x89_9
theorem ox89_7 : sx_oks 89 x89_7 := ⟨sx_k_ldc (sx_dd bb_89 dX7_pour_7) (sx_ow1 oo_89 kc_StrawGarrison_76), ox89_9⟩
def x89_4 : List sx_E := (.ifCond .ne (6), 4, 7, [10], .null) :: x89_7
theorem ox89_4 : sx_oks 89 x89_4 := ⟨⟨(sx_dd bb_89 dX7_pour_4), rfl, sx_t1 (by decide +kernel)⟩, ox89_7⟩
def x89_1 : List sx_E := (.invokestatic 188, 1, 4, [104, 1, 0, 0], .null) :: x89_4
theorem ox89_1 : sx_oks 89 x89_1 := ⟨sx_q_S (sx_dd bb_89 dX7_pour_1) oo_89 lk_StrawGarrison_188_S ft_104_h, ox89_4⟩
def x89_0 : List sx_E := (.iload 1, 0, 1, [], .null) :: x89_1
theorem ox89_0 : sx_oks 89 x89_0 := ⟨Or.inr ⟨_, (sx_dd bb_89 dX7_pour_0), rfl, rfl⟩, ox89_1⟩
theorem m89 : sx_mok 89 x89_0 := ⟨ox89_0, by decide +kernel⟩
theorem bb_90 : sx_by 90 = cX7_reads := rfl
theorem oo_90 : (sx_nm 90).cls = "StrawGarrison" := rfl
theorem mm_90 : sx_ml 90 = 4 := rfl
theorem rr_90 : sx_rt 90 = (some .int) := rfl
def x90_85 : List sx_E := (.ireturn, 85, 86, [0], .null) :: []
theorem ox90_85 : sx_oks 90 x90_85 := ⟨sx_q_iret0 (sx_dd bb_90 dX7_reads_85) rr_90, trivial⟩
def x90_83 : List sx_E := (.nop, 83, 85, [], .int ((-1000000005))) :: x90_85
theorem ox90_83 : sx_oks 90 x90_83 := ⟨sx_k_ldc (sx_dd bb_90 dX7_reads_83) (sx_ow1 oo_90 kc_StrawGarrison_81), ox90_85⟩
def x90_80 : List sx_E := (.goto (-50), 80, 83, [30], .null) :: x90_83
theorem ox90_80 : sx_oks 90 x90_80 := ⟨⟨(sx_dd bb_90 dX7_reads_80), sx_t1 (by decide +kernel)⟩, ox90_83⟩
def x90_77 : List sx_E := (.iinc 3 (1), 77, 80, [], .int (nI 1)) :: x90_80
theorem ox90_77 : sx_oks 90 x90_77 := ⟨⟨sx_lt mm_90 (Nat.le_of_ble_eq_true rfl), (sx_dd bb_90 dX7_reads_77), rfl, by decide +kernel⟩, ox90_80⟩
def x90_76 : List sx_E := (.ireturn, 76, 77, [0], .null) :: x90_77
theorem ox90_76 : sx_oks 90 x90_76 := ⟨sx_q_iret0 (sx_dd bb_90 dX7_reads_76) rr_90, ox90_77⟩
def x90_75 : List sx_E := (.iload 3, 75, 76, [], .null) :: x90_76
theorem ox90_75 : sx_oks 90 x90_75 := ⟨Or.inr ⟨_, (sx_dd bb_90 dX7_reads_75), rfl, rfl⟩, ox90_76⟩
def x90_72 : List sx_E := (.if_icmp .eq (5), 72, 75, [77], .null) :: x90_75
theorem ox90_72 : sx_oks 90 x90_72 := ⟨⟨(sx_dd bb_90 dX7_reads_72), rfl, sx_t1 (by decide +kernel)⟩, ox90_75⟩
def x90_71 : List sx_E := (.iaload, 71, 72, [], .null) :: x90_72
theorem ox90_71 : sx_oks 90 x90_71 := ⟨⟨(sx_dd bb_90 dX7_reads_71), rfl⟩, ox90_72⟩
def x90_70 : List sx_E := (.iload 3, 70, 71, [], .null) :: x90_71
theorem ox90_70 : sx_oks 90 x90_70 := ⟨Or.inr ⟨_, (sx_dd bb_90 dX7_reads_70), rfl, rfl⟩, ox90_71⟩
def x90_67 : List sx_E := (.getfield 100, 67, 70, [1, 3, 1], .null) :: x90_70
theorem ox90_67 : sx_oks 90 x90_67 := ⟨sx_q_get (w := (RX1, TX1, 11)) (sx_dd bb_90 dX7_reads_67) rfl rfl (Nat.le_of_ble_eq_true rfl) cu_1 (sx_ow3 oo_90 fl_StrawGarrison_100) (by decide +kernel), ox90_70⟩
def x90_64 : List sx_E := (.getfield 10, 64, 67, [6, 1, 1], .null) :: x90_67
theorem ox90_64 : sx_oks 90 x90_64 := ⟨sx_q_get (w := (RX7, TX7, 12)) (sx_dd bb_90 dX7_reads_64) rfl rfl (Nat.le_of_ble_eq_true rfl) cu_6 (sx_ow3 oo_90 fl_StrawGarrison_10) (by decide +kernel), ox90_67⟩
def x90_63 : List sx_E := (.aload 0, 63, 64, [], .null) :: x90_64
theorem ox90_63 : sx_oks 90 x90_63 := ⟨Or.inr ⟨_, (sx_dd bb_90 dX7_reads_63), rfl, rfl⟩, ox90_64⟩
def x90_62 : List sx_E := (.iaload, 62, 63, [], .null) :: x90_63
theorem ox90_62 : sx_oks 90 x90_62 := ⟨⟨(sx_dd bb_90 dX7_reads_62), rfl⟩, ox90_63⟩
def x90_61 : List sx_E := (.iload 3, 61, 62, [], .null) :: x90_62
theorem ox90_61 : sx_oks 90 x90_61 := ⟨Or.inr ⟨_, (sx_dd bb_90 dX7_reads_61), rfl, rfl⟩, ox90_62⟩
def x90_58 : List sx_E := (.getfield 247, 58, 61, [3, 2, 1], .null) :: x90_61
theorem ox90_58 : sx_oks 90 x90_58 := ⟨sx_q_get (w := (RX4, TX4, 3)) (sx_dd bb_90 dX7_reads_58) rfl rfl (Nat.le_of_ble_eq_true rfl) cu_3 (sx_ow3 oo_90 fl_StrawGarrison_247) (by decide +kernel), ox90_61⟩
def x90_57 : List sx_E := (.aload 2, 57, 58, [], .null) :: x90_58
theorem ox90_57 : sx_oks 90 x90_57 := ⟨Or.inr ⟨_, (sx_dd bb_90 dX7_reads_57), rfl, rfl⟩, ox90_58⟩
def x90_54 : List sx_E := (.if_icmp .ge (21), 54, 57, [75], .null) :: x90_57
theorem ox90_54 : sx_oks 90 x90_54 := ⟨⟨(sx_dd bb_90 dX7_reads_54), rfl, sx_t1 (by decide +kernel)⟩, ox90_57⟩
def x90_51 : List sx_E := (.getfield 83, 51, 54, [1, 1, 0], .null) :: x90_54
theorem ox90_51 : sx_oks 90 x90_51 := ⟨sx_q_get (w := (RX1, TX1, 11)) (sx_dd bb_90 dX7_reads_51) rfl rfl (Nat.le_of_ble_eq_true rfl) cu_1 (sx_ow3 oo_90 fl_StrawGarrison_83) (by decide +kernel), ox90_54⟩
def x90_48 : List sx_E := (.getfield 10, 48, 51, [6, 1, 1], .null) :: x90_51
theorem ox90_48 : sx_oks 90 x90_48 := ⟨sx_q_get (w := (RX7, TX7, 12)) (sx_dd bb_90 dX7_reads_48) rfl rfl (Nat.le_of_ble_eq_true rfl) cu_6 (sx_ow3 oo_90 fl_StrawGarrison_10) (by decide +kernel), ox90_51⟩
def x90_47 : List sx_E := (.aload 0, 47, 48, [], .null) :: x90_48
theorem ox90_47 : sx_oks 90 x90_47 := ⟨Or.inr ⟨_, (sx_dd bb_90 dX7_reads_47), rfl, rfl⟩, ox90_48⟩
def x90_46 : List sx_E := (.iload 3, 46, 47, [], .null) :: x90_47
theorem ox90_46 : sx_oks 90 x90_46 := ⟨Or.inr ⟨_, (sx_dd bb_90 dX7_reads_46), rfl, rfl⟩, ox90_47⟩
def x90_43 : List sx_E := (.ifCond .eq (34), 43, 46, [77], .null) :: x90_46
theorem ox90_43 : sx_oks 90 x90_43 := ⟨⟨(sx_dd bb_90 dX7_reads_43), rfl, sx_t1 (by decide +kernel)⟩, ox90_46⟩
def x90_40 : List sx_E := (.invokevirtual 252, 40, 43, [54, 2, 0, 0, 3], .null) :: x90_43
theorem ox90_40 : sx_oks 90 x90_40 := ⟨sx_q_V (w := (RX4, TX4, 3)) (sx_dd bb_90 dX7_reads_40) oo_90 lk_StrawGarrison_252_V ft_54_h (Nat.le_of_ble_eq_true rfl) rfl rfl, ox90_43⟩
def x90_39 : List sx_E := (.iload 3, 39, 40, [], .null) :: x90_40
theorem ox90_39 : sx_oks 90 x90_39 := ⟨Or.inr ⟨_, (sx_dd bb_90 dX7_reads_39), rfl, rfl⟩, ox90_40⟩
def x90_38 : List sx_E := (.aload 2, 38, 39, [], .null) :: x90_39
theorem ox90_38 : sx_oks 90 x90_38 := ⟨Or.inr ⟨_, (sx_dd bb_90 dX7_reads_38), rfl, rfl⟩, ox90_39⟩
def x90_35 : List sx_E := (.if_icmp .ge (48), 35, 38, [83], .null) :: x90_38
theorem ox90_35 : sx_oks 90 x90_35 := ⟨⟨(sx_dd bb_90 dX7_reads_35), rfl, sx_t1 (by decide +kernel)⟩, ox90_38⟩
def x90_32 : List sx_E := (.getfield 243, 32, 35, [3, 1, 0], .null) :: x90_35
theorem ox90_32 : sx_oks 90 x90_32 := ⟨sx_q_get (w := (RX4, TX4, 3)) (sx_dd bb_90 dX7_reads_32) rfl rfl (Nat.le_of_ble_eq_true rfl) cu_3 (sx_ow3 oo_90 fl_StrawGarrison_243) (by decide +kernel), ox90_35⟩
def x90_31 : List sx_E := (.aload 2, 31, 32, [], .null) :: x90_32
theorem ox90_31 : sx_oks 90 x90_31 := ⟨Or.inr ⟨_, (sx_dd bb_90 dX7_reads_31), rfl, rfl⟩, ox90_32⟩
def x90_30 : List sx_E := (.iload 3, 30, 31, [], .null) :: x90_31
theorem ox90_30 : sx_oks 90 x90_30 := ⟨Or.inr ⟨_, (sx_dd bb_90 dX7_reads_30), rfl, rfl⟩, ox90_31⟩
def x90_30h : List sx_E := (.monitorenter, 30, 30, [0, 2, 3], .null) :: x90_30
theorem ox90_30h : sx_oks 90 x90_30h := ⟨trivial, ox90_30⟩
def x90_29 : List sx_E := (.istore 3, 29, 30, [], .null) :: x90_30h
theorem ox90_29 : sx_oks 90 x90_29 := ⟨⟨sx_lt mm_90 (Nat.le_of_ble_eq_true rfl), Or.inr ⟨_, (sx_dd bb_90 dX7_reads_29), rfl, rfl⟩⟩, ox90_30h⟩
def x90_28 : List sx_E := (.nop, 28, 29, [], .int (nI 0)) :: x90_29
theorem ox90_28 : sx_oks 90 x90_28 := ⟨sx_k_iconst (sx_dd bb_90 dX7_reads_28) (by decide +kernel), ox90_29⟩
def x90_27 : List sx_E := (.ireturn, 27, 28, [0], .null) :: x90_28
theorem ox90_27 : sx_oks 90 x90_27 := ⟨sx_q_iret0 (sx_dd bb_90 dX7_reads_27) rr_90, ox90_28⟩
def x90_25 : List sx_E := (.nop, 25, 27, [], .int ((-1000000011))) :: x90_27
theorem ox90_25 : sx_oks 90 x90_25 := ⟨sx_k_ldc (sx_dd bb_90 dX7_reads_25) (sx_ow1 oo_90 kc_StrawGarrison_194), ox90_27⟩
def x90_22 : List sx_E := (.if_icmp .ne (6), 22, 25, [28], .null) :: x90_25
theorem ox90_22 : sx_oks 90 x90_22 := ⟨⟨(sx_dd bb_90 dX7_reads_22), rfl, sx_t1 (by decide +kernel)⟩, ox90_25⟩
def x90_21 : List sx_E := (.nop, 21, 22, [], .int ((-1))) :: x90_22
theorem ox90_21 : sx_oks 90 x90_21 := ⟨sx_k_iconst (sx_dd bb_90 dX7_reads_21) (by decide +kernel), ox90_22⟩
def x90_18 : List sx_E := (.getfield 191, 18, 21, [3, 0, 0], .null) :: x90_21
theorem ox90_18 : sx_oks 90 x90_18 := ⟨sx_q_get (w := (RX4, TX4, 3)) (sx_dd bb_90 dX7_reads_18) rfl rfl (Nat.le_of_ble_eq_true rfl) cu_3 (sx_ow3 oo_90 fl_StrawGarrison_191) (by decide +kernel), ox90_21⟩
def x90_17 : List sx_E := (.aload 2, 17, 18, [], .null) :: x90_18
theorem ox90_17 : sx_oks 90 x90_17 := ⟨Or.inr ⟨_, (sx_dd bb_90 dX7_reads_17), rfl, rfl⟩, ox90_18⟩
def x90_16 : List sx_E := (.astore 2, 16, 17, [], .null) :: x90_17
theorem ox90_16 : sx_oks 90 x90_16 := ⟨⟨sx_lt mm_90 (Nat.le_of_ble_eq_true rfl), Or.inr ⟨_, (sx_dd bb_90 dX7_reads_16), rfl, rfl⟩⟩, ox90_17⟩
def x90_15 : List sx_E := (.aaload, 15, 16, [], .null) :: x90_16
theorem ox90_15 : sx_oks 90 x90_15 := ⟨⟨(sx_dd bb_90 dX7_reads_15), rfl⟩, ox90_16⟩
def x90_14 : List sx_E := (.iload 1, 14, 15, [], .null) :: x90_15
theorem ox90_14 : sx_oks 90 x90_14 := ⟨Or.inr ⟨_, (sx_dd bb_90 dX7_reads_14), rfl, rfl⟩, ox90_15⟩
def x90_11 : List sx_E := (.getfield 43, 11, 14, [6, 8, 1], .null) :: x90_14
theorem ox90_11 : sx_oks 90 x90_11 := ⟨sx_q_get (w := (RX7, TX7, 12)) (sx_dd bb_90 dX7_reads_11) rfl rfl (Nat.le_of_ble_eq_true rfl) cu_6 (sx_ow3 oo_90 fl_StrawGarrison_43) (by decide +kernel), ox90_14⟩
def x90_10 : List sx_E := (.aload 0, 10, 11, [], .null) :: x90_11
theorem ox90_10 : sx_oks 90 x90_10 := ⟨Or.inr ⟨_, (sx_dd bb_90 dX7_reads_10), rfl, rfl⟩, ox90_11⟩
def x90_9 : List sx_E := (.ireturn, 9, 10, [0], .null) :: x90_10
theorem ox90_9 : sx_oks 90 x90_9 := ⟨sx_q_iret0 (sx_dd bb_90 dX7_reads_9) rr_90, ox90_10⟩
def x90_7 : List sx_E := (.nop, 7, 9, [], .int ((-1000000001))) :: x90_9
theorem ox90_7 : sx_oks 90 x90_7 := ⟨sx_k_ldc (sx_dd bb_90 dX7_reads_7) (sx_ow1 oo_90 kc_StrawGarrison_76), ox90_9⟩
def x90_4 : List sx_E := (.ifCond .ne (6), 4, 7, [10], .null) :: x90_7
theorem ox90_4 : sx_oks 90 x90_4 := ⟨⟨(sx_dd bb_90 dX7_reads_4), rfl, sx_t1 (by decide +kernel)⟩, ox90_7⟩
def x90_1 : List sx_E := (.invokestatic 188, 1, 4, [104, 1, 0, 0], .null) :: x90_4
theorem ox90_1 : sx_oks 90 x90_1 := ⟨sx_q_S (sx_dd bb_90 dX7_reads_1) oo_90 lk_StrawGarrison_188_S ft_104_h, ox90_4⟩
def x90_0 : List sx_E := (.iload 1, 0, 1, [], .null) :: x90_1
theorem ox90_0 : sx_oks 90 x90_0 := ⟨Or.inr ⟨_, (sx_dd bb_90 dX7_reads_0), rfl, rfl⟩, ox90_1⟩
theorem m90 : sx_mok 90 x90_0 := ⟨ox90_0, by decide +kernel⟩
theorem bb_91 : sx_by 91 = cX7_copy := rfl
theorem oo_91 : (sx_nm 91).cls = "StrawGarrison" := rfl
theorem mm_91 : sx_ml 91 = 8 := rfl
theorem rr_91 : sx_rt 91 = (some .int) := rfl
def x91_116 : List sx_E := (.ireturn, 116, 117, [0], .null) :: []
theorem ox91_116 : sx_oks 91 x91_116 := ⟨sx_q_iret0 (sx_dd bb_91 dX7_copy_116) rr_91, trivial⟩
def x91_114 : List sx_E := (.iload 5, 114, 116, [], .null) :: x91_116
theorem ox91_114 : sx_oks 91 x91_114 := ⟨Or.inl ⟨(sx_dd bb_91 dX7_copy_114), rfl⟩, ox91_116⟩
def x91_111 : List sx_E := (.ret 261, 111, 114, [], .null) :: x91_114
theorem ox91_111 : sx_oks 91 x91_111 := ⟨⟨(sx_dd bb_91 dX7_copy_111), rfl, sx_ow5 oo_91 ac_StrawGarrison_261, ac_n, ac_s, ac_i⟩, ox91_114⟩
def x91_109 : List sx_E := (.iload 5, 109, 111, [], .null) :: x91_111
theorem ox91_109 : sx_oks 91 x91_109 := ⟨Or.inl ⟨(sx_dd bb_91 dX7_copy_109), rfl⟩, ox91_111⟩
def x91_107 : List sx_E := (.iload 4, 107, 109, [], .null) :: x91_109
theorem ox91_107 : sx_oks 91 x91_107 := ⟨Or.inl ⟨(sx_dd bb_91 dX7_copy_107), rfl⟩, ox91_109⟩
def x91_104 : List sx_E := (.getfield 247, 104, 107, [3, 2, 1], .null) :: x91_107
theorem ox91_104 : sx_oks 91 x91_104 := ⟨sx_q_get (w := (RX4, TX4, 3)) (sx_dd bb_91 dX7_copy_104) rfl rfl (Nat.le_of_ble_eq_true rfl) cu_3 (sx_ow3 oo_91 fl_StrawGarrison_247) (by decide +kernel), ox91_107⟩
def x91_102 : List sx_E := (.aload 7, 102, 104, [], .null) :: x91_104
theorem ox91_102 : sx_oks 91 x91_102 := ⟨Or.inl ⟨(sx_dd bb_91 dX7_copy_102), rfl⟩, ox91_104⟩
def x91_101 : List sx_E := (.iload 2, 101, 102, [], .null) :: x91_102
theorem ox91_101 : sx_oks 91 x91_101 := ⟨Or.inr ⟨_, (sx_dd bb_91 dX7_copy_101), rfl, rfl⟩, ox91_102⟩
def x91_98 : List sx_E := (.getfield 247, 98, 101, [3, 2, 1], .null) :: x91_101
theorem ox91_98 : sx_oks 91 x91_98 := ⟨sx_q_get (w := (RX4, TX4, 3)) (sx_dd bb_91 dX7_copy_98) rfl rfl (Nat.le_of_ble_eq_true rfl) cu_3 (sx_ow3 oo_91 fl_StrawGarrison_247) (by decide +kernel), ox91_101⟩
def x91_96 : List sx_E := (.aload 6, 96, 98, [], .null) :: x91_98
theorem ox91_96 : sx_oks 91 x91_96 := ⟨Or.inl ⟨(sx_dd bb_91 dX7_copy_96), rfl⟩, ox91_98⟩
def x91_95 : List sx_E := (.ireturn, 95, 96, [0], .null) :: x91_96
theorem ox91_95 : sx_oks 91 x91_95 := ⟨sx_q_iret0 (sx_dd bb_91 dX7_copy_95) rr_91, ox91_96⟩
def x91_93 : List sx_E := (.nop, 93, 95, [], .int ((-1000000013))) :: x91_95
theorem ox91_93 : sx_oks 91 x91_93 := ⟨sx_k_ldc (sx_dd bb_91 dX7_copy_93) (sx_ow1 oo_91 kc_StrawGarrison_246), ox91_95⟩
def x91_90 : List sx_E := (.ifCond .ne (6), 90, 93, [96], .null) :: x91_93
theorem ox91_90 : sx_oks 91 x91_90 := ⟨⟨(sx_dd bb_91 dX7_copy_90), rfl, sx_t1 (by decide +kernel)⟩, ox91_93⟩
def x91_87 : List sx_E := (.invokevirtual 258, 87, 90, [55, 3, 0, 0, 3], .null) :: x91_90
theorem ox91_87 : sx_oks 91 x91_87 := ⟨sx_q_V (w := (RX4, TX4, 3)) (sx_dd bb_91 dX7_copy_87) oo_91 lk_StrawGarrison_258_V ft_55_h (Nat.le_of_ble_eq_true rfl) rfl rfl, ox91_90⟩
def x91_85 : List sx_E := (.iload 5, 85, 87, [], .null) :: x91_87
theorem ox91_85 : sx_oks 91 x91_85 := ⟨Or.inl ⟨(sx_dd bb_91 dX7_copy_85), rfl⟩, ox91_87⟩
def x91_83 : List sx_E := (.iload 4, 83, 85, [], .null) :: x91_85
theorem ox91_83 : sx_oks 91 x91_83 := ⟨Or.inl ⟨(sx_dd bb_91 dX7_copy_83), rfl⟩, ox91_85⟩
def x91_81 : List sx_E := (.aload 7, 81, 83, [], .null) :: x91_83
theorem ox91_81 : sx_oks 91 x91_81 := ⟨Or.inl ⟨(sx_dd bb_91 dX7_copy_81), rfl⟩, ox91_83⟩
def x91_78 : List sx_E := (.ifCond .eq (15), 78, 81, [93], .null) :: x91_81
theorem ox91_78 : sx_oks 91 x91_78 := ⟨⟨(sx_dd bb_91 dX7_copy_78), rfl, sx_t1 (by decide +kernel)⟩, ox91_81⟩
def x91_75 : List sx_E := (.invokevirtual 258, 75, 78, [55, 3, 0, 0, 3], .null) :: x91_78
theorem ox91_75 : sx_oks 91 x91_75 := ⟨sx_q_V (w := (RX4, TX4, 3)) (sx_dd bb_91 dX7_copy_75) oo_91 lk_StrawGarrison_258_V ft_55_h (Nat.le_of_ble_eq_true rfl) rfl rfl, ox91_78⟩
def x91_73 : List sx_E := (.iload 5, 73, 75, [], .null) :: x91_75
theorem ox91_73 : sx_oks 91 x91_73 := ⟨Or.inl ⟨(sx_dd bb_91 dX7_copy_73), rfl⟩, ox91_75⟩
def x91_72 : List sx_E := (.iload 2, 72, 73, [], .null) :: x91_73
theorem ox91_72 : sx_oks 91 x91_72 := ⟨Or.inr ⟨_, (sx_dd bb_91 dX7_copy_72), rfl, rfl⟩, ox91_73⟩
def x91_70 : List sx_E := (.aload 6, 70, 72, [], .null) :: x91_72
theorem ox91_70 : sx_oks 91 x91_70 := ⟨Or.inl ⟨(sx_dd bb_91 dX7_copy_70), rfl⟩, ox91_72⟩
def x91_69 : List sx_E := (.ireturn, 69, 70, [0], .null) :: x91_70
theorem ox91_69 : sx_oks 91 x91_69 := ⟨sx_q_iret0 (sx_dd bb_91 dX7_copy_69) rr_91, ox91_70⟩
def x91_67 : List sx_E := (.nop, 67, 69, [], .int ((-1000000012))) :: x91_69
theorem ox91_67 : sx_oks 91 x91_67 := ⟨sx_k_ldc (sx_dd bb_91 dX7_copy_67) (sx_ow1 oo_91 kc_StrawGarrison_128), ox91_69⟩
def x91_64 : List sx_E := (.if_icmp .eq (6), 64, 67, [70], .null) :: x91_67
theorem ox91_64 : sx_oks 91 x91_64 := ⟨⟨(sx_dd bb_91 dX7_copy_64), rfl, sx_t1 (by decide +kernel)⟩, ox91_67⟩
def x91_61 : List sx_E := (.getfield 191, 61, 64, [3, 0, 0], .null) :: x91_64
theorem ox91_61 : sx_oks 91 x91_61 := ⟨sx_q_get (w := (RX4, TX4, 3)) (sx_dd bb_91 dX7_copy_61) rfl rfl (Nat.le_of_ble_eq_true rfl) cu_3 (sx_ow3 oo_91 fl_StrawGarrison_191) (by decide +kernel), ox91_64⟩
def x91_59 : List sx_E := (.aload 7, 59, 61, [], .null) :: x91_61
theorem ox91_59 : sx_oks 91 x91_59 := ⟨Or.inl ⟨(sx_dd bb_91 dX7_copy_59), rfl⟩, ox91_61⟩
def x91_56 : List sx_E := (.getfield 191, 56, 59, [3, 0, 0], .null) :: x91_59
theorem ox91_56 : sx_oks 91 x91_56 := ⟨sx_q_get (w := (RX4, TX4, 3)) (sx_dd bb_91 dX7_copy_56) rfl rfl (Nat.le_of_ble_eq_true rfl) cu_3 (sx_ow3 oo_91 fl_StrawGarrison_191) (by decide +kernel), ox91_59⟩
def x91_54 : List sx_E := (.aload 6, 54, 56, [], .null) :: x91_56
theorem ox91_54 : sx_oks 91 x91_54 := ⟨Or.inl ⟨(sx_dd bb_91 dX7_copy_54), rfl⟩, ox91_56⟩
def x91_53 : List sx_E := (.ireturn, 53, 54, [0], .null) :: x91_54
theorem ox91_53 : sx_oks 91 x91_53 := ⟨sx_q_iret0 (sx_dd bb_91 dX7_copy_53) rr_91, ox91_54⟩
def x91_51 : List sx_E := (.nop, 51, 53, [], .int ((-1000000011))) :: x91_53
theorem ox91_51 : sx_oks 91 x91_51 := ⟨sx_k_ldc (sx_dd bb_91 dX7_copy_51) (sx_ow1 oo_91 kc_StrawGarrison_194), ox91_53⟩
def x91_48 : List sx_E := (.if_icmp .ne (6), 48, 51, [54], .null) :: x91_51
theorem ox91_48 : sx_oks 91 x91_48 := ⟨⟨(sx_dd bb_91 dX7_copy_48), rfl, sx_t1 (by decide +kernel)⟩, ox91_51⟩
def x91_47 : List sx_E := (.nop, 47, 48, [], .int ((-1))) :: x91_48
theorem ox91_47 : sx_oks 91 x91_47 := ⟨sx_k_iconst (sx_dd bb_91 dX7_copy_47) (by decide +kernel), ox91_48⟩
def x91_44 : List sx_E := (.getfield 191, 44, 47, [3, 0, 0], .null) :: x91_47
theorem ox91_44 : sx_oks 91 x91_44 := ⟨sx_q_get (w := (RX4, TX4, 3)) (sx_dd bb_91 dX7_copy_44) rfl rfl (Nat.le_of_ble_eq_true rfl) cu_3 (sx_ow3 oo_91 fl_StrawGarrison_191) (by decide +kernel), ox91_47⟩
def x91_42 : List sx_E := (.aload 7, 42, 44, [], .null) :: x91_44
theorem ox91_42 : sx_oks 91 x91_42 := ⟨Or.inl ⟨(sx_dd bb_91 dX7_copy_42), rfl⟩, ox91_44⟩
def x91_39 : List sx_E := (.if_icmp .eq (12), 39, 42, [51], .null) :: x91_42
theorem ox91_39 : sx_oks 91 x91_39 := ⟨⟨(sx_dd bb_91 dX7_copy_39), rfl, sx_t1 (by decide +kernel)⟩, ox91_42⟩
def x91_38 : List sx_E := (.nop, 38, 39, [], .int ((-1))) :: x91_39
theorem ox91_38 : sx_oks 91 x91_38 := ⟨sx_k_iconst (sx_dd bb_91 dX7_copy_38) (by decide +kernel), ox91_39⟩
def x91_35 : List sx_E := (.getfield 191, 35, 38, [3, 0, 0], .null) :: x91_38
theorem ox91_35 : sx_oks 91 x91_35 := ⟨sx_q_get (w := (RX4, TX4, 3)) (sx_dd bb_91 dX7_copy_35) rfl rfl (Nat.le_of_ble_eq_true rfl) cu_3 (sx_ow3 oo_91 fl_StrawGarrison_191) (by decide +kernel), ox91_38⟩
def x91_33 : List sx_E := (.aload 6, 33, 35, [], .null) :: x91_35
theorem ox91_33 : sx_oks 91 x91_33 := ⟨Or.inl ⟨(sx_dd bb_91 dX7_copy_33), rfl⟩, ox91_35⟩
def x91_31 : List sx_E := (.astore 7, 31, 33, [], .null) :: x91_33
theorem ox91_31 : sx_oks 91 x91_31 := ⟨⟨sx_lt mm_91 (Nat.le_of_ble_eq_true rfl), Or.inl ⟨(sx_dd bb_91 dX7_copy_31), rfl⟩⟩, ox91_33⟩
def x91_30 : List sx_E := (.aaload, 30, 31, [], .null) :: x91_31
theorem ox91_30 : sx_oks 91 x91_30 := ⟨⟨(sx_dd bb_91 dX7_copy_30), rfl⟩, ox91_31⟩
def x91_29 : List sx_E := (.iload 3, 29, 30, [], .null) :: x91_30
theorem ox91_29 : sx_oks 91 x91_29 := ⟨Or.inr ⟨_, (sx_dd bb_91 dX7_copy_29), rfl, rfl⟩, ox91_30⟩
def x91_26 : List sx_E := (.getfield 43, 26, 29, [6, 8, 1], .null) :: x91_29
theorem ox91_26 : sx_oks 91 x91_26 := ⟨sx_q_get (w := (RX7, TX7, 12)) (sx_dd bb_91 dX7_copy_26) rfl rfl (Nat.le_of_ble_eq_true rfl) cu_6 (sx_ow3 oo_91 fl_StrawGarrison_43) (by decide +kernel), ox91_29⟩
def x91_25 : List sx_E := (.aload 0, 25, 26, [], .null) :: x91_26
theorem ox91_25 : sx_oks 91 x91_25 := ⟨Or.inr ⟨_, (sx_dd bb_91 dX7_copy_25), rfl, rfl⟩, ox91_26⟩
def x91_23 : List sx_E := (.astore 6, 23, 25, [], .null) :: x91_25
theorem ox91_23 : sx_oks 91 x91_23 := ⟨⟨sx_lt mm_91 (Nat.le_of_ble_eq_true rfl), Or.inl ⟨(sx_dd bb_91 dX7_copy_23), rfl⟩⟩, ox91_25⟩
def x91_22 : List sx_E := (.aaload, 22, 23, [], .null) :: x91_23
theorem ox91_22 : sx_oks 91 x91_22 := ⟨⟨(sx_dd bb_91 dX7_copy_22), rfl⟩, ox91_23⟩
def x91_21 : List sx_E := (.iload 1, 21, 22, [], .null) :: x91_22
theorem ox91_21 : sx_oks 91 x91_21 := ⟨Or.inr ⟨_, (sx_dd bb_91 dX7_copy_21), rfl, rfl⟩, ox91_22⟩
def x91_18 : List sx_E := (.getfield 43, 18, 21, [6, 8, 1], .null) :: x91_21
theorem ox91_18 : sx_oks 91 x91_18 := ⟨sx_q_get (w := (RX7, TX7, 12)) (sx_dd bb_91 dX7_copy_18) rfl rfl (Nat.le_of_ble_eq_true rfl) cu_6 (sx_ow3 oo_91 fl_StrawGarrison_43) (by decide +kernel), ox91_21⟩
def x91_17 : List sx_E := (.aload 0, 17, 18, [], .null) :: x91_18
theorem ox91_17 : sx_oks 91 x91_17 := ⟨Or.inr ⟨_, (sx_dd bb_91 dX7_copy_17), rfl, rfl⟩, ox91_18⟩
def x91_16 : List sx_E := (.ireturn, 16, 17, [0], .null) :: x91_17
theorem ox91_16 : sx_oks 91 x91_16 := ⟨sx_q_iret0 (sx_dd bb_91 dX7_copy_16) rr_91, ox91_17⟩
def x91_14 : List sx_E := (.nop, 14, 16, [], .int ((-1000000001))) :: x91_16
theorem ox91_14 : sx_oks 91 x91_14 := ⟨sx_k_ldc (sx_dd bb_91 dX7_copy_14) (sx_ow1 oo_91 kc_StrawGarrison_76), ox91_16⟩
def x91_11 : List sx_E := (.ifCond .ne (6), 11, 14, [17], .null) :: x91_14
theorem ox91_11 : sx_oks 91 x91_11 := ⟨⟨(sx_dd bb_91 dX7_copy_11), rfl, sx_t1 (by decide +kernel)⟩, ox91_14⟩
def x91_8 : List sx_E := (.invokestatic 188, 8, 11, [104, 1, 0, 0], .null) :: x91_11
theorem ox91_8 : sx_oks 91 x91_8 := ⟨sx_q_S (sx_dd bb_91 dX7_copy_8) oo_91 lk_StrawGarrison_188_S ft_104_h, ox91_11⟩
def x91_7 : List sx_E := (.iload 3, 7, 8, [], .null) :: x91_8
theorem ox91_7 : sx_oks 91 x91_7 := ⟨Or.inr ⟨_, (sx_dd bb_91 dX7_copy_7), rfl, rfl⟩, ox91_8⟩
def x91_4 : List sx_E := (.ifCond .eq (10), 4, 7, [14], .null) :: x91_7
theorem ox91_4 : sx_oks 91 x91_4 := ⟨⟨(sx_dd bb_91 dX7_copy_4), rfl, sx_t1 (by decide +kernel)⟩, ox91_7⟩
def x91_1 : List sx_E := (.invokestatic 188, 1, 4, [104, 1, 0, 0], .null) :: x91_4
theorem ox91_1 : sx_oks 91 x91_1 := ⟨sx_q_S (sx_dd bb_91 dX7_copy_1) oo_91 lk_StrawGarrison_188_S ft_104_h, ox91_4⟩
def x91_0 : List sx_E := (.iload 1, 0, 1, [], .null) :: x91_1
theorem ox91_0 : sx_oks 91 x91_0 := ⟨Or.inr ⟨_, (sx_dd bb_91 dX7_copy_0), rfl, rfl⟩, ox91_1⟩
theorem m91 : sx_mok 91 x91_0 := ⟨ox91_0, by decide +kernel⟩
theorem bb_92 : sx_by 92 = cX7_lay := rfl
theorem oo_92 : (sx_nm 92).cls = "StrawGarrison" := rfl
theorem mm_92 : sx_ml 92 = 6 := rfl
theorem rr_92 : sx_rt 92 = (some .int) := rfl
def x92_157 : List sx_E := (.ireturn, 157, 158, [0], .null) :: []
theorem ox92_157 : sx_oks 92 x92_157 := ⟨sx_q_iret0 (sx_dd bb_92 dX7_lay_157) rr_92, trivial⟩
def x92_155 : List sx_E := (.iload 5, 155, 157, [], .null) :: x92_157
theorem ox92_155 : sx_oks 92 x92_155 := ⟨Or.inl ⟨(sx_dd bb_92 dX7_lay_155), rfl⟩, ox92_157⟩
def x92_152 : List sx_E := (.putfield 283, 152, 155, [4, 3, 0], .null) :: x92_155
theorem ox92_152 : sx_oks 92 x92_152 := ⟨sx_q_put (w := (RX5, TX5, 5)) (ty0 := tyX5) (sx_dd bb_92 dX7_lay_152) rfl (Nat.le_of_ble_eq_true rfl) cu_4 (sx_ow3 oo_92 fl_StrawGarrison_283) (by decide +kernel) tyX5_ok nmX5 (Or.inl rfl) (fun _ => rfl) (fun h => absurd h (by decide)) (fun h => absurd h (by decide)), ox92_155⟩
def x92_151 : List sx_E := (.iload 3, 151, 152, [], .null) :: x92_152
theorem ox92_151 : sx_oks 92 x92_151 := ⟨Or.inr ⟨_, (sx_dd bb_92 dX7_lay_151), rfl, rfl⟩, ox92_152⟩
def x92_149 : List sx_E := (.aload 4, 149, 151, [], .null) :: x92_151
theorem ox92_149 : sx_oks 92 x92_149 := ⟨Or.inl ⟨(sx_dd bb_92 dX7_lay_149), rfl⟩, ox92_151⟩
def x92_146 : List sx_E := (.if_icmp .ne (9), 146, 149, [155], .null) :: x92_149
theorem ox92_146 : sx_oks 92 x92_146 := ⟨⟨(sx_dd bb_92 dX7_lay_146), rfl, sx_t1 (by decide +kernel)⟩, ox92_149⟩
def x92_145 : List sx_E := (.nop, 145, 146, [], .int (nI 3)) :: x92_146
theorem ox92_145 : sx_oks 92 x92_145 := ⟨sx_k_iconst (sx_dd bb_92 dX7_lay_145) (by decide +kernel), ox92_146⟩
def x92_144 : List sx_E := (.iload 2, 144, 145, [], .null) :: x92_145
theorem ox92_144 : sx_oks 92 x92_144 := ⟨Or.inr ⟨_, (sx_dd bb_92 dX7_lay_144), rfl, rfl⟩, ox92_145⟩
def x92_141 : List sx_E := (.goto (14), 141, 144, [155], .null) :: x92_144
theorem ox92_141 : sx_oks 92 x92_141 := ⟨⟨(sx_dd bb_92 dX7_lay_141), sx_t1 (by decide +kernel)⟩, ox92_144⟩
def x92_138 : List sx_E := (.invokevirtual 281, 138, 141, [53, 2, 0, 0, 3], .null) :: x92_141
theorem ox92_138 : sx_oks 92 x92_138 := ⟨sx_q_V (w := (RX4, TX4, 3)) (sx_dd bb_92 dX7_lay_138) oo_92 lk_StrawGarrison_281_V ft_53_h (Nat.le_of_ble_eq_true rfl) rfl rfl, ox92_141⟩
def x92_137 : List sx_E := (.aaload, 137, 138, [], .null) :: x92_138
theorem ox92_137 : sx_oks 92 x92_137 := ⟨⟨(sx_dd bb_92 dX7_lay_137), rfl⟩, ox92_138⟩
def x92_136 : List sx_E := (.iload 3, 136, 137, [], .null) :: x92_137
theorem ox92_136 : sx_oks 92 x92_136 := ⟨Or.inr ⟨_, (sx_dd bb_92 dX7_lay_136), rfl, rfl⟩, ox92_137⟩
def x92_133 : List sx_E := (.getfield 43, 133, 136, [6, 8, 1], .null) :: x92_136
theorem ox92_133 : sx_oks 92 x92_133 := ⟨sx_q_get (w := (RX7, TX7, 12)) (sx_dd bb_92 dX7_lay_133) rfl rfl (Nat.le_of_ble_eq_true rfl) cu_6 (sx_ow3 oo_92 fl_StrawGarrison_43) (by decide +kernel), ox92_136⟩
def x92_132 : List sx_E := (.aload 0, 132, 133, [], .null) :: x92_133
theorem ox92_132 : sx_oks 92 x92_132 := ⟨Or.inr ⟨_, (sx_dd bb_92 dX7_lay_132), rfl, rfl⟩, ox92_133⟩
def x92_129 : List sx_E := (.getfield 277, 129, 132, [4, 4, 1], .null) :: x92_132
theorem ox92_129 : sx_oks 92 x92_129 := ⟨sx_q_get (w := (RX5, TX5, 5)) (sx_dd bb_92 dX7_lay_129) rfl rfl (Nat.le_of_ble_eq_true rfl) cu_4 (sx_ow3 oo_92 fl_StrawGarrison_277) (by decide +kernel), ox92_132⟩
def x92_127 : List sx_E := (.aload 4, 127, 129, [], .null) :: x92_129
theorem ox92_127 : sx_oks 92 x92_127 := ⟨Or.inl ⟨(sx_dd bb_92 dX7_lay_127), rfl⟩, ox92_129⟩
def x92_124 : List sx_E := (.if_icmp .ne (20), 124, 127, [144], .null) :: x92_127
theorem ox92_124 : sx_oks 92 x92_124 := ⟨⟨(sx_dd bb_92 dX7_lay_124), rfl, sx_t1 (by decide +kernel)⟩, ox92_127⟩
def x92_123 : List sx_E := (.nop, 123, 124, [], .int (nI 2)) :: x92_124
theorem ox92_123 : sx_oks 92 x92_123 := ⟨sx_k_iconst (sx_dd bb_92 dX7_lay_123) (by decide +kernel), ox92_124⟩
def x92_122 : List sx_E := (.iload 2, 122, 123, [], .null) :: x92_123
theorem ox92_122 : sx_oks 92 x92_122 := ⟨Or.inr ⟨_, (sx_dd bb_92 dX7_lay_122), rfl, rfl⟩, ox92_123⟩
def x92_119 : List sx_E := (.goto (36), 119, 122, [155], .null) :: x92_122
theorem ox92_119 : sx_oks 92 x92_119 := ⟨⟨(sx_dd bb_92 dX7_lay_119), sx_t1 (by decide +kernel)⟩, ox92_122⟩
def x92_116 : List sx_E := (.putfield 275, 116, 119, [4, 2, 0], .null) :: x92_119
theorem ox92_116 : sx_oks 92 x92_116 := ⟨sx_q_put (w := (RX5, TX5, 5)) (ty0 := tyX5) (sx_dd bb_92 dX7_lay_116) rfl (Nat.le_of_ble_eq_true rfl) cu_4 (sx_ow3 oo_92 fl_StrawGarrison_275) (by decide +kernel) tyX5_ok nmX5 (Or.inl rfl) (fun _ => rfl) (fun h => absurd h (by decide)) (fun h => absurd h (by decide)), ox92_119⟩
def x92_115 : List sx_E := (.iaload, 115, 116, [], .null) :: x92_116
theorem ox92_115 : sx_oks 92 x92_115 := ⟨⟨(sx_dd bb_92 dX7_lay_115), rfl⟩, ox92_116⟩
def x92_114 : List sx_E := (.iload 3, 114, 115, [], .null) :: x92_115
theorem ox92_114 : sx_oks 92 x92_114 := ⟨Or.inr ⟨_, (sx_dd bb_92 dX7_lay_114), rfl, rfl⟩, ox92_115⟩
def x92_111 : List sx_E := (.getfield 97, 111, 114, [1, 4, 1], .null) :: x92_114
theorem ox92_111 : sx_oks 92 x92_111 := ⟨sx_q_get (w := (RX1, TX1, 11)) (sx_dd bb_92 dX7_lay_111) rfl rfl (Nat.le_of_ble_eq_true rfl) cu_1 (sx_ow3 oo_92 fl_StrawGarrison_97) (by decide +kernel), ox92_114⟩
def x92_108 : List sx_E := (.getfield 10, 108, 111, [6, 1, 1], .null) :: x92_111
theorem ox92_108 : sx_oks 92 x92_108 := ⟨sx_q_get (w := (RX7, TX7, 12)) (sx_dd bb_92 dX7_lay_108) rfl rfl (Nat.le_of_ble_eq_true rfl) cu_6 (sx_ow3 oo_92 fl_StrawGarrison_10) (by decide +kernel), ox92_111⟩
def x92_107 : List sx_E := (.aload 0, 107, 108, [], .null) :: x92_108
theorem ox92_107 : sx_oks 92 x92_107 := ⟨Or.inr ⟨_, (sx_dd bb_92 dX7_lay_107), rfl, rfl⟩, ox92_108⟩
def x92_105 : List sx_E := (.aload 4, 105, 107, [], .null) :: x92_107
theorem ox92_105 : sx_oks 92 x92_105 := ⟨Or.inl ⟨(sx_dd bb_92 dX7_lay_105), rfl⟩, ox92_107⟩
def x92_102 : List sx_E := (.putfield 273, 102, 105, [4, 1, 0], .null) :: x92_105
theorem ox92_102 : sx_oks 92 x92_102 := ⟨sx_q_put (w := (RX5, TX5, 5)) (ty0 := tyX5) (sx_dd bb_92 dX7_lay_102) rfl (Nat.le_of_ble_eq_true rfl) cu_4 (sx_ow3 oo_92 fl_StrawGarrison_273) (by decide +kernel) tyX5_ok nmX5 (Or.inl rfl) (fun _ => rfl) (fun h => absurd h (by decide)) (fun h => absurd h (by decide)), ox92_105⟩
def x92_101 : List sx_E := (.iaload, 101, 102, [], .null) :: x92_102
theorem ox92_101 : sx_oks 92 x92_101 := ⟨⟨(sx_dd bb_92 dX7_lay_101), rfl⟩, ox92_102⟩
def x92_100 : List sx_E := (.iload 3, 100, 101, [], .null) :: x92_101
theorem ox92_100 : sx_oks 92 x92_100 := ⟨Or.inr ⟨_, (sx_dd bb_92 dX7_lay_100), rfl, rfl⟩, ox92_101⟩
def x92_97 : List sx_E := (.getfield 94, 97, 100, [1, 2, 1], .null) :: x92_100
theorem ox92_97 : sx_oks 92 x92_97 := ⟨sx_q_get (w := (RX1, TX1, 11)) (sx_dd bb_92 dX7_lay_97) rfl rfl (Nat.le_of_ble_eq_true rfl) cu_1 (sx_ow3 oo_92 fl_StrawGarrison_94) (by decide +kernel), ox92_100⟩
def x92_94 : List sx_E := (.getfield 10, 94, 97, [6, 1, 1], .null) :: x92_97
theorem ox92_94 : sx_oks 92 x92_94 := ⟨sx_q_get (w := (RX7, TX7, 12)) (sx_dd bb_92 dX7_lay_94) rfl rfl (Nat.le_of_ble_eq_true rfl) cu_6 (sx_ow3 oo_92 fl_StrawGarrison_10) (by decide +kernel), ox92_97⟩
def x92_93 : List sx_E := (.aload 0, 93, 94, [], .null) :: x92_94
theorem ox92_93 : sx_oks 92 x92_93 := ⟨Or.inr ⟨_, (sx_dd bb_92 dX7_lay_93), rfl, rfl⟩, ox92_94⟩
def x92_91 : List sx_E := (.aload 4, 91, 93, [], .null) :: x92_93
theorem ox92_91 : sx_oks 92 x92_91 := ⟨Or.inl ⟨(sx_dd bb_92 dX7_lay_91), rfl⟩, ox92_93⟩
def x92_88 : List sx_E := (.if_icmp .ne (34), 88, 91, [122], .null) :: x92_91
theorem ox92_88 : sx_oks 92 x92_88 := ⟨⟨(sx_dd bb_92 dX7_lay_88), rfl, sx_t1 (by decide +kernel)⟩, ox92_91⟩
def x92_87 : List sx_E := (.nop, 87, 88, [], .int (nI 1)) :: x92_88
theorem ox92_87 : sx_oks 92 x92_87 := ⟨sx_k_iconst (sx_dd bb_92 dX7_lay_87) (by decide +kernel), ox92_88⟩
def x92_86 : List sx_E := (.iload 2, 86, 87, [], .null) :: x92_87
theorem ox92_86 : sx_oks 92 x92_86 := ⟨Or.inr ⟨_, (sx_dd bb_92 dX7_lay_86), rfl, rfl⟩, ox92_87⟩
def x92_83 : List sx_E := (.putfield 270, 83, 86, [4, 0, 0], .null) :: x92_86
theorem ox92_83 : sx_oks 92 x92_83 := ⟨sx_q_put (w := (RX5, TX5, 5)) (ty0 := tyX5) (sx_dd bb_92 dX7_lay_83) rfl (Nat.le_of_ble_eq_true rfl) cu_4 (sx_ow3 oo_92 fl_StrawGarrison_270) (by decide +kernel) tyX5_ok nmX5 (Or.inl rfl) (fun _ => rfl) (fun h => absurd h (by decide)) (fun h => absurd h (by decide)), ox92_86⟩
def x92_82 : List sx_E := (.iload 2, 82, 83, [], .null) :: x92_83
theorem ox92_82 : sx_oks 92 x92_82 := ⟨Or.inr ⟨_, (sx_dd bb_92 dX7_lay_82), rfl, rfl⟩, ox92_83⟩
def x92_80 : List sx_E := (.aload 4, 80, 82, [], .null) :: x92_82
theorem ox92_80 : sx_oks 92 x92_80 := ⟨Or.inl ⟨(sx_dd bb_92 dX7_lay_80), rfl⟩, ox92_82⟩
def x92_78 : List sx_E := (.istore 5, 78, 80, [], .null) :: x92_80
theorem ox92_78 : sx_oks 92 x92_78 := ⟨⟨sx_lt mm_92 (Nat.le_of_ble_eq_true rfl), Or.inl ⟨(sx_dd bb_92 dX7_lay_78), rfl⟩⟩, ox92_80⟩
def x92_75 : List sx_E := (.getfield 270, 75, 78, [4, 0, 0], .null) :: x92_78
theorem ox92_75 : sx_oks 92 x92_75 := ⟨sx_q_get (w := (RX5, TX5, 5)) (sx_dd bb_92 dX7_lay_75) rfl rfl (Nat.le_of_ble_eq_true rfl) cu_4 (sx_ow3 oo_92 fl_StrawGarrison_270) (by decide +kernel), ox92_78⟩
def x92_73 : List sx_E := (.aload 4, 73, 75, [], .null) :: x92_75
theorem ox92_73 : sx_oks 92 x92_73 := ⟨Or.inl ⟨(sx_dd bb_92 dX7_lay_73), rfl⟩, ox92_75⟩
def x92_71 : List sx_E := (.astore 4, 71, 73, [], .null) :: x92_73
theorem ox92_71 : sx_oks 92 x92_71 := ⟨⟨sx_lt mm_92 (Nat.le_of_ble_eq_true rfl), Or.inl ⟨(sx_dd bb_92 dX7_lay_71), rfl⟩⟩, ox92_73⟩
def x92_70 : List sx_E := (.aaload, 70, 71, [], .null) :: x92_71
theorem ox92_70 : sx_oks 92 x92_70 := ⟨⟨(sx_dd bb_92 dX7_lay_70), rfl⟩, ox92_71⟩
def x92_69 : List sx_E := (.iload 1, 69, 70, [], .null) :: x92_70
theorem ox92_69 : sx_oks 92 x92_69 := ⟨Or.inr ⟨_, (sx_dd bb_92 dX7_lay_69), rfl, rfl⟩, ox92_70⟩
def x92_66 : List sx_E := (.getfield 49, 66, 69, [6, 9, 1], .null) :: x92_69
theorem ox92_66 : sx_oks 92 x92_66 := ⟨sx_q_get (w := (RX7, TX7, 12)) (sx_dd bb_92 dX7_lay_66) rfl rfl (Nat.le_of_ble_eq_true rfl) cu_6 (sx_ow3 oo_92 fl_StrawGarrison_49) (by decide +kernel), ox92_69⟩
def x92_65 : List sx_E := (.aload 0, 65, 66, [], .null) :: x92_66
theorem ox92_65 : sx_oks 92 x92_65 := ⟨Or.inr ⟨_, (sx_dd bb_92 dX7_lay_65), rfl, rfl⟩, ox92_66⟩
def x92_65h : List sx_E := (.monitorenter, 65, 65, [0, 1, 2, 3], .null) :: x92_65
theorem ox92_65h : sx_oks 92 x92_65h := ⟨trivial, ox92_65⟩
def x92_64 : List sx_E := (.ireturn, 64, 65, [0], .null) :: x92_65h
theorem ox92_64 : sx_oks 92 x92_64 := ⟨sx_q_iret0 (sx_dd bb_92 dX7_lay_64) rr_92, ox92_65h⟩
def x92_62 : List sx_E := (.nop, 62, 64, [], .int ((-1000000011))) :: x92_64
theorem ox92_62 : sx_oks 92 x92_62 := ⟨sx_k_ldc (sx_dd bb_92 dX7_lay_62) (sx_ow1 oo_92 kc_StrawGarrison_194), ox92_64⟩
def x92_59 : List sx_E := (.if_icmp .ne (6), 59, 62, [65], .null) :: x92_62
theorem ox92_59 : sx_oks 92 x92_59 := ⟨⟨(sx_dd bb_92 dX7_lay_59), rfl, sx_t1 (by decide +kernel)⟩, ox92_62⟩
def x92_58 : List sx_E := (.nop, 58, 59, [], .int ((-1))) :: x92_59
theorem ox92_58 : sx_oks 92 x92_58 := ⟨sx_k_iconst (sx_dd bb_92 dX7_lay_58) (by decide +kernel), ox92_59⟩
def x92_55 : List sx_E := (.getfield 191, 55, 58, [3, 0, 0], .null) :: x92_58
theorem ox92_55 : sx_oks 92 x92_55 := ⟨sx_q_get (w := (RX4, TX4, 3)) (sx_dd bb_92 dX7_lay_55) rfl rfl (Nat.le_of_ble_eq_true rfl) cu_3 (sx_ow3 oo_92 fl_StrawGarrison_191) (by decide +kernel), ox92_58⟩
def x92_54 : List sx_E := (.aaload, 54, 55, [], .null) :: x92_55
theorem ox92_54 : sx_oks 92 x92_54 := ⟨⟨(sx_dd bb_92 dX7_lay_54), rfl⟩, ox92_55⟩
def x92_53 : List sx_E := (.iload 3, 53, 54, [], .null) :: x92_54
theorem ox92_53 : sx_oks 92 x92_53 := ⟨Or.inr ⟨_, (sx_dd bb_92 dX7_lay_53), rfl, rfl⟩, ox92_54⟩
def x92_50 : List sx_E := (.getfield 43, 50, 53, [6, 8, 1], .null) :: x92_53
theorem ox92_50 : sx_oks 92 x92_50 := ⟨sx_q_get (w := (RX7, TX7, 12)) (sx_dd bb_92 dX7_lay_50) rfl rfl (Nat.le_of_ble_eq_true rfl) cu_6 (sx_ow3 oo_92 fl_StrawGarrison_43) (by decide +kernel), ox92_53⟩
def x92_49 : List sx_E := (.aload 0, 49, 50, [], .null) :: x92_50
theorem ox92_49 : sx_oks 92 x92_49 := ⟨Or.inr ⟨_, (sx_dd bb_92 dX7_lay_49), rfl, rfl⟩, ox92_50⟩
def x92_46 : List sx_E := (.if_icmp .ne (19), 46, 49, [65], .null) :: x92_49
theorem ox92_46 : sx_oks 92 x92_46 := ⟨⟨(sx_dd bb_92 dX7_lay_46), rfl, sx_t1 (by decide +kernel)⟩, ox92_49⟩
def x92_45 : List sx_E := (.nop, 45, 46, [], .int (nI 2)) :: x92_46
theorem ox92_45 : sx_oks 92 x92_45 := ⟨sx_k_iconst (sx_dd bb_92 dX7_lay_45) (by decide +kernel), ox92_46⟩
def x92_44 : List sx_E := (.iload 2, 44, 45, [], .null) :: x92_45
theorem ox92_44 : sx_oks 92 x92_44 := ⟨Or.inr ⟨_, (sx_dd bb_92 dX7_lay_44), rfl, rfl⟩, ox92_45⟩
def x92_44h : List sx_E := (.monitorenter, 44, 44, [0, 1, 2, 3], .null) :: x92_44
theorem ox92_44h : sx_oks 92 x92_44h := ⟨trivial, ox92_44⟩
def x92_43 : List sx_E := (.ireturn, 43, 44, [0], .null) :: x92_44h
theorem ox92_43 : sx_oks 92 x92_43 := ⟨sx_q_iret0 (sx_dd bb_92 dX7_lay_43) rr_92, ox92_44h⟩
def x92_41 : List sx_E := (.nop, 41, 43, [], .int ((-1000000001))) :: x92_43
theorem ox92_41 : sx_oks 92 x92_41 := ⟨sx_k_ldc (sx_dd bb_92 dX7_lay_41) (sx_ow1 oo_92 kc_StrawGarrison_76), ox92_43⟩
def x92_38 : List sx_E := (.ifCond .ne (6), 38, 41, [44], .null) :: x92_41
theorem ox92_38 : sx_oks 92 x92_38 := ⟨⟨(sx_dd bb_92 dX7_lay_38), rfl, sx_t1 (by decide +kernel)⟩, ox92_41⟩
def x92_35 : List sx_E := (.invokestatic 188, 35, 38, [104, 1, 0, 0], .null) :: x92_38
theorem ox92_35 : sx_oks 92 x92_35 := ⟨sx_q_S (sx_dd bb_92 dX7_lay_35) oo_92 lk_StrawGarrison_188_S ft_104_h, ox92_38⟩
def x92_34 : List sx_E := (.iload 3, 34, 35, [], .null) :: x92_35
theorem ox92_34 : sx_oks 92 x92_34 := ⟨Or.inr ⟨_, (sx_dd bb_92 dX7_lay_34), rfl, rfl⟩, ox92_35⟩
def x92_31 : List sx_E := (.if_icmp .ne (13), 31, 34, [44], .null) :: x92_34
theorem ox92_31 : sx_oks 92 x92_31 := ⟨⟨(sx_dd bb_92 dX7_lay_31), rfl, sx_t1 (by decide +kernel)⟩, ox92_34⟩
def x92_30 : List sx_E := (.nop, 30, 31, [], .int (nI 2)) :: x92_31
theorem ox92_30 : sx_oks 92 x92_30 := ⟨sx_k_iconst (sx_dd bb_92 dX7_lay_30) (by decide +kernel), ox92_31⟩
def x92_29 : List sx_E := (.iload 2, 29, 30, [], .null) :: x92_30
theorem ox92_29 : sx_oks 92 x92_29 := ⟨Or.inr ⟨_, (sx_dd bb_92 dX7_lay_29), rfl, rfl⟩, ox92_30⟩
def x92_29h : List sx_E := (.monitorenter, 29, 29, [0, 1, 2, 3], .null) :: x92_29
theorem ox92_29h : sx_oks 92 x92_29h := ⟨trivial, ox92_29⟩
def x92_26 : List sx_E := (.ifCond .eq (15), 26, 29, [41], .null) :: x92_29h
theorem ox92_26 : sx_oks 92 x92_26 := ⟨⟨(sx_dd bb_92 dX7_lay_26), rfl, sx_t1 (by decide +kernel)⟩, ox92_29h⟩
def x92_23 : List sx_E := (.invokevirtual 91, 23, 26, [101, 2, 0, 0, 6], .null) :: x92_26
theorem ox92_23 : sx_oks 92 x92_23 := ⟨sx_q_V (w := (RX7, TX7, 12)) (sx_dd bb_92 dX7_lay_23) oo_92 lk_StrawGarrison_91_V ft_101_h (Nat.le_of_ble_eq_true rfl) rfl rfl, ox92_26⟩
def x92_22 : List sx_E := (.iload 3, 22, 23, [], .null) :: x92_23
theorem ox92_22 : sx_oks 92 x92_22 := ⟨Or.inr ⟨_, (sx_dd bb_92 dX7_lay_22), rfl, rfl⟩, ox92_23⟩
def x92_21 : List sx_E := (.aload 0, 21, 22, [], .null) :: x92_22
theorem ox92_21 : sx_oks 92 x92_21 := ⟨Or.inr ⟨_, (sx_dd bb_92 dX7_lay_21), rfl, rfl⟩, ox92_22⟩
def x92_18 : List sx_E := (.if_icmp .ne (11), 18, 21, [29], .null) :: x92_21
theorem ox92_18 : sx_oks 92 x92_18 := ⟨⟨(sx_dd bb_92 dX7_lay_18), rfl, sx_t1 (by decide +kernel)⟩, ox92_21⟩
def x92_17 : List sx_E := (.nop, 17, 18, [], .int (nI 1)) :: x92_18
theorem ox92_17 : sx_oks 92 x92_17 := ⟨sx_k_iconst (sx_dd bb_92 dX7_lay_17) (by decide +kernel), ox92_18⟩
def x92_16 : List sx_E := (.iload 2, 16, 17, [], .null) :: x92_17
theorem ox92_16 : sx_oks 92 x92_16 := ⟨Or.inr ⟨_, (sx_dd bb_92 dX7_lay_16), rfl, rfl⟩, ox92_17⟩
def x92_13 : List sx_E := (.ifCond .eq (28), 13, 16, [41], .null) :: x92_16
theorem ox92_13 : sx_oks 92 x92_13 := ⟨⟨(sx_dd bb_92 dX7_lay_13), rfl, sx_t1 (by decide +kernel)⟩, ox92_16⟩
def x92_10 : List sx_E := (.invokestatic 72, 10, 13, [106, 3, 0, 0], .null) :: x92_13
theorem ox92_10 : sx_oks 92 x92_10 := ⟨sx_q_S (sx_dd bb_92 dX7_lay_10) oo_92 lk_StrawGarrison_72_S ft_106_h, ox92_13⟩
def x92_9 : List sx_E := (.nop, 9, 10, [], .int (nI 3)) :: x92_10
theorem ox92_9 : sx_oks 92 x92_9 := ⟨sx_k_iconst (sx_dd bb_92 dX7_lay_9) (by decide +kernel), ox92_10⟩
def x92_8 : List sx_E := (.nop, 8, 9, [], .int (nI 0)) :: x92_9
theorem ox92_8 : sx_oks 92 x92_8 := ⟨sx_k_iconst (sx_dd bb_92 dX7_lay_8) (by decide +kernel), ox92_9⟩
def x92_7 : List sx_E := (.iload 2, 7, 8, [], .null) :: x92_8
theorem ox92_7 : sx_oks 92 x92_7 := ⟨Or.inr ⟨_, (sx_dd bb_92 dX7_lay_7), rfl, rfl⟩, ox92_8⟩
def x92_4 : List sx_E := (.ifCond .eq (37), 4, 7, [41], .null) :: x92_7
theorem ox92_4 : sx_oks 92 x92_4 := ⟨⟨(sx_dd bb_92 dX7_lay_4), rfl, sx_t1 (by decide +kernel)⟩, ox92_7⟩
def x92_1 : List sx_E := (.invokestatic 267, 1, 4, [105, 1, 0, 0], .null) :: x92_4
theorem ox92_1 : sx_oks 92 x92_1 := ⟨sx_q_S (sx_dd bb_92 dX7_lay_1) oo_92 lk_StrawGarrison_267_S ft_105_h, ox92_4⟩
def x92_0 : List sx_E := (.iload 1, 0, 1, [], .null) :: x92_1
theorem ox92_0 : sx_oks 92 x92_0 := ⟨Or.inr ⟨_, (sx_dd bb_92 dX7_lay_0), rfl, rfl⟩, ox92_1⟩
theorem m92 : sx_mok 92 x92_0 := ⟨ox92_0, by decide +kernel⟩
theorem bb_93 : sx_by 93 = cX7_ask := rfl
theorem oo_93 : (sx_nm 93).cls = "StrawGarrison" := rfl
theorem mm_93 : sx_ml 93 = 4 := rfl
theorem rr_93 : sx_rt 93 = (some .int) := rfl
def x93_67 : List sx_E := (.ireturn, 67, 68, [0], .null) :: []
theorem ox93_67 : sx_oks 93 x93_67 := ⟨sx_q_iret0 (sx_dd bb_93 dX7_ask_67) rr_93, trivial⟩
def x93_64 : List sx_E := (.invokestatic 121, 64, 67, [30, 2, 0, 0], .null) :: x93_67
theorem ox93_64 : sx_oks 93 x93_64 := ⟨sx_q_S (sx_dd bb_93 dX7_ask_64) oo_93 lk_StrawGarrison_121_S ft_30_h, ox93_67⟩
def x93_61 : List sx_E := (.getfield 275, 61, 64, [4, 2, 0], .null) :: x93_64
theorem ox93_61 : sx_oks 93 x93_61 := ⟨sx_q_get (w := (RX5, TX5, 5)) (sx_dd bb_93 dX7_ask_61) rfl rfl (Nat.le_of_ble_eq_true rfl) cu_4 (sx_ow3 oo_93 fl_StrawGarrison_275) (by decide +kernel), ox93_64⟩
def x93_60 : List sx_E := (.aload 3, 60, 61, [], .null) :: x93_61
theorem ox93_60 : sx_oks 93 x93_60 := ⟨Or.inr ⟨_, (sx_dd bb_93 dX7_ask_60), rfl, rfl⟩, ox93_61⟩
def x93_57 : List sx_E := (.getfield 273, 57, 60, [4, 1, 0], .null) :: x93_60
theorem ox93_57 : sx_oks 93 x93_57 := ⟨sx_q_get (w := (RX5, TX5, 5)) (sx_dd bb_93 dX7_ask_57) rfl rfl (Nat.le_of_ble_eq_true rfl) cu_4 (sx_ow3 oo_93 fl_StrawGarrison_273) (by decide +kernel), ox93_60⟩
def x93_56 : List sx_E := (.aload 3, 56, 57, [], .null) :: x93_57
theorem ox93_56 : sx_oks 93 x93_56 := ⟨Or.inr ⟨_, (sx_dd bb_93 dX7_ask_56), rfl, rfl⟩, ox93_57⟩
def x93_55 : List sx_E := (.ireturn, 55, 56, [0], .null) :: x93_56
theorem ox93_55 : sx_oks 93 x93_55 := ⟨sx_q_iret0 (sx_dd bb_93 dX7_ask_55) rr_93, ox93_56⟩
def x93_53 : List sx_E := (.nop, 53, 55, [], .int ((-1000000012))) :: x93_55
theorem ox93_53 : sx_oks 93 x93_53 := ⟨sx_k_ldc (sx_dd bb_93 dX7_ask_53) (sx_ow1 oo_93 kc_StrawGarrison_128), ox93_55⟩
def x93_50 : List sx_E := (.ifCond .ne (6), 50, 53, [56], .null) :: x93_53
theorem ox93_50 : sx_oks 93 x93_50 := ⟨⟨(sx_dd bb_93 dX7_ask_50), rfl, sx_t1 (by decide +kernel)⟩, ox93_53⟩
def x93_47 : List sx_E := (.invokestatic 124, 47, 50, [25, 2, 0, 0], .null) :: x93_50
theorem ox93_47 : sx_oks 93 x93_47 := ⟨sx_q_S (sx_dd bb_93 dX7_ask_47) oo_93 lk_StrawGarrison_124_S ft_25_h, ox93_50⟩
def x93_46 : List sx_E := (.iload 2, 46, 47, [], .null) :: x93_47
theorem ox93_46 : sx_oks 93 x93_46 := ⟨Or.inr ⟨_, (sx_dd bb_93 dX7_ask_46), rfl, rfl⟩, ox93_47⟩
def x93_43 : List sx_E := (.getfield 273, 43, 46, [4, 1, 0], .null) :: x93_46
theorem ox93_43 : sx_oks 93 x93_43 := ⟨sx_q_get (w := (RX5, TX5, 5)) (sx_dd bb_93 dX7_ask_43) rfl rfl (Nat.le_of_ble_eq_true rfl) cu_4 (sx_ow3 oo_93 fl_StrawGarrison_273) (by decide +kernel), ox93_46⟩
def x93_42 : List sx_E := (.aload 3, 42, 43, [], .null) :: x93_43
theorem ox93_42 : sx_oks 93 x93_42 := ⟨Or.inr ⟨_, (sx_dd bb_93 dX7_ask_42), rfl, rfl⟩, ox93_43⟩
def x93_39 : List sx_E := (.if_icmp .ne (14), 39, 42, [53], .null) :: x93_42
theorem ox93_39 : sx_oks 93 x93_39 := ⟨⟨(sx_dd bb_93 dX7_ask_39), rfl, sx_t1 (by decide +kernel)⟩, ox93_42⟩
def x93_38 : List sx_E := (.nop, 38, 39, [], .int (nI 1)) :: x93_39
theorem ox93_38 : sx_oks 93 x93_38 := ⟨sx_k_iconst (sx_dd bb_93 dX7_ask_38) (by decide +kernel), ox93_39⟩
def x93_35 : List sx_E := (.getfield 270, 35, 38, [4, 0, 0], .null) :: x93_38
theorem ox93_35 : sx_oks 93 x93_35 := ⟨sx_q_get (w := (RX5, TX5, 5)) (sx_dd bb_93 dX7_ask_35) rfl rfl (Nat.le_of_ble_eq_true rfl) cu_4 (sx_ow3 oo_93 fl_StrawGarrison_270) (by decide +kernel), ox93_38⟩
def x93_34 : List sx_E := (.aload 3, 34, 35, [], .null) :: x93_35
theorem ox93_34 : sx_oks 93 x93_34 := ⟨Or.inr ⟨_, (sx_dd bb_93 dX7_ask_34), rfl, rfl⟩, ox93_35⟩
def x93_33 : List sx_E := (.ireturn, 33, 34, [0], .null) :: x93_34
theorem ox93_33 : sx_oks 93 x93_33 := ⟨sx_q_iret0 (sx_dd bb_93 dX7_ask_33) rr_93, ox93_34⟩
def x93_31 : List sx_E := (.nop, 31, 33, [], .int ((-1000000011))) :: x93_33
theorem ox93_31 : sx_oks 93 x93_31 := ⟨sx_k_ldc (sx_dd bb_93 dX7_ask_31) (sx_ow1 oo_93 kc_StrawGarrison_194), ox93_33⟩
def x93_28 : List sx_E := (.ifCond .ne (6), 28, 31, [34], .null) :: x93_31
theorem ox93_28 : sx_oks 93 x93_28 := ⟨⟨(sx_dd bb_93 dX7_ask_28), rfl, sx_t1 (by decide +kernel)⟩, ox93_31⟩
def x93_25 : List sx_E := (.getfield 270, 25, 28, [4, 0, 0], .null) :: x93_28
theorem ox93_25 : sx_oks 93 x93_25 := ⟨sx_q_get (w := (RX5, TX5, 5)) (sx_dd bb_93 dX7_ask_25) rfl rfl (Nat.le_of_ble_eq_true rfl) cu_4 (sx_ow3 oo_93 fl_StrawGarrison_270) (by decide +kernel), ox93_28⟩
def x93_24 : List sx_E := (.aload 3, 24, 25, [], .null) :: x93_25
theorem ox93_24 : sx_oks 93 x93_24 := ⟨Or.inr ⟨_, (sx_dd bb_93 dX7_ask_24), rfl, rfl⟩, ox93_25⟩
def x93_23 : List sx_E := (.astore 3, 23, 24, [], .null) :: x93_24
theorem ox93_23 : sx_oks 93 x93_23 := ⟨⟨sx_lt mm_93 (Nat.le_of_ble_eq_true rfl), Or.inr ⟨_, (sx_dd bb_93 dX7_ask_23), rfl, rfl⟩⟩, ox93_24⟩
def x93_22 : List sx_E := (.aaload, 22, 23, [], .null) :: x93_23
theorem ox93_22 : sx_oks 93 x93_22 := ⟨⟨(sx_dd bb_93 dX7_ask_22), rfl⟩, ox93_23⟩
def x93_21 : List sx_E := (.iload 1, 21, 22, [], .null) :: x93_22
theorem ox93_21 : sx_oks 93 x93_21 := ⟨Or.inr ⟨_, (sx_dd bb_93 dX7_ask_21), rfl, rfl⟩, ox93_22⟩
def x93_18 : List sx_E := (.getfield 49, 18, 21, [6, 9, 1], .null) :: x93_21
theorem ox93_18 : sx_oks 93 x93_18 := ⟨sx_q_get (w := (RX7, TX7, 12)) (sx_dd bb_93 dX7_ask_18) rfl rfl (Nat.le_of_ble_eq_true rfl) cu_6 (sx_ow3 oo_93 fl_StrawGarrison_49) (by decide +kernel), ox93_21⟩
def x93_17 : List sx_E := (.aload 0, 17, 18, [], .null) :: x93_18
theorem ox93_17 : sx_oks 93 x93_17 := ⟨Or.inr ⟨_, (sx_dd bb_93 dX7_ask_17), rfl, rfl⟩, ox93_18⟩
def x93_16 : List sx_E := (.ireturn, 16, 17, [0], .null) :: x93_17
theorem ox93_16 : sx_oks 93 x93_16 := ⟨sx_q_iret0 (sx_dd bb_93 dX7_ask_16) rr_93, ox93_17⟩
def x93_14 : List sx_E := (.nop, 14, 16, [], .int ((-1000000001))) :: x93_16
theorem ox93_14 : sx_oks 93 x93_14 := ⟨sx_k_ldc (sx_dd bb_93 dX7_ask_14) (sx_ow1 oo_93 kc_StrawGarrison_76), ox93_16⟩
def x93_11 : List sx_E := (.ifCond .ne (6), 11, 14, [17], .null) :: x93_14
theorem ox93_11 : sx_oks 93 x93_11 := ⟨⟨(sx_dd bb_93 dX7_ask_11), rfl, sx_t1 (by decide +kernel)⟩, ox93_14⟩
def x93_8 : List sx_E := (.invokestatic 65, 8, 11, [102, 1, 0, 0], .null) :: x93_11
theorem ox93_8 : sx_oks 93 x93_8 := ⟨sx_q_S (sx_dd bb_93 dX7_ask_8) oo_93 lk_StrawGarrison_65_S ft_102_h, ox93_11⟩
def x93_7 : List sx_E := (.iload 2, 7, 8, [], .null) :: x93_8
theorem ox93_7 : sx_oks 93 x93_7 := ⟨Or.inr ⟨_, (sx_dd bb_93 dX7_ask_7), rfl, rfl⟩, ox93_8⟩
def x93_4 : List sx_E := (.ifCond .eq (10), 4, 7, [14], .null) :: x93_7
theorem ox93_4 : sx_oks 93 x93_4 := ⟨⟨(sx_dd bb_93 dX7_ask_4), rfl, sx_t1 (by decide +kernel)⟩, ox93_7⟩
def x93_1 : List sx_E := (.invokestatic 267, 1, 4, [105, 1, 0, 0], .null) :: x93_4
theorem ox93_1 : sx_oks 93 x93_1 := ⟨sx_q_S (sx_dd bb_93 dX7_ask_1) oo_93 lk_StrawGarrison_267_S ft_105_h, ox93_4⟩
def x93_0 : List sx_E := (.iload 1, 0, 1, [], .null) :: x93_1
theorem ox93_0 : sx_oks 93 x93_0 := ⟨Or.inr ⟨_, (sx_dd bb_93 dX7_ask_0), rfl, rfl⟩, ox93_1⟩
theorem m93 : sx_mok 93 x93_0 := ⟨ox93_0, by decide +kernel⟩
theorem bb_94 : sx_by 94 = cX7_item := rfl
theorem oo_94 : (sx_nm 94).cls = "StrawGarrison" := rfl
theorem mm_94 : sx_ml 94 = 4 := rfl
theorem rr_94 : sx_rt 94 = (some .int) := rfl
def x94_87 : List sx_E := (.ireturn, 87, 88, [0], .null) :: []
theorem ox94_87 : sx_oks 94 x94_87 := ⟨sx_q_iret0 (sx_dd bb_94 dX7_item_87) rr_94, trivial⟩
def x94_85 : List sx_E := (.nop, 85, 87, [], .int ((-1000000012))) :: x94_87
theorem ox94_85 : sx_oks 94 x94_85 := ⟨sx_k_ldc (sx_dd bb_94 dX7_item_85) (sx_ow1 oo_94 kc_StrawGarrison_128), ox94_87⟩
def x94_82 : List sx_E := (.goto (5), 82, 85, [87], .null) :: x94_85
theorem ox94_82 : sx_oks 94 x94_82 := ⟨⟨(sx_dd bb_94 dX7_item_82), sx_t1 (by decide +kernel)⟩, ox94_85⟩
def x94_81 : List sx_E := (.iaload, 81, 82, [], .null) :: x94_82
theorem ox94_81 : sx_oks 94 x94_81 := ⟨⟨(sx_dd bb_94 dX7_item_81), rfl⟩, ox94_82⟩
def x94_80 : List sx_E := (.iload 2, 80, 81, [], .null) :: x94_81
theorem ox94_80 : sx_oks 94 x94_80 := ⟨Or.inr ⟨_, (sx_dd bb_94 dX7_item_80), rfl, rfl⟩, ox94_81⟩
def x94_77 : List sx_E := (.getfield 247, 77, 80, [3, 2, 1], .null) :: x94_80
theorem ox94_77 : sx_oks 94 x94_77 := ⟨sx_q_get (w := (RX4, TX4, 3)) (sx_dd bb_94 dX7_item_77) rfl rfl (Nat.le_of_ble_eq_true rfl) cu_3 (sx_ow3 oo_94 fl_StrawGarrison_247) (by decide +kernel), ox94_80⟩
def x94_76 : List sx_E := (.aload 3, 76, 77, [], .null) :: x94_77
theorem ox94_76 : sx_oks 94 x94_76 := ⟨Or.inr ⟨_, (sx_dd bb_94 dX7_item_76), rfl, rfl⟩, ox94_77⟩
def x94_73 : List sx_E := (.ifCond .eq (12), 73, 76, [85], .null) :: x94_76
theorem ox94_73 : sx_oks 94 x94_73 := ⟨⟨(sx_dd bb_94 dX7_item_73), rfl, sx_t1 (by decide +kernel)⟩, ox94_76⟩
def x94_70 : List sx_E := (.invokevirtual 252, 70, 73, [54, 2, 0, 0, 3], .null) :: x94_73
theorem ox94_70 : sx_oks 94 x94_70 := ⟨sx_q_V (w := (RX4, TX4, 3)) (sx_dd bb_94 dX7_item_70) oo_94 lk_StrawGarrison_252_V ft_54_h (Nat.le_of_ble_eq_true rfl) rfl rfl, ox94_73⟩
def x94_69 : List sx_E := (.iload 2, 69, 70, [], .null) :: x94_70
theorem ox94_69 : sx_oks 94 x94_69 := ⟨Or.inr ⟨_, (sx_dd bb_94 dX7_item_69), rfl, rfl⟩, ox94_70⟩
def x94_68 : List sx_E := (.aload 3, 68, 69, [], .null) :: x94_69
theorem ox94_68 : sx_oks 94 x94_68 := ⟨Or.inr ⟨_, (sx_dd bb_94 dX7_item_68), rfl, rfl⟩, ox94_69⟩
def x94_67 : List sx_E := (.ireturn, 67, 68, [0], .null) :: x94_68
theorem ox94_67 : sx_oks 94 x94_67 := ⟨sx_q_iret0 (sx_dd bb_94 dX7_item_67) rr_94, ox94_68⟩
def x94_65 : List sx_E := (.nop, 65, 67, [], .int ((-1000000013))) :: x94_67
theorem ox94_65 : sx_oks 94 x94_65 := ⟨sx_k_ldc (sx_dd bb_94 dX7_item_65) (sx_ow1 oo_94 kc_StrawGarrison_246), ox94_67⟩
def x94_62 : List sx_E := (.ifCond .ne (6), 62, 65, [68], .null) :: x94_65
theorem ox94_62 : sx_oks 94 x94_62 := ⟨⟨(sx_dd bb_94 dX7_item_62), rfl, sx_t1 (by decide +kernel)⟩, ox94_65⟩
def x94_59 : List sx_E := (.invokestatic 72, 59, 62, [106, 3, 0, 0], .null) :: x94_62
theorem ox94_59 : sx_oks 94 x94_59 := ⟨sx_q_S (sx_dd bb_94 dX7_item_59) oo_94 lk_StrawGarrison_72_S ft_106_h, ox94_62⟩
def x94_58 : List sx_E := (.isub, 58, 59, [], .null) :: x94_59
theorem ox94_58 : sx_oks 94 x94_58 := ⟨⟨(sx_dd bb_94 dX7_item_58), rfl⟩, ox94_59⟩
def x94_57 : List sx_E := (.nop, 57, 58, [], .int (nI 1)) :: x94_58
theorem ox94_57 : sx_oks 94 x94_57 := ⟨sx_k_iconst (sx_dd bb_94 dX7_item_57) (by decide +kernel), ox94_58⟩
def x94_54 : List sx_E := (.getfield 243, 54, 57, [3, 1, 0], .null) :: x94_57
theorem ox94_54 : sx_oks 94 x94_54 := ⟨sx_q_get (w := (RX4, TX4, 3)) (sx_dd bb_94 dX7_item_54) rfl rfl (Nat.le_of_ble_eq_true rfl) cu_3 (sx_ow3 oo_94 fl_StrawGarrison_243) (by decide +kernel), ox94_57⟩
def x94_53 : List sx_E := (.aload 3, 53, 54, [], .null) :: x94_54
theorem ox94_53 : sx_oks 94 x94_53 := ⟨Or.inr ⟨_, (sx_dd bb_94 dX7_item_53), rfl, rfl⟩, ox94_54⟩
def x94_52 : List sx_E := (.nop, 52, 53, [], .int (nI 0)) :: x94_53
theorem ox94_52 : sx_oks 94 x94_52 := ⟨sx_k_iconst (sx_dd bb_94 dX7_item_52) (by decide +kernel), ox94_53⟩
def x94_51 : List sx_E := (.iload 2, 51, 52, [], .null) :: x94_52
theorem ox94_51 : sx_oks 94 x94_51 := ⟨Or.inr ⟨_, (sx_dd bb_94 dX7_item_51), rfl, rfl⟩, ox94_52⟩
def x94_50 : List sx_E := (.astore 3, 50, 51, [], .null) :: x94_51
theorem ox94_50 : sx_oks 94 x94_50 := ⟨⟨sx_lt mm_94 (Nat.le_of_ble_eq_true rfl), Or.inr ⟨_, (sx_dd bb_94 dX7_item_50), rfl, rfl⟩⟩, ox94_51⟩
def x94_47 : List sx_E := (.getfield 277, 47, 50, [4, 4, 1], .null) :: x94_50
theorem ox94_47 : sx_oks 94 x94_47 := ⟨sx_q_get (w := (RX5, TX5, 5)) (sx_dd bb_94 dX7_item_47) rfl rfl (Nat.le_of_ble_eq_true rfl) cu_4 (sx_ow3 oo_94 fl_StrawGarrison_277) (by decide +kernel), ox94_50⟩
def x94_46 : List sx_E := (.aaload, 46, 47, [], .null) :: x94_47
theorem ox94_46 : sx_oks 94 x94_46 := ⟨⟨(sx_dd bb_94 dX7_item_46), rfl⟩, ox94_47⟩
def x94_45 : List sx_E := (.iload 1, 45, 46, [], .null) :: x94_46
theorem ox94_45 : sx_oks 94 x94_45 := ⟨Or.inr ⟨_, (sx_dd bb_94 dX7_item_45), rfl, rfl⟩, ox94_46⟩
def x94_42 : List sx_E := (.getfield 49, 42, 45, [6, 9, 1], .null) :: x94_45
theorem ox94_42 : sx_oks 94 x94_42 := ⟨sx_q_get (w := (RX7, TX7, 12)) (sx_dd bb_94 dX7_item_42) rfl rfl (Nat.le_of_ble_eq_true rfl) cu_6 (sx_ow3 oo_94 fl_StrawGarrison_49) (by decide +kernel), ox94_45⟩
def x94_41 : List sx_E := (.aload 0, 41, 42, [], .null) :: x94_42
theorem ox94_41 : sx_oks 94 x94_41 := ⟨Or.inr ⟨_, (sx_dd bb_94 dX7_item_41), rfl, rfl⟩, ox94_42⟩
def x94_40 : List sx_E := (.ireturn, 40, 41, [0], .null) :: x94_41
theorem ox94_40 : sx_oks 94 x94_40 := ⟨sx_q_iret0 (sx_dd bb_94 dX7_item_40) rr_94, ox94_41⟩
def x94_38 : List sx_E := (.nop, 38, 40, [], .int ((-1000000012))) :: x94_40
theorem ox94_38 : sx_oks 94 x94_38 := ⟨sx_k_ldc (sx_dd bb_94 dX7_item_38) (sx_ow1 oo_94 kc_StrawGarrison_128), ox94_40⟩
def x94_35 : List sx_E := (.if_icmp .eq (6), 35, 38, [41], .null) :: x94_38
theorem ox94_35 : sx_oks 94 x94_35 := ⟨⟨(sx_dd bb_94 dX7_item_35), rfl, sx_t1 (by decide +kernel)⟩, ox94_38⟩
def x94_34 : List sx_E := (.nop, 34, 35, [], .int (nI 2)) :: x94_35
theorem ox94_34 : sx_oks 94 x94_34 := ⟨sx_k_iconst (sx_dd bb_94 dX7_item_34) (by decide +kernel), ox94_35⟩
def x94_31 : List sx_E := (.getfield 270, 31, 34, [4, 0, 0], .null) :: x94_34
theorem ox94_31 : sx_oks 94 x94_31 := ⟨sx_q_get (w := (RX5, TX5, 5)) (sx_dd bb_94 dX7_item_31) rfl rfl (Nat.le_of_ble_eq_true rfl) cu_4 (sx_ow3 oo_94 fl_StrawGarrison_270) (by decide +kernel), ox94_34⟩
def x94_30 : List sx_E := (.aaload, 30, 31, [], .null) :: x94_31
theorem ox94_30 : sx_oks 94 x94_30 := ⟨⟨(sx_dd bb_94 dX7_item_30), rfl⟩, ox94_31⟩
def x94_29 : List sx_E := (.iload 1, 29, 30, [], .null) :: x94_30
theorem ox94_29 : sx_oks 94 x94_29 := ⟨Or.inr ⟨_, (sx_dd bb_94 dX7_item_29), rfl, rfl⟩, ox94_30⟩
def x94_26 : List sx_E := (.getfield 49, 26, 29, [6, 9, 1], .null) :: x94_29
theorem ox94_26 : sx_oks 94 x94_26 := ⟨sx_q_get (w := (RX7, TX7, 12)) (sx_dd bb_94 dX7_item_26) rfl rfl (Nat.le_of_ble_eq_true rfl) cu_6 (sx_ow3 oo_94 fl_StrawGarrison_49) (by decide +kernel), ox94_29⟩
def x94_25 : List sx_E := (.aload 0, 25, 26, [], .null) :: x94_26
theorem ox94_25 : sx_oks 94 x94_25 := ⟨Or.inr ⟨_, (sx_dd bb_94 dX7_item_25), rfl, rfl⟩, ox94_26⟩
def x94_24 : List sx_E := (.ireturn, 24, 25, [0], .null) :: x94_25
theorem ox94_24 : sx_oks 94 x94_24 := ⟨sx_q_iret0 (sx_dd bb_94 dX7_item_24) rr_94, ox94_25⟩
def x94_22 : List sx_E := (.nop, 22, 24, [], .int ((-1000000011))) :: x94_24
theorem ox94_22 : sx_oks 94 x94_22 := ⟨sx_k_ldc (sx_dd bb_94 dX7_item_22) (sx_ow1 oo_94 kc_StrawGarrison_194), ox94_24⟩
def x94_19 : List sx_E := (.ifCond .ne (6), 19, 22, [25], .null) :: x94_22
theorem ox94_19 : sx_oks 94 x94_19 := ⟨⟨(sx_dd bb_94 dX7_item_19), rfl, sx_t1 (by decide +kernel)⟩, ox94_22⟩
def x94_16 : List sx_E := (.getfield 270, 16, 19, [4, 0, 0], .null) :: x94_19
theorem ox94_16 : sx_oks 94 x94_16 := ⟨sx_q_get (w := (RX5, TX5, 5)) (sx_dd bb_94 dX7_item_16) rfl rfl (Nat.le_of_ble_eq_true rfl) cu_4 (sx_ow3 oo_94 fl_StrawGarrison_270) (by decide +kernel), ox94_19⟩
def x94_15 : List sx_E := (.aaload, 15, 16, [], .null) :: x94_16
theorem ox94_15 : sx_oks 94 x94_15 := ⟨⟨(sx_dd bb_94 dX7_item_15), rfl⟩, ox94_16⟩
def x94_14 : List sx_E := (.iload 1, 14, 15, [], .null) :: x94_15
theorem ox94_14 : sx_oks 94 x94_14 := ⟨Or.inr ⟨_, (sx_dd bb_94 dX7_item_14), rfl, rfl⟩, ox94_15⟩
def x94_11 : List sx_E := (.getfield 49, 11, 14, [6, 9, 1], .null) :: x94_14
theorem ox94_11 : sx_oks 94 x94_11 := ⟨sx_q_get (w := (RX7, TX7, 12)) (sx_dd bb_94 dX7_item_11) rfl rfl (Nat.le_of_ble_eq_true rfl) cu_6 (sx_ow3 oo_94 fl_StrawGarrison_49) (by decide +kernel), ox94_14⟩
def x94_10 : List sx_E := (.aload 0, 10, 11, [], .null) :: x94_11
theorem ox94_10 : sx_oks 94 x94_10 := ⟨Or.inr ⟨_, (sx_dd bb_94 dX7_item_10), rfl, rfl⟩, ox94_11⟩
def x94_9 : List sx_E := (.ireturn, 9, 10, [0], .null) :: x94_10
theorem ox94_9 : sx_oks 94 x94_9 := ⟨sx_q_iret0 (sx_dd bb_94 dX7_item_9) rr_94, ox94_10⟩
def x94_7 : List sx_E := (.nop, 7, 9, [], .int ((-1000000001))) :: x94_9
theorem ox94_7 : sx_oks 94 x94_7 := ⟨sx_k_ldc (sx_dd bb_94 dX7_item_7) (sx_ow1 oo_94 kc_StrawGarrison_76), ox94_9⟩
def x94_4 : List sx_E := (.ifCond .ne (6), 4, 7, [10], .null) :: x94_7
theorem ox94_4 : sx_oks 94 x94_4 := ⟨⟨(sx_dd bb_94 dX7_item_4), rfl, sx_t1 (by decide +kernel)⟩, ox94_7⟩
def x94_1 : List sx_E := (.invokestatic 267, 1, 4, [105, 1, 0, 0], .null) :: x94_4
theorem ox94_1 : sx_oks 94 x94_1 := ⟨sx_q_S (sx_dd bb_94 dX7_item_1) oo_94 lk_StrawGarrison_267_S ft_105_h, ox94_4⟩
def x94_0 : List sx_E := (.iload 1, 0, 1, [], .null) :: x94_1
theorem ox94_0 : sx_oks 94 x94_0 := ⟨Or.inr ⟨_, (sx_dd bb_94 dX7_item_0), rfl, rfl⟩, ox94_1⟩
theorem m94 : sx_mok 94 x94_0 := ⟨ox94_0, by decide +kernel⟩
theorem bb_95 : sx_by 95 = cX7_rest := rfl
theorem oo_95 : (sx_nm 95).cls = "StrawGarrison" := rfl
theorem mm_95 : sx_ml 95 = 3 := rfl
theorem rr_95 : sx_rt 95 = (some .int) := rfl
def x95_61 : List sx_E := (.ireturn, 61, 62, [0], .null) :: []
theorem ox95_61 : sx_oks 95 x95_61 := ⟨sx_q_iret0 (sx_dd bb_95 dX7_rest_61) rr_95, trivial⟩
def x95_60 : List sx_E := (.irem, 60, 61, [], .null) :: x95_61
theorem ox95_60 : sx_oks 95 x95_60 := ⟨⟨(sx_dd bb_95 dX7_rest_60), rfl⟩, ox95_61⟩
def x95_59 : List sx_E := (.iload 2, 59, 60, [], .null) :: x95_60
theorem ox95_59 : sx_oks 95 x95_59 := ⟨Or.inr ⟨_, (sx_dd bb_95 dX7_rest_59), rfl, rfl⟩, ox95_60⟩
def x95_56 : List sx_E := (.getfield 283, 56, 59, [4, 3, 0], .null) :: x95_59
theorem ox95_56 : sx_oks 95 x95_56 := ⟨sx_q_get (w := (RX5, TX5, 5)) (sx_dd bb_95 dX7_rest_56) rfl rfl (Nat.le_of_ble_eq_true rfl) cu_4 (sx_ow3 oo_95 fl_StrawGarrison_283) (by decide +kernel), ox95_59⟩
def x95_55 : List sx_E := (.aaload, 55, 56, [], .null) :: x95_56
theorem ox95_55 : sx_oks 95 x95_55 := ⟨⟨(sx_dd bb_95 dX7_rest_55), rfl⟩, ox95_56⟩
def x95_54 : List sx_E := (.iload 1, 54, 55, [], .null) :: x95_55
theorem ox95_54 : sx_oks 95 x95_54 := ⟨Or.inr ⟨_, (sx_dd bb_95 dX7_rest_54), rfl, rfl⟩, ox95_55⟩
def x95_51 : List sx_E := (.getfield 49, 51, 54, [6, 9, 1], .null) :: x95_54
theorem ox95_51 : sx_oks 95 x95_51 := ⟨sx_q_get (w := (RX7, TX7, 12)) (sx_dd bb_95 dX7_rest_51) rfl rfl (Nat.le_of_ble_eq_true rfl) cu_6 (sx_ow3 oo_95 fl_StrawGarrison_49) (by decide +kernel), ox95_54⟩
def x95_50 : List sx_E := (.aload 0, 50, 51, [], .null) :: x95_51
theorem ox95_50 : sx_oks 95 x95_50 := ⟨Or.inr ⟨_, (sx_dd bb_95 dX7_rest_50), rfl, rfl⟩, ox95_51⟩
def x95_47 : List sx_E := (.goto (14), 47, 50, [61], .null) :: x95_50
theorem ox95_47 : sx_oks 95 x95_47 := ⟨⟨(sx_dd bb_95 dX7_rest_47), sx_t1 (by decide +kernel)⟩, ox95_50⟩
def x95_45 : List sx_E := (.nop, 45, 47, [], .int ((-1000000002))) :: x95_47
theorem ox95_45 : sx_oks 95 x95_45 := ⟨sx_k_ldc (sx_dd bb_95 dX7_rest_45) (sx_ow1 oo_95 kc_StrawGarrison_82), ox95_47⟩
def x95_42 : List sx_E := (.ifCond .ne (8), 42, 45, [50], .null) :: x95_45
theorem ox95_42 : sx_oks 95 x95_42 := ⟨⟨(sx_dd bb_95 dX7_rest_42), rfl, sx_t1 (by decide +kernel)⟩, ox95_45⟩
def x95_41 : List sx_E := (.iload 2, 41, 42, [], .null) :: x95_42
theorem ox95_41 : sx_oks 95 x95_41 := ⟨Or.inr ⟨_, (sx_dd bb_95 dX7_rest_41), rfl, rfl⟩, ox95_42⟩
def x95_40 : List sx_E := (.ireturn, 40, 41, [0], .null) :: x95_41
theorem ox95_40 : sx_oks 95 x95_40 := ⟨sx_q_iret0 (sx_dd bb_95 dX7_rest_40) rr_95, ox95_41⟩
def x95_38 : List sx_E := (.nop, 38, 40, [], .int ((-1000000012))) :: x95_40
theorem ox95_38 : sx_oks 95 x95_38 := ⟨sx_k_ldc (sx_dd bb_95 dX7_rest_38) (sx_ow1 oo_95 kc_StrawGarrison_128), ox95_40⟩
def x95_35 : List sx_E := (.if_icmp .eq (6), 35, 38, [41], .null) :: x95_38
theorem ox95_35 : sx_oks 95 x95_35 := ⟨⟨(sx_dd bb_95 dX7_rest_35), rfl, sx_t1 (by decide +kernel)⟩, ox95_38⟩
def x95_34 : List sx_E := (.nop, 34, 35, [], .int (nI 3)) :: x95_35
theorem ox95_34 : sx_oks 95 x95_34 := ⟨sx_k_iconst (sx_dd bb_95 dX7_rest_34) (by decide +kernel), ox95_35⟩
def x95_31 : List sx_E := (.getfield 270, 31, 34, [4, 0, 0], .null) :: x95_34
theorem ox95_31 : sx_oks 95 x95_31 := ⟨sx_q_get (w := (RX5, TX5, 5)) (sx_dd bb_95 dX7_rest_31) rfl rfl (Nat.le_of_ble_eq_true rfl) cu_4 (sx_ow3 oo_95 fl_StrawGarrison_270) (by decide +kernel), ox95_34⟩
def x95_30 : List sx_E := (.aaload, 30, 31, [], .null) :: x95_31
theorem ox95_30 : sx_oks 95 x95_30 := ⟨⟨(sx_dd bb_95 dX7_rest_30), rfl⟩, ox95_31⟩
def x95_29 : List sx_E := (.iload 1, 29, 30, [], .null) :: x95_30
theorem ox95_29 : sx_oks 95 x95_29 := ⟨Or.inr ⟨_, (sx_dd bb_95 dX7_rest_29), rfl, rfl⟩, ox95_30⟩
def x95_26 : List sx_E := (.getfield 49, 26, 29, [6, 9, 1], .null) :: x95_29
theorem ox95_26 : sx_oks 95 x95_26 := ⟨sx_q_get (w := (RX7, TX7, 12)) (sx_dd bb_95 dX7_rest_26) rfl rfl (Nat.le_of_ble_eq_true rfl) cu_6 (sx_ow3 oo_95 fl_StrawGarrison_49) (by decide +kernel), ox95_29⟩
def x95_25 : List sx_E := (.aload 0, 25, 26, [], .null) :: x95_26
theorem ox95_25 : sx_oks 95 x95_25 := ⟨Or.inr ⟨_, (sx_dd bb_95 dX7_rest_25), rfl, rfl⟩, ox95_26⟩
def x95_24 : List sx_E := (.ireturn, 24, 25, [0], .null) :: x95_25
theorem ox95_24 : sx_oks 95 x95_24 := ⟨sx_q_iret0 (sx_dd bb_95 dX7_rest_24) rr_95, ox95_25⟩
def x95_22 : List sx_E := (.nop, 22, 24, [], .int ((-1000000011))) :: x95_24
theorem ox95_22 : sx_oks 95 x95_22 := ⟨sx_k_ldc (sx_dd bb_95 dX7_rest_22) (sx_ow1 oo_95 kc_StrawGarrison_194), ox95_24⟩
def x95_19 : List sx_E := (.ifCond .ne (6), 19, 22, [25], .null) :: x95_22
theorem ox95_19 : sx_oks 95 x95_19 := ⟨⟨(sx_dd bb_95 dX7_rest_19), rfl, sx_t1 (by decide +kernel)⟩, ox95_22⟩
def x95_16 : List sx_E := (.getfield 270, 16, 19, [4, 0, 0], .null) :: x95_19
theorem ox95_16 : sx_oks 95 x95_16 := ⟨sx_q_get (w := (RX5, TX5, 5)) (sx_dd bb_95 dX7_rest_16) rfl rfl (Nat.le_of_ble_eq_true rfl) cu_4 (sx_ow3 oo_95 fl_StrawGarrison_270) (by decide +kernel), ox95_19⟩
def x95_15 : List sx_E := (.aaload, 15, 16, [], .null) :: x95_16
theorem ox95_15 : sx_oks 95 x95_15 := ⟨⟨(sx_dd bb_95 dX7_rest_15), rfl⟩, ox95_16⟩
def x95_14 : List sx_E := (.iload 1, 14, 15, [], .null) :: x95_15
theorem ox95_14 : sx_oks 95 x95_14 := ⟨Or.inr ⟨_, (sx_dd bb_95 dX7_rest_14), rfl, rfl⟩, ox95_15⟩
def x95_11 : List sx_E := (.getfield 49, 11, 14, [6, 9, 1], .null) :: x95_14
theorem ox95_11 : sx_oks 95 x95_11 := ⟨sx_q_get (w := (RX7, TX7, 12)) (sx_dd bb_95 dX7_rest_11) rfl rfl (Nat.le_of_ble_eq_true rfl) cu_6 (sx_ow3 oo_95 fl_StrawGarrison_49) (by decide +kernel), ox95_14⟩
def x95_10 : List sx_E := (.aload 0, 10, 11, [], .null) :: x95_11
theorem ox95_10 : sx_oks 95 x95_10 := ⟨Or.inr ⟨_, (sx_dd bb_95 dX7_rest_10), rfl, rfl⟩, ox95_11⟩
def x95_9 : List sx_E := (.ireturn, 9, 10, [0], .null) :: x95_10
theorem ox95_9 : sx_oks 95 x95_9 := ⟨sx_q_iret0 (sx_dd bb_95 dX7_rest_9) rr_95, ox95_10⟩
def x95_7 : List sx_E := (.nop, 7, 9, [], .int ((-1000000001))) :: x95_9
theorem ox95_7 : sx_oks 95 x95_7 := ⟨sx_k_ldc (sx_dd bb_95 dX7_rest_7) (sx_ow1 oo_95 kc_StrawGarrison_76), ox95_9⟩
def x95_4 : List sx_E := (.ifCond .ne (6), 4, 7, [10], .null) :: x95_7
theorem ox95_4 : sx_oks 95 x95_4 := ⟨⟨(sx_dd bb_95 dX7_rest_4), rfl, sx_t1 (by decide +kernel)⟩, ox95_7⟩
def x95_1 : List sx_E := (.invokestatic 267, 1, 4, [105, 1, 0, 0], .null) :: x95_4
theorem ox95_1 : sx_oks 95 x95_1 := ⟨sx_q_S (sx_dd bb_95 dX7_rest_1) oo_95 lk_StrawGarrison_267_S ft_105_h, ox95_4⟩
def x95_0 : List sx_E := (.iload 1, 0, 1, [], .null) :: x95_1
theorem ox95_0 : sx_oks 95 x95_0 := ⟨Or.inr ⟨_, (sx_dd bb_95 dX7_rest_0), rfl, rfl⟩, ox95_1⟩
theorem m95 : sx_mok 95 x95_0 := ⟨ox95_0, by decide +kernel⟩
theorem bb_96 : sx_by 96 = cX7_tell := rfl
theorem oo_96 : (sx_nm 96).cls = "StrawGarrison" := rfl
theorem mm_96 : sx_ml 96 = 2 := rfl
theorem rr_96 : sx_rt 96 = (some .int) := rfl
def x96_36 : List sx_E := (.ireturn, 36, 37, [0], .null) :: []
theorem ox96_36 : sx_oks 96 x96_36 := ⟨sx_q_iret0 (sx_dd bb_96 dX7_tell_36) rr_96, trivial⟩
def x96_33 : List sx_E := (.getfield 57, 33, 36, [6, 11, 0], .null) :: x96_36
theorem ox96_33 : sx_oks 96 x96_33 := ⟨sx_q_get (w := (RX7, TX7, 12)) (sx_dd bb_96 dX7_tell_33) rfl rfl (Nat.le_of_ble_eq_true rfl) cu_6 (sx_ow3 oo_96 fl_StrawGarrison_57) (by decide +kernel), ox96_36⟩
def x96_32 : List sx_E := (.aload 0, 32, 33, [], .null) :: x96_33
theorem ox96_32 : sx_oks 96 x96_32 := ⟨Or.inr ⟨_, (sx_dd bb_96 dX7_tell_32), rfl, rfl⟩, ox96_33⟩
def x96_29 : List sx_E := (.putfield 57, 29, 32, [6, 11, 0], .null) :: x96_32
theorem ox96_29 : sx_oks 96 x96_29 := ⟨sx_q_put (w := (RX7, TX7, 12)) (ty0 := tyX7) (sx_dd bb_96 dX7_tell_29) rfl (Nat.le_of_ble_eq_true rfl) cu_6 (sx_ow3 oo_96 fl_StrawGarrison_57) (by decide +kernel) tyX7_ok nmX7 (Or.inl rfl) (fun _ => rfl) (fun h => absurd h (by decide)) (fun h => absurd h (by decide)), ox96_32⟩
def x96_28 : List sx_E := (.iadd, 28, 29, [], .null) :: x96_29
theorem ox96_28 : sx_oks 96 x96_28 := ⟨⟨(sx_dd bb_96 dX7_tell_28), rfl⟩, ox96_29⟩
def x96_27 : List sx_E := (.nop, 27, 28, [], .int (nI 1)) :: x96_28
theorem ox96_27 : sx_oks 96 x96_27 := ⟨sx_k_iconst (sx_dd bb_96 dX7_tell_27) (by decide +kernel), ox96_28⟩
def x96_24 : List sx_E := (.getfield 57, 24, 27, [6, 11, 0], .null) :: x96_27
theorem ox96_24 : sx_oks 96 x96_24 := ⟨sx_q_get (w := (RX7, TX7, 12)) (sx_dd bb_96 dX7_tell_24) rfl rfl (Nat.le_of_ble_eq_true rfl) cu_6 (sx_ow3 oo_96 fl_StrawGarrison_57) (by decide +kernel), ox96_27⟩
def x96_23 : List sx_E := (.dup, 23, 24, [], .null) :: x96_24
theorem ox96_23 : sx_oks 96 x96_23 := ⟨⟨(sx_dd bb_96 dX7_tell_23), rfl⟩, ox96_24⟩
def x96_22 : List sx_E := (.aload 0, 22, 23, [], .null) :: x96_23
theorem ox96_22 : sx_oks 96 x96_22 := ⟨Or.inr ⟨_, (sx_dd bb_96 dX7_tell_22), rfl, rfl⟩, ox96_23⟩
def x96_21 : List sx_E := (.iastore, 21, 22, [], .null) :: x96_22
theorem ox96_21 : sx_oks 96 x96_21 := ⟨⟨(sx_dd bb_96 dX7_tell_21), rfl⟩, ox96_22⟩
def x96_20 : List sx_E := (.iload 1, 20, 21, [], .null) :: x96_21
theorem ox96_20 : sx_oks 96 x96_20 := ⟨Or.inr ⟨_, (sx_dd bb_96 dX7_tell_20), rfl, rfl⟩, ox96_21⟩
def x96_17 : List sx_E := (.getfield 57, 17, 20, [6, 11, 0], .null) :: x96_20
theorem ox96_17 : sx_oks 96 x96_17 := ⟨sx_q_get (w := (RX7, TX7, 12)) (sx_dd bb_96 dX7_tell_17) rfl rfl (Nat.le_of_ble_eq_true rfl) cu_6 (sx_ow3 oo_96 fl_StrawGarrison_57) (by decide +kernel), ox96_20⟩
def x96_16 : List sx_E := (.aload 0, 16, 17, [], .null) :: x96_17
theorem ox96_16 : sx_oks 96 x96_16 := ⟨Or.inr ⟨_, (sx_dd bb_96 dX7_tell_16), rfl, rfl⟩, ox96_17⟩
def x96_13 : List sx_E := (.getfield 53, 13, 16, [6, 10, 1], .null) :: x96_16
theorem ox96_13 : sx_oks 96 x96_13 := ⟨sx_q_get (w := (RX7, TX7, 12)) (sx_dd bb_96 dX7_tell_13) rfl rfl (Nat.le_of_ble_eq_true rfl) cu_6 (sx_ow3 oo_96 fl_StrawGarrison_53) (by decide +kernel), ox96_16⟩
def x96_12 : List sx_E := (.aload 0, 12, 13, [], .null) :: x96_13
theorem ox96_12 : sx_oks 96 x96_12 := ⟨Or.inr ⟨_, (sx_dd bb_96 dX7_tell_12), rfl, rfl⟩, ox96_13⟩
def x96_11 : List sx_E := (.ireturn, 11, 12, [0], .null) :: x96_12
theorem ox96_11 : sx_oks 96 x96_11 := ⟨sx_q_iret0 (sx_dd bb_96 dX7_tell_11) rr_96, ox96_12⟩
def x96_9 : List sx_E := (.nop, 9, 11, [], .int ((-1000000003))) :: x96_11
theorem ox96_9 : sx_oks 96 x96_9 := ⟨sx_k_ldc (sx_dd bb_96 dX7_tell_9) (sx_ow1 oo_96 kc_StrawGarrison_86), ox96_11⟩
def x96_6 : List sx_E := (.if_icmp .lt (6), 6, 9, [12], .null) :: x96_9
theorem ox96_6 : sx_oks 96 x96_6 := ⟨⟨(sx_dd bb_96 dX7_tell_6), rfl, sx_t1 (by decide +kernel)⟩, ox96_9⟩
def x96_4 : List sx_E := (.nop, 4, 6, [], .int (nI 60)) :: x96_6
theorem ox96_4 : sx_oks 96 x96_4 := ⟨sx_k_bipush (sx_dd bb_96 dX7_tell_4) (by decide +kernel), ox96_6⟩
def x96_1 : List sx_E := (.getfield 57, 1, 4, [6, 11, 0], .null) :: x96_4
theorem ox96_1 : sx_oks 96 x96_1 := ⟨sx_q_get (w := (RX7, TX7, 12)) (sx_dd bb_96 dX7_tell_1) rfl rfl (Nat.le_of_ble_eq_true rfl) cu_6 (sx_ow3 oo_96 fl_StrawGarrison_57) (by decide +kernel), ox96_4⟩
def x96_0 : List sx_E := (.aload 0, 0, 1, [], .null) :: x96_1
theorem ox96_0 : sx_oks 96 x96_0 := ⟨Or.inr ⟨_, (sx_dd bb_96 dX7_tell_0), rfl, rfl⟩, ox96_1⟩
theorem m96 : sx_mok 96 x96_0 := ⟨ox96_0, by decide +kernel⟩
theorem bb_97 : sx_by 97 = cX7_check := rfl
theorem oo_97 : (sx_nm 97).cls = "StrawGarrison" := rfl
theorem mm_97 : sx_ml 97 = 6 := rfl
theorem rr_97 : sx_rt 97 = (some .int) := rfl
def x97_155 : List sx_E := (.ireturn, 155, 156, [0], .null) :: []
theorem ox97_155 : sx_oks 97 x97_155 := ⟨sx_q_iret0 (sx_dd bb_97 dX7_check_155) rr_97, trivial⟩
def x97_154 : List sx_E := (.nop, 154, 155, [], .int (nI 0)) :: x97_155
theorem ox97_154 : sx_oks 97 x97_154 := ⟨sx_k_iconst (sx_dd bb_97 dX7_check_154) (by decide +kernel), ox97_155⟩
def x97_151 : List sx_E := (.goto (4), 151, 154, [155], .null) :: x97_154
theorem ox97_151 : sx_oks 97 x97_151 := ⟨⟨(sx_dd bb_97 dX7_check_151), sx_t1 (by decide +kernel)⟩, ox97_154⟩
def x97_150 : List sx_E := (.iadd, 150, 151, [], .null) :: x97_151
theorem ox97_150 : sx_oks 97 x97_150 := ⟨⟨(sx_dd bb_97 dX7_check_150), rfl⟩, ox97_151⟩
def x97_149 : List sx_E := (.iload 3, 149, 150, [], .null) :: x97_150
theorem ox97_149 : sx_oks 97 x97_149 := ⟨Or.inr ⟨_, (sx_dd bb_97 dX7_check_149), rfl, rfl⟩, ox97_150⟩
def x97_148 : List sx_E := (.nop, 148, 149, [], .int (nI 1)) :: x97_149
theorem ox97_148 : sx_oks 97 x97_148 := ⟨sx_k_iconst (sx_dd bb_97 dX7_check_148) (by decide +kernel), ox97_149⟩
def x97_145 : List sx_E := (.if_icmp .le (9), 145, 148, [154], .null) :: x97_148
theorem ox97_145 : sx_oks 97 x97_145 := ⟨⟨(sx_dd bb_97 dX7_check_145), rfl, sx_t1 (by decide +kernel)⟩, ox97_148⟩
def x97_144 : List sx_E := (.iload 3, 144, 145, [], .null) :: x97_145
theorem ox97_144 : sx_oks 97 x97_144 := ⟨Or.inr ⟨_, (sx_dd bb_97 dX7_check_144), rfl, rfl⟩, ox97_145⟩
def x97_143 : List sx_E := (.iload 2, 143, 144, [], .null) :: x97_144
theorem ox97_143 : sx_oks 97 x97_143 := ⟨Or.inr ⟨_, (sx_dd bb_97 dX7_check_143), rfl, rfl⟩, ox97_144⟩
def x97_140 : List sx_E := (.goto (-75), 140, 143, [65], .null) :: x97_143
theorem ox97_140 : sx_oks 97 x97_140 := ⟨⟨(sx_dd bb_97 dX7_check_140), sx_t1 (by decide +kernel)⟩, ox97_143⟩
def x97_137 : List sx_E := (.iinc 4 (1), 137, 140, [], .int (nI 1)) :: x97_140
theorem ox97_137 : sx_oks 97 x97_137 := ⟨⟨sx_lt mm_97 (Nat.le_of_ble_eq_true rfl), (sx_dd bb_97 dX7_check_137), rfl, by decide +kernel⟩, ox97_140⟩
def x97_136 : List sx_E := (.ireturn, 136, 137, [0], .null) :: x97_137
theorem ox97_136 : sx_oks 97 x97_136 := ⟨sx_q_iret0 (sx_dd bb_97 dX7_check_136) rr_97, ox97_137⟩
def x97_135 : List sx_E := (.iadd, 135, 136, [], .null) :: x97_136
theorem ox97_135 : sx_oks 97 x97_135 := ⟨⟨(sx_dd bb_97 dX7_check_135), rfl⟩, ox97_136⟩
def x97_133 : List sx_E := (.iload 4, 133, 135, [], .null) :: x97_135
theorem ox97_133 : sx_oks 97 x97_133 := ⟨Or.inl ⟨(sx_dd bb_97 dX7_check_133), rfl⟩, ox97_135⟩
def x97_132 : List sx_E := (.nop, 132, 133, [], .int (nI 1)) :: x97_133
theorem ox97_132 : sx_oks 97 x97_132 := ⟨sx_k_iconst (sx_dd bb_97 dX7_check_132) (by decide +kernel), ox97_133⟩
def x97_129 : List sx_E := (.if_icmp .eq (8), 129, 132, [137], .null) :: x97_132
theorem ox97_129 : sx_oks 97 x97_129 := ⟨⟨(sx_dd bb_97 dX7_check_129), rfl, sx_t1 (by decide +kernel)⟩, ox97_132⟩
def x97_127 : List sx_E := (.iload 5, 127, 129, [], .null) :: x97_129
theorem ox97_127 : sx_oks 97 x97_127 := ⟨Or.inl ⟨(sx_dd bb_97 dX7_check_127), rfl⟩, ox97_129⟩
def x97_126 : List sx_E := (.iaload, 126, 127, [], .null) :: x97_127
theorem ox97_126 : sx_oks 97 x97_126 := ⟨⟨(sx_dd bb_97 dX7_check_126), rfl⟩, ox97_127⟩
def x97_124 : List sx_E := (.iload 4, 124, 126, [], .null) :: x97_126
theorem ox97_124 : sx_oks 97 x97_124 := ⟨Or.inl ⟨(sx_dd bb_97 dX7_check_124), rfl⟩, ox97_126⟩
def x97_121 : List sx_E := (.getfield 53, 121, 124, [6, 10, 1], .null) :: x97_124
theorem ox97_121 : sx_oks 97 x97_121 := ⟨sx_q_get (w := (RX7, TX7, 12)) (sx_dd bb_97 dX7_check_121) rfl rfl (Nat.le_of_ble_eq_true rfl) cu_6 (sx_ow3 oo_97 fl_StrawGarrison_53) (by decide +kernel), ox97_124⟩
def x97_120 : List sx_E := (.aload 0, 120, 121, [], .null) :: x97_121
theorem ox97_120 : sx_oks 97 x97_120 := ⟨Or.inr ⟨_, (sx_dd bb_97 dX7_check_120), rfl, rfl⟩, ox97_121⟩
def x97_117 : List sx_E := (.if_icmp .ge (15), 117, 120, [132], .null) :: x97_120
theorem ox97_117 : sx_oks 97 x97_117 := ⟨⟨(sx_dd bb_97 dX7_check_117), rfl, sx_t1 (by decide +kernel)⟩, ox97_120⟩
def x97_116 : List sx_E := (.iload 2, 116, 117, [], .null) :: x97_117
theorem ox97_116 : sx_oks 97 x97_116 := ⟨Or.inr ⟨_, (sx_dd bb_97 dX7_check_116), rfl, rfl⟩, ox97_117⟩
def x97_114 : List sx_E := (.iload 4, 114, 116, [], .null) :: x97_116
theorem ox97_114 : sx_oks 97 x97_114 := ⟨Or.inl ⟨(sx_dd bb_97 dX7_check_114), rfl⟩, ox97_116⟩
def x97_114h : List sx_E := (.monitorenter, 114, 114, [0, 2, 3, 4, 5], .null) :: x97_114
theorem ox97_114h : sx_oks 97 x97_114h := ⟨trivial, ox97_114⟩
def x97_112 : List sx_E := (.istore 5, 112, 114, [], .null) :: x97_114h
theorem ox97_112 : sx_oks 97 x97_112 := ⟨⟨sx_lt mm_97 (Nat.le_of_ble_eq_true rfl), Or.inl ⟨(sx_dd bb_97 dX7_check_112), rfl⟩⟩, ox97_114h⟩
def x97_109 : List sx_E := (.invokevirtual 169, 109, 112, [17, 1, 0, 0, 1], .null) :: x97_112
theorem ox97_109 : sx_oks 97 x97_109 := ⟨sx_q_V (w := (RX1, TX1, 11)) (sx_dd bb_97 dX7_check_109) oo_97 lk_StrawGarrison_169_V ft_17_h (Nat.le_of_ble_eq_true rfl) rfl rfl, ox97_112⟩
def x97_106 : List sx_E := (.getfield 19, 106, 109, [6, 3, 1], .null) :: x97_109
theorem ox97_106 : sx_oks 97 x97_106 := ⟨sx_q_get (w := (RX7, TX7, 12)) (sx_dd bb_97 dX7_check_106) rfl rfl (Nat.le_of_ble_eq_true rfl) cu_6 (sx_ow3 oo_97 fl_StrawGarrison_19) (by decide +kernel), ox97_109⟩
def x97_105 : List sx_E := (.aload 0, 105, 106, [], .null) :: x97_106
theorem ox97_105 : sx_oks 97 x97_105 := ⟨Or.inr ⟨_, (sx_dd bb_97 dX7_check_105), rfl, rfl⟩, ox97_106⟩
def x97_102 : List sx_E := (.goto (10), 102, 105, [112], .null) :: x97_105
theorem ox97_102 : sx_oks 97 x97_102 := ⟨⟨(sx_dd bb_97 dX7_check_102), sx_t1 (by decide +kernel)⟩, ox97_105⟩
def x97_101 : List sx_E := (.iaload, 101, 102, [], .null) :: x97_102
theorem ox97_101 : sx_oks 97 x97_101 := ⟨⟨(sx_dd bb_97 dX7_check_101), rfl⟩, ox97_102⟩
def x97_100 : List sx_E := (.nop, 100, 101, [], .int (nI 0)) :: x97_101
theorem ox97_100 : sx_oks 97 x97_100 := ⟨sx_k_iconst (sx_dd bb_97 dX7_check_100) (by decide +kernel), ox97_101⟩
def x97_97 : List sx_E := (.getfield 156, 97, 100, [1, 8, 1], .null) :: x97_100
theorem ox97_97 : sx_oks 97 x97_97 := ⟨sx_q_get (w := (RX1, TX1, 11)) (sx_dd bb_97 dX7_check_97) rfl rfl (Nat.le_of_ble_eq_true rfl) cu_1 (sx_ow3 oo_97 fl_StrawGarrison_156) (by decide +kernel), ox97_100⟩
def x97_94 : List sx_E := (.getfield 19, 94, 97, [6, 3, 1], .null) :: x97_97
theorem ox97_94 : sx_oks 97 x97_94 := ⟨sx_q_get (w := (RX7, TX7, 12)) (sx_dd bb_97 dX7_check_94) rfl rfl (Nat.le_of_ble_eq_true rfl) cu_6 (sx_ow3 oo_97 fl_StrawGarrison_19) (by decide +kernel), ox97_97⟩
def x97_93 : List sx_E := (.aload 0, 93, 94, [], .null) :: x97_94
theorem ox97_93 : sx_oks 97 x97_93 := ⟨Or.inr ⟨_, (sx_dd bb_97 dX7_check_93), rfl, rfl⟩, ox97_94⟩
def x97_90 : List sx_E := (.ifCond .ne (15), 90, 93, [105], .null) :: x97_93
theorem ox97_90 : sx_oks 97 x97_90 := ⟨⟨(sx_dd bb_97 dX7_check_90), rfl, sx_t1 (by decide +kernel)⟩, ox97_93⟩
def x97_89 : List sx_E := (.irem, 89, 90, [], .null) :: x97_90
theorem ox97_89 : sx_oks 97 x97_89 := ⟨⟨(sx_dd bb_97 dX7_check_89), rfl⟩, ox97_90⟩
def x97_88 : List sx_E := (.nop, 88, 89, [], .int (nI 2)) :: x97_89
theorem ox97_88 : sx_oks 97 x97_88 := ⟨sx_k_iconst (sx_dd bb_97 dX7_check_88) (by decide +kernel), ox97_89⟩
def x97_86 : List sx_E := (.iload 4, 86, 88, [], .null) :: x97_88
theorem ox97_86 : sx_oks 97 x97_86 := ⟨Or.inl ⟨(sx_dd bb_97 dX7_check_86), rfl⟩, ox97_88⟩
def x97_86h : List sx_E := (.monitorenter, 86, 86, [0, 2, 3, 4], .null) :: x97_86
theorem ox97_86h : sx_oks 97 x97_86h := ⟨trivial, ox97_86⟩
def x97_85 : List sx_E := (.pop, 85, 86, [], .null) :: x97_86h
theorem ox97_85 : sx_oks 97 x97_85 := ⟨⟨(sx_dd bb_97 dX7_check_85), rfl⟩, ox97_86h⟩
def x97_82 : List sx_E := (.invokevirtual 152, 82, 85, [19, 1, 0, 0, 1], .null) :: x97_85
theorem ox97_82 : sx_oks 97 x97_82 := ⟨sx_q_V (w := (RX1, TX1, 11)) (sx_dd bb_97 dX7_check_82) oo_97 lk_StrawGarrison_152_V ft_19_h (Nat.le_of_ble_eq_true rfl) rfl rfl, ox97_85⟩
def x97_79 : List sx_E := (.getfield 19, 79, 82, [6, 3, 1], .null) :: x97_82
theorem ox97_79 : sx_oks 97 x97_79 := ⟨sx_q_get (w := (RX7, TX7, 12)) (sx_dd bb_97 dX7_check_79) rfl rfl (Nat.le_of_ble_eq_true rfl) cu_6 (sx_ow3 oo_97 fl_StrawGarrison_19) (by decide +kernel), ox97_82⟩
def x97_78 : List sx_E := (.aload 0, 78, 79, [], .null) :: x97_79
theorem ox97_78 : sx_oks 97 x97_78 := ⟨Or.inr ⟨_, (sx_dd bb_97 dX7_check_78), rfl, rfl⟩, ox97_79⟩
def x97_75 : List sx_E := (.ifCond .ne (11), 75, 78, [86], .null) :: x97_78
theorem ox97_75 : sx_oks 97 x97_75 := ⟨⟨(sx_dd bb_97 dX7_check_75), rfl, sx_t1 (by decide +kernel)⟩, ox97_78⟩
def x97_74 : List sx_E := (.irem, 74, 75, [], .null) :: x97_75
theorem ox97_74 : sx_oks 97 x97_74 := ⟨⟨(sx_dd bb_97 dX7_check_74), rfl⟩, ox97_75⟩
def x97_73 : List sx_E := (.nop, 73, 74, [], .int (nI 2)) :: x97_74
theorem ox97_73 : sx_oks 97 x97_73 := ⟨sx_k_iconst (sx_dd bb_97 dX7_check_73) (by decide +kernel), ox97_74⟩
def x97_71 : List sx_E := (.iload 4, 71, 73, [], .null) :: x97_73
theorem ox97_71 : sx_oks 97 x97_71 := ⟨Or.inl ⟨(sx_dd bb_97 dX7_check_71), rfl⟩, ox97_73⟩
def x97_68 : List sx_E := (.if_icmp .ge (75), 68, 71, [143], .null) :: x97_71
theorem ox97_68 : sx_oks 97 x97_68 := ⟨⟨(sx_dd bb_97 dX7_check_68), rfl, sx_t1 (by decide +kernel)⟩, ox97_71⟩
def x97_67 : List sx_E := (.iload 3, 67, 68, [], .null) :: x97_68
theorem ox97_67 : sx_oks 97 x97_67 := ⟨Or.inr ⟨_, (sx_dd bb_97 dX7_check_67), rfl, rfl⟩, ox97_68⟩
def x97_65 : List sx_E := (.iload 4, 65, 67, [], .null) :: x97_67
theorem ox97_65 : sx_oks 97 x97_65 := ⟨Or.inl ⟨(sx_dd bb_97 dX7_check_65), rfl⟩, ox97_67⟩
def x97_65h : List sx_E := (.monitorenter, 65, 65, [0, 2, 3, 4], .null) :: x97_65
theorem ox97_65h : sx_oks 97 x97_65h := ⟨trivial, ox97_65⟩
def x97_63 : List sx_E := (.istore 4, 63, 65, [], .null) :: x97_65h
theorem ox97_63 : sx_oks 97 x97_63 := ⟨⟨sx_lt mm_97 (Nat.le_of_ble_eq_true rfl), Or.inl ⟨(sx_dd bb_97 dX7_check_63), rfl⟩⟩, ox97_65h⟩
def x97_62 : List sx_E := (.nop, 62, 63, [], .int (nI 0)) :: x97_63
theorem ox97_62 : sx_oks 97 x97_62 := ⟨sx_k_iconst (sx_dd bb_97 dX7_check_62) (by decide +kernel), ox97_63⟩
def x97_61 : List sx_E := (.istore 3, 61, 62, [], .null) :: x97_62
theorem ox97_61 : sx_oks 97 x97_61 := ⟨⟨sx_lt mm_97 (Nat.le_of_ble_eq_true rfl), Or.inr ⟨_, (sx_dd bb_97 dX7_check_61), rfl, rfl⟩⟩, ox97_62⟩
def x97_60 : List sx_E := (.imul, 60, 61, [], .null) :: x97_61
theorem ox97_60 : sx_oks 97 x97_60 := ⟨⟨(sx_dd bb_97 dX7_check_60), rfl⟩, ox97_61⟩
def x97_57 : List sx_E := (.invokestatic 135, 57, 60, [214, 2, 0, 0], .null) :: x97_60
theorem ox97_57 : sx_oks 97 x97_57 := ⟨sx_q_S (sx_dd bb_97 dX7_check_57) oo_97 lk_StrawGarrison_135_S ft_214_h, ox97_60⟩
def x97_56 : List sx_E := (.isub, 56, 57, [], .null) :: x97_57
theorem ox97_56 : sx_oks 97 x97_56 := ⟨⟨(sx_dd bb_97 dX7_check_56), rfl⟩, ox97_57⟩
def x97_53 : List sx_E := (.getfield 149, 53, 56, [1, 9, 0], .null) :: x97_56
theorem ox97_53 : sx_oks 97 x97_53 := ⟨sx_q_get (w := (RX1, TX1, 11)) (sx_dd bb_97 dX7_check_53) rfl rfl (Nat.le_of_ble_eq_true rfl) cu_1 (sx_ow3 oo_97 fl_StrawGarrison_149) (by decide +kernel), ox97_56⟩
def x97_50 : List sx_E := (.getfield 16, 50, 53, [6, 2, 1], .null) :: x97_53
theorem ox97_50 : sx_oks 97 x97_50 := ⟨sx_q_get (w := (RX7, TX7, 12)) (sx_dd bb_97 dX7_check_50) rfl rfl (Nat.le_of_ble_eq_true rfl) cu_6 (sx_ow3 oo_97 fl_StrawGarrison_16) (by decide +kernel), ox97_53⟩
def x97_49 : List sx_E := (.aload 0, 49, 50, [], .null) :: x97_50
theorem ox97_49 : sx_oks 97 x97_49 := ⟨Or.inr ⟨_, (sx_dd bb_97 dX7_check_49), rfl, rfl⟩, ox97_50⟩
def x97_46 : List sx_E := (.nop, 46, 49, [], .int (nI 9999)) :: x97_49
theorem ox97_46 : sx_oks 97 x97_46 := ⟨sx_k_sipush (sx_dd bb_97 dX7_check_46) (by decide +kernel), ox97_49⟩
def x97_45 : List sx_E := (.iload 1, 45, 46, [], .null) :: x97_46
theorem ox97_45 : sx_oks 97 x97_45 := ⟨Or.inr ⟨_, (sx_dd bb_97 dX7_check_45), rfl, rfl⟩, ox97_46⟩
def x97_44 : List sx_E := (.nop, 44, 45, [], .int (nI 2)) :: x97_45
theorem ox97_44 : sx_oks 97 x97_44 := ⟨sx_k_iconst (sx_dd bb_97 dX7_check_44) (by decide +kernel), ox97_45⟩
def x97_41 : List sx_E := (.invokevirtual 178, 41, 44, [6, 2, 0, 0, 1], .null) :: x97_44
theorem ox97_41 : sx_oks 97 x97_41 := ⟨sx_q_V (w := (RX1, TX1, 11)) (sx_dd bb_97 dX7_check_41) oo_97 lk_StrawGarrison_178_V ft_6_h (Nat.le_of_ble_eq_true rfl) rfl rfl, ox97_44⟩
def x97_38 : List sx_E := (.getfield 16, 38, 41, [6, 2, 1], .null) :: x97_41
theorem ox97_38 : sx_oks 97 x97_38 := ⟨sx_q_get (w := (RX7, TX7, 12)) (sx_dd bb_97 dX7_check_38) rfl rfl (Nat.le_of_ble_eq_true rfl) cu_6 (sx_ow3 oo_97 fl_StrawGarrison_16) (by decide +kernel), ox97_41⟩
def x97_37 : List sx_E := (.aload 0, 37, 38, [], .null) :: x97_38
theorem ox97_37 : sx_oks 97 x97_37 := ⟨Or.inr ⟨_, (sx_dd bb_97 dX7_check_37), rfl, rfl⟩, ox97_38⟩
def x97_34 : List sx_E := (.getfield 19, 34, 37, [6, 3, 1], .null) :: x97_37
theorem ox97_34 : sx_oks 97 x97_34 := ⟨sx_q_get (w := (RX7, TX7, 12)) (sx_dd bb_97 dX7_check_34) rfl rfl (Nat.le_of_ble_eq_true rfl) cu_6 (sx_ow3 oo_97 fl_StrawGarrison_19) (by decide +kernel), ox97_37⟩
def x97_33 : List sx_E := (.aload 0, 33, 34, [], .null) :: x97_34
theorem ox97_33 : sx_oks 97 x97_33 := ⟨Or.inr ⟨_, (sx_dd bb_97 dX7_check_33), rfl, rfl⟩, ox97_34⟩
def x97_32 : List sx_E := (.ireturn, 32, 33, [0], .null) :: x97_33
theorem ox97_32 : sx_oks 97 x97_32 := ⟨sx_q_iret0 (sx_dd bb_97 dX7_check_32) rr_97, ox97_33⟩
def x97_30 : List sx_E := (.nop, 30, 32, [], .int ((-1000000002))) :: x97_32
theorem ox97_30 : sx_oks 97 x97_30 := ⟨sx_k_ldc (sx_dd bb_97 dX7_check_30) (sx_ow1 oo_97 kc_StrawGarrison_82), ox97_32⟩
def x97_27 : List sx_E := (.ifCond .ne (6), 27, 30, [33], .null) :: x97_30
theorem ox97_27 : sx_oks 97 x97_27 := ⟨⟨(sx_dd bb_97 dX7_check_27), rfl, sx_t1 (by decide +kernel)⟩, ox97_30⟩
def x97_24 : List sx_E := (.getfield 22, 24, 27, [6, 4, 2], .null) :: x97_27
theorem ox97_24 : sx_oks 97 x97_24 := ⟨sx_q_get (w := (RX7, TX7, 12)) (sx_dd bb_97 dX7_check_24) rfl rfl (Nat.le_of_ble_eq_true rfl) cu_6 (sx_ow3 oo_97 fl_StrawGarrison_22) (by decide +kernel), ox97_27⟩
def x97_23 : List sx_E := (.aload 0, 23, 24, [], .null) :: x97_24
theorem ox97_23 : sx_oks 97 x97_23 := ⟨Or.inr ⟨_, (sx_dd bb_97 dX7_check_23), rfl, rfl⟩, ox97_24⟩
def x97_22 : List sx_E := (.ireturn, 22, 23, [0], .null) :: x97_23
theorem ox97_22 : sx_oks 97 x97_22 := ⟨sx_q_iret0 (sx_dd bb_97 dX7_check_22) rr_97, ox97_23⟩
def x97_20 : List sx_E := (.nop, 20, 22, [], .int ((-1000000001))) :: x97_22
theorem ox97_20 : sx_oks 97 x97_20 := ⟨sx_k_ldc (sx_dd bb_97 dX7_check_20) (sx_ow1 oo_97 kc_StrawGarrison_76), ox97_22⟩
def x97_17 : List sx_E := (.ifCond .ne (6), 17, 20, [23], .null) :: x97_20
theorem ox97_17 : sx_oks 97 x97_17 := ⟨⟨(sx_dd bb_97 dX7_check_17), rfl, sx_t1 (by decide +kernel)⟩, ox97_20⟩
def x97_14 : List sx_E := (.invokestatic 72, 14, 17, [106, 3, 0, 0], .null) :: x97_17
theorem ox97_14 : sx_oks 97 x97_14 := ⟨sx_q_S (sx_dd bb_97 dX7_check_14) oo_97 lk_StrawGarrison_72_S ft_106_h, ox97_17⟩
def x97_12 : List sx_E := (.nop, 12, 14, [], .int (nI 30)) :: x97_14
theorem ox97_12 : sx_oks 97 x97_12 := ⟨sx_k_bipush (sx_dd bb_97 dX7_check_12) (by decide +kernel), ox97_14⟩
def x97_11 : List sx_E := (.nop, 11, 12, [], .int (nI 1)) :: x97_12
theorem ox97_11 : sx_oks 97 x97_11 := ⟨sx_k_iconst (sx_dd bb_97 dX7_check_11) (by decide +kernel), ox97_12⟩
def x97_10 : List sx_E := (.iload 1, 10, 11, [], .null) :: x97_11
theorem ox97_10 : sx_oks 97 x97_10 := ⟨Or.inr ⟨_, (sx_dd bb_97 dX7_check_10), rfl, rfl⟩, ox97_11⟩
def x97_7 : List sx_E := (.putfield 57, 7, 10, [6, 11, 0], .null) :: x97_10
theorem ox97_7 : sx_oks 97 x97_7 := ⟨sx_q_put (w := (RX7, TX7, 12)) (ty0 := tyX7) (sx_dd bb_97 dX7_check_7) rfl (Nat.le_of_ble_eq_true rfl) cu_6 (sx_ow3 oo_97 fl_StrawGarrison_57) (by decide +kernel) tyX7_ok nmX7 (Or.inl rfl) (fun _ => rfl) (fun h => absurd h (by decide)) (fun h => absurd h (by decide)), ox97_10⟩
def x97_6 : List sx_E := (.nop, 6, 7, [], .int (nI 0)) :: x97_7
theorem ox97_6 : sx_oks 97 x97_6 := ⟨sx_k_iconst (sx_dd bb_97 dX7_check_6) (by decide +kernel), ox97_7⟩
def x97_5 : List sx_E := (.aload 0, 5, 6, [], .null) :: x97_6
theorem ox97_5 : sx_oks 97 x97_5 := ⟨Or.inr ⟨_, (sx_dd bb_97 dX7_check_5), rfl, rfl⟩, ox97_6⟩
def x97_4 : List sx_E := (.istore 2, 4, 5, [], .null) :: x97_5
theorem ox97_4 : sx_oks 97 x97_4 := ⟨⟨sx_lt mm_97 (Nat.le_of_ble_eq_true rfl), Or.inr ⟨_, (sx_dd bb_97 dX7_check_4), rfl, rfl⟩⟩, ox97_5⟩
def x97_1 : List sx_E := (.getfield 57, 1, 4, [6, 11, 0], .null) :: x97_4
theorem ox97_1 : sx_oks 97 x97_1 := ⟨sx_q_get (w := (RX7, TX7, 12)) (sx_dd bb_97 dX7_check_1) rfl rfl (Nat.le_of_ble_eq_true rfl) cu_6 (sx_ow3 oo_97 fl_StrawGarrison_57) (by decide +kernel), ox97_4⟩
def x97_0 : List sx_E := (.aload 0, 0, 1, [], .null) :: x97_1
theorem ox97_0 : sx_oks 97 x97_0 := ⟨Or.inr ⟨_, (sx_dd bb_97 dX7_check_0), rfl, rfl⟩, ox97_1⟩
theorem m97 : sx_mok 97 x97_0 := ⟨ox97_0, by decide +kernel⟩
