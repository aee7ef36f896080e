theorem bb_147 : sx_by 147 = cX8_rises := rfl
theorem oo_147 : (sx_nm 147).cls = "StrawGarrisonModel" := rfl
theorem mm_147 : sx_ml 147 = 3 := rfl
theorem rr_147 : sx_rt 147 = none := rfl
def x147_64 : List sx_E := (.return_, 64, 65, [], .null) :: []
theorem ox147_64 : sx_oks 147 x147_64 := ⟨⟨(sx_dd bb_147 dX8_rises_64), rr_147⟩, trivial⟩
def x147_61 : List sx_E := (.invokevirtual 76, 61, 64, [120, 4, 0, 0, 7], .null) :: x147_64
theorem ox147_61 : sx_oks 147 x147_61 := ⟨sx_q_V (w := (RX8, TX8, 31)) (sx_dd bb_147 dX8_rises_61) oo_147 lk_StrawGarrisonModel_76_V ft_120_h (Nat.le_of_ble_eq_true rfl) rfl rfl, ox147_64⟩
def x147_60 : List sx_E := (.nop, 60, 61, [], .int (nI 1)) :: x147_61
theorem ox147_60 : sx_oks 147 x147_60 := ⟨sx_k_iconst (sx_dd bb_147 dX8_rises_60) (by decide +kernel), ox147_61⟩
def x147_59 : List sx_E := (.nop, 59, 60, [], .int (nI 4)) :: x147_60
theorem ox147_59 : sx_oks 147 x147_59 := ⟨sx_k_iconst (sx_dd bb_147 dX8_rises_59) (by decide +kernel), ox147_60⟩
def x147_58 : List sx_E := (.iload 2, 58, 59, [], .null) :: x147_59
theorem ox147_58 : sx_oks 147 x147_58 := ⟨Or.inr ⟨_, (sx_dd bb_147 dX8_rises_58), rfl, rfl⟩, ox147_59⟩
def x147_57 : List sx_E := (.aload 0, 57, 58, [], .null) :: x147_58
theorem ox147_57 : sx_oks 147 x147_57 := ⟨Or.inr ⟨_, (sx_dd bb_147 dX8_rises_57), rfl, rfl⟩, ox147_58⟩
def x147_54 : List sx_E := (.if_icmp .ge (10), 54, 57, [64], .null) :: x147_57
theorem ox147_54 : sx_oks 147 x147_54 := ⟨⟨(sx_dd bb_147 dX8_rises_54), rfl, sx_t1 (by decide +kernel)⟩, ox147_57⟩
def x147_53 : List sx_E := (.iaload, 53, 54, [], .null) :: x147_54
theorem ox147_53 : sx_oks 147 x147_53 := ⟨⟨(sx_dd bb_147 dX8_rises_53), rfl⟩, ox147_54⟩
def x147_52 : List sx_E := (.nop, 52, 53, [], .int (nI 0)) :: x147_53
theorem ox147_52 : sx_oks 147 x147_52 := ⟨sx_k_iconst (sx_dd bb_147 dX8_rises_52) (by decide +kernel), ox147_53⟩
def x147_49 : List sx_E := (.getfield 7, 49, 52, [7, 0, 1], .null) :: x147_52
theorem ox147_49 : sx_oks 147 x147_49 := ⟨sx_q_get (w := (RX8, TX8, 31)) (sx_dd bb_147 dX8_rises_49) rfl rfl (Nat.le_of_ble_eq_true rfl) cu_7 (sx_ow3 oo_147 fl_StrawGarrisonModel_7) (by decide +kernel), ox147_52⟩
def x147_48 : List sx_E := (.aload 0, 48, 49, [], .null) :: x147_49
theorem ox147_48 : sx_oks 147 x147_48 := ⟨Or.inr ⟨_, (sx_dd bb_147 dX8_rises_48), rfl, rfl⟩, ox147_49⟩
def x147_47 : List sx_E := (.iload 2, 47, 48, [], .null) :: x147_48
theorem ox147_47 : sx_oks 147 x147_47 := ⟨Or.inr ⟨_, (sx_dd bb_147 dX8_rises_47), rfl, rfl⟩, ox147_48⟩
def x147_44 : List sx_E := (.goto (-42), 44, 47, [2], .null) :: x147_47
theorem ox147_44 : sx_oks 147 x147_44 := ⟨⟨(sx_dd bb_147 dX8_rises_44), sx_t1 (by decide +kernel)⟩, ox147_47⟩
def x147_41 : List sx_E := (.iinc 2 (1), 41, 44, [], .int (nI 1)) :: x147_44
theorem ox147_41 : sx_oks 147 x147_41 := ⟨⟨sx_lt mm_147 (Nat.le_of_ble_eq_true rfl), (sx_dd bb_147 dX8_rises_41), rfl, by decide +kernel⟩, ox147_44⟩
def x147_38 : List sx_E := (.if_icmp .le (9), 38, 41, [47], .null) :: x147_41
theorem ox147_38 : sx_oks 147 x147_38 := ⟨⟨(sx_dd bb_147 dX8_rises_38), rfl, sx_t1 (by decide +kernel)⟩, ox147_41⟩
def x147_37 : List sx_E := (.nop, 37, 38, [], .int (nI 2)) :: x147_38
theorem ox147_37 : sx_oks 147 x147_37 := ⟨sx_k_iconst (sx_dd bb_147 dX8_rises_37) (by decide +kernel), ox147_38⟩
def x147_34 : List sx_E := (.invokestatic 154, 34, 37, [116, 2, 0, 0], .null) :: x147_37
theorem ox147_34 : sx_oks 147 x147_34 := ⟨sx_q_S (sx_dd bb_147 dX8_rises_34) oo_147 lk_StrawGarrisonModel_154_S ft_116_h, ox147_37⟩
def x147_31 : List sx_E := (.invokevirtual 72, 31, 34, [119, 3, 0, 0, 7], .null) :: x147_34
theorem ox147_31 : sx_oks 147 x147_31 := ⟨sx_q_V (w := (RX8, TX8, 31)) (sx_dd bb_147 dX8_rises_31) oo_147 lk_StrawGarrisonModel_72_V ft_119_h (Nat.le_of_ble_eq_true rfl) rfl rfl, ox147_34⟩
def x147_30 : List sx_E := (.nop, 30, 31, [], .int (nI 1)) :: x147_31
theorem ox147_30 : sx_oks 147 x147_30 := ⟨sx_k_iconst (sx_dd bb_147 dX8_rises_30) (by decide +kernel), ox147_31⟩
def x147_29 : List sx_E := (.iload 1, 29, 30, [], .null) :: x147_30
theorem ox147_29 : sx_oks 147 x147_29 := ⟨Or.inr ⟨_, (sx_dd bb_147 dX8_rises_29), rfl, rfl⟩, ox147_30⟩
def x147_28 : List sx_E := (.aload 0, 28, 29, [], .null) :: x147_29
theorem ox147_28 : sx_oks 147 x147_28 := ⟨Or.inr ⟨_, (sx_dd bb_147 dX8_rises_28), rfl, rfl⟩, ox147_29⟩
def x147_25 : List sx_E := (.invokevirtual 72, 25, 28, [119, 3, 0, 0, 7], .null) :: x147_28
theorem ox147_25 : sx_oks 147 x147_25 := ⟨sx_q_V (w := (RX8, TX8, 31)) (sx_dd bb_147 dX8_rises_25) oo_147 lk_StrawGarrisonModel_72_V ft_119_h (Nat.le_of_ble_eq_true rfl) rfl rfl, ox147_28⟩
def x147_24 : List sx_E := (.nop, 24, 25, [], .int (nI 1)) :: x147_25
theorem ox147_24 : sx_oks 147 x147_24 := ⟨sx_k_iconst (sx_dd bb_147 dX8_rises_24) (by decide +kernel), ox147_25⟩
def x147_23 : List sx_E := (.iload 2, 23, 24, [], .null) :: x147_24
theorem ox147_23 : sx_oks 147 x147_23 := ⟨Or.inr ⟨_, (sx_dd bb_147 dX8_rises_23), rfl, rfl⟩, ox147_24⟩
def x147_22 : List sx_E := (.aload 0, 22, 23, [], .null) :: x147_23
theorem ox147_22 : sx_oks 147 x147_22 := ⟨Or.inr ⟨_, (sx_dd bb_147 dX8_rises_22), rfl, rfl⟩, ox147_23⟩
def x147_19 : List sx_E := (.if_icmp .eq (22), 19, 22, [41], .null) :: x147_22
theorem ox147_19 : sx_oks 147 x147_19 := ⟨⟨(sx_dd bb_147 dX8_rises_19), rfl, sx_t1 (by decide +kernel)⟩, ox147_22⟩
def x147_18 : List sx_E := (.nop, 18, 19, [], .int (nI 1)) :: x147_19
theorem ox147_18 : sx_oks 147 x147_18 := ⟨sx_k_iconst (sx_dd bb_147 dX8_rises_18) (by decide +kernel), ox147_19⟩
def x147_15 : List sx_E := (.invokevirtual 72, 15, 18, [119, 3, 0, 0, 7], .null) :: x147_18
theorem ox147_15 : sx_oks 147 x147_15 := ⟨sx_q_V (w := (RX8, TX8, 31)) (sx_dd bb_147 dX8_rises_15) oo_147 lk_StrawGarrisonModel_72_V ft_119_h (Nat.le_of_ble_eq_true rfl) rfl rfl, ox147_18⟩
def x147_14 : List sx_E := (.nop, 14, 15, [], .int (nI 4)) :: x147_15
theorem ox147_14 : sx_oks 147 x147_14 := ⟨sx_k_iconst (sx_dd bb_147 dX8_rises_14) (by decide +kernel), ox147_15⟩
def x147_13 : List sx_E := (.iload 2, 13, 14, [], .null) :: x147_14
theorem ox147_13 : sx_oks 147 x147_13 := ⟨Or.inr ⟨_, (sx_dd bb_147 dX8_rises_13), rfl, rfl⟩, ox147_14⟩
def x147_12 : List sx_E := (.aload 0, 12, 13, [], .null) :: x147_13
theorem ox147_12 : sx_oks 147 x147_12 := ⟨Or.inr ⟨_, (sx_dd bb_147 dX8_rises_12), rfl, rfl⟩, ox147_13⟩
def x147_9 : List sx_E := (.if_icmp .ge (38), 9, 12, [47], .null) :: x147_12
theorem ox147_9 : sx_oks 147 x147_9 := ⟨⟨(sx_dd bb_147 dX8_rises_9), rfl, sx_t1 (by decide +kernel)⟩, ox147_12⟩
def x147_8 : List sx_E := (.iaload, 8, 9, [], .null) :: x147_9
theorem ox147_8 : sx_oks 147 x147_8 := ⟨⟨(sx_dd bb_147 dX8_rises_8), rfl⟩, ox147_9⟩
def x147_7 : List sx_E := (.nop, 7, 8, [], .int (nI 0)) :: x147_8
theorem ox147_7 : sx_oks 147 x147_7 := ⟨sx_k_iconst (sx_dd bb_147 dX8_rises_7) (by decide +kernel), ox147_8⟩
def x147_4 : List sx_E := (.getfield 7, 4, 7, [7, 0, 1], .null) :: x147_7
theorem ox147_4 : sx_oks 147 x147_4 := ⟨sx_q_get (w := (RX8, TX8, 31)) (sx_dd bb_147 dX8_rises_4) rfl rfl (Nat.le_of_ble_eq_true rfl) cu_7 (sx_ow3 oo_147 fl_StrawGarrisonModel_7) (by decide +kernel), ox147_7⟩
def x147_3 : List sx_E := (.aload 0, 3, 4, [], .null) :: x147_4
theorem ox147_3 : sx_oks 147 x147_3 := ⟨Or.inr ⟨_, (sx_dd bb_147 dX8_rises_3), rfl, rfl⟩, ox147_4⟩
def x147_2 : List sx_E := (.iload 2, 2, 3, [], .null) :: x147_3
theorem ox147_2 : sx_oks 147 x147_2 := ⟨Or.inr ⟨_, (sx_dd bb_147 dX8_rises_2), rfl, rfl⟩, ox147_3⟩
def x147_2h : List sx_E := (.monitorenter, 2, 2, [0, 1, 2], .null) :: x147_2
theorem ox147_2h : sx_oks 147 x147_2h := ⟨trivial, ox147_2⟩
def x147_1 : List sx_E := (.istore 2, 1, 2, [], .null) :: x147_2h
theorem ox147_1 : sx_oks 147 x147_1 := ⟨⟨sx_lt mm_147 (Nat.le_of_ble_eq_true rfl), Or.inr ⟨_, (sx_dd bb_147 dX8_rises_1), rfl, rfl⟩⟩, ox147_2h⟩
def x147_0 : List sx_E := (.nop, 0, 1, [], .int (nI 0)) :: x147_1
theorem ox147_0 : sx_oks 147 x147_0 := ⟨sx_k_iconst (sx_dd bb_147 dX8_rises_0) (by decide +kernel), ox147_1⟩
theorem m147 : sx_mok 147 x147_0 := ⟨ox147_0, by decide +kernel⟩
theorem bb_148 : sx_by 148 = cX8_watches := rfl
theorem oo_148 : (sx_nm 148).cls = "StrawGarrisonModel" := rfl
theorem mm_148 : sx_ml 148 = 4 := rfl
theorem rr_148 : sx_rt 148 = none := rfl
def x148_96 : List sx_E := (.return_, 96, 97, [], .null) :: []
theorem ox148_96 : sx_oks 148 x148_96 := ⟨⟨(sx_dd bb_148 dX8_watches_96), rr_148⟩, trivial⟩
def x148_93 : List sx_E := (.goto (-83), 93, 96, [10], .null) :: x148_96
theorem ox148_93 : sx_oks 148 x148_93 := ⟨⟨(sx_dd bb_148 dX8_watches_93), sx_t1 (by decide +kernel)⟩, ox148_96⟩
def x148_90 : List sx_E := (.iinc 2 (1), 90, 93, [], .int (nI 1)) :: x148_93
theorem ox148_90 : sx_oks 148 x148_90 := ⟨⟨sx_lt mm_148 (Nat.le_of_ble_eq_true rfl), (sx_dd bb_148 dX8_watches_90), rfl, by decide +kernel⟩, ox148_93⟩
def x148_87 : List sx_E := (.invokevirtual 76, 87, 90, [120, 4, 0, 0, 7], .null) :: x148_90
theorem ox148_87 : sx_oks 148 x148_87 := ⟨sx_q_V (w := (RX8, TX8, 31)) (sx_dd bb_148 dX8_watches_87) oo_148 lk_StrawGarrisonModel_76_V ft_120_h (Nat.le_of_ble_eq_true rfl) rfl rfl, ox148_90⟩
def x148_84 : List sx_E := (.invokestatic 104, 84, 87, [115, 2, 0, 0], .null) :: x148_87
theorem ox148_84 : sx_oks 148 x148_84 := ⟨sx_q_S (sx_dd bb_148 dX8_watches_84) oo_148 lk_StrawGarrisonModel_104_S ft_115_h, ox148_87⟩
def x148_82 : List sx_E := (.nop, 82, 84, [], .int (nI 99)) :: x148_84
theorem ox148_82 : sx_oks 148 x148_82 := ⟨sx_k_bipush (sx_dd bb_148 dX8_watches_82) (by decide +kernel), ox148_84⟩
def x148_81 : List sx_E := (.iadd, 81, 82, [], .null) :: x148_82
theorem ox148_81 : sx_oks 148 x148_81 := ⟨⟨(sx_dd bb_148 dX8_watches_81), rfl⟩, ox148_82⟩
def x148_80 : List sx_E := (.iload 3, 80, 81, [], .null) :: x148_81
theorem ox148_80 : sx_oks 148 x148_80 := ⟨Or.inr ⟨_, (sx_dd bb_148 dX8_watches_80), rfl, rfl⟩, ox148_81⟩
def x148_77 : List sx_E := (.invokevirtual 72, 77, 80, [119, 3, 0, 0, 7], .null) :: x148_80
theorem ox148_77 : sx_oks 148 x148_77 := ⟨sx_q_V (w := (RX8, TX8, 31)) (sx_dd bb_148 dX8_watches_77) oo_148 lk_StrawGarrisonModel_72_V ft_119_h (Nat.le_of_ble_eq_true rfl) rfl rfl, ox148_80⟩
def x148_76 : List sx_E := (.nop, 76, 77, [], .int (nI 3)) :: x148_77
theorem ox148_76 : sx_oks 148 x148_76 := ⟨sx_k_iconst (sx_dd bb_148 dX8_watches_76) (by decide +kernel), ox148_77⟩
def x148_75 : List sx_E := (.iload 2, 75, 76, [], .null) :: x148_76
theorem ox148_75 : sx_oks 148 x148_75 := ⟨Or.inr ⟨_, (sx_dd bb_148 dX8_watches_75), rfl, rfl⟩, ox148_76⟩
def x148_74 : List sx_E := (.aload 0, 74, 75, [], .null) :: x148_75
theorem ox148_74 : sx_oks 148 x148_74 := ⟨Or.inr ⟨_, (sx_dd bb_148 dX8_watches_74), rfl, rfl⟩, ox148_75⟩
def x148_73 : List sx_E := (.nop, 73, 74, [], .int (nI 3)) :: x148_74
theorem ox148_73 : sx_oks 148 x148_73 := ⟨sx_k_iconst (sx_dd bb_148 dX8_watches_73) (by decide +kernel), ox148_74⟩
def x148_72 : List sx_E := (.iload 2, 72, 73, [], .null) :: x148_73
theorem ox148_72 : sx_oks 148 x148_72 := ⟨Or.inr ⟨_, (sx_dd bb_148 dX8_watches_72), rfl, rfl⟩, ox148_73⟩
def x148_71 : List sx_E := (.aload 0, 71, 72, [], .null) :: x148_72
theorem ox148_71 : sx_oks 148 x148_71 := ⟨Or.inr ⟨_, (sx_dd bb_148 dX8_watches_71), rfl, rfl⟩, ox148_72⟩
def x148_70 : List sx_E := (.istore 3, 70, 71, [], .null) :: x148_71
theorem ox148_70 : sx_oks 148 x148_70 := ⟨⟨sx_lt mm_148 (Nat.le_of_ble_eq_true rfl), Or.inr ⟨_, (sx_dd bb_148 dX8_watches_70), rfl, rfl⟩⟩, ox148_71⟩
def x148_68 : List sx_E := (.nop, 68, 70, [], .int ((-3))) :: x148_70
theorem ox148_68 : sx_oks 148 x148_68 := ⟨sx_k_bipush (sx_dd bb_148 dX8_watches_68) (by decide +kernel), ox148_70⟩
def x148_65 : List sx_E := (.goto (5), 65, 68, [70], .null) :: x148_68
theorem ox148_65 : sx_oks 148 x148_65 := ⟨⟨(sx_dd bb_148 dX8_watches_65), sx_t1 (by decide +kernel)⟩, ox148_68⟩
def x148_63 : List sx_E := (.nop, 63, 65, [], .int (nI 9)) :: x148_65
theorem ox148_63 : sx_oks 148 x148_63 := ⟨sx_k_bipush (sx_dd bb_148 dX8_watches_63) (by decide +kernel), ox148_65⟩
def x148_60 : List sx_E := (.if_icmp .ge (8), 60, 63, [68], .null) :: x148_63
theorem ox148_60 : sx_oks 148 x148_60 := ⟨⟨(sx_dd bb_148 dX8_watches_60), rfl, sx_t1 (by decide +kernel)⟩, ox148_63⟩
def x148_58 : List sx_E := (.nop, 58, 60, [], .int (nI 40)) :: x148_60
theorem ox148_58 : sx_oks 148 x148_58 := ⟨sx_k_bipush (sx_dd bb_148 dX8_watches_58) (by decide +kernel), ox148_60⟩
def x148_55 : List sx_E := (.invokevirtual 115, 55, 58, [130, 2, 0, 0, 7], .null) :: x148_58
theorem ox148_55 : sx_oks 148 x148_55 := ⟨sx_q_V (w := (RX8, TX8, 31)) (sx_dd bb_148 dX8_watches_55) oo_148 lk_StrawGarrisonModel_115_V ft_130_h (Nat.le_of_ble_eq_true rfl) rfl rfl, ox148_58⟩
def x148_54 : List sx_E := (.iload 2, 54, 55, [], .null) :: x148_55
theorem ox148_54 : sx_oks 148 x148_54 := ⟨Or.inr ⟨_, (sx_dd bb_148 dX8_watches_54), rfl, rfl⟩, ox148_55⟩
def x148_53 : List sx_E := (.aload 0, 53, 54, [], .null) :: x148_54
theorem ox148_53 : sx_oks 148 x148_53 := ⟨Or.inr ⟨_, (sx_dd bb_148 dX8_watches_53), rfl, rfl⟩, ox148_54⟩
def x148_50 : List sx_E := (.goto (20), 50, 53, [70], .null) :: x148_53
theorem ox148_50 : sx_oks 148 x148_50 := ⟨⟨(sx_dd bb_148 dX8_watches_50), sx_t1 (by decide +kernel)⟩, ox148_53⟩
def x148_48 : List sx_E := (.nop, 48, 50, [], .int (nI 20)) :: x148_50
theorem ox148_48 : sx_oks 148 x148_48 := ⟨sx_k_bipush (sx_dd bb_148 dX8_watches_48) (by decide +kernel), ox148_50⟩
def x148_45 : List sx_E := (.ifCond .ne (8), 45, 48, [53], .null) :: x148_48
theorem ox148_45 : sx_oks 148 x148_45 := ⟨⟨(sx_dd bb_148 dX8_watches_45), rfl, sx_t1 (by decide +kernel)⟩, ox148_48⟩
def x148_42 : List sx_E := (.invokevirtual 72, 42, 45, [119, 3, 0, 0, 7], .null) :: x148_45
theorem ox148_42 : sx_oks 148 x148_42 := ⟨sx_q_V (w := (RX8, TX8, 31)) (sx_dd bb_148 dX8_watches_42) oo_148 lk_StrawGarrisonModel_72_V ft_119_h (Nat.le_of_ble_eq_true rfl) rfl rfl, ox148_45⟩
def x148_41 : List sx_E := (.nop, 41, 42, [], .int (nI 4)) :: x148_42
theorem ox148_41 : sx_oks 148 x148_41 := ⟨sx_k_iconst (sx_dd bb_148 dX8_watches_41) (by decide +kernel), ox148_42⟩
def x148_40 : List sx_E := (.iload 2, 40, 41, [], .null) :: x148_41
theorem ox148_40 : sx_oks 148 x148_40 := ⟨Or.inr ⟨_, (sx_dd bb_148 dX8_watches_40), rfl, rfl⟩, ox148_41⟩
def x148_39 : List sx_E := (.aload 0, 39, 40, [], .null) :: x148_40
theorem ox148_39 : sx_oks 148 x148_39 := ⟨Or.inr ⟨_, (sx_dd bb_148 dX8_watches_39), rfl, rfl⟩, ox148_40⟩
def x148_36 : List sx_E := (.if_icmp .gt (54), 36, 39, [90], .null) :: x148_39
theorem ox148_36 : sx_oks 148 x148_36 := ⟨⟨(sx_dd bb_148 dX8_watches_36), rfl, sx_t1 (by decide +kernel)⟩, ox148_39⟩
def x148_35 : List sx_E := (.iaload, 35, 36, [], .null) :: x148_36
theorem ox148_35 : sx_oks 148 x148_35 := ⟨⟨(sx_dd bb_148 dX8_watches_35), rfl⟩, ox148_36⟩
def x148_34 : List sx_E := (.nop, 34, 35, [], .int (nI 3)) :: x148_35
theorem ox148_34 : sx_oks 148 x148_34 := ⟨sx_k_iconst (sx_dd bb_148 dX8_watches_34) (by decide +kernel), ox148_35⟩
def x148_31 : List sx_E := (.getfield 7, 31, 34, [7, 0, 1], .null) :: x148_34
theorem ox148_31 : sx_oks 148 x148_31 := ⟨sx_q_get (w := (RX8, TX8, 31)) (sx_dd bb_148 dX8_watches_31) rfl rfl (Nat.le_of_ble_eq_true rfl) cu_7 (sx_ow3 oo_148 fl_StrawGarrisonModel_7) (by decide +kernel), ox148_34⟩
def x148_30 : List sx_E := (.aload 0, 30, 31, [], .null) :: x148_31
theorem ox148_30 : sx_oks 148 x148_30 := ⟨Or.inr ⟨_, (sx_dd bb_148 dX8_watches_30), rfl, rfl⟩, ox148_31⟩
def x148_27 : List sx_E := (.invokestatic 154, 27, 30, [116, 2, 0, 0], .null) :: x148_30
theorem ox148_27 : sx_oks 148 x148_27 := ⟨sx_q_S (sx_dd bb_148 dX8_watches_27) oo_148 lk_StrawGarrisonModel_154_S ft_116_h, ox148_30⟩
def x148_26 : List sx_E := (.iload 1, 26, 27, [], .null) :: x148_27
theorem ox148_26 : sx_oks 148 x148_26 := ⟨Or.inr ⟨_, (sx_dd bb_148 dX8_watches_26), rfl, rfl⟩, ox148_27⟩
def x148_23 : List sx_E := (.invokevirtual 72, 23, 26, [119, 3, 0, 0, 7], .null) :: x148_26
theorem ox148_23 : sx_oks 148 x148_23 := ⟨sx_q_V (w := (RX8, TX8, 31)) (sx_dd bb_148 dX8_watches_23) oo_148 lk_StrawGarrisonModel_72_V ft_119_h (Nat.le_of_ble_eq_true rfl) rfl rfl, ox148_26⟩
def x148_22 : List sx_E := (.nop, 22, 23, [], .int (nI 1)) :: x148_23
theorem ox148_22 : sx_oks 148 x148_22 := ⟨sx_k_iconst (sx_dd bb_148 dX8_watches_22) (by decide +kernel), ox148_23⟩
def x148_21 : List sx_E := (.iload 2, 21, 22, [], .null) :: x148_22
theorem ox148_21 : sx_oks 148 x148_21 := ⟨Or.inr ⟨_, (sx_dd bb_148 dX8_watches_21), rfl, rfl⟩, ox148_22⟩
def x148_20 : List sx_E := (.aload 0, 20, 21, [], .null) :: x148_21
theorem ox148_20 : sx_oks 148 x148_20 := ⟨Or.inr ⟨_, (sx_dd bb_148 dX8_watches_20), rfl, rfl⟩, ox148_21⟩
def x148_17 : List sx_E := (.if_icmp .ge (79), 17, 20, [96], .null) :: x148_20
theorem ox148_17 : sx_oks 148 x148_17 := ⟨⟨(sx_dd bb_148 dX8_watches_17), rfl, sx_t1 (by decide +kernel)⟩, ox148_20⟩
def x148_16 : List sx_E := (.iaload, 16, 17, [], .null) :: x148_17
theorem ox148_16 : sx_oks 148 x148_16 := ⟨⟨(sx_dd bb_148 dX8_watches_16), rfl⟩, ox148_17⟩
def x148_15 : List sx_E := (.nop, 15, 16, [], .int (nI 0)) :: x148_16
theorem ox148_15 : sx_oks 148 x148_15 := ⟨sx_k_iconst (sx_dd bb_148 dX8_watches_15) (by decide +kernel), ox148_16⟩
def x148_12 : List sx_E := (.getfield 7, 12, 15, [7, 0, 1], .null) :: x148_15
theorem ox148_12 : sx_oks 148 x148_12 := ⟨sx_q_get (w := (RX8, TX8, 31)) (sx_dd bb_148 dX8_watches_12) rfl rfl (Nat.le_of_ble_eq_true rfl) cu_7 (sx_ow3 oo_148 fl_StrawGarrisonModel_7) (by decide +kernel), ox148_15⟩
def x148_11 : List sx_E := (.aload 0, 11, 12, [], .null) :: x148_12
theorem ox148_11 : sx_oks 148 x148_11 := ⟨Or.inr ⟨_, (sx_dd bb_148 dX8_watches_11), rfl, rfl⟩, ox148_12⟩
def x148_10 : List sx_E := (.iload 2, 10, 11, [], .null) :: x148_11
theorem ox148_10 : sx_oks 148 x148_10 := ⟨Or.inr ⟨_, (sx_dd bb_148 dX8_watches_10), rfl, rfl⟩, ox148_11⟩
def x148_10h : List sx_E := (.monitorenter, 10, 10, [0, 1, 2], .null) :: x148_10
theorem ox148_10h : sx_oks 148 x148_10h := ⟨trivial, ox148_10⟩
def x148_9 : List sx_E := (.istore 2, 9, 10, [], .null) :: x148_10h
theorem ox148_9 : sx_oks 148 x148_9 := ⟨⟨sx_lt mm_148 (Nat.le_of_ble_eq_true rfl), Or.inr ⟨_, (sx_dd bb_148 dX8_watches_9), rfl, rfl⟩⟩, ox148_10h⟩
def x148_8 : List sx_E := (.nop, 8, 9, [], .int (nI 0)) :: x148_9
theorem ox148_8 : sx_oks 148 x148_8 := ⟨sx_k_iconst (sx_dd bb_148 dX8_watches_8) (by decide +kernel), ox148_9⟩
def x148_7 : List sx_E := (.istore 1, 7, 8, [], .null) :: x148_8
theorem ox148_7 : sx_oks 148 x148_7 := ⟨⟨sx_lt mm_148 (Nat.le_of_ble_eq_true rfl), Or.inr ⟨_, (sx_dd bb_148 dX8_watches_7), rfl, rfl⟩⟩, ox148_8⟩
def x148_6 : List sx_E := (.irem, 6, 7, [], .null) :: x148_7
theorem ox148_6 : sx_oks 148 x148_6 := ⟨⟨(sx_dd bb_148 dX8_watches_6), rfl⟩, ox148_7⟩
def x148_4 : List sx_E := (.nop, 4, 6, [], .int (nI 20)) :: x148_6
theorem ox148_4 : sx_oks 148 x148_4 := ⟨sx_k_bipush (sx_dd bb_148 dX8_watches_4) (by decide +kernel), ox148_6⟩
def x148_1 : List sx_E := (.invokevirtual 150, 1, 4, [123, 1, 0, 0, 7], .null) :: x148_4
theorem ox148_1 : sx_oks 148 x148_1 := ⟨sx_q_V (w := (RX8, TX8, 31)) (sx_dd bb_148 dX8_watches_1) oo_148 lk_StrawGarrisonModel_150_V ft_123_h (Nat.le_of_ble_eq_true rfl) rfl rfl, ox148_4⟩
def x148_0 : List sx_E := (.aload 0, 0, 1, [], .null) :: x148_1
theorem ox148_0 : sx_oks 148 x148_0 := ⟨Or.inr ⟨_, (sx_dd bb_148 dX8_watches_0), rfl, rfl⟩, ox148_1⟩
theorem m148 : sx_mok 148 x148_0 := ⟨ox148_0, by decide +kernel⟩
theorem bb_149 : sx_by 149 = cX8_goesOn := rfl
theorem oo_149 : (sx_nm 149).cls = "StrawGarrisonModel" := rfl
theorem mm_149 : sx_ml 149 = 2 := rfl
theorem rr_149 : sx_rt 149 = none := rfl
def x149_172 : List sx_E := (.return_, 172, 173, [], .null) :: []
theorem ox149_172 : sx_oks 149 x149_172 := ⟨⟨(sx_dd bb_149 dX8_goesOn_172), rr_149⟩, trivial⟩
def x149_171 : List sx_E := (.iastore, 171, 172, [], .null) :: x149_172
theorem ox149_171 : sx_oks 149 x149_171 := ⟨⟨(sx_dd bb_149 dX8_goesOn_171), rfl⟩, ox149_172⟩
def x149_170 : List sx_E := (.iadd, 170, 171, [], .null) :: x149_171
theorem ox149_170 : sx_oks 149 x149_170 := ⟨⟨(sx_dd bb_149 dX8_goesOn_170), rfl⟩, ox149_171⟩
def x149_169 : List sx_E := (.nop, 169, 170, [], .int (nI 1)) :: x149_170
theorem ox149_169 : sx_oks 149 x149_169 := ⟨sx_k_iconst (sx_dd bb_149 dX8_goesOn_169) (by decide +kernel), ox149_170⟩
def x149_168 : List sx_E := (.iaload, 168, 169, [], .null) :: x149_169
theorem ox149_168 : sx_oks 149 x149_168 := ⟨⟨(sx_dd bb_149 dX8_goesOn_168), rfl⟩, ox149_169⟩
def x149_167 : List sx_E := (.dup2, 167, 168, [], .null) :: x149_168
theorem ox149_167 : sx_oks 149 x149_167 := ⟨⟨(sx_dd bb_149 dX8_goesOn_167), rfl⟩, ox149_168⟩
def x149_166 : List sx_E := (.nop, 166, 167, [], .int (nI 2)) :: x149_167
theorem ox149_166 : sx_oks 149 x149_166 := ⟨sx_k_iconst (sx_dd bb_149 dX8_goesOn_166) (by decide +kernel), ox149_167⟩
def x149_163 : List sx_E := (.getfield 7, 163, 166, [7, 0, 1], .null) :: x149_166
theorem ox149_163 : sx_oks 149 x149_163 := ⟨sx_q_get (w := (RX8, TX8, 31)) (sx_dd bb_149 dX8_goesOn_163) rfl rfl (Nat.le_of_ble_eq_true rfl) cu_7 (sx_ow3 oo_149 fl_StrawGarrisonModel_7) (by decide +kernel), ox149_166⟩
def x149_162 : List sx_E := (.aload 0, 162, 163, [], .null) :: x149_163
theorem ox149_162 : sx_oks 149 x149_162 := ⟨Or.inr ⟨_, (sx_dd bb_149 dX8_goesOn_162), rfl, rfl⟩, ox149_163⟩
def x149_161 : List sx_E := (.iastore, 161, 162, [], .null) :: x149_162
theorem ox149_161 : sx_oks 149 x149_161 := ⟨⟨(sx_dd bb_149 dX8_goesOn_161), rfl⟩, ox149_162⟩
def x149_160 : List sx_E := (.iadd, 160, 161, [], .null) :: x149_161
theorem ox149_160 : sx_oks 149 x149_160 := ⟨⟨(sx_dd bb_149 dX8_goesOn_160), rfl⟩, ox149_161⟩
def x149_159 : List sx_E := (.nop, 159, 160, [], .int (nI 1)) :: x149_160
theorem ox149_159 : sx_oks 149 x149_159 := ⟨sx_k_iconst (sx_dd bb_149 dX8_goesOn_159) (by decide +kernel), ox149_160⟩
def x149_158 : List sx_E := (.iaload, 158, 159, [], .null) :: x149_159
theorem ox149_158 : sx_oks 149 x149_158 := ⟨⟨(sx_dd bb_149 dX8_goesOn_158), rfl⟩, ox149_159⟩
def x149_157 : List sx_E := (.dup2, 157, 158, [], .null) :: x149_158
theorem ox149_157 : sx_oks 149 x149_157 := ⟨⟨(sx_dd bb_149 dX8_goesOn_157), rfl⟩, ox149_158⟩
def x149_155 : List sx_E := (.nop, 155, 157, [], .int (nI 9)) :: x149_157
theorem ox149_155 : sx_oks 149 x149_155 := ⟨sx_k_bipush (sx_dd bb_149 dX8_goesOn_155) (by decide +kernel), ox149_157⟩
def x149_152 : List sx_E := (.goto (5), 152, 155, [157], .null) :: x149_155
theorem ox149_152 : sx_oks 149 x149_152 := ⟨⟨(sx_dd bb_149 dX8_goesOn_152), sx_t1 (by decide +kernel)⟩, ox149_155⟩
def x149_150 : List sx_E := (.nop, 150, 152, [], .int (nI 8)) :: x149_152
theorem ox149_150 : sx_oks 149 x149_150 := ⟨sx_k_bipush (sx_dd bb_149 dX8_goesOn_150) (by decide +kernel), ox149_152⟩
def x149_147 : List sx_E := (.if_icmp .lt (8), 147, 150, [155], .null) :: x149_150
theorem ox149_147 : sx_oks 149 x149_147 := ⟨⟨(sx_dd bb_149 dX8_goesOn_147), rfl, sx_t1 (by decide +kernel)⟩, ox149_150⟩
def x149_146 : List sx_E := (.iaload, 146, 147, [], .null) :: x149_147
theorem ox149_146 : sx_oks 149 x149_146 := ⟨⟨(sx_dd bb_149 dX8_goesOn_146), rfl⟩, ox149_147⟩
def x149_144 : List sx_E := (.nop, 144, 146, [], .int (nI 6)) :: x149_146
theorem ox149_144 : sx_oks 149 x149_144 := ⟨sx_k_bipush (sx_dd bb_149 dX8_goesOn_144) (by decide +kernel), ox149_146⟩
def x149_141 : List sx_E := (.getfield 7, 141, 144, [7, 0, 1], .null) :: x149_144
theorem ox149_141 : sx_oks 149 x149_141 := ⟨sx_q_get (w := (RX8, TX8, 31)) (sx_dd bb_149 dX8_goesOn_141) rfl rfl (Nat.le_of_ble_eq_true rfl) cu_7 (sx_ow3 oo_149 fl_StrawGarrisonModel_7) (by decide +kernel), ox149_144⟩
def x149_140 : List sx_E := (.aload 0, 140, 141, [], .null) :: x149_141
theorem ox149_140 : sx_oks 149 x149_140 := ⟨Or.inr ⟨_, (sx_dd bb_149 dX8_goesOn_140), rfl, rfl⟩, ox149_141⟩
def x149_137 : List sx_E := (.invokevirtual 173, 137, 140, [145, 1, 0, 0, 7], .null) :: x149_140
theorem ox149_137 : sx_oks 149 x149_137 := ⟨sx_q_V (w := (RX8, TX8, 31)) (sx_dd bb_149 dX8_goesOn_137) oo_149 lk_StrawGarrisonModel_173_V ft_145_h (Nat.le_of_ble_eq_true rfl) rfl rfl, ox149_140⟩
def x149_136 : List sx_E := (.aload 0, 136, 137, [], .null) :: x149_137
theorem ox149_136 : sx_oks 149 x149_136 := ⟨Or.inr ⟨_, (sx_dd bb_149 dX8_goesOn_136), rfl, rfl⟩, ox149_137⟩
def x149_133 : List sx_E := (.getfield 7, 133, 136, [7, 0, 1], .null) :: x149_136
theorem ox149_133 : sx_oks 149 x149_133 := ⟨sx_q_get (w := (RX8, TX8, 31)) (sx_dd bb_149 dX8_goesOn_133) rfl rfl (Nat.le_of_ble_eq_true rfl) cu_7 (sx_ow3 oo_149 fl_StrawGarrisonModel_7) (by decide +kernel), ox149_136⟩
def x149_132 : List sx_E := (.aload 0, 132, 133, [], .null) :: x149_133
theorem ox149_132 : sx_oks 149 x149_132 := ⟨Or.inr ⟨_, (sx_dd bb_149 dX8_goesOn_132), rfl, rfl⟩, ox149_133⟩
def x149_129 : List sx_E := (.if_icmp .ge (33), 129, 132, [162], .null) :: x149_132
theorem ox149_129 : sx_oks 149 x149_129 := ⟨⟨(sx_dd bb_149 dX8_goesOn_129), rfl, sx_t1 (by decide +kernel)⟩, ox149_132⟩
def x149_128 : List sx_E := (.iaload, 128, 129, [], .null) :: x149_129
theorem ox149_128 : sx_oks 149 x149_128 := ⟨⟨(sx_dd bb_149 dX8_goesOn_128), rfl⟩, ox149_129⟩
def x149_127 : List sx_E := (.nop, 127, 128, [], .int (nI 5)) :: x149_128
theorem ox149_127 : sx_oks 149 x149_127 := ⟨sx_k_iconst (sx_dd bb_149 dX8_goesOn_127) (by decide +kernel), ox149_128⟩
def x149_124 : List sx_E := (.getfield 7, 124, 127, [7, 0, 1], .null) :: x149_127
theorem ox149_124 : sx_oks 149 x149_124 := ⟨sx_q_get (w := (RX8, TX8, 31)) (sx_dd bb_149 dX8_goesOn_124) rfl rfl (Nat.le_of_ble_eq_true rfl) cu_7 (sx_ow3 oo_149 fl_StrawGarrisonModel_7) (by decide +kernel), ox149_127⟩
def x149_123 : List sx_E := (.aload 0, 123, 124, [], .null) :: x149_124
theorem ox149_123 : sx_oks 149 x149_123 := ⟨Or.inr ⟨_, (sx_dd bb_149 dX8_goesOn_123), rfl, rfl⟩, ox149_124⟩
def x149_120 : List sx_E := (.invokevirtual 170, 120, 123, [144, 1, 0, 0, 7], .null) :: x149_123
theorem ox149_120 : sx_oks 149 x149_120 := ⟨sx_q_V (w := (RX8, TX8, 31)) (sx_dd bb_149 dX8_goesOn_120) oo_149 lk_StrawGarrisonModel_170_V ft_144_h (Nat.le_of_ble_eq_true rfl) rfl rfl, ox149_123⟩
def x149_119 : List sx_E := (.aload 0, 119, 120, [], .null) :: x149_120
theorem ox149_119 : sx_oks 149 x149_119 := ⟨Or.inr ⟨_, (sx_dd bb_149 dX8_goesOn_119), rfl, rfl⟩, ox149_120⟩
def x149_119h : List sx_E := (.monitorenter, 119, 119, [0], .null) :: x149_119
theorem ox149_119h : sx_oks 149 x149_119h := ⟨trivial, ox149_119⟩
def x149_116 : List sx_E := (.goto (-49), 116, 119, [67], .null) :: x149_119h
theorem ox149_116 : sx_oks 149 x149_116 := ⟨⟨(sx_dd bb_149 dX8_goesOn_116), sx_t1 (by decide +kernel)⟩, ox149_119h⟩
def x149_113 : List sx_E := (.iinc 1 (1), 113, 116, [], .int (nI 1)) :: x149_116
theorem ox149_113 : sx_oks 149 x149_113 := ⟨⟨sx_lt mm_149 (Nat.le_of_ble_eq_true rfl), (sx_dd bb_149 dX8_goesOn_113), rfl, by decide +kernel⟩, ox149_116⟩
def x149_110 : List sx_E := (.invokevirtual 76, 110, 113, [120, 4, 0, 0, 7], .null) :: x149_113
theorem ox149_110 : sx_oks 149 x149_110 := ⟨sx_q_V (w := (RX8, TX8, 31)) (sx_dd bb_149 dX8_goesOn_110) oo_149 lk_StrawGarrisonModel_76_V ft_120_h (Nat.le_of_ble_eq_true rfl) rfl rfl, ox149_113⟩
def x149_107 : List sx_E := (.invokestatic 104, 107, 110, [115, 2, 0, 0], .null) :: x149_110
theorem ox149_107 : sx_oks 149 x149_107 := ⟨sx_q_S (sx_dd bb_149 dX8_goesOn_107) oo_149 lk_StrawGarrisonModel_104_S ft_115_h, ox149_110⟩
def x149_105 : List sx_E := (.nop, 105, 107, [], .int (nI 99)) :: x149_107
theorem ox149_105 : sx_oks 149 x149_105 := ⟨sx_k_bipush (sx_dd bb_149 dX8_goesOn_105) (by decide +kernel), ox149_107⟩
def x149_104 : List sx_E := (.iadd, 104, 105, [], .null) :: x149_105
theorem ox149_104 : sx_oks 149 x149_104 := ⟨⟨(sx_dd bb_149 dX8_goesOn_104), rfl⟩, ox149_105⟩
def x149_103 : List sx_E := (.nop, 103, 104, [], .int (nI 3)) :: x149_104
theorem ox149_103 : sx_oks 149 x149_103 := ⟨sx_k_iconst (sx_dd bb_149 dX8_goesOn_103) (by decide +kernel), ox149_104⟩
def x149_100 : List sx_E := (.invokevirtual 72, 100, 103, [119, 3, 0, 0, 7], .null) :: x149_103
theorem ox149_100 : sx_oks 149 x149_100 := ⟨sx_q_V (w := (RX8, TX8, 31)) (sx_dd bb_149 dX8_goesOn_100) oo_149 lk_StrawGarrisonModel_72_V ft_119_h (Nat.le_of_ble_eq_true rfl) rfl rfl, ox149_103⟩
def x149_99 : List sx_E := (.nop, 99, 100, [], .int (nI 2)) :: x149_100
theorem ox149_99 : sx_oks 149 x149_99 := ⟨sx_k_iconst (sx_dd bb_149 dX8_goesOn_99) (by decide +kernel), ox149_100⟩
def x149_98 : List sx_E := (.iload 1, 98, 99, [], .null) :: x149_99
theorem ox149_98 : sx_oks 149 x149_98 := ⟨Or.inr ⟨_, (sx_dd bb_149 dX8_goesOn_98), rfl, rfl⟩, ox149_99⟩
def x149_97 : List sx_E := (.aload 0, 97, 98, [], .null) :: x149_98
theorem ox149_97 : sx_oks 149 x149_97 := ⟨Or.inr ⟨_, (sx_dd bb_149 dX8_goesOn_97), rfl, rfl⟩, ox149_98⟩
def x149_94 : List sx_E := (.goto (16), 94, 97, [110], .null) :: x149_97
theorem ox149_94 : sx_oks 149 x149_94 := ⟨⟨(sx_dd bb_149 dX8_goesOn_94), sx_t1 (by decide +kernel)⟩, ox149_97⟩
def x149_91 : List sx_E := (.invokevirtual 72, 91, 94, [119, 3, 0, 0, 7], .null) :: x149_94
theorem ox149_91 : sx_oks 149 x149_91 := ⟨sx_q_V (w := (RX8, TX8, 31)) (sx_dd bb_149 dX8_goesOn_91) oo_149 lk_StrawGarrisonModel_72_V ft_119_h (Nat.le_of_ble_eq_true rfl) rfl rfl, ox149_94⟩
def x149_90 : List sx_E := (.nop, 90, 91, [], .int (nI 2)) :: x149_91
theorem ox149_90 : sx_oks 149 x149_90 := ⟨sx_k_iconst (sx_dd bb_149 dX8_goesOn_90) (by decide +kernel), ox149_91⟩
def x149_89 : List sx_E := (.iload 1, 89, 90, [], .null) :: x149_90
theorem ox149_89 : sx_oks 149 x149_89 := ⟨Or.inr ⟨_, (sx_dd bb_149 dX8_goesOn_89), rfl, rfl⟩, ox149_90⟩
def x149_88 : List sx_E := (.aload 0, 88, 89, [], .null) :: x149_89
theorem ox149_88 : sx_oks 149 x149_88 := ⟨Or.inr ⟨_, (sx_dd bb_149 dX8_goesOn_88), rfl, rfl⟩, ox149_89⟩
def x149_85 : List sx_E := (.ifCond .eq (12), 85, 88, [97], .null) :: x149_88
theorem ox149_85 : sx_oks 149 x149_85 := ⟨⟨(sx_dd bb_149 dX8_goesOn_85), rfl, sx_t1 (by decide +kernel)⟩, ox149_88⟩
def x149_82 : List sx_E := (.invokevirtual 160, 82, 85, [131, 2, 0, 0, 7], .null) :: x149_85
theorem ox149_82 : sx_oks 149 x149_82 := ⟨sx_q_V (w := (RX8, TX8, 31)) (sx_dd bb_149 dX8_goesOn_82) oo_149 lk_StrawGarrisonModel_160_V ft_131_h (Nat.le_of_ble_eq_true rfl) rfl rfl, ox149_85⟩
def x149_81 : List sx_E := (.iload 1, 81, 82, [], .null) :: x149_82
theorem ox149_81 : sx_oks 149 x149_81 := ⟨Or.inr ⟨_, (sx_dd bb_149 dX8_goesOn_81), rfl, rfl⟩, ox149_82⟩
def x149_80 : List sx_E := (.aload 0, 80, 81, [], .null) :: x149_81
theorem ox149_80 : sx_oks 149 x149_80 := ⟨Or.inr ⟨_, (sx_dd bb_149 dX8_goesOn_80), rfl, rfl⟩, ox149_81⟩
def x149_79 : List sx_E := (.nop, 79, 80, [], .int (nI 2)) :: x149_80
theorem ox149_79 : sx_oks 149 x149_79 := ⟨sx_k_iconst (sx_dd bb_149 dX8_goesOn_79) (by decide +kernel), ox149_80⟩
def x149_78 : List sx_E := (.iload 1, 78, 79, [], .null) :: x149_79
theorem ox149_78 : sx_oks 149 x149_78 := ⟨Or.inr ⟨_, (sx_dd bb_149 dX8_goesOn_78), rfl, rfl⟩, ox149_79⟩
def x149_77 : List sx_E := (.aload 0, 77, 78, [], .null) :: x149_78
theorem ox149_77 : sx_oks 149 x149_77 := ⟨Or.inr ⟨_, (sx_dd bb_149 dX8_goesOn_77), rfl, rfl⟩, ox149_78⟩
def x149_74 : List sx_E := (.if_icmp .ge (45), 74, 77, [119], .null) :: x149_77
theorem ox149_74 : sx_oks 149 x149_74 := ⟨⟨(sx_dd bb_149 dX8_goesOn_74), rfl, sx_t1 (by decide +kernel)⟩, ox149_77⟩
def x149_73 : List sx_E := (.iaload, 73, 74, [], .null) :: x149_74
theorem ox149_73 : sx_oks 149 x149_73 := ⟨⟨(sx_dd bb_149 dX8_goesOn_73), rfl⟩, ox149_74⟩
def x149_72 : List sx_E := (.nop, 72, 73, [], .int (nI 0)) :: x149_73
theorem ox149_72 : sx_oks 149 x149_72 := ⟨sx_k_iconst (sx_dd bb_149 dX8_goesOn_72) (by decide +kernel), ox149_73⟩
def x149_69 : List sx_E := (.getfield 7, 69, 72, [7, 0, 1], .null) :: x149_72
theorem ox149_69 : sx_oks 149 x149_69 := ⟨sx_q_get (w := (RX8, TX8, 31)) (sx_dd bb_149 dX8_goesOn_69) rfl rfl (Nat.le_of_ble_eq_true rfl) cu_7 (sx_ow3 oo_149 fl_StrawGarrisonModel_7) (by decide +kernel), ox149_72⟩
def x149_68 : List sx_E := (.aload 0, 68, 69, [], .null) :: x149_69
theorem ox149_68 : sx_oks 149 x149_68 := ⟨Or.inr ⟨_, (sx_dd bb_149 dX8_goesOn_68), rfl, rfl⟩, ox149_69⟩
def x149_67 : List sx_E := (.iload 1, 67, 68, [], .null) :: x149_68
theorem ox149_67 : sx_oks 149 x149_67 := ⟨Or.inr ⟨_, (sx_dd bb_149 dX8_goesOn_67), rfl, rfl⟩, ox149_68⟩
def x149_67h : List sx_E := (.monitorenter, 67, 67, [0, 1], .null) :: x149_67
theorem ox149_67h : sx_oks 149 x149_67h := ⟨trivial, ox149_67⟩
def x149_66 : List sx_E := (.istore 1, 66, 67, [], .null) :: x149_67h
theorem ox149_66 : sx_oks 149 x149_66 := ⟨⟨sx_lt mm_149 (Nat.le_of_ble_eq_true rfl), Or.inr ⟨_, (sx_dd bb_149 dX8_goesOn_66), rfl, rfl⟩⟩, ox149_67h⟩
def x149_65 : List sx_E := (.nop, 65, 66, [], .int (nI 0)) :: x149_66
theorem ox149_65 : sx_oks 149 x149_65 := ⟨sx_k_iconst (sx_dd bb_149 dX8_goesOn_65) (by decide +kernel), ox149_66⟩
def x149_62 : List sx_E := (.if_icmp .ge (57), 62, 65, [119], .null) :: x149_65
theorem ox149_62 : sx_oks 149 x149_62 := ⟨⟨(sx_dd bb_149 dX8_goesOn_62), rfl, sx_t1 (by decide +kernel)⟩, ox149_65⟩
def x149_61 : List sx_E := (.iaload, 61, 62, [], .null) :: x149_62
theorem ox149_61 : sx_oks 149 x149_61 := ⟨⟨(sx_dd bb_149 dX8_goesOn_61), rfl⟩, ox149_62⟩
def x149_60 : List sx_E := (.nop, 60, 61, [], .int (nI 4)) :: x149_61
theorem ox149_60 : sx_oks 149 x149_60 := ⟨sx_k_iconst (sx_dd bb_149 dX8_goesOn_60) (by decide +kernel), ox149_61⟩
def x149_57 : List sx_E := (.getfield 7, 57, 60, [7, 0, 1], .null) :: x149_60
theorem ox149_57 : sx_oks 149 x149_57 := ⟨sx_q_get (w := (RX8, TX8, 31)) (sx_dd bb_149 dX8_goesOn_57) rfl rfl (Nat.le_of_ble_eq_true rfl) cu_7 (sx_ow3 oo_149 fl_StrawGarrisonModel_7) (by decide +kernel), ox149_60⟩
def x149_56 : List sx_E := (.aload 0, 56, 57, [], .null) :: x149_57
theorem ox149_56 : sx_oks 149 x149_56 := ⟨Or.inr ⟨_, (sx_dd bb_149 dX8_goesOn_56), rfl, rfl⟩, ox149_57⟩
def x149_55 : List sx_E := (.irem, 55, 56, [], .null) :: x149_56
theorem ox149_55 : sx_oks 149 x149_55 := ⟨⟨(sx_dd bb_149 dX8_goesOn_55), rfl⟩, ox149_56⟩
def x149_53 : List sx_E := (.nop, 53, 55, [], .int (nI 100)) :: x149_55
theorem ox149_53 : sx_oks 149 x149_53 := ⟨sx_k_bipush (sx_dd bb_149 dX8_goesOn_53) (by decide +kernel), ox149_55⟩
def x149_50 : List sx_E := (.invokevirtual 150, 50, 53, [123, 1, 0, 0, 7], .null) :: x149_53
theorem ox149_50 : sx_oks 149 x149_50 := ⟨sx_q_V (w := (RX8, TX8, 31)) (sx_dd bb_149 dX8_goesOn_50) oo_149 lk_StrawGarrisonModel_150_V ft_123_h (Nat.le_of_ble_eq_true rfl) rfl rfl, ox149_53⟩
def x149_49 : List sx_E := (.aload 0, 49, 50, [], .null) :: x149_50
theorem ox149_49 : sx_oks 149 x149_49 := ⟨Or.inr ⟨_, (sx_dd bb_149 dX8_goesOn_49), rfl, rfl⟩, ox149_50⟩
def x149_46 : List sx_E := (.invokevirtual 167, 46, 49, [148, 1, 0, 0, 7], .null) :: x149_49
theorem ox149_46 : sx_oks 149 x149_46 := ⟨sx_q_V (w := (RX8, TX8, 31)) (sx_dd bb_149 dX8_goesOn_46) oo_149 lk_StrawGarrisonModel_167_V ft_148_h (Nat.le_of_ble_eq_true rfl) rfl rfl, ox149_49⟩
def x149_45 : List sx_E := (.aload 0, 45, 46, [], .null) :: x149_46
theorem ox149_45 : sx_oks 149 x149_45 := ⟨Or.inr ⟨_, (sx_dd bb_149 dX8_goesOn_45), rfl, rfl⟩, ox149_46⟩
def x149_42 : List sx_E := (.goto (-36), 42, 45, [6], .null) :: x149_45
theorem ox149_42 : sx_oks 149 x149_42 := ⟨⟨(sx_dd bb_149 dX8_goesOn_42), sx_t1 (by decide +kernel)⟩, ox149_45⟩
def x149_39 : List sx_E := (.iinc 1 (1), 39, 42, [], .int (nI 1)) :: x149_42
theorem ox149_39 : sx_oks 149 x149_39 := ⟨⟨sx_lt mm_149 (Nat.le_of_ble_eq_true rfl), (sx_dd bb_149 dX8_goesOn_39), rfl, by decide +kernel⟩, ox149_42⟩
def x149_36 : List sx_E := (.invokevirtual 163, 36, 39, [147, 2, 0, 0, 7], .null) :: x149_39
theorem ox149_36 : sx_oks 149 x149_36 := ⟨sx_q_V (w := (RX8, TX8, 31)) (sx_dd bb_149 dX8_goesOn_36) oo_149 lk_StrawGarrisonModel_163_V ft_147_h (Nat.le_of_ble_eq_true rfl) rfl rfl, ox149_39⟩
def x149_35 : List sx_E := (.iload 1, 35, 36, [], .null) :: x149_36
theorem ox149_35 : sx_oks 149 x149_35 := ⟨Or.inr ⟨_, (sx_dd bb_149 dX8_goesOn_35), rfl, rfl⟩, ox149_36⟩
def x149_34 : List sx_E := (.aload 0, 34, 35, [], .null) :: x149_35
theorem ox149_34 : sx_oks 149 x149_34 := ⟨Or.inr ⟨_, (sx_dd bb_149 dX8_goesOn_34), rfl, rfl⟩, ox149_35⟩
def x149_31 : List sx_E := (.if_icmp .ne (8), 31, 34, [39], .null) :: x149_34
theorem ox149_31 : sx_oks 149 x149_31 := ⟨⟨(sx_dd bb_149 dX8_goesOn_31), rfl, sx_t1 (by decide +kernel)⟩, ox149_34⟩
def x149_30 : List sx_E := (.nop, 30, 31, [], .int (nI 1)) :: x149_31
theorem ox149_30 : sx_oks 149 x149_30 := ⟨sx_k_iconst (sx_dd bb_149 dX8_goesOn_30) (by decide +kernel), ox149_31⟩
def x149_27 : List sx_E := (.invokevirtual 72, 27, 30, [119, 3, 0, 0, 7], .null) :: x149_30
theorem ox149_27 : sx_oks 149 x149_27 := ⟨sx_q_V (w := (RX8, TX8, 31)) (sx_dd bb_149 dX8_goesOn_27) oo_149 lk_StrawGarrisonModel_72_V ft_119_h (Nat.le_of_ble_eq_true rfl) rfl rfl, ox149_30⟩
def x149_26 : List sx_E := (.nop, 26, 27, [], .int (nI 4)) :: x149_27
theorem ox149_26 : sx_oks 149 x149_26 := ⟨sx_k_iconst (sx_dd bb_149 dX8_goesOn_26) (by decide +kernel), ox149_27⟩
def x149_25 : List sx_E := (.iload 1, 25, 26, [], .null) :: x149_26
theorem ox149_25 : sx_oks 149 x149_25 := ⟨Or.inr ⟨_, (sx_dd bb_149 dX8_goesOn_25), rfl, rfl⟩, ox149_26⟩
def x149_24 : List sx_E := (.aload 0, 24, 25, [], .null) :: x149_25
theorem ox149_24 : sx_oks 149 x149_24 := ⟨Or.inr ⟨_, (sx_dd bb_149 dX8_goesOn_24), rfl, rfl⟩, ox149_25⟩
def x149_21 : List sx_E := (.ifCond .eq (18), 21, 24, [39], .null) :: x149_24
theorem ox149_21 : sx_oks 149 x149_21 := ⟨⟨(sx_dd bb_149 dX8_goesOn_21), rfl, sx_t1 (by decide +kernel)⟩, ox149_24⟩
def x149_18 : List sx_E := (.invokevirtual 160, 18, 21, [131, 2, 0, 0, 7], .null) :: x149_21
theorem ox149_18 : sx_oks 149 x149_18 := ⟨sx_q_V (w := (RX8, TX8, 31)) (sx_dd bb_149 dX8_goesOn_18) oo_149 lk_StrawGarrisonModel_160_V ft_131_h (Nat.le_of_ble_eq_true rfl) rfl rfl, ox149_21⟩
def x149_17 : List sx_E := (.iload 1, 17, 18, [], .null) :: x149_18
theorem ox149_17 : sx_oks 149 x149_17 := ⟨Or.inr ⟨_, (sx_dd bb_149 dX8_goesOn_17), rfl, rfl⟩, ox149_18⟩
def x149_16 : List sx_E := (.aload 0, 16, 17, [], .null) :: x149_17
theorem ox149_16 : sx_oks 149 x149_16 := ⟨Or.inr ⟨_, (sx_dd bb_149 dX8_goesOn_16), rfl, rfl⟩, ox149_17⟩
def x149_13 : List sx_E := (.if_icmp .ge (32), 13, 16, [45], .null) :: x149_16
theorem ox149_13 : sx_oks 149 x149_13 := ⟨⟨(sx_dd bb_149 dX8_goesOn_13), rfl, sx_t1 (by decide +kernel)⟩, ox149_16⟩
def x149_12 : List sx_E := (.iaload, 12, 13, [], .null) :: x149_13
theorem ox149_12 : sx_oks 149 x149_12 := ⟨⟨(sx_dd bb_149 dX8_goesOn_12), rfl⟩, ox149_13⟩
def x149_11 : List sx_E := (.nop, 11, 12, [], .int (nI 0)) :: x149_12
theorem ox149_11 : sx_oks 149 x149_11 := ⟨sx_k_iconst (sx_dd bb_149 dX8_goesOn_11) (by decide +kernel), ox149_12⟩
def x149_8 : List sx_E := (.getfield 7, 8, 11, [7, 0, 1], .null) :: x149_11
theorem ox149_8 : sx_oks 149 x149_8 := ⟨sx_q_get (w := (RX8, TX8, 31)) (sx_dd bb_149 dX8_goesOn_8) rfl rfl (Nat.le_of_ble_eq_true rfl) cu_7 (sx_ow3 oo_149 fl_StrawGarrisonModel_7) (by decide +kernel), ox149_11⟩
def x149_7 : List sx_E := (.aload 0, 7, 8, [], .null) :: x149_8
theorem ox149_7 : sx_oks 149 x149_7 := ⟨Or.inr ⟨_, (sx_dd bb_149 dX8_goesOn_7), rfl, rfl⟩, ox149_8⟩
def x149_6 : List sx_E := (.iload 1, 6, 7, [], .null) :: x149_7
theorem ox149_6 : sx_oks 149 x149_6 := ⟨Or.inr ⟨_, (sx_dd bb_149 dX8_goesOn_6), rfl, rfl⟩, ox149_7⟩
def x149_6h : List sx_E := (.monitorenter, 6, 6, [0, 1], .null) :: x149_6
theorem ox149_6h : sx_oks 149 x149_6h := ⟨trivial, ox149_6⟩
def x149_5 : List sx_E := (.istore 1, 5, 6, [], .null) :: x149_6h
theorem ox149_5 : sx_oks 149 x149_5 := ⟨⟨sx_lt mm_149 (Nat.le_of_ble_eq_true rfl), Or.inr ⟨_, (sx_dd bb_149 dX8_goesOn_5), rfl, rfl⟩⟩, ox149_6h⟩
def x149_4 : List sx_E := (.nop, 4, 5, [], .int (nI 0)) :: x149_5
theorem ox149_4 : sx_oks 149 x149_4 := ⟨sx_k_iconst (sx_dd bb_149 dX8_goesOn_4) (by decide +kernel), ox149_5⟩
def x149_1 : List sx_E := (.invokevirtual 157, 1, 4, [146, 1, 0, 0, 7], .null) :: x149_4
theorem ox149_1 : sx_oks 149 x149_1 := ⟨sx_q_V (w := (RX8, TX8, 31)) (sx_dd bb_149 dX8_goesOn_1) oo_149 lk_StrawGarrisonModel_157_V ft_146_h (Nat.le_of_ble_eq_true rfl) rfl rfl, ox149_4⟩
def x149_0 : List sx_E := (.aload 0, 0, 1, [], .null) :: x149_1
theorem ox149_0 : sx_oks 149 x149_0 := ⟨Or.inr ⟨_, (sx_dd bb_149 dX8_goesOn_0), rfl, rfl⟩, ox149_1⟩
theorem m149 : sx_mok 149 x149_0 := ⟨ox149_0, by decide +kernel⟩
theorem bb_150 : sx_by 150 = cX8_goesOnMany := rfl
theorem oo_150 : (sx_nm 150).cls = "StrawGarrisonModel" := rfl
theorem mm_150 : sx_ml 150 = 3 := rfl
theorem rr_150 : sx_rt 150 = none := rfl
def x150_17 : List sx_E := (.return_, 17, 18, [], .null) :: []
theorem ox150_17 : sx_oks 150 x150_17 := ⟨⟨(sx_dd bb_150 dX8_goesOnMany_17), rr_150⟩, trivial⟩
def x150_14 : List sx_E := (.goto (-12), 14, 17, [2], .null) :: x150_17
theorem ox150_14 : sx_oks 150 x150_14 := ⟨⟨(sx_dd bb_150 dX8_goesOnMany_14), sx_t1 (by decide +kernel)⟩, ox150_17⟩
def x150_11 : List sx_E := (.iinc 2 (1), 11, 14, [], .int (nI 1)) :: x150_14
theorem ox150_11 : sx_oks 150 x150_11 := ⟨⟨sx_lt mm_150 (Nat.le_of_ble_eq_true rfl), (sx_dd bb_150 dX8_goesOnMany_11), rfl, by decide +kernel⟩, ox150_14⟩
def x150_8 : List sx_E := (.invokevirtual 176, 8, 11, [149, 1, 0, 0, 7], .null) :: x150_11
theorem ox150_8 : sx_oks 150 x150_8 := ⟨sx_q_V (w := (RX8, TX8, 31)) (sx_dd bb_150 dX8_goesOnMany_8) oo_150 lk_StrawGarrisonModel_176_V ft_149_h (Nat.le_of_ble_eq_true rfl) rfl rfl, ox150_11⟩
def x150_7 : List sx_E := (.aload 0, 7, 8, [], .null) :: x150_8
theorem ox150_7 : sx_oks 150 x150_7 := ⟨Or.inr ⟨_, (sx_dd bb_150 dX8_goesOnMany_7), rfl, rfl⟩, ox150_8⟩
def x150_4 : List sx_E := (.if_icmp .ge (13), 4, 7, [17], .null) :: x150_7
theorem ox150_4 : sx_oks 150 x150_4 := ⟨⟨(sx_dd bb_150 dX8_goesOnMany_4), rfl, sx_t1 (by decide +kernel)⟩, ox150_7⟩
def x150_3 : List sx_E := (.iload 1, 3, 4, [], .null) :: x150_4
theorem ox150_3 : sx_oks 150 x150_3 := ⟨Or.inr ⟨_, (sx_dd bb_150 dX8_goesOnMany_3), rfl, rfl⟩, ox150_4⟩
def x150_2 : List sx_E := (.iload 2, 2, 3, [], .null) :: x150_3
theorem ox150_2 : sx_oks 150 x150_2 := ⟨Or.inr ⟨_, (sx_dd bb_150 dX8_goesOnMany_2), rfl, rfl⟩, ox150_3⟩
def x150_2h : List sx_E := (.monitorenter, 2, 2, [0, 1, 2], .null) :: x150_2
theorem ox150_2h : sx_oks 150 x150_2h := ⟨trivial, ox150_2⟩
def x150_1 : List sx_E := (.istore 2, 1, 2, [], .null) :: x150_2h
theorem ox150_1 : sx_oks 150 x150_1 := ⟨⟨sx_lt mm_150 (Nat.le_of_ble_eq_true rfl), Or.inr ⟨_, (sx_dd bb_150 dX8_goesOnMany_1), rfl, rfl⟩⟩, ox150_2h⟩
def x150_0 : List sx_E := (.nop, 0, 1, [], .int (nI 0)) :: x150_1
theorem ox150_0 : sx_oks 150 x150_0 := ⟨sx_k_iconst (sx_dd bb_150 dX8_goesOnMany_0) (by decide +kernel), ox150_1⟩
theorem m150 : sx_mok 150 x150_0 := ⟨ox150_0, by decide +kernel⟩
theorem bb_151 : sx_by 151 = cX8_raids := rfl
theorem oo_151 : (sx_nm 151).cls = "StrawGarrisonModel" := rfl
theorem mm_151 : sx_ml 151 = 1 := rfl
theorem rr_151 : sx_rt 151 = (some .int) := rfl
def x151_15 : List sx_E := (.ireturn, 15, 16, [0], .null) :: []
theorem ox151_15 : sx_oks 151 x151_15 := ⟨sx_q_iret0 (sx_dd bb_151 dX8_raids_15) rr_151, trivial⟩
def x151_14 : List sx_E := (.iadd, 14, 15, [], .null) :: x151_15
theorem ox151_14 : sx_oks 151 x151_14 := ⟨⟨(sx_dd bb_151 dX8_raids_14), rfl⟩, ox151_15⟩
def x151_13 : List sx_E := (.iaload, 13, 14, [], .null) :: x151_14
theorem ox151_13 : sx_oks 151 x151_13 := ⟨⟨(sx_dd bb_151 dX8_raids_13), rfl⟩, ox151_14⟩
def x151_11 : List sx_E := (.nop, 11, 13, [], .int (nI 9)) :: x151_13
theorem ox151_11 : sx_oks 151 x151_11 := ⟨sx_k_bipush (sx_dd bb_151 dX8_raids_11) (by decide +kernel), ox151_13⟩
def x151_8 : List sx_E := (.getfield 7, 8, 11, [7, 0, 1], .null) :: x151_11
theorem ox151_8 : sx_oks 151 x151_8 := ⟨sx_q_get (w := (RX8, TX8, 31)) (sx_dd bb_151 dX8_raids_8) rfl rfl (Nat.le_of_ble_eq_true rfl) cu_7 (sx_ow3 oo_151 fl_StrawGarrisonModel_7) (by decide +kernel), ox151_11⟩
def x151_7 : List sx_E := (.aload 0, 7, 8, [], .null) :: x151_8
theorem ox151_7 : sx_oks 151 x151_7 := ⟨Or.inr ⟨_, (sx_dd bb_151 dX8_raids_7), rfl, rfl⟩, ox151_8⟩
def x151_6 : List sx_E := (.iaload, 6, 7, [], .null) :: x151_7
theorem ox151_6 : sx_oks 151 x151_6 := ⟨⟨(sx_dd bb_151 dX8_raids_6), rfl⟩, ox151_7⟩
def x151_4 : List sx_E := (.nop, 4, 6, [], .int (nI 8)) :: x151_6
theorem ox151_4 : sx_oks 151 x151_4 := ⟨sx_k_bipush (sx_dd bb_151 dX8_raids_4) (by decide +kernel), ox151_6⟩
def x151_1 : List sx_E := (.getfield 7, 1, 4, [7, 0, 1], .null) :: x151_4
theorem ox151_1 : sx_oks 151 x151_1 := ⟨sx_q_get (w := (RX8, TX8, 31)) (sx_dd bb_151 dX8_raids_1) rfl rfl (Nat.le_of_ble_eq_true rfl) cu_7 (sx_ow3 oo_151 fl_StrawGarrisonModel_7) (by decide +kernel), ox151_4⟩
def x151_0 : List sx_E := (.aload 0, 0, 1, [], .null) :: x151_1
theorem ox151_0 : sx_oks 151 x151_0 := ⟨Or.inr ⟨_, (sx_dd bb_151 dX8_raids_0), rfl, rfl⟩, ox151_1⟩
theorem m151 : sx_mok 151 x151_0 := ⟨ox151_0, by decide +kernel⟩
theorem bb_152 : sx_by 152 = cX8_seen := rfl
theorem oo_152 : (sx_nm 152).cls = "StrawGarrisonModel" := rfl
theorem mm_152 : sx_ml 152 = 4 := rfl
theorem rr_152 : sx_rt 152 = (some .int) := rfl
def x152_60 : List sx_E := (.ireturn, 60, 61, [0], .null) :: []
theorem ox152_60 : sx_oks 152 x152_60 := ⟨sx_q_iret0 (sx_dd bb_152 dX8_seen_60) rr_152, trivial⟩
def x152_59 : List sx_E := (.iload 2, 59, 60, [], .null) :: x152_60
theorem ox152_59 : sx_oks 152 x152_59 := ⟨Or.inr ⟨_, (sx_dd bb_152 dX8_seen_59), rfl, rfl⟩, ox152_60⟩
def x152_56 : List sx_E := (.goto (-42), 56, 59, [14], .null) :: x152_59
theorem ox152_56 : sx_oks 152 x152_56 := ⟨⟨(sx_dd bb_152 dX8_seen_56), sx_t1 (by decide +kernel)⟩, ox152_59⟩
def x152_53 : List sx_E := (.iinc 3 (1), 53, 56, [], .int (nI 1)) :: x152_56
theorem ox152_53 : sx_oks 152 x152_53 := ⟨⟨sx_lt mm_152 (Nat.le_of_ble_eq_true rfl), (sx_dd bb_152 dX8_seen_53), rfl, by decide +kernel⟩, ox152_56⟩
def x152_52 : List sx_E := (.istore 2, 52, 53, [], .null) :: x152_53
theorem ox152_52 : sx_oks 152 x152_52 := ⟨⟨sx_lt mm_152 (Nat.le_of_ble_eq_true rfl), Or.inr ⟨_, (sx_dd bb_152 dX8_seen_52), rfl, rfl⟩⟩, ox152_53⟩
def x152_51 : List sx_E := (.ior, 51, 52, [], .null) :: x152_52
theorem ox152_51 : sx_oks 152 x152_51 := ⟨⟨(sx_dd bb_152 dX8_seen_51), rfl⟩, ox152_52⟩
def x152_50 : List sx_E := (.nop, 50, 51, [], .int (nI 0)) :: x152_51
theorem ox152_50 : sx_oks 152 x152_50 := ⟨sx_k_iconst (sx_dd bb_152 dX8_seen_50) (by decide +kernel), ox152_51⟩
def x152_47 : List sx_E := (.goto (4), 47, 50, [51], .null) :: x152_50
theorem ox152_47 : sx_oks 152 x152_47 := ⟨⟨(sx_dd bb_152 dX8_seen_47), sx_t1 (by decide +kernel)⟩, ox152_50⟩
def x152_46 : List sx_E := (.ishl, 46, 47, [], .null) :: x152_47
theorem ox152_46 : sx_oks 152 x152_46 := ⟨⟨(sx_dd bb_152 dX8_seen_46), rfl⟩, ox152_47⟩
def x152_45 : List sx_E := (.iload 3, 45, 46, [], .null) :: x152_46
theorem ox152_45 : sx_oks 152 x152_45 := ⟨Or.inr ⟨_, (sx_dd bb_152 dX8_seen_45), rfl, rfl⟩, ox152_46⟩
def x152_44 : List sx_E := (.nop, 44, 45, [], .int (nI 1)) :: x152_45
theorem ox152_44 : sx_oks 152 x152_44 := ⟨sx_k_iconst (sx_dd bb_152 dX8_seen_44) (by decide +kernel), ox152_45⟩
def x152_41 : List sx_E := (.if_icmp .gt (9), 41, 44, [50], .null) :: x152_44
theorem ox152_41 : sx_oks 152 x152_41 := ⟨⟨(sx_dd bb_152 dX8_seen_41), rfl, sx_t1 (by decide +kernel)⟩, ox152_44⟩
def x152_40 : List sx_E := (.iaload, 40, 41, [], .null) :: x152_41
theorem ox152_40 : sx_oks 152 x152_40 := ⟨⟨(sx_dd bb_152 dX8_seen_40), rfl⟩, ox152_41⟩
def x152_39 : List sx_E := (.nop, 39, 40, [], .int (nI 3)) :: x152_40
theorem ox152_39 : sx_oks 152 x152_39 := ⟨sx_k_iconst (sx_dd bb_152 dX8_seen_39) (by decide +kernel), ox152_40⟩
def x152_36 : List sx_E := (.getfield 7, 36, 39, [7, 0, 1], .null) :: x152_39
theorem ox152_36 : sx_oks 152 x152_36 := ⟨sx_q_get (w := (RX8, TX8, 31)) (sx_dd bb_152 dX8_seen_36) rfl rfl (Nat.le_of_ble_eq_true rfl) cu_7 (sx_ow3 oo_152 fl_StrawGarrisonModel_7) (by decide +kernel), ox152_39⟩
def x152_35 : List sx_E := (.aload 0, 35, 36, [], .null) :: x152_36
theorem ox152_35 : sx_oks 152 x152_35 := ⟨Or.inr ⟨_, (sx_dd bb_152 dX8_seen_35), rfl, rfl⟩, ox152_36⟩
def x152_32 : List sx_E := (.invokestatic 154, 32, 35, [116, 2, 0, 0], .null) :: x152_35
theorem ox152_32 : sx_oks 152 x152_32 := ⟨sx_q_S (sx_dd bb_152 dX8_seen_32) oo_152 lk_StrawGarrisonModel_154_S ft_116_h, ox152_35⟩
def x152_31 : List sx_E := (.iload 1, 31, 32, [], .null) :: x152_32
theorem ox152_31 : sx_oks 152 x152_31 := ⟨Or.inr ⟨_, (sx_dd bb_152 dX8_seen_31), rfl, rfl⟩, ox152_32⟩
def x152_28 : List sx_E := (.invokevirtual 72, 28, 31, [119, 3, 0, 0, 7], .null) :: x152_31
theorem ox152_28 : sx_oks 152 x152_28 := ⟨sx_q_V (w := (RX8, TX8, 31)) (sx_dd bb_152 dX8_seen_28) oo_152 lk_StrawGarrisonModel_72_V ft_119_h (Nat.le_of_ble_eq_true rfl) rfl rfl, ox152_31⟩
def x152_27 : List sx_E := (.nop, 27, 28, [], .int (nI 1)) :: x152_28
theorem ox152_27 : sx_oks 152 x152_27 := ⟨sx_k_iconst (sx_dd bb_152 dX8_seen_27) (by decide +kernel), ox152_28⟩
def x152_26 : List sx_E := (.iload 3, 26, 27, [], .null) :: x152_27
theorem ox152_26 : sx_oks 152 x152_26 := ⟨Or.inr ⟨_, (sx_dd bb_152 dX8_seen_26), rfl, rfl⟩, ox152_27⟩
def x152_25 : List sx_E := (.aload 0, 25, 26, [], .null) :: x152_26
theorem ox152_25 : sx_oks 152 x152_25 := ⟨Or.inr ⟨_, (sx_dd bb_152 dX8_seen_25), rfl, rfl⟩, ox152_26⟩
def x152_24 : List sx_E := (.iload 2, 24, 25, [], .null) :: x152_25
theorem ox152_24 : sx_oks 152 x152_24 := ⟨Or.inr ⟨_, (sx_dd bb_152 dX8_seen_24), rfl, rfl⟩, ox152_25⟩
def x152_21 : List sx_E := (.if_icmp .ge (38), 21, 24, [59], .null) :: x152_24
theorem ox152_21 : sx_oks 152 x152_21 := ⟨⟨(sx_dd bb_152 dX8_seen_21), rfl, sx_t1 (by decide +kernel)⟩, ox152_24⟩
def x152_20 : List sx_E := (.iaload, 20, 21, [], .null) :: x152_21
theorem ox152_20 : sx_oks 152 x152_20 := ⟨⟨(sx_dd bb_152 dX8_seen_20), rfl⟩, ox152_21⟩
def x152_19 : List sx_E := (.nop, 19, 20, [], .int (nI 0)) :: x152_20
theorem ox152_19 : sx_oks 152 x152_19 := ⟨sx_k_iconst (sx_dd bb_152 dX8_seen_19) (by decide +kernel), ox152_20⟩
def x152_16 : List sx_E := (.getfield 7, 16, 19, [7, 0, 1], .null) :: x152_19
theorem ox152_16 : sx_oks 152 x152_16 := ⟨sx_q_get (w := (RX8, TX8, 31)) (sx_dd bb_152 dX8_seen_16) rfl rfl (Nat.le_of_ble_eq_true rfl) cu_7 (sx_ow3 oo_152 fl_StrawGarrisonModel_7) (by decide +kernel), ox152_19⟩
def x152_15 : List sx_E := (.aload 0, 15, 16, [], .null) :: x152_16
theorem ox152_15 : sx_oks 152 x152_15 := ⟨Or.inr ⟨_, (sx_dd bb_152 dX8_seen_15), rfl, rfl⟩, ox152_16⟩
def x152_14 : List sx_E := (.iload 3, 14, 15, [], .null) :: x152_15
theorem ox152_14 : sx_oks 152 x152_14 := ⟨Or.inr ⟨_, (sx_dd bb_152 dX8_seen_14), rfl, rfl⟩, ox152_15⟩
def x152_14h : List sx_E := (.monitorenter, 14, 14, [0, 1, 2, 3], .null) :: x152_14
theorem ox152_14h : sx_oks 152 x152_14h := ⟨trivial, ox152_14⟩
def x152_13 : List sx_E := (.istore 3, 13, 14, [], .null) :: x152_14h
theorem ox152_13 : sx_oks 152 x152_13 := ⟨⟨sx_lt mm_152 (Nat.le_of_ble_eq_true rfl), Or.inr ⟨_, (sx_dd bb_152 dX8_seen_13), rfl, rfl⟩⟩, ox152_14h⟩
def x152_12 : List sx_E := (.nop, 12, 13, [], .int (nI 0)) :: x152_13
theorem ox152_12 : sx_oks 152 x152_12 := ⟨sx_k_iconst (sx_dd bb_152 dX8_seen_12) (by decide +kernel), ox152_13⟩
def x152_11 : List sx_E := (.istore 2, 11, 12, [], .null) :: x152_12
theorem ox152_11 : sx_oks 152 x152_11 := ⟨⟨sx_lt mm_152 (Nat.le_of_ble_eq_true rfl), Or.inr ⟨_, (sx_dd bb_152 dX8_seen_11), rfl, rfl⟩⟩, ox152_12⟩
def x152_10 : List sx_E := (.nop, 10, 11, [], .int (nI 0)) :: x152_11
theorem ox152_10 : sx_oks 152 x152_10 := ⟨sx_k_iconst (sx_dd bb_152 dX8_seen_10) (by decide +kernel), ox152_11⟩
def x152_9 : List sx_E := (.ireturn, 9, 10, [0], .null) :: x152_10
theorem ox152_9 : sx_oks 152 x152_9 := ⟨sx_q_iret0 (sx_dd bb_152 dX8_seen_9) rr_152, ox152_10⟩
def x152_7 : List sx_E := (.nop, 7, 9, [], .int ((-1000000001))) :: x152_9
theorem ox152_7 : sx_oks 152 x152_7 := ⟨sx_k_ldc (sx_dd bb_152 dX8_seen_7) (sx_ow1 oo_152 kc_StrawGarrisonModel_88), ox152_9⟩
def x152_4 : List sx_E := (.ifCond .ne (6), 4, 7, [10], .null) :: x152_7
theorem ox152_4 : sx_oks 152 x152_4 := ⟨⟨(sx_dd bb_152 dX8_seen_4), rfl, sx_t1 (by decide +kernel)⟩, ox152_7⟩
def x152_1 : List sx_E := (.invokestatic 82, 1, 4, [125, 1, 0, 0], .null) :: x152_4
theorem ox152_1 : sx_oks 152 x152_1 := ⟨sx_q_S (sx_dd bb_152 dX8_seen_1) oo_152 lk_StrawGarrisonModel_82_S ft_125_h, ox152_4⟩
def x152_0 : List sx_E := (.iload 1, 0, 1, [], .null) :: x152_1
theorem ox152_0 : sx_oks 152 x152_0 := ⟨Or.inr ⟨_, (sx_dd bb_152 dX8_seen_0), rfl, rfl⟩, ox152_1⟩
theorem m152 : sx_mok 152 x152_0 := ⟨ox152_0, by decide +kernel⟩
theorem bb_153 : sx_by 153 = cX8_nights := rfl
theorem oo_153 : (sx_nm 153).cls = "StrawGarrisonModel" := rfl
theorem mm_153 : sx_ml 153 = 4 := rfl
theorem rr_153 : sx_rt 153 = (some .int) := rfl
def x153_51 : List sx_E := (.ireturn, 51, 52, [0], .null) :: []
theorem ox153_51 : sx_oks 153 x153_51 := ⟨sx_q_iret0 (sx_dd bb_153 dX8_nights_51) rr_153, trivial⟩
def x153_50 : List sx_E := (.isub, 50, 51, [], .null) :: x153_51
theorem ox153_50 : sx_oks 153 x153_50 := ⟨⟨(sx_dd bb_153 dX8_nights_50), rfl⟩, ox153_51⟩
def x153_49 : List sx_E := (.iload 2, 49, 50, [], .null) :: x153_50
theorem ox153_49 : sx_oks 153 x153_49 := ⟨Or.inr ⟨_, (sx_dd bb_153 dX8_nights_49), rfl, rfl⟩, ox153_50⟩
def x153_46 : List sx_E := (.invokevirtual 179, 46, 49, [151, 1, 0, 0, 7], .null) :: x153_49
theorem ox153_46 : sx_oks 153 x153_46 := ⟨sx_q_V (w := (RX8, TX8, 31)) (sx_dd bb_153 dX8_nights_46) oo_153 lk_StrawGarrisonModel_179_V ft_151_h (Nat.le_of_ble_eq_true rfl) rfl rfl, ox153_49⟩
def x153_45 : List sx_E := (.aload 0, 45, 46, [], .null) :: x153_46
theorem ox153_45 : sx_oks 153 x153_45 := ⟨Or.inr ⟨_, (sx_dd bb_153 dX8_nights_45), rfl, rfl⟩, ox153_46⟩
def x153_42 : List sx_E := (.invokevirtual 182, 42, 45, [150, 2, 0, 0, 7], .null) :: x153_45
theorem ox153_42 : sx_oks 153 x153_42 := ⟨sx_q_V (w := (RX8, TX8, 31)) (sx_dd bb_153 dX8_nights_42) oo_153 lk_StrawGarrisonModel_182_V ft_150_h (Nat.le_of_ble_eq_true rfl) rfl rfl, ox153_45⟩
def x153_41 : List sx_E := (.iload 3, 41, 42, [], .null) :: x153_42
theorem ox153_41 : sx_oks 153 x153_41 := ⟨Or.inr ⟨_, (sx_dd bb_153 dX8_nights_41), rfl, rfl⟩, ox153_42⟩
def x153_38 : List sx_E := (.goto (4), 38, 41, [42], .null) :: x153_41
theorem ox153_38 : sx_oks 153 x153_38 := ⟨⟨(sx_dd bb_153 dX8_nights_38), sx_t1 (by decide +kernel)⟩, ox153_41⟩
def x153_37 : List sx_E := (.iload 1, 37, 38, [], .null) :: x153_38
theorem ox153_37 : sx_oks 153 x153_37 := ⟨Or.inr ⟨_, (sx_dd bb_153 dX8_nights_37), rfl, rfl⟩, ox153_38⟩
def x153_34 : List sx_E := (.if_icmp .ge (7), 34, 37, [41], .null) :: x153_37
theorem ox153_34 : sx_oks 153 x153_34 := ⟨⟨(sx_dd bb_153 dX8_nights_34), rfl, sx_t1 (by decide +kernel)⟩, ox153_37⟩
def x153_33 : List sx_E := (.iload 3, 33, 34, [], .null) :: x153_34
theorem ox153_33 : sx_oks 153 x153_33 := ⟨Or.inr ⟨_, (sx_dd bb_153 dX8_nights_33), rfl, rfl⟩, ox153_34⟩
def x153_32 : List sx_E := (.iload 1, 32, 33, [], .null) :: x153_33
theorem ox153_32 : sx_oks 153 x153_32 := ⟨Or.inr ⟨_, (sx_dd bb_153 dX8_nights_32), rfl, rfl⟩, ox153_33⟩
def x153_31 : List sx_E := (.aload 0, 31, 32, [], .null) :: x153_32
theorem ox153_31 : sx_oks 153 x153_31 := ⟨Or.inr ⟨_, (sx_dd bb_153 dX8_nights_31), rfl, rfl⟩, ox153_32⟩
def x153_30 : List sx_E := (.istore 3, 30, 31, [], .null) :: x153_31
theorem ox153_30 : sx_oks 153 x153_30 := ⟨⟨sx_lt mm_153 (Nat.le_of_ble_eq_true rfl), Or.inr ⟨_, (sx_dd bb_153 dX8_nights_30), rfl, rfl⟩⟩, ox153_31⟩
def x153_29 : List sx_E := (.isub, 29, 30, [], .null) :: x153_30
theorem ox153_29 : sx_oks 153 x153_29 := ⟨⟨(sx_dd bb_153 dX8_nights_29), rfl⟩, ox153_30⟩
def x153_28 : List sx_E := (.iaload, 28, 29, [], .null) :: x153_29
theorem ox153_28 : sx_oks 153 x153_28 := ⟨⟨(sx_dd bb_153 dX8_nights_28), rfl⟩, ox153_29⟩
def x153_27 : List sx_E := (.nop, 27, 28, [], .int (nI 2)) :: x153_28
theorem ox153_27 : sx_oks 153 x153_27 := ⟨sx_k_iconst (sx_dd bb_153 dX8_nights_27) (by decide +kernel), ox153_28⟩
def x153_24 : List sx_E := (.getfield 7, 24, 27, [7, 0, 1], .null) :: x153_27
theorem ox153_24 : sx_oks 153 x153_24 := ⟨sx_q_get (w := (RX8, TX8, 31)) (sx_dd bb_153 dX8_nights_24) rfl rfl (Nat.le_of_ble_eq_true rfl) cu_7 (sx_ow3 oo_153 fl_StrawGarrisonModel_7) (by decide +kernel), ox153_27⟩
def x153_23 : List sx_E := (.aload 0, 23, 24, [], .null) :: x153_24
theorem ox153_23 : sx_oks 153 x153_23 := ⟨Or.inr ⟨_, (sx_dd bb_153 dX8_nights_23), rfl, rfl⟩, ox153_24⟩
def x153_20 : List sx_E := (.nop, 20, 23, [], .int (nI 9999)) :: x153_23
theorem ox153_20 : sx_oks 153 x153_20 := ⟨sx_k_sipush (sx_dd bb_153 dX8_nights_20) (by decide +kernel), ox153_23⟩
def x153_19 : List sx_E := (.istore 2, 19, 20, [], .null) :: x153_20
theorem ox153_19 : sx_oks 153 x153_19 := ⟨⟨sx_lt mm_153 (Nat.le_of_ble_eq_true rfl), Or.inr ⟨_, (sx_dd bb_153 dX8_nights_19), rfl, rfl⟩⟩, ox153_20⟩
def x153_16 : List sx_E := (.invokevirtual 179, 16, 19, [151, 1, 0, 0, 7], .null) :: x153_19
theorem ox153_16 : sx_oks 153 x153_16 := ⟨sx_q_V (w := (RX8, TX8, 31)) (sx_dd bb_153 dX8_nights_16) oo_153 lk_StrawGarrisonModel_179_V ft_151_h (Nat.le_of_ble_eq_true rfl) rfl rfl, ox153_19⟩
def x153_15 : List sx_E := (.aload 0, 15, 16, [], .null) :: x153_16
theorem ox153_15 : sx_oks 153 x153_15 := ⟨Or.inr ⟨_, (sx_dd bb_153 dX8_nights_15), rfl, rfl⟩, ox153_16⟩
def x153_14 : List sx_E := (.ireturn, 14, 15, [0], .null) :: x153_15
theorem ox153_14 : sx_oks 153 x153_14 := ⟨sx_q_iret0 (sx_dd bb_153 dX8_nights_14) rr_153, ox153_15⟩
def x153_12 : List sx_E := (.nop, 12, 14, [], .int ((-1000000001))) :: x153_14
theorem ox153_12 : sx_oks 153 x153_12 := ⟨sx_k_ldc (sx_dd bb_153 dX8_nights_12) (sx_ow1 oo_153 kc_StrawGarrisonModel_88), ox153_14⟩
def x153_9 : List sx_E := (.ifCond .ne (6), 9, 12, [15], .null) :: x153_12
theorem ox153_9 : sx_oks 153 x153_9 := ⟨⟨(sx_dd bb_153 dX8_nights_9), rfl, sx_t1 (by decide +kernel)⟩, ox153_12⟩
def x153_6 : List sx_E := (.invokestatic 65, 6, 9, [113, 3, 0, 0], .null) :: x153_9
theorem ox153_6 : sx_oks 153 x153_6 := ⟨sx_q_S (sx_dd bb_153 dX8_nights_6) oo_153 lk_StrawGarrisonModel_65_S ft_113_h, ox153_9⟩
def x153_3 : List sx_E := (.nop, 3, 6, [], .long (100)) :: x153_6
theorem ox153_3 : sx_oks 153 x153_3 := ⟨sx_k_ldc2 (sx_dd bb_153 dX8_nights_3) (sx_ow2 oo_153 kl_StrawGarrisonModel_144), ox153_6⟩
def x153_2 : List sx_E := (.nop, 2, 3, [], .long (1)) :: x153_3
theorem ox153_2 : sx_oks 153 x153_2 := ⟨sx_k_lconst (sx_dd bb_153 dX8_nights_2) (by decide +kernel), ox153_3⟩
def x153_1 : List sx_E := (.i2l, 1, 2, [], .null) :: x153_2
theorem ox153_1 : sx_oks 153 x153_1 := ⟨⟨(sx_dd bb_153 dX8_nights_1), rfl⟩, ox153_2⟩
def x153_0 : List sx_E := (.iload 1, 0, 1, [], .null) :: x153_1
theorem ox153_0 : sx_oks 153 x153_0 := ⟨Or.inr ⟨_, (sx_dd bb_153 dX8_nights_0), rfl, rfl⟩, ox153_1⟩
theorem m153 : sx_mok 153 x153_0 := ⟨ox153_0, by decide +kernel⟩
theorem bb_154 : sx_by 154 = cX8_doubts := rfl
theorem oo_154 : (sx_nm 154).cls = "StrawGarrisonModel" := rfl
theorem mm_154 : sx_ml 154 = 3 := rfl
theorem rr_154 : sx_rt 154 = (some .int) := rfl
def x154_30 : List sx_E := (.ireturn, 30, 31, [0], .null) :: []
theorem ox154_30 : sx_oks 154 x154_30 := ⟨sx_q_iret0 (sx_dd bb_154 dX8_doubts_30) rr_154, trivial⟩
def x154_29 : List sx_E := (.iload 1, 29, 30, [], .null) :: x154_30
theorem ox154_29 : sx_oks 154 x154_29 := ⟨Or.inr ⟨_, (sx_dd bb_154 dX8_doubts_29), rfl, rfl⟩, ox154_30⟩
def x154_26 : List sx_E := (.goto (-22), 26, 29, [4], .null) :: x154_29
theorem ox154_26 : sx_oks 154 x154_26 := ⟨⟨(sx_dd bb_154 dX8_doubts_26), sx_t1 (by decide +kernel)⟩, ox154_29⟩
def x154_23 : List sx_E := (.iinc 2 (1), 23, 26, [], .int (nI 1)) :: x154_26
theorem ox154_23 : sx_oks 154 x154_23 := ⟨⟨sx_lt mm_154 (Nat.le_of_ble_eq_true rfl), (sx_dd bb_154 dX8_doubts_23), rfl, by decide +kernel⟩, ox154_26⟩
def x154_22 : List sx_E := (.istore 1, 22, 23, [], .null) :: x154_23
theorem ox154_22 : sx_oks 154 x154_22 := ⟨⟨sx_lt mm_154 (Nat.le_of_ble_eq_true rfl), Or.inr ⟨_, (sx_dd bb_154 dX8_doubts_22), rfl, rfl⟩⟩, ox154_23⟩
def x154_21 : List sx_E := (.iadd, 21, 22, [], .null) :: x154_22
theorem ox154_21 : sx_oks 154 x154_21 := ⟨⟨(sx_dd bb_154 dX8_doubts_21), rfl⟩, ox154_22⟩
def x154_18 : List sx_E := (.invokevirtual 72, 18, 21, [119, 3, 0, 0, 7], .null) :: x154_21
theorem ox154_18 : sx_oks 154 x154_18 := ⟨sx_q_V (w := (RX8, TX8, 31)) (sx_dd bb_154 dX8_doubts_18) oo_154 lk_StrawGarrisonModel_72_V ft_119_h (Nat.le_of_ble_eq_true rfl) rfl rfl, ox154_21⟩
def x154_17 : List sx_E := (.nop, 17, 18, [], .int (nI 3)) :: x154_18
theorem ox154_17 : sx_oks 154 x154_17 := ⟨sx_k_iconst (sx_dd bb_154 dX8_doubts_17) (by decide +kernel), ox154_18⟩
def x154_16 : List sx_E := (.iload 2, 16, 17, [], .null) :: x154_17
theorem ox154_16 : sx_oks 154 x154_16 := ⟨Or.inr ⟨_, (sx_dd bb_154 dX8_doubts_16), rfl, rfl⟩, ox154_17⟩
def x154_15 : List sx_E := (.aload 0, 15, 16, [], .null) :: x154_16
theorem ox154_15 : sx_oks 154 x154_15 := ⟨Or.inr ⟨_, (sx_dd bb_154 dX8_doubts_15), rfl, rfl⟩, ox154_16⟩
def x154_14 : List sx_E := (.iload 1, 14, 15, [], .null) :: x154_15
theorem ox154_14 : sx_oks 154 x154_14 := ⟨Or.inr ⟨_, (sx_dd bb_154 dX8_doubts_14), rfl, rfl⟩, ox154_15⟩
def x154_11 : List sx_E := (.if_icmp .ge (18), 11, 14, [29], .null) :: x154_14
theorem ox154_11 : sx_oks 154 x154_11 := ⟨⟨(sx_dd bb_154 dX8_doubts_11), rfl, sx_t1 (by decide +kernel)⟩, ox154_14⟩
def x154_10 : List sx_E := (.iaload, 10, 11, [], .null) :: x154_11
theorem ox154_10 : sx_oks 154 x154_10 := ⟨⟨(sx_dd bb_154 dX8_doubts_10), rfl⟩, ox154_11⟩
def x154_9 : List sx_E := (.nop, 9, 10, [], .int (nI 0)) :: x154_10
theorem ox154_9 : sx_oks 154 x154_9 := ⟨sx_k_iconst (sx_dd bb_154 dX8_doubts_9) (by decide +kernel), ox154_10⟩
def x154_6 : List sx_E := (.getfield 7, 6, 9, [7, 0, 1], .null) :: x154_9
theorem ox154_6 : sx_oks 154 x154_6 := ⟨sx_q_get (w := (RX8, TX8, 31)) (sx_dd bb_154 dX8_doubts_6) rfl rfl (Nat.le_of_ble_eq_true rfl) cu_7 (sx_ow3 oo_154 fl_StrawGarrisonModel_7) (by decide +kernel), ox154_9⟩
def x154_5 : List sx_E := (.aload 0, 5, 6, [], .null) :: x154_6
theorem ox154_5 : sx_oks 154 x154_5 := ⟨Or.inr ⟨_, (sx_dd bb_154 dX8_doubts_5), rfl, rfl⟩, ox154_6⟩
def x154_4 : List sx_E := (.iload 2, 4, 5, [], .null) :: x154_5
theorem ox154_4 : sx_oks 154 x154_4 := ⟨Or.inr ⟨_, (sx_dd bb_154 dX8_doubts_4), rfl, rfl⟩, ox154_5⟩
def x154_4h : List sx_E := (.monitorenter, 4, 4, [0, 1, 2], .null) :: x154_4
theorem ox154_4h : sx_oks 154 x154_4h := ⟨trivial, ox154_4⟩
def x154_3 : List sx_E := (.istore 2, 3, 4, [], .null) :: x154_4h
theorem ox154_3 : sx_oks 154 x154_3 := ⟨⟨sx_lt mm_154 (Nat.le_of_ble_eq_true rfl), Or.inr ⟨_, (sx_dd bb_154 dX8_doubts_3), rfl, rfl⟩⟩, ox154_4h⟩
def x154_2 : List sx_E := (.nop, 2, 3, [], .int (nI 0)) :: x154_3
theorem ox154_2 : sx_oks 154 x154_2 := ⟨sx_k_iconst (sx_dd bb_154 dX8_doubts_2) (by decide +kernel), ox154_3⟩
def x154_1 : List sx_E := (.istore 1, 1, 2, [], .null) :: x154_2
theorem ox154_1 : sx_oks 154 x154_1 := ⟨⟨sx_lt mm_154 (Nat.le_of_ble_eq_true rfl), Or.inr ⟨_, (sx_dd bb_154 dX8_doubts_1), rfl, rfl⟩⟩, ox154_2⟩
def x154_0 : List sx_E := (.nop, 0, 1, [], .int (nI 0)) :: x154_1
theorem ox154_0 : sx_oks 154 x154_0 := ⟨sx_k_iconst (sx_dd bb_154 dX8_doubts_0) (by decide +kernel), ox154_1⟩
theorem m154 : sx_mok 154 x154_0 := ⟨ox154_0, by decide +kernel⟩
theorem bb_155 : sx_by 155 = cX8_downs := rfl
theorem oo_155 : (sx_nm 155).cls = "StrawGarrisonModel" := rfl
theorem mm_155 : sx_ml 155 = 3 := rfl
theorem rr_155 : sx_rt 155 = (some .int) := rfl
def x155_40 : List sx_E := (.ireturn, 40, 41, [0], .null) :: []
theorem ox155_40 : sx_oks 155 x155_40 := ⟨sx_q_iret0 (sx_dd bb_155 dX8_downs_40) rr_155, trivial⟩
def x155_39 : List sx_E := (.iload 1, 39, 40, [], .null) :: x155_40
theorem ox155_39 : sx_oks 155 x155_39 := ⟨Or.inr ⟨_, (sx_dd bb_155 dX8_downs_39), rfl, rfl⟩, ox155_40⟩
def x155_36 : List sx_E := (.goto (-32), 36, 39, [4], .null) :: x155_39
theorem ox155_36 : sx_oks 155 x155_36 := ⟨⟨(sx_dd bb_155 dX8_downs_36), sx_t1 (by decide +kernel)⟩, ox155_39⟩
def x155_33 : List sx_E := (.iinc 2 (1), 33, 36, [], .int (nI 1)) :: x155_36
theorem ox155_33 : sx_oks 155 x155_33 := ⟨⟨sx_lt mm_155 (Nat.le_of_ble_eq_true rfl), (sx_dd bb_155 dX8_downs_33), rfl, by decide +kernel⟩, ox155_36⟩
def x155_32 : List sx_E := (.istore 1, 32, 33, [], .null) :: x155_33
theorem ox155_32 : sx_oks 155 x155_32 := ⟨⟨sx_lt mm_155 (Nat.le_of_ble_eq_true rfl), Or.inr ⟨_, (sx_dd bb_155 dX8_downs_32), rfl, rfl⟩⟩, ox155_33⟩
def x155_31 : List sx_E := (.ior, 31, 32, [], .null) :: x155_32
theorem ox155_31 : sx_oks 155 x155_31 := ⟨⟨(sx_dd bb_155 dX8_downs_31), rfl⟩, ox155_32⟩
def x155_30 : List sx_E := (.nop, 30, 31, [], .int (nI 0)) :: x155_31
theorem ox155_30 : sx_oks 155 x155_30 := ⟨sx_k_iconst (sx_dd bb_155 dX8_downs_30) (by decide +kernel), ox155_31⟩
def x155_27 : List sx_E := (.goto (4), 27, 30, [31], .null) :: x155_30
theorem ox155_27 : sx_oks 155 x155_27 := ⟨⟨(sx_dd bb_155 dX8_downs_27), sx_t1 (by decide +kernel)⟩, ox155_30⟩
def x155_26 : List sx_E := (.ishl, 26, 27, [], .null) :: x155_27
theorem ox155_26 : sx_oks 155 x155_26 := ⟨⟨(sx_dd bb_155 dX8_downs_26), rfl⟩, ox155_27⟩
def x155_25 : List sx_E := (.iload 2, 25, 26, [], .null) :: x155_26
theorem ox155_25 : sx_oks 155 x155_25 := ⟨Or.inr ⟨_, (sx_dd bb_155 dX8_downs_25), rfl, rfl⟩, ox155_26⟩
def x155_24 : List sx_E := (.nop, 24, 25, [], .int (nI 1)) :: x155_25
theorem ox155_24 : sx_oks 155 x155_24 := ⟨sx_k_iconst (sx_dd bb_155 dX8_downs_24) (by decide +kernel), ox155_25⟩
def x155_21 : List sx_E := (.ifCond .ne (9), 21, 24, [30], .null) :: x155_24
theorem ox155_21 : sx_oks 155 x155_21 := ⟨⟨(sx_dd bb_155 dX8_downs_21), rfl, sx_t1 (by decide +kernel)⟩, ox155_24⟩
def x155_18 : List sx_E := (.invokevirtual 72, 18, 21, [119, 3, 0, 0, 7], .null) :: x155_21
theorem ox155_18 : sx_oks 155 x155_18 := ⟨sx_q_V (w := (RX8, TX8, 31)) (sx_dd bb_155 dX8_downs_18) oo_155 lk_StrawGarrisonModel_72_V ft_119_h (Nat.le_of_ble_eq_true rfl) rfl rfl, ox155_21⟩
def x155_17 : List sx_E := (.nop, 17, 18, [], .int (nI 4)) :: x155_18
theorem ox155_17 : sx_oks 155 x155_17 := ⟨sx_k_iconst (sx_dd bb_155 dX8_downs_17) (by decide +kernel), ox155_18⟩
def x155_16 : List sx_E := (.iload 2, 16, 17, [], .null) :: x155_17
theorem ox155_16 : sx_oks 155 x155_16 := ⟨Or.inr ⟨_, (sx_dd bb_155 dX8_downs_16), rfl, rfl⟩, ox155_17⟩
def x155_15 : List sx_E := (.aload 0, 15, 16, [], .null) :: x155_16
theorem ox155_15 : sx_oks 155 x155_15 := ⟨Or.inr ⟨_, (sx_dd bb_155 dX8_downs_15), rfl, rfl⟩, ox155_16⟩
def x155_14 : List sx_E := (.iload 1, 14, 15, [], .null) :: x155_15
theorem ox155_14 : sx_oks 155 x155_14 := ⟨Or.inr ⟨_, (sx_dd bb_155 dX8_downs_14), rfl, rfl⟩, ox155_15⟩
def x155_11 : List sx_E := (.if_icmp .ge (28), 11, 14, [39], .null) :: x155_14
theorem ox155_11 : sx_oks 155 x155_11 := ⟨⟨(sx_dd bb_155 dX8_downs_11), rfl, sx_t1 (by decide +kernel)⟩, ox155_14⟩
def x155_10 : List sx_E := (.iaload, 10, 11, [], .null) :: x155_11
theorem ox155_10 : sx_oks 155 x155_10 := ⟨⟨(sx_dd bb_155 dX8_downs_10), rfl⟩, ox155_11⟩
def x155_9 : List sx_E := (.nop, 9, 10, [], .int (nI 0)) :: x155_10
theorem ox155_9 : sx_oks 155 x155_9 := ⟨sx_k_iconst (sx_dd bb_155 dX8_downs_9) (by decide +kernel), ox155_10⟩
def x155_6 : List sx_E := (.getfield 7, 6, 9, [7, 0, 1], .null) :: x155_9
theorem ox155_6 : sx_oks 155 x155_6 := ⟨sx_q_get (w := (RX8, TX8, 31)) (sx_dd bb_155 dX8_downs_6) rfl rfl (Nat.le_of_ble_eq_true rfl) cu_7 (sx_ow3 oo_155 fl_StrawGarrisonModel_7) (by decide +kernel), ox155_9⟩
def x155_5 : List sx_E := (.aload 0, 5, 6, [], .null) :: x155_6
theorem ox155_5 : sx_oks 155 x155_5 := ⟨Or.inr ⟨_, (sx_dd bb_155 dX8_downs_5), rfl, rfl⟩, ox155_6⟩
def x155_4 : List sx_E := (.iload 2, 4, 5, [], .null) :: x155_5
theorem ox155_4 : sx_oks 155 x155_4 := ⟨Or.inr ⟨_, (sx_dd bb_155 dX8_downs_4), rfl, rfl⟩, ox155_5⟩
def x155_4h : List sx_E := (.monitorenter, 4, 4, [0, 1, 2], .null) :: x155_4
theorem ox155_4h : sx_oks 155 x155_4h := ⟨trivial, ox155_4⟩
def x155_3 : List sx_E := (.istore 2, 3, 4, [], .null) :: x155_4h
theorem ox155_3 : sx_oks 155 x155_3 := ⟨⟨sx_lt mm_155 (Nat.le_of_ble_eq_true rfl), Or.inr ⟨_, (sx_dd bb_155 dX8_downs_3), rfl, rfl⟩⟩, ox155_4h⟩
def x155_2 : List sx_E := (.nop, 2, 3, [], .int (nI 0)) :: x155_3
theorem ox155_2 : sx_oks 155 x155_2 := ⟨sx_k_iconst (sx_dd bb_155 dX8_downs_2) (by decide +kernel), ox155_3⟩
def x155_1 : List sx_E := (.istore 1, 1, 2, [], .null) :: x155_2
theorem ox155_1 : sx_oks 155 x155_1 := ⟨⟨sx_lt mm_155 (Nat.le_of_ble_eq_true rfl), Or.inr ⟨_, (sx_dd bb_155 dX8_downs_1), rfl, rfl⟩⟩, ox155_2⟩
def x155_0 : List sx_E := (.nop, 0, 1, [], .int (nI 0)) :: x155_1
theorem ox155_0 : sx_oks 155 x155_0 := ⟨sx_k_iconst (sx_dd bb_155 dX8_downs_0) (by decide +kernel), ox155_1⟩
theorem m155 : sx_mok 155 x155_0 := ⟨ox155_0, by decide +kernel⟩
theorem bb_156 : sx_by 156 = cX8_border := rfl
theorem oo_156 : (sx_nm 156).cls = "StrawGarrisonModel" := rfl
theorem mm_156 : sx_ml 156 = 2 := rfl
theorem rr_156 : sx_rt 156 = (some .int) := rfl
def x156_72 : List sx_E := (.ireturn, 72, 73, [0], .null) :: []
theorem ox156_72 : sx_oks 156 x156_72 := ⟨sx_q_iret0 (sx_dd bb_156 dX8_border_72) rr_156, trivial⟩
def x156_69 : List sx_E := (.invokevirtual 190, 69, 72, [154, 1, 0, 0, 7], .null) :: x156_72
theorem ox156_69 : sx_oks 156 x156_69 := ⟨sx_q_V (w := (RX8, TX8, 31)) (sx_dd bb_156 dX8_border_69) oo_156 lk_StrawGarrisonModel_190_V ft_154_h (Nat.le_of_ble_eq_true rfl) rfl rfl, ox156_72⟩
def x156_68 : List sx_E := (.aload 0, 68, 69, [], .null) :: x156_69
theorem ox156_68 : sx_oks 156 x156_68 := ⟨Or.inr ⟨_, (sx_dd bb_156 dX8_border_68), rfl, rfl⟩, ox156_69⟩
def x156_65 : List sx_E := (.goto (7), 65, 68, [72], .null) :: x156_68
theorem ox156_65 : sx_oks 156 x156_65 := ⟨⟨(sx_dd bb_156 dX8_border_65), sx_t1 (by decide +kernel)⟩, ox156_68⟩
def x156_62 : List sx_E := (.invokevirtual 187, 62, 65, [155, 1, 0, 0, 7], .null) :: x156_65
theorem ox156_62 : sx_oks 156 x156_62 := ⟨sx_q_V (w := (RX8, TX8, 31)) (sx_dd bb_156 dX8_border_62) oo_156 lk_StrawGarrisonModel_187_V ft_155_h (Nat.le_of_ble_eq_true rfl) rfl rfl, ox156_65⟩
def x156_61 : List sx_E := (.aload 0, 61, 62, [], .null) :: x156_62
theorem ox156_61 : sx_oks 156 x156_61 := ⟨Or.inr ⟨_, (sx_dd bb_156 dX8_border_61), rfl, rfl⟩, ox156_62⟩
def x156_58 : List sx_E := (.if_icmp .ne (10), 58, 61, [68], .null) :: x156_61
theorem ox156_58 : sx_oks 156 x156_58 := ⟨⟨(sx_dd bb_156 dX8_border_58), rfl, sx_t1 (by decide +kernel)⟩, ox156_61⟩
def x156_57 : List sx_E := (.nop, 57, 58, [], .int (nI 5)) :: x156_58
theorem ox156_57 : sx_oks 156 x156_57 := ⟨sx_k_iconst (sx_dd bb_156 dX8_border_57) (by decide +kernel), ox156_58⟩
def x156_56 : List sx_E := (.iload 1, 56, 57, [], .null) :: x156_57
theorem ox156_56 : sx_oks 156 x156_56 := ⟨Or.inr ⟨_, (sx_dd bb_156 dX8_border_56), rfl, rfl⟩, ox156_57⟩
def x156_53 : List sx_E := (.goto (19), 53, 56, [72], .null) :: x156_56
theorem ox156_53 : sx_oks 156 x156_53 := ⟨⟨(sx_dd bb_156 dX8_border_53), sx_t1 (by decide +kernel)⟩, ox156_56⟩
def x156_50 : List sx_E := (.invokevirtual 173, 50, 53, [145, 1, 0, 0, 7], .null) :: x156_53
theorem ox156_50 : sx_oks 156 x156_50 := ⟨sx_q_V (w := (RX8, TX8, 31)) (sx_dd bb_156 dX8_border_50) oo_156 lk_StrawGarrisonModel_173_V ft_145_h (Nat.le_of_ble_eq_true rfl) rfl rfl, ox156_53⟩
def x156_49 : List sx_E := (.aload 0, 49, 50, [], .null) :: x156_50
theorem ox156_49 : sx_oks 156 x156_49 := ⟨Or.inr ⟨_, (sx_dd bb_156 dX8_border_49), rfl, rfl⟩, ox156_50⟩
def x156_46 : List sx_E := (.if_icmp .ne (10), 46, 49, [56], .null) :: x156_49
theorem ox156_46 : sx_oks 156 x156_46 := ⟨⟨(sx_dd bb_156 dX8_border_46), rfl, sx_t1 (by decide +kernel)⟩, ox156_49⟩
def x156_45 : List sx_E := (.nop, 45, 46, [], .int (nI 4)) :: x156_46
theorem ox156_45 : sx_oks 156 x156_45 := ⟨sx_k_iconst (sx_dd bb_156 dX8_border_45) (by decide +kernel), ox156_46⟩
def x156_44 : List sx_E := (.iload 1, 44, 45, [], .null) :: x156_45
theorem ox156_44 : sx_oks 156 x156_44 := ⟨Or.inr ⟨_, (sx_dd bb_156 dX8_border_44), rfl, rfl⟩, ox156_45⟩
def x156_41 : List sx_E := (.goto (31), 41, 44, [72], .null) :: x156_44
theorem ox156_41 : sx_oks 156 x156_41 := ⟨⟨(sx_dd bb_156 dX8_border_41), sx_t1 (by decide +kernel)⟩, ox156_44⟩
def x156_38 : List sx_E := (.invokevirtual 170, 38, 41, [144, 1, 0, 0, 7], .null) :: x156_41
theorem ox156_38 : sx_oks 156 x156_38 := ⟨sx_q_V (w := (RX8, TX8, 31)) (sx_dd bb_156 dX8_border_38) oo_156 lk_StrawGarrisonModel_170_V ft_144_h (Nat.le_of_ble_eq_true rfl) rfl rfl, ox156_41⟩
def x156_37 : List sx_E := (.aload 0, 37, 38, [], .null) :: x156_38
theorem ox156_37 : sx_oks 156 x156_37 := ⟨Or.inr ⟨_, (sx_dd bb_156 dX8_border_37), rfl, rfl⟩, ox156_38⟩
def x156_34 : List sx_E := (.if_icmp .ne (10), 34, 37, [44], .null) :: x156_37
theorem ox156_34 : sx_oks 156 x156_34 := ⟨⟨(sx_dd bb_156 dX8_border_34), rfl, sx_t1 (by decide +kernel)⟩, ox156_37⟩
def x156_33 : List sx_E := (.nop, 33, 34, [], .int (nI 3)) :: x156_34
theorem ox156_33 : sx_oks 156 x156_33 := ⟨sx_k_iconst (sx_dd bb_156 dX8_border_33) (by decide +kernel), ox156_34⟩
def x156_32 : List sx_E := (.iload 1, 32, 33, [], .null) :: x156_33
theorem ox156_32 : sx_oks 156 x156_32 := ⟨Or.inr ⟨_, (sx_dd bb_156 dX8_border_32), rfl, rfl⟩, ox156_33⟩
def x156_29 : List sx_E := (.goto (43), 29, 32, [72], .null) :: x156_32
theorem ox156_29 : sx_oks 156 x156_29 := ⟨⟨(sx_dd bb_156 dX8_border_29), sx_t1 (by decide +kernel)⟩, ox156_32⟩
def x156_28 : List sx_E := (.iaload, 28, 29, [], .null) :: x156_29
theorem ox156_28 : sx_oks 156 x156_28 := ⟨⟨(sx_dd bb_156 dX8_border_28), rfl⟩, ox156_29⟩
def x156_27 : List sx_E := (.iadd, 27, 28, [], .null) :: x156_28
theorem ox156_27 : sx_oks 156 x156_27 := ⟨⟨(sx_dd bb_156 dX8_border_27), rfl⟩, ox156_28⟩
def x156_26 : List sx_E := (.iload 1, 26, 27, [], .null) :: x156_27
theorem ox156_26 : sx_oks 156 x156_26 := ⟨Or.inr ⟨_, (sx_dd bb_156 dX8_border_26), rfl, rfl⟩, ox156_27⟩
def x156_24 : List sx_E := (.nop, 24, 26, [], .int (nI 7)) :: x156_26
theorem ox156_24 : sx_oks 156 x156_24 := ⟨sx_k_bipush (sx_dd bb_156 dX8_border_24) (by decide +kernel), ox156_26⟩
def x156_21 : List sx_E := (.getfield 7, 21, 24, [7, 0, 1], .null) :: x156_24
theorem ox156_21 : sx_oks 156 x156_21 := ⟨sx_q_get (w := (RX8, TX8, 31)) (sx_dd bb_156 dX8_border_21) rfl rfl (Nat.le_of_ble_eq_true rfl) cu_7 (sx_ow3 oo_156 fl_StrawGarrisonModel_7) (by decide +kernel), ox156_24⟩
def x156_20 : List sx_E := (.aload 0, 20, 21, [], .null) :: x156_21
theorem ox156_20 : sx_oks 156 x156_20 := ⟨Or.inr ⟨_, (sx_dd bb_156 dX8_border_20), rfl, rfl⟩, ox156_21⟩
def x156_17 : List sx_E := (.if_icmp .ge (15), 17, 20, [32], .null) :: x156_20
theorem ox156_17 : sx_oks 156 x156_17 := ⟨⟨(sx_dd bb_156 dX8_border_17), rfl, sx_t1 (by decide +kernel)⟩, ox156_20⟩
def x156_16 : List sx_E := (.nop, 16, 17, [], .int (nI 3)) :: x156_17
theorem ox156_16 : sx_oks 156 x156_16 := ⟨sx_k_iconst (sx_dd bb_156 dX8_border_16) (by decide +kernel), ox156_17⟩
def x156_15 : List sx_E := (.iload 1, 15, 16, [], .null) :: x156_16
theorem ox156_15 : sx_oks 156 x156_15 := ⟨Or.inr ⟨_, (sx_dd bb_156 dX8_border_15), rfl, rfl⟩, ox156_16⟩
def x156_14 : List sx_E := (.ireturn, 14, 15, [0], .null) :: x156_15
theorem ox156_14 : sx_oks 156 x156_14 := ⟨sx_q_iret0 (sx_dd bb_156 dX8_border_14) rr_156, ox156_15⟩
def x156_12 : List sx_E := (.nop, 12, 14, [], .int ((-1000000001))) :: x156_14
theorem ox156_12 : sx_oks 156 x156_12 := ⟨sx_k_ldc (sx_dd bb_156 dX8_border_12) (sx_ow1 oo_156 kc_StrawGarrisonModel_88), ox156_14⟩
def x156_9 : List sx_E := (.ifCond .ne (6), 9, 12, [15], .null) :: x156_12
theorem ox156_9 : sx_oks 156 x156_9 := ⟨⟨(sx_dd bb_156 dX8_border_9), rfl, sx_t1 (by decide +kernel)⟩, ox156_12⟩
def x156_6 : List sx_E := (.invokestatic 65, 6, 9, [113, 3, 0, 0], .null) :: x156_9
theorem ox156_6 : sx_oks 156 x156_6 := ⟨sx_q_S (sx_dd bb_156 dX8_border_6) oo_156 lk_StrawGarrisonModel_65_S ft_113_h, ox156_9⟩
def x156_3 : List sx_E := (.nop, 3, 6, [], .long (6)) :: x156_6
theorem ox156_3 : sx_oks 156 x156_3 := ⟨sx_k_ldc2 (sx_dd bb_156 dX8_border_3) (sx_ow2 oo_156 kl_StrawGarrisonModel_185), ox156_6⟩
def x156_2 : List sx_E := (.nop, 2, 3, [], .long (0)) :: x156_3
theorem ox156_2 : sx_oks 156 x156_2 := ⟨sx_k_lconst (sx_dd bb_156 dX8_border_2) (by decide +kernel), ox156_3⟩
def x156_1 : List sx_E := (.i2l, 1, 2, [], .null) :: x156_2
theorem ox156_1 : sx_oks 156 x156_1 := ⟨⟨(sx_dd bb_156 dX8_border_1), rfl⟩, ox156_2⟩
def x156_0 : List sx_E := (.iload 1, 0, 1, [], .null) :: x156_1
theorem ox156_0 : sx_oks 156 x156_0 := ⟨Or.inr ⟨_, (sx_dd bb_156 dX8_border_0), rfl, rfl⟩, ox156_1⟩
theorem m156 : sx_mok 156 x156_0 := ⟨ox156_0, by decide +kernel⟩
theorem bb_157 : sx_by 157 = cX8_reached := rfl
theorem oo_157 : (sx_nm 157).cls = "StrawGarrisonModel" := rfl
theorem mm_157 : sx_ml 157 = 5 := rfl
theorem rr_157 : sx_rt 157 = (some .int) := rfl
def x157_61 : List sx_E := (.ireturn, 61, 62, [0], .null) :: []
theorem ox157_61 : sx_oks 157 x157_61 := ⟨sx_q_iret0 (sx_dd bb_157 dX8_reached_61) rr_157, trivial⟩
def x157_60 : List sx_E := (.iload 3, 60, 61, [], .null) :: x157_61
theorem ox157_60 : sx_oks 157 x157_60 := ⟨Or.inr ⟨_, (sx_dd bb_157 dX8_reached_60), rfl, rfl⟩, ox157_61⟩
def x157_57 : List sx_E := (.goto (-52), 57, 60, [5], .null) :: x157_60
theorem ox157_57 : sx_oks 157 x157_57 := ⟨⟨(sx_dd bb_157 dX8_reached_57), sx_t1 (by decide +kernel)⟩, ox157_60⟩
def x157_54 : List sx_E := (.iinc 4 (1), 54, 57, [], .int (nI 1)) :: x157_57
theorem ox157_54 : sx_oks 157 x157_54 := ⟨⟨sx_lt mm_157 (Nat.le_of_ble_eq_true rfl), (sx_dd bb_157 dX8_reached_54), rfl, by decide +kernel⟩, ox157_57⟩
def x157_53 : List sx_E := (.istore 3, 53, 54, [], .null) :: x157_54
theorem ox157_53 : sx_oks 157 x157_53 := ⟨⟨sx_lt mm_157 (Nat.le_of_ble_eq_true rfl), Or.inr ⟨_, (sx_dd bb_157 dX8_reached_53), rfl, rfl⟩⟩, ox157_54⟩
def x157_52 : List sx_E := (.iadd, 52, 53, [], .null) :: x157_53
theorem ox157_52 : sx_oks 157 x157_52 := ⟨⟨(sx_dd bb_157 dX8_reached_52), rfl⟩, ox157_53⟩
def x157_51 : List sx_E := (.nop, 51, 52, [], .int (nI 0)) :: x157_52
theorem ox157_51 : sx_oks 157 x157_51 := ⟨sx_k_iconst (sx_dd bb_157 dX8_reached_51) (by decide +kernel), ox157_52⟩
def x157_48 : List sx_E := (.goto (4), 48, 51, [52], .null) :: x157_51
theorem ox157_48 : sx_oks 157 x157_48 := ⟨⟨(sx_dd bb_157 dX8_reached_48), sx_t1 (by decide +kernel)⟩, ox157_51⟩
def x157_47 : List sx_E := (.nop, 47, 48, [], .int (nI 1)) :: x157_48
theorem ox157_47 : sx_oks 157 x157_47 := ⟨sx_k_iconst (sx_dd bb_157 dX8_reached_47) (by decide +kernel), ox157_48⟩
def x157_44 : List sx_E := (.if_icmp .ge (7), 44, 47, [51], .null) :: x157_47
theorem ox157_44 : sx_oks 157 x157_44 := ⟨⟨(sx_dd bb_157 dX8_reached_44), rfl, sx_t1 (by decide +kernel)⟩, ox157_47⟩
def x157_43 : List sx_E := (.nop, 43, 44, [], .int (nI 3)) :: x157_44
theorem ox157_43 : sx_oks 157 x157_43 := ⟨sx_k_iconst (sx_dd bb_157 dX8_reached_43) (by decide +kernel), ox157_44⟩
def x157_40 : List sx_E := (.invokestatic 154, 40, 43, [116, 2, 0, 0], .null) :: x157_43
theorem ox157_40 : sx_oks 157 x157_40 := ⟨sx_q_S (sx_dd bb_157 dX8_reached_40) oo_157 lk_StrawGarrisonModel_154_S ft_116_h, ox157_43⟩
def x157_39 : List sx_E := (.iload 2, 39, 40, [], .null) :: x157_40
theorem ox157_39 : sx_oks 157 x157_39 := ⟨Or.inr ⟨_, (sx_dd bb_157 dX8_reached_39), rfl, rfl⟩, ox157_40⟩
def x157_36 : List sx_E := (.invokevirtual 72, 36, 39, [119, 3, 0, 0, 7], .null) :: x157_39
theorem ox157_36 : sx_oks 157 x157_36 := ⟨sx_q_V (w := (RX8, TX8, 31)) (sx_dd bb_157 dX8_reached_36) oo_157 lk_StrawGarrisonModel_72_V ft_119_h (Nat.le_of_ble_eq_true rfl) rfl rfl, ox157_39⟩
def x157_35 : List sx_E := (.nop, 35, 36, [], .int (nI 1)) :: x157_36
theorem ox157_35 : sx_oks 157 x157_35 := ⟨sx_k_iconst (sx_dd bb_157 dX8_reached_35) (by decide +kernel), ox157_36⟩
def x157_33 : List sx_E := (.iload 4, 33, 35, [], .null) :: x157_35
theorem ox157_33 : sx_oks 157 x157_33 := ⟨Or.inl ⟨(sx_dd bb_157 dX8_reached_33), rfl⟩, ox157_35⟩
def x157_32 : List sx_E := (.aload 0, 32, 33, [], .null) :: x157_33
theorem ox157_32 : sx_oks 157 x157_32 := ⟨Or.inr ⟨_, (sx_dd bb_157 dX8_reached_32), rfl, rfl⟩, ox157_33⟩
def x157_29 : List sx_E := (.ifCond .ne (22), 29, 32, [51], .null) :: x157_32
theorem ox157_29 : sx_oks 157 x157_29 := ⟨⟨(sx_dd bb_157 dX8_reached_29), rfl, sx_t1 (by decide +kernel)⟩, ox157_32⟩
def x157_26 : List sx_E := (.invokevirtual 160, 26, 29, [131, 2, 0, 0, 7], .null) :: x157_29
theorem ox157_26 : sx_oks 157 x157_26 := ⟨sx_q_V (w := (RX8, TX8, 31)) (sx_dd bb_157 dX8_reached_26) oo_157 lk_StrawGarrisonModel_160_V ft_131_h (Nat.le_of_ble_eq_true rfl) rfl rfl, ox157_29⟩
def x157_24 : List sx_E := (.iload 4, 24, 26, [], .null) :: x157_26
theorem ox157_24 : sx_oks 157 x157_24 := ⟨Or.inl ⟨(sx_dd bb_157 dX8_reached_24), rfl⟩, ox157_26⟩
def x157_23 : List sx_E := (.aload 0, 23, 24, [], .null) :: x157_24
theorem ox157_23 : sx_oks 157 x157_23 := ⟨Or.inr ⟨_, (sx_dd bb_157 dX8_reached_23), rfl, rfl⟩, ox157_24⟩
def x157_20 : List sx_E := (.if_icmp .eq (31), 20, 23, [51], .null) :: x157_23
theorem ox157_20 : sx_oks 157 x157_20 := ⟨⟨(sx_dd bb_157 dX8_reached_20), rfl, sx_t1 (by decide +kernel)⟩, ox157_23⟩
def x157_19 : List sx_E := (.iload 1, 19, 20, [], .null) :: x157_20
theorem ox157_19 : sx_oks 157 x157_19 := ⟨Or.inr ⟨_, (sx_dd bb_157 dX8_reached_19), rfl, rfl⟩, ox157_20⟩
def x157_17 : List sx_E := (.iload 4, 17, 19, [], .null) :: x157_19
theorem ox157_17 : sx_oks 157 x157_17 := ⟨Or.inl ⟨(sx_dd bb_157 dX8_reached_17), rfl⟩, ox157_19⟩
def x157_16 : List sx_E := (.iload 3, 16, 17, [], .null) :: x157_17
theorem ox157_16 : sx_oks 157 x157_16 := ⟨Or.inr ⟨_, (sx_dd bb_157 dX8_reached_16), rfl, rfl⟩, ox157_17⟩
def x157_13 : List sx_E := (.if_icmp .ge (47), 13, 16, [60], .null) :: x157_16
theorem ox157_13 : sx_oks 157 x157_13 := ⟨⟨(sx_dd bb_157 dX8_reached_13), rfl, sx_t1 (by decide +kernel)⟩, ox157_16⟩
def x157_12 : List sx_E := (.iaload, 12, 13, [], .null) :: x157_13
theorem ox157_12 : sx_oks 157 x157_12 := ⟨⟨(sx_dd bb_157 dX8_reached_12), rfl⟩, ox157_13⟩
def x157_11 : List sx_E := (.nop, 11, 12, [], .int (nI 0)) :: x157_12
theorem ox157_11 : sx_oks 157 x157_11 := ⟨sx_k_iconst (sx_dd bb_157 dX8_reached_11) (by decide +kernel), ox157_12⟩
def x157_8 : List sx_E := (.getfield 7, 8, 11, [7, 0, 1], .null) :: x157_11
theorem ox157_8 : sx_oks 157 x157_8 := ⟨sx_q_get (w := (RX8, TX8, 31)) (sx_dd bb_157 dX8_reached_8) rfl rfl (Nat.le_of_ble_eq_true rfl) cu_7 (sx_ow3 oo_157 fl_StrawGarrisonModel_7) (by decide +kernel), ox157_11⟩
def x157_7 : List sx_E := (.aload 0, 7, 8, [], .null) :: x157_8
theorem ox157_7 : sx_oks 157 x157_7 := ⟨Or.inr ⟨_, (sx_dd bb_157 dX8_reached_7), rfl, rfl⟩, ox157_8⟩
def x157_5 : List sx_E := (.iload 4, 5, 7, [], .null) :: x157_7
theorem ox157_5 : sx_oks 157 x157_5 := ⟨Or.inl ⟨(sx_dd bb_157 dX8_reached_5), rfl⟩, ox157_7⟩
def x157_5h : List sx_E := (.monitorenter, 5, 5, [0, 1, 2, 3, 4], .null) :: x157_5
theorem ox157_5h : sx_oks 157 x157_5h := ⟨trivial, ox157_5⟩
def x157_3 : List sx_E := (.istore 4, 3, 5, [], .null) :: x157_5h
theorem ox157_3 : sx_oks 157 x157_3 := ⟨⟨sx_lt mm_157 (Nat.le_of_ble_eq_true rfl), Or.inl ⟨(sx_dd bb_157 dX8_reached_3), rfl⟩⟩, ox157_5h⟩
def x157_2 : List sx_E := (.nop, 2, 3, [], .int (nI 0)) :: x157_3
theorem ox157_2 : sx_oks 157 x157_2 := ⟨sx_k_iconst (sx_dd bb_157 dX8_reached_2) (by decide +kernel), ox157_3⟩
def x157_1 : List sx_E := (.istore 3, 1, 2, [], .null) :: x157_2
theorem ox157_1 : sx_oks 157 x157_1 := ⟨⟨sx_lt mm_157 (Nat.le_of_ble_eq_true rfl), Or.inr ⟨_, (sx_dd bb_157 dX8_reached_1), rfl, rfl⟩⟩, ox157_2⟩
def x157_0 : List sx_E := (.nop, 0, 1, [], .int (nI 0)) :: x157_1
theorem ox157_0 : sx_oks 157 x157_0 := ⟨sx_k_iconst (sx_dd bb_157 dX8_reached_0) (by decide +kernel), ox157_1⟩
theorem m157 : sx_mok 157 x157_0 := ⟨ox157_0, by decide +kernel⟩
theorem bb_158 : sx_by 158 = cX8_covers := rfl
theorem oo_158 : (sx_nm 158).cls = "StrawGarrisonModel" := rfl
theorem mm_158 : sx_ml 158 = 8 := rfl
theorem rr_158 : sx_rt 158 = (some .int) := rfl
def x158_114 : List sx_E := (.ireturn, 114, 115, [0], .null) :: []
theorem ox158_114 : sx_oks 158 x158_114 := ⟨sx_q_iret0 (sx_dd bb_158 dX8_covers_114) rr_158, trivial⟩
def x158_112 : List sx_E := (.iload 4, 112, 114, [], .null) :: x158_114
theorem ox158_112 : sx_oks 158 x158_112 := ⟨Or.inl ⟨(sx_dd bb_158 dX8_covers_112), rfl⟩, ox158_114⟩
def x158_109 : List sx_E := (.goto (5), 109, 112, [114], .null) :: x158_112
theorem ox158_109 : sx_oks 158 x158_109 := ⟨⟨(sx_dd bb_158 dX8_covers_109), sx_t1 (by decide +kernel)⟩, ox158_112⟩
def x158_108 : List sx_E := (.iload 3, 108, 109, [], .null) :: x158_109
theorem ox158_108 : sx_oks 158 x158_108 := ⟨Or.inr ⟨_, (sx_dd bb_158 dX8_covers_108), rfl, rfl⟩, ox158_109⟩
def x158_105 : List sx_E := (.ifCond .ne (7), 105, 108, [112], .null) :: x158_108
theorem ox158_105 : sx_oks 158 x158_105 := ⟨⟨(sx_dd bb_158 dX8_covers_105), rfl, sx_t1 (by decide +kernel)⟩, ox158_108⟩
def x158_104 : List sx_E := (.iload 2, 104, 105, [], .null) :: x158_105
theorem ox158_104 : sx_oks 158 x158_104 := ⟨Or.inr ⟨_, (sx_dd bb_158 dX8_covers_104), rfl, rfl⟩, ox158_105⟩
def x158_101 : List sx_E := (.goto (-72), 101, 104, [29], .null) :: x158_104
theorem ox158_101 : sx_oks 158 x158_101 := ⟨⟨(sx_dd bb_158 dX8_covers_101), sx_t1 (by decide +kernel)⟩, ox158_104⟩
def x158_98 : List sx_E := (.iinc 5 (1), 98, 101, [], .int (nI 1)) :: x158_101
theorem ox158_98 : sx_oks 158 x158_98 := ⟨⟨sx_lt mm_158 (Nat.le_of_ble_eq_true rfl), (sx_dd bb_158 dX8_covers_98), rfl, by decide +kernel⟩, ox158_101⟩
def x158_96 : List sx_E := (.istore 4, 96, 98, [], .null) :: x158_98
theorem ox158_96 : sx_oks 158 x158_96 := ⟨⟨sx_lt mm_158 (Nat.le_of_ble_eq_true rfl), Or.inl ⟨(sx_dd bb_158 dX8_covers_96), rfl⟩⟩, ox158_98⟩
def x158_94 : List sx_E := (.iload 4, 94, 96, [], .null) :: x158_96
theorem ox158_94 : sx_oks 158 x158_94 := ⟨Or.inl ⟨(sx_dd bb_158 dX8_covers_94), rfl⟩, ox158_96⟩
def x158_91 : List sx_E := (.goto (5), 91, 94, [96], .null) :: x158_94
theorem ox158_91 : sx_oks 158 x158_91 := ⟨⟨(sx_dd bb_158 dX8_covers_91), sx_t1 (by decide +kernel)⟩, ox158_94⟩
def x158_89 : List sx_E := (.iload 7, 89, 91, [], .null) :: x158_91
theorem ox158_89 : sx_oks 158 x158_89 := ⟨Or.inl ⟨(sx_dd bb_158 dX8_covers_89), rfl⟩, ox158_91⟩
def x158_86 : List sx_E := (.if_icmp .le (8), 86, 89, [94], .null) :: x158_89
theorem ox158_86 : sx_oks 158 x158_86 := ⟨⟨(sx_dd bb_158 dX8_covers_86), rfl, sx_t1 (by decide +kernel)⟩, ox158_89⟩
def x158_84 : List sx_E := (.iload 4, 84, 86, [], .null) :: x158_86
theorem ox158_84 : sx_oks 158 x158_84 := ⟨Or.inl ⟨(sx_dd bb_158 dX8_covers_84), rfl⟩, ox158_86⟩
def x158_82 : List sx_E := (.iload 7, 82, 84, [], .null) :: x158_84
theorem ox158_82 : sx_oks 158 x158_82 := ⟨Or.inl ⟨(sx_dd bb_158 dX8_covers_82), rfl⟩, ox158_84⟩
def x158_81 : List sx_E := (.istore 3, 81, 82, [], .null) :: x158_82
theorem ox158_81 : sx_oks 158 x158_81 := ⟨⟨sx_lt mm_158 (Nat.le_of_ble_eq_true rfl), Or.inr ⟨_, (sx_dd bb_158 dX8_covers_81), rfl, rfl⟩⟩, ox158_82⟩
def x158_80 : List sx_E := (.iload 3, 80, 81, [], .null) :: x158_81
theorem ox158_80 : sx_oks 158 x158_80 := ⟨Or.inr ⟨_, (sx_dd bb_158 dX8_covers_80), rfl, rfl⟩, ox158_81⟩
def x158_77 : List sx_E := (.goto (4), 77, 80, [81], .null) :: x158_80
theorem ox158_77 : sx_oks 158 x158_77 := ⟨⟨(sx_dd bb_158 dX8_covers_77), sx_t1 (by decide +kernel)⟩, ox158_80⟩
def x158_75 : List sx_E := (.iload 5, 75, 77, [], .null) :: x158_77
theorem ox158_75 : sx_oks 158 x158_75 := ⟨Or.inl ⟨(sx_dd bb_158 dX8_covers_75), rfl⟩, ox158_77⟩
def x158_72 : List sx_E := (.if_icmp .le (8), 72, 75, [80], .null) :: x158_75
theorem ox158_72 : sx_oks 158 x158_72 := ⟨⟨(sx_dd bb_158 dX8_covers_72), rfl, sx_t1 (by decide +kernel)⟩, ox158_75⟩
def x158_70 : List sx_E := (.iload 4, 70, 72, [], .null) :: x158_72
theorem ox158_70 : sx_oks 158 x158_70 := ⟨Or.inl ⟨(sx_dd bb_158 dX8_covers_70), rfl⟩, ox158_72⟩
def x158_68 : List sx_E := (.iload 7, 68, 70, [], .null) :: x158_70
theorem ox158_68 : sx_oks 158 x158_68 := ⟨Or.inl ⟨(sx_dd bb_158 dX8_covers_68), rfl⟩, ox158_70⟩
def x158_66 : List sx_E := (.istore 7, 66, 68, [], .null) :: x158_68
theorem ox158_66 : sx_oks 158 x158_66 := ⟨⟨sx_lt mm_158 (Nat.le_of_ble_eq_true rfl), Or.inl ⟨(sx_dd bb_158 dX8_covers_66), rfl⟩⟩, ox158_68⟩
def x158_65 : List sx_E := (.nop, 65, 66, [], .int ((-1))) :: x158_66
theorem ox158_65 : sx_oks 158 x158_65 := ⟨sx_k_iconst (sx_dd bb_158 dX8_covers_65) (by decide +kernel), ox158_66⟩
def x158_62 : List sx_E := (.goto (4), 62, 65, [66], .null) :: x158_65
theorem ox158_62 : sx_oks 158 x158_62 := ⟨⟨(sx_dd bb_158 dX8_covers_62), sx_t1 (by decide +kernel)⟩, ox158_65⟩
def x158_59 : List sx_E := (.invokevirtual 193, 59, 62, [157, 3, 0, 0, 7], .null) :: x158_62
theorem ox158_59 : sx_oks 158 x158_59 := ⟨sx_q_V (w := (RX8, TX8, 31)) (sx_dd bb_158 dX8_covers_59) oo_158 lk_StrawGarrisonModel_193_V ft_157_h (Nat.le_of_ble_eq_true rfl) rfl rfl, ox158_62⟩
def x158_57 : List sx_E := (.iload 5, 57, 59, [], .null) :: x158_59
theorem ox158_57 : sx_oks 158 x158_57 := ⟨Or.inl ⟨(sx_dd bb_158 dX8_covers_57), rfl⟩, ox158_59⟩
def x158_56 : List sx_E := (.iload 1, 56, 57, [], .null) :: x158_57
theorem ox158_56 : sx_oks 158 x158_56 := ⟨Or.inr ⟨_, (sx_dd bb_158 dX8_covers_56), rfl, rfl⟩, ox158_57⟩
def x158_55 : List sx_E := (.aload 0, 55, 56, [], .null) :: x158_56
theorem ox158_55 : sx_oks 158 x158_55 := ⟨Or.inr ⟨_, (sx_dd bb_158 dX8_covers_55), rfl, rfl⟩, ox158_56⟩
def x158_52 : List sx_E := (.if_icmp .ne (13), 52, 55, [65], .null) :: x158_55
theorem ox158_52 : sx_oks 158 x158_52 := ⟨⟨(sx_dd bb_158 dX8_covers_52), rfl, sx_t1 (by decide +kernel)⟩, ox158_55⟩
def x158_51 : List sx_E := (.iload 1, 51, 52, [], .null) :: x158_52
theorem ox158_51 : sx_oks 158 x158_51 := ⟨Or.inr ⟨_, (sx_dd bb_158 dX8_covers_51), rfl, rfl⟩, ox158_52⟩
def x158_49 : List sx_E := (.iload 6, 49, 51, [], .null) :: x158_51
theorem ox158_49 : sx_oks 158 x158_49 := ⟨Or.inl ⟨(sx_dd bb_158 dX8_covers_49), rfl⟩, ox158_51⟩
def x158_46 : List sx_E := (.ifCond .lt (9), 46, 49, [55], .null) :: x158_49
theorem ox158_46 : sx_oks 158 x158_46 := ⟨⟨(sx_dd bb_158 dX8_covers_46), rfl, sx_t1 (by decide +kernel)⟩, ox158_49⟩
def x158_44 : List sx_E := (.iload 6, 44, 46, [], .null) :: x158_46
theorem ox158_44 : sx_oks 158 x158_44 := ⟨Or.inl ⟨(sx_dd bb_158 dX8_covers_44), rfl⟩, ox158_46⟩
def x158_42 : List sx_E := (.istore 6, 42, 44, [], .null) :: x158_44
theorem ox158_42 : sx_oks 158 x158_42 := ⟨⟨sx_lt mm_158 (Nat.le_of_ble_eq_true rfl), Or.inl ⟨(sx_dd bb_158 dX8_covers_42), rfl⟩⟩, ox158_44⟩
def x158_39 : List sx_E := (.invokevirtual 89, 39, 42, [126, 2, 0, 0, 7], .null) :: x158_42
theorem ox158_39 : sx_oks 158 x158_39 := ⟨sx_q_V (w := (RX8, TX8, 31)) (sx_dd bb_158 dX8_covers_39) oo_158 lk_StrawGarrisonModel_89_V ft_126_h (Nat.le_of_ble_eq_true rfl) rfl rfl, ox158_42⟩
def x158_37 : List sx_E := (.iload 5, 37, 39, [], .null) :: x158_39
theorem ox158_37 : sx_oks 158 x158_37 := ⟨Or.inl ⟨(sx_dd bb_158 dX8_covers_37), rfl⟩, ox158_39⟩
def x158_36 : List sx_E := (.aload 0, 36, 37, [], .null) :: x158_37
theorem ox158_36 : sx_oks 158 x158_36 := ⟨Or.inr ⟨_, (sx_dd bb_158 dX8_covers_36), rfl, rfl⟩, ox158_37⟩
def x158_33 : List sx_E := (.if_icmp .ge (71), 33, 36, [104], .null) :: x158_36
theorem ox158_33 : sx_oks 158 x158_33 := ⟨⟨(sx_dd bb_158 dX8_covers_33), rfl, sx_t1 (by decide +kernel)⟩, ox158_36⟩
def x158_31 : List sx_E := (.nop, 31, 33, [], .int (nI 20)) :: x158_33
theorem ox158_31 : sx_oks 158 x158_31 := ⟨sx_k_bipush (sx_dd bb_158 dX8_covers_31) (by decide +kernel), ox158_33⟩
def x158_29 : List sx_E := (.iload 5, 29, 31, [], .null) :: x158_31
theorem ox158_29 : sx_oks 158 x158_29 := ⟨Or.inl ⟨(sx_dd bb_158 dX8_covers_29), rfl⟩, ox158_31⟩
def x158_29h : List sx_E := (.monitorenter, 29, 29, [0, 1, 2, 3, 4, 5], .null) :: x158_29
theorem ox158_29h : sx_oks 158 x158_29h := ⟨trivial, ox158_29⟩
def x158_27 : List sx_E := (.istore 5, 27, 29, [], .null) :: x158_29h
theorem ox158_27 : sx_oks 158 x158_27 := ⟨⟨sx_lt mm_158 (Nat.le_of_ble_eq_true rfl), Or.inl ⟨(sx_dd bb_158 dX8_covers_27), rfl⟩⟩, ox158_29h⟩
def x158_26 : List sx_E := (.nop, 26, 27, [], .int (nI 0)) :: x158_27
theorem ox158_26 : sx_oks 158 x158_26 := ⟨sx_k_iconst (sx_dd bb_158 dX8_covers_26) (by decide +kernel), ox158_27⟩
def x158_24 : List sx_E := (.istore 4, 24, 26, [], .null) :: x158_26
theorem ox158_24 : sx_oks 158 x158_24 := ⟨⟨sx_lt mm_158 (Nat.le_of_ble_eq_true rfl), Or.inl ⟨(sx_dd bb_158 dX8_covers_24), rfl⟩⟩, ox158_26⟩
def x158_23 : List sx_E := (.nop, 23, 24, [], .int ((-1))) :: x158_24
theorem ox158_23 : sx_oks 158 x158_23 := ⟨sx_k_iconst (sx_dd bb_158 dX8_covers_23) (by decide +kernel), ox158_24⟩
def x158_22 : List sx_E := (.istore 3, 22, 23, [], .null) :: x158_23
theorem ox158_22 : sx_oks 158 x158_22 := ⟨⟨sx_lt mm_158 (Nat.le_of_ble_eq_true rfl), Or.inr ⟨_, (sx_dd bb_158 dX8_covers_22), rfl, rfl⟩⟩, ox158_23⟩
def x158_21 : List sx_E := (.nop, 21, 22, [], .int ((-1))) :: x158_22
theorem ox158_21 : sx_oks 158 x158_21 := ⟨sx_k_iconst (sx_dd bb_158 dX8_covers_21) (by decide +kernel), ox158_22⟩
def x158_20 : List sx_E := (.ireturn, 20, 21, [0], .null) :: x158_21
theorem ox158_20 : sx_oks 158 x158_20 := ⟨sx_q_iret0 (sx_dd bb_158 dX8_covers_20) rr_158, ox158_21⟩
def x158_18 : List sx_E := (.nop, 18, 20, [], .int ((-1000000001))) :: x158_20
theorem ox158_18 : sx_oks 158 x158_18 := ⟨sx_k_ldc (sx_dd bb_158 dX8_covers_18) (sx_ow1 oo_158 kc_StrawGarrisonModel_88), ox158_20⟩
def x158_15 : List sx_E := (.ifCond .ne (6), 15, 18, [21], .null) :: x158_18
theorem ox158_15 : sx_oks 158 x158_15 := ⟨⟨(sx_dd bb_158 dX8_covers_15), rfl, sx_t1 (by decide +kernel)⟩, ox158_18⟩
def x158_12 : List sx_E := (.invokestatic 65, 12, 15, [113, 3, 0, 0], .null) :: x158_15
theorem ox158_12 : sx_oks 158 x158_12 := ⟨sx_q_S (sx_dd bb_158 dX8_covers_12) oo_158 lk_StrawGarrisonModel_65_S ft_113_h, ox158_15⟩
def x158_11 : List sx_E := (.nop, 11, 12, [], .long (1)) :: x158_12
theorem ox158_11 : sx_oks 158 x158_11 := ⟨sx_k_lconst (sx_dd bb_158 dX8_covers_11) (by decide +kernel), ox158_12⟩
def x158_10 : List sx_E := (.nop, 10, 11, [], .long (0)) :: x158_11
theorem ox158_10 : sx_oks 158 x158_10 := ⟨sx_k_lconst (sx_dd bb_158 dX8_covers_10) (by decide +kernel), ox158_11⟩
def x158_9 : List sx_E := (.i2l, 9, 10, [], .null) :: x158_10
theorem ox158_9 : sx_oks 158 x158_9 := ⟨⟨(sx_dd bb_158 dX8_covers_9), rfl⟩, ox158_10⟩
def x158_8 : List sx_E := (.iload 2, 8, 9, [], .null) :: x158_9
theorem ox158_8 : sx_oks 158 x158_8 := ⟨Or.inr ⟨_, (sx_dd bb_158 dX8_covers_8), rfl, rfl⟩, ox158_9⟩
def x158_5 : List sx_E := (.ifCond .eq (13), 5, 8, [18], .null) :: x158_8
theorem ox158_5 : sx_oks 158 x158_5 := ⟨⟨(sx_dd bb_158 dX8_covers_5), rfl, sx_t1 (by decide +kernel)⟩, ox158_8⟩
def x158_2 : List sx_E := (.invokevirtual 110, 2, 5, [121, 2, 0, 0, 7], .null) :: x158_5
theorem ox158_2 : sx_oks 158 x158_2 := ⟨sx_q_V (w := (RX8, TX8, 31)) (sx_dd bb_158 dX8_covers_2) oo_158 lk_StrawGarrisonModel_110_V ft_121_h (Nat.le_of_ble_eq_true rfl) rfl rfl, ox158_5⟩
def x158_1 : List sx_E := (.iload 1, 1, 2, [], .null) :: x158_2
theorem ox158_1 : sx_oks 158 x158_1 := ⟨Or.inr ⟨_, (sx_dd bb_158 dX8_covers_1), rfl, rfl⟩, ox158_2⟩
def x158_0 : List sx_E := (.aload 0, 0, 1, [], .null) :: x158_1
theorem ox158_0 : sx_oks 158 x158_0 := ⟨Or.inr ⟨_, (sx_dd bb_158 dX8_covers_0), rfl, rfl⟩, ox158_1⟩
theorem m158 : sx_mok 158 x158_0 := ⟨ox158_0, by decide +kernel⟩
theorem bb_159 : sx_by 159 = cX8_fewest := rfl
theorem oo_159 : (sx_nm 159).cls = "StrawGarrisonModel" := rfl
theorem mm_159 : sx_ml 159 = 5 := rfl
theorem rr_159 : sx_rt 159 = (some .int) := rfl
def x159_65 : List sx_E := (.ireturn, 65, 66, [0], .null) :: []
theorem ox159_65 : sx_oks 159 x159_65 := ⟨sx_q_iret0 (sx_dd bb_159 dX8_fewest_65) rr_159, trivial⟩
def x159_64 : List sx_E := (.iload 1, 64, 65, [], .null) :: x159_65
theorem ox159_64 : sx_oks 159 x159_64 := ⟨Or.inr ⟨_, (sx_dd bb_159 dX8_fewest_64), rfl, rfl⟩, ox159_65⟩
def x159_61 : List sx_E := (.goto (-57), 61, 64, [4], .null) :: x159_64
theorem ox159_61 : sx_oks 159 x159_61 := ⟨⟨(sx_dd bb_159 dX8_fewest_61), sx_t1 (by decide +kernel)⟩, ox159_64⟩
def x159_60 : List sx_E := (.istore 2, 60, 61, [], .null) :: x159_61
theorem ox159_60 : sx_oks 159 x159_60 := ⟨⟨sx_lt mm_159 (Nat.le_of_ble_eq_true rfl), Or.inr ⟨_, (sx_dd bb_159 dX8_fewest_60), rfl, rfl⟩⟩, ox159_61⟩
def x159_59 : List sx_E := (.iadd, 59, 60, [], .null) :: x159_60
theorem ox159_59 : sx_oks 159 x159_59 := ⟨⟨(sx_dd bb_159 dX8_fewest_59), rfl⟩, ox159_60⟩
def x159_58 : List sx_E := (.nop, 58, 59, [], .int (nI 1)) :: x159_59
theorem ox159_58 : sx_oks 159 x159_58 := ⟨sx_k_iconst (sx_dd bb_159 dX8_fewest_58) (by decide +kernel), ox159_59⟩
def x159_55 : List sx_E := (.goto (4), 55, 58, [59], .null) :: x159_58
theorem ox159_55 : sx_oks 159 x159_55 := ⟨⟨(sx_dd bb_159 dX8_fewest_55), sx_t1 (by decide +kernel)⟩, ox159_58⟩
def x159_54 : List sx_E := (.nop, 54, 55, [], .int (nI 5)) :: x159_55
theorem ox159_54 : sx_oks 159 x159_54 := ⟨sx_k_iconst (sx_dd bb_159 dX8_fewest_54) (by decide +kernel), ox159_55⟩
def x159_51 : List sx_E := (.ifCond .eq (7), 51, 54, [58], .null) :: x159_54
theorem ox159_51 : sx_oks 159 x159_51 := ⟨⟨(sx_dd bb_159 dX8_fewest_51), rfl, sx_t1 (by decide +kernel)⟩, ox159_54⟩
def x159_49 : List sx_E := (.iload 4, 49, 51, [], .null) :: x159_51
theorem ox159_49 : sx_oks 159 x159_49 := ⟨Or.inl ⟨(sx_dd bb_159 dX8_fewest_49), rfl⟩, ox159_51⟩
def x159_48 : List sx_E := (.iload 2, 48, 49, [], .null) :: x159_49
theorem ox159_48 : sx_oks 159 x159_48 := ⟨Or.inr ⟨_, (sx_dd bb_159 dX8_fewest_48), rfl, rfl⟩, ox159_49⟩
def x159_47 : List sx_E := (.istore 1, 47, 48, [], .null) :: x159_48
theorem ox159_47 : sx_oks 159 x159_47 := ⟨⟨sx_lt mm_159 (Nat.le_of_ble_eq_true rfl), Or.inr ⟨_, (sx_dd bb_159 dX8_fewest_47), rfl, rfl⟩⟩, ox159_48⟩
def x159_46 : List sx_E := (.iadd, 46, 47, [], .null) :: x159_47
theorem ox159_46 : sx_oks 159 x159_46 := ⟨⟨(sx_dd bb_159 dX8_fewest_46), rfl⟩, ox159_47⟩
def x159_45 : List sx_E := (.nop, 45, 46, [], .int (nI 0)) :: x159_46
theorem ox159_45 : sx_oks 159 x159_45 := ⟨sx_k_iconst (sx_dd bb_159 dX8_fewest_45) (by decide +kernel), ox159_46⟩
def x159_42 : List sx_E := (.goto (4), 42, 45, [46], .null) :: x159_45
theorem ox159_42 : sx_oks 159 x159_42 := ⟨⟨(sx_dd bb_159 dX8_fewest_42), sx_t1 (by decide +kernel)⟩, ox159_45⟩
def x159_41 : List sx_E := (.nop, 41, 42, [], .int (nI 1)) :: x159_42
theorem ox159_41 : sx_oks 159 x159_41 := ⟨sx_k_iconst (sx_dd bb_159 dX8_fewest_41) (by decide +kernel), ox159_42⟩
def x159_38 : List sx_E := (.ifCond .eq (7), 38, 41, [45], .null) :: x159_41
theorem ox159_38 : sx_oks 159 x159_38 := ⟨⟨(sx_dd bb_159 dX8_fewest_38), rfl, sx_t1 (by decide +kernel)⟩, ox159_41⟩
def x159_36 : List sx_E := (.iload 4, 36, 38, [], .null) :: x159_38
theorem ox159_36 : sx_oks 159 x159_36 := ⟨Or.inl ⟨(sx_dd bb_159 dX8_fewest_36), rfl⟩, ox159_38⟩
def x159_35 : List sx_E := (.iload 1, 35, 36, [], .null) :: x159_36
theorem ox159_35 : sx_oks 159 x159_35 := ⟨Or.inr ⟨_, (sx_dd bb_159 dX8_fewest_35), rfl, rfl⟩, ox159_36⟩
def x159_33 : List sx_E := (.istore 4, 33, 35, [], .null) :: x159_35
theorem ox159_33 : sx_oks 159 x159_33 := ⟨⟨sx_lt mm_159 (Nat.le_of_ble_eq_true rfl), Or.inl ⟨(sx_dd bb_159 dX8_fewest_33), rfl⟩⟩, ox159_35⟩
def x159_32 : List sx_E := (.nop, 32, 33, [], .int (nI 0)) :: x159_33
theorem ox159_32 : sx_oks 159 x159_32 := ⟨sx_k_iconst (sx_dd bb_159 dX8_fewest_32) (by decide +kernel), ox159_33⟩
def x159_29 : List sx_E := (.goto (4), 29, 32, [33], .null) :: x159_32
theorem ox159_29 : sx_oks 159 x159_29 := ⟨⟨(sx_dd bb_159 dX8_fewest_29), sx_t1 (by decide +kernel)⟩, ox159_32⟩
def x159_28 : List sx_E := (.nop, 28, 29, [], .int (nI 1)) :: x159_29
theorem ox159_28 : sx_oks 159 x159_28 := ⟨sx_k_iconst (sx_dd bb_159 dX8_fewest_28) (by decide +kernel), ox159_29⟩
def x159_25 : List sx_E := (.ifCond .ne (7), 25, 28, [32], .null) :: x159_28
theorem ox159_25 : sx_oks 159 x159_25 := ⟨⟨(sx_dd bb_159 dX8_fewest_25), rfl, sx_t1 (by decide +kernel)⟩, ox159_28⟩
def x159_22 : List sx_E := (.invokevirtual 160, 22, 25, [131, 2, 0, 0, 7], .null) :: x159_25
theorem ox159_22 : sx_oks 159 x159_22 := ⟨sx_q_V (w := (RX8, TX8, 31)) (sx_dd bb_159 dX8_fewest_22) oo_159 lk_StrawGarrisonModel_160_V ft_131_h (Nat.le_of_ble_eq_true rfl) rfl rfl, ox159_25⟩
def x159_21 : List sx_E := (.iload 3, 21, 22, [], .null) :: x159_22
theorem ox159_21 : sx_oks 159 x159_21 := ⟨Or.inr ⟨_, (sx_dd bb_159 dX8_fewest_21), rfl, rfl⟩, ox159_22⟩
def x159_20 : List sx_E := (.aload 0, 20, 21, [], .null) :: x159_21
theorem ox159_20 : sx_oks 159 x159_20 := ⟨Or.inr ⟨_, (sx_dd bb_159 dX8_fewest_20), rfl, rfl⟩, ox159_21⟩
def x159_17 : List sx_E := (.ifCond .lt (15), 17, 20, [32], .null) :: x159_20
theorem ox159_17 : sx_oks 159 x159_17 := ⟨⟨(sx_dd bb_159 dX8_fewest_17), rfl, sx_t1 (by decide +kernel)⟩, ox159_20⟩
def x159_16 : List sx_E := (.iload 3, 16, 17, [], .null) :: x159_17
theorem ox159_16 : sx_oks 159 x159_16 := ⟨Or.inr ⟨_, (sx_dd bb_159 dX8_fewest_16), rfl, rfl⟩, ox159_17⟩
def x159_15 : List sx_E := (.istore 3, 15, 16, [], .null) :: x159_16
theorem ox159_15 : sx_oks 159 x159_15 := ⟨⟨sx_lt mm_159 (Nat.le_of_ble_eq_true rfl), Or.inr ⟨_, (sx_dd bb_159 dX8_fewest_15), rfl, rfl⟩⟩, ox159_16⟩
def x159_12 : List sx_E := (.invokevirtual 89, 12, 15, [126, 2, 0, 0, 7], .null) :: x159_15
theorem ox159_12 : sx_oks 159 x159_12 := ⟨sx_q_V (w := (RX8, TX8, 31)) (sx_dd bb_159 dX8_fewest_12) oo_159 lk_StrawGarrisonModel_89_V ft_126_h (Nat.le_of_ble_eq_true rfl) rfl rfl, ox159_15⟩
def x159_11 : List sx_E := (.iload 2, 11, 12, [], .null) :: x159_12
theorem ox159_11 : sx_oks 159 x159_11 := ⟨Or.inr ⟨_, (sx_dd bb_159 dX8_fewest_11), rfl, rfl⟩, ox159_12⟩
def x159_10 : List sx_E := (.aload 0, 10, 11, [], .null) :: x159_11
theorem ox159_10 : sx_oks 159 x159_10 := ⟨Or.inr ⟨_, (sx_dd bb_159 dX8_fewest_10), rfl, rfl⟩, ox159_11⟩
def x159_7 : List sx_E := (.if_icmp .ge (57), 7, 10, [64], .null) :: x159_10
theorem ox159_7 : sx_oks 159 x159_7 := ⟨⟨(sx_dd bb_159 dX8_fewest_7), rfl, sx_t1 (by decide +kernel)⟩, ox159_10⟩
def x159_5 : List sx_E := (.nop, 5, 7, [], .int (nI 20)) :: x159_7
theorem ox159_5 : sx_oks 159 x159_5 := ⟨sx_k_bipush (sx_dd bb_159 dX8_fewest_5) (by decide +kernel), ox159_7⟩
def x159_4 : List sx_E := (.iload 2, 4, 5, [], .null) :: x159_5
theorem ox159_4 : sx_oks 159 x159_4 := ⟨Or.inr ⟨_, (sx_dd bb_159 dX8_fewest_4), rfl, rfl⟩, ox159_5⟩
def x159_4h : List sx_E := (.monitorenter, 4, 4, [0, 1, 2], .null) :: x159_4
theorem ox159_4h : sx_oks 159 x159_4h := ⟨trivial, ox159_4⟩
def x159_3 : List sx_E := (.istore 2, 3, 4, [], .null) :: x159_4h
theorem ox159_3 : sx_oks 159 x159_3 := ⟨⟨sx_lt mm_159 (Nat.le_of_ble_eq_true rfl), Or.inr ⟨_, (sx_dd bb_159 dX8_fewest_3), rfl, rfl⟩⟩, ox159_4h⟩
def x159_2 : List sx_E := (.nop, 2, 3, [], .int (nI 0)) :: x159_3
theorem ox159_2 : sx_oks 159 x159_2 := ⟨sx_k_iconst (sx_dd bb_159 dX8_fewest_2) (by decide +kernel), ox159_3⟩
def x159_1 : List sx_E := (.istore 1, 1, 2, [], .null) :: x159_2
theorem ox159_1 : sx_oks 159 x159_1 := ⟨⟨sx_lt mm_159 (Nat.le_of_ble_eq_true rfl), Or.inr ⟨_, (sx_dd bb_159 dX8_fewest_1), rfl, rfl⟩⟩, ox159_2⟩
def x159_0 : List sx_E := (.nop, 0, 1, [], .int (nI 0)) :: x159_1
theorem ox159_0 : sx_oks 159 x159_0 := ⟨sx_k_iconst (sx_dd bb_159 dX8_fewest_0) (by decide +kernel), ox159_1⟩
theorem m159 : sx_mok 159 x159_0 := ⟨ox159_0, by decide +kernel⟩
theorem bb_160 : sx_by 160 = cX8_laysBy := rfl
theorem oo_160 : (sx_nm 160).cls = "StrawGarrisonModel" := rfl
theorem mm_160 : sx_ml 160 = 2 := rfl
theorem rr_160 : sx_rt 160 = none := rfl
def x160_26 : List sx_E := (.return_, 26, 27, [], .null) :: []
theorem ox160_26 : sx_oks 160 x160_26 := ⟨⟨(sx_dd bb_160 dX8_laysBy_26), rr_160⟩, trivial⟩
def x160_23 : List sx_E := (.goto (-21), 23, 26, [2], .null) :: x160_26
theorem ox160_23 : sx_oks 160 x160_23 := ⟨⟨(sx_dd bb_160 dX8_laysBy_23), sx_t1 (by decide +kernel)⟩, ox160_26⟩
def x160_20 : List sx_E := (.iinc 1 (1), 20, 23, [], .int (nI 1)) :: x160_23
theorem ox160_20 : sx_oks 160 x160_20 := ⟨⟨sx_lt mm_160 (Nat.le_of_ble_eq_true rfl), (sx_dd bb_160 dX8_laysBy_20), rfl, by decide +kernel⟩, ox160_23⟩
def x160_19 : List sx_E := (.iastore, 19, 20, [], .null) :: x160_20
theorem ox160_19 : sx_oks 160 x160_19 := ⟨⟨(sx_dd bb_160 dX8_laysBy_19), rfl⟩, ox160_20⟩
def x160_18 : List sx_E := (.iaload, 18, 19, [], .null) :: x160_19
theorem ox160_18 : sx_oks 160 x160_18 := ⟨⟨(sx_dd bb_160 dX8_laysBy_18), rfl⟩, ox160_19⟩
def x160_17 : List sx_E := (.iload 1, 17, 18, [], .null) :: x160_18
theorem ox160_17 : sx_oks 160 x160_17 := ⟨Or.inr ⟨_, (sx_dd bb_160 dX8_laysBy_17), rfl, rfl⟩, ox160_18⟩
def x160_14 : List sx_E := (.getfield 7, 14, 17, [7, 0, 1], .null) :: x160_17
theorem ox160_14 : sx_oks 160 x160_14 := ⟨sx_q_get (w := (RX8, TX8, 31)) (sx_dd bb_160 dX8_laysBy_14) rfl rfl (Nat.le_of_ble_eq_true rfl) cu_7 (sx_ow3 oo_160 fl_StrawGarrisonModel_7) (by decide +kernel), ox160_17⟩
def x160_13 : List sx_E := (.aload 0, 13, 14, [], .null) :: x160_14
theorem ox160_13 : sx_oks 160 x160_13 := ⟨Or.inr ⟨_, (sx_dd bb_160 dX8_laysBy_13), rfl, rfl⟩, ox160_14⟩
def x160_12 : List sx_E := (.iload 1, 12, 13, [], .null) :: x160_13
theorem ox160_12 : sx_oks 160 x160_12 := ⟨Or.inr ⟨_, (sx_dd bb_160 dX8_laysBy_12), rfl, rfl⟩, ox160_13⟩
def x160_9 : List sx_E := (.getfield 43, 9, 12, [7, 12, 1], .null) :: x160_12
theorem ox160_9 : sx_oks 160 x160_9 := ⟨sx_q_get (w := (RX8, TX8, 31)) (sx_dd bb_160 dX8_laysBy_9) rfl rfl (Nat.le_of_ble_eq_true rfl) cu_7 (sx_ow3 oo_160 fl_StrawGarrisonModel_43) (by decide +kernel), ox160_12⟩
def x160_8 : List sx_E := (.aload 0, 8, 9, [], .null) :: x160_9
theorem ox160_8 : sx_oks 160 x160_8 := ⟨Or.inr ⟨_, (sx_dd bb_160 dX8_laysBy_8), rfl, rfl⟩, ox160_9⟩
def x160_5 : List sx_E := (.if_icmp .ge (21), 5, 8, [26], .null) :: x160_8
theorem ox160_5 : sx_oks 160 x160_5 := ⟨⟨(sx_dd bb_160 dX8_laysBy_5), rfl, sx_t1 (by decide +kernel)⟩, ox160_8⟩
def x160_3 : List sx_E := (.nop, 3, 5, [], .int (nI 62)) :: x160_5
theorem ox160_3 : sx_oks 160 x160_3 := ⟨sx_k_bipush (sx_dd bb_160 dX8_laysBy_3) (by decide +kernel), ox160_5⟩
def x160_2 : List sx_E := (.iload 1, 2, 3, [], .null) :: x160_3
theorem ox160_2 : sx_oks 160 x160_2 := ⟨Or.inr ⟨_, (sx_dd bb_160 dX8_laysBy_2), rfl, rfl⟩, ox160_3⟩
def x160_2h : List sx_E := (.monitorenter, 2, 2, [0, 1], .null) :: x160_2
theorem ox160_2h : sx_oks 160 x160_2h := ⟨trivial, ox160_2⟩
def x160_1 : List sx_E := (.istore 1, 1, 2, [], .null) :: x160_2h
theorem ox160_1 : sx_oks 160 x160_1 := ⟨⟨sx_lt mm_160 (Nat.le_of_ble_eq_true rfl), Or.inr ⟨_, (sx_dd bb_160 dX8_laysBy_1), rfl, rfl⟩⟩, ox160_2h⟩
def x160_0 : List sx_E := (.nop, 0, 1, [], .int (nI 0)) :: x160_1
theorem ox160_0 : sx_oks 160 x160_0 := ⟨sx_k_iconst (sx_dd bb_160 dX8_laysBy_0) (by decide +kernel), ox160_1⟩
theorem m160 : sx_mok 160 x160_0 := ⟨ox160_0, by decide +kernel⟩
theorem bb_161 : sx_by 161 = cX8_laysBack := rfl
theorem oo_161 : (sx_nm 161).cls = "StrawGarrisonModel" := rfl
theorem mm_161 : sx_ml 161 = 2 := rfl
theorem rr_161 : sx_rt 161 = none := rfl
def x161_26 : List sx_E := (.return_, 26, 27, [], .null) :: []
theorem ox161_26 : sx_oks 161 x161_26 := ⟨⟨(sx_dd bb_161 dX8_laysBack_26), rr_161⟩, trivial⟩
def x161_23 : List sx_E := (.goto (-21), 23, 26, [2], .null) :: x161_26
theorem ox161_23 : sx_oks 161 x161_23 := ⟨⟨(sx_dd bb_161 dX8_laysBack_23), sx_t1 (by decide +kernel)⟩, ox161_26⟩
def x161_20 : List sx_E := (.iinc 1 (1), 20, 23, [], .int (nI 1)) :: x161_23
theorem ox161_20 : sx_oks 161 x161_20 := ⟨⟨sx_lt mm_161 (Nat.le_of_ble_eq_true rfl), (sx_dd bb_161 dX8_laysBack_20), rfl, by decide +kernel⟩, ox161_23⟩
def x161_19 : List sx_E := (.iastore, 19, 20, [], .null) :: x161_20
theorem ox161_19 : sx_oks 161 x161_19 := ⟨⟨(sx_dd bb_161 dX8_laysBack_19), rfl⟩, ox161_20⟩
def x161_18 : List sx_E := (.iaload, 18, 19, [], .null) :: x161_19
theorem ox161_18 : sx_oks 161 x161_18 := ⟨⟨(sx_dd bb_161 dX8_laysBack_18), rfl⟩, ox161_19⟩
def x161_17 : List sx_E := (.iload 1, 17, 18, [], .null) :: x161_18
theorem ox161_17 : sx_oks 161 x161_17 := ⟨Or.inr ⟨_, (sx_dd bb_161 dX8_laysBack_17), rfl, rfl⟩, ox161_18⟩
def x161_14 : List sx_E := (.getfield 43, 14, 17, [7, 12, 1], .null) :: x161_17
theorem ox161_14 : sx_oks 161 x161_14 := ⟨sx_q_get (w := (RX8, TX8, 31)) (sx_dd bb_161 dX8_laysBack_14) rfl rfl (Nat.le_of_ble_eq_true rfl) cu_7 (sx_ow3 oo_161 fl_StrawGarrisonModel_43) (by decide +kernel), ox161_17⟩
def x161_13 : List sx_E := (.aload 0, 13, 14, [], .null) :: x161_14
theorem ox161_13 : sx_oks 161 x161_13 := ⟨Or.inr ⟨_, (sx_dd bb_161 dX8_laysBack_13), rfl, rfl⟩, ox161_14⟩
def x161_12 : List sx_E := (.iload 1, 12, 13, [], .null) :: x161_13
theorem ox161_12 : sx_oks 161 x161_12 := ⟨Or.inr ⟨_, (sx_dd bb_161 dX8_laysBack_12), rfl, rfl⟩, ox161_13⟩
def x161_9 : List sx_E := (.getfield 7, 9, 12, [7, 0, 1], .null) :: x161_12
theorem ox161_9 : sx_oks 161 x161_9 := ⟨sx_q_get (w := (RX8, TX8, 31)) (sx_dd bb_161 dX8_laysBack_9) rfl rfl (Nat.le_of_ble_eq_true rfl) cu_7 (sx_ow3 oo_161 fl_StrawGarrisonModel_7) (by decide +kernel), ox161_12⟩
def x161_8 : List sx_E := (.aload 0, 8, 9, [], .null) :: x161_9
theorem ox161_8 : sx_oks 161 x161_8 := ⟨Or.inr ⟨_, (sx_dd bb_161 dX8_laysBack_8), rfl, rfl⟩, ox161_9⟩
def x161_5 : List sx_E := (.if_icmp .ge (21), 5, 8, [26], .null) :: x161_8
theorem ox161_5 : sx_oks 161 x161_5 := ⟨⟨(sx_dd bb_161 dX8_laysBack_5), rfl, sx_t1 (by decide +kernel)⟩, ox161_8⟩
def x161_3 : List sx_E := (.nop, 3, 5, [], .int (nI 62)) :: x161_5
theorem ox161_3 : sx_oks 161 x161_3 := ⟨sx_k_bipush (sx_dd bb_161 dX8_laysBack_3) (by decide +kernel), ox161_5⟩
def x161_2 : List sx_E := (.iload 1, 2, 3, [], .null) :: x161_3
theorem ox161_2 : sx_oks 161 x161_2 := ⟨Or.inr ⟨_, (sx_dd bb_161 dX8_laysBack_2), rfl, rfl⟩, ox161_3⟩
def x161_2h : List sx_E := (.monitorenter, 2, 2, [0, 1], .null) :: x161_2
theorem ox161_2h : sx_oks 161 x161_2h := ⟨trivial, ox161_2⟩
def x161_1 : List sx_E := (.istore 1, 1, 2, [], .null) :: x161_2h
theorem ox161_1 : sx_oks 161 x161_1 := ⟨⟨sx_lt mm_161 (Nat.le_of_ble_eq_true rfl), Or.inr ⟨_, (sx_dd bb_161 dX8_laysBack_1), rfl, rfl⟩⟩, ox161_2h⟩
def x161_0 : List sx_E := (.nop, 0, 1, [], .int (nI 0)) :: x161_1
theorem ox161_0 : sx_oks 161 x161_0 := ⟨sx_k_iconst (sx_dd bb_161 dX8_laysBack_0) (by decide +kernel), ox161_1⟩
theorem m161 : sx_mok 161 x161_0 := ⟨ox161_0, by decide +kernel⟩
theorem bb_162 : sx_by 162 = cX8_behind := rfl
theorem oo_162 : (sx_nm 162).cls = "StrawGarrisonModel" := rfl
theorem mm_162 : sx_ml 162 = 4 := rfl
theorem rr_162 : sx_rt 162 = (some .int) := rfl
def x162_86 : List sx_E := (.ireturn, 86, 87, [0], .null) :: []
theorem ox162_86 : sx_oks 162 x162_86 := ⟨sx_q_iret0 (sx_dd bb_162 dX8_behind_86) rr_162, trivial⟩
def x162_85 : List sx_E := (.iload 3, 85, 86, [], .null) :: x162_86
theorem ox162_85 : sx_oks 162 x162_85 := ⟨Or.inr ⟨_, (sx_dd bb_162 dX8_behind_85), rfl, rfl⟩, ox162_86⟩
def x162_82 : List sx_E := (.invokevirtual 199, 82, 85, [161, 1, 0, 0, 7], .null) :: x162_85
theorem ox162_82 : sx_oks 162 x162_82 := ⟨sx_q_V (w := (RX8, TX8, 31)) (sx_dd bb_162 dX8_behind_82) oo_162 lk_StrawGarrisonModel_199_V ft_161_h (Nat.le_of_ble_eq_true rfl) rfl rfl, ox162_85⟩
def x162_81 : List sx_E := (.aload 0, 81, 82, [], .null) :: x162_82
theorem ox162_81 : sx_oks 162 x162_81 := ⟨Or.inr ⟨_, (sx_dd bb_162 dX8_behind_81), rfl, rfl⟩, ox162_82⟩
def x162_80 : List sx_E := (.istore 3, 80, 81, [], .null) :: x162_81
theorem ox162_80 : sx_oks 162 x162_80 := ⟨⟨sx_lt mm_162 (Nat.le_of_ble_eq_true rfl), Or.inr ⟨_, (sx_dd bb_162 dX8_behind_80), rfl, rfl⟩⟩, ox162_81⟩
def x162_77 : List sx_E := (.invokevirtual 72, 77, 80, [119, 3, 0, 0, 7], .null) :: x162_80
theorem ox162_77 : sx_oks 162 x162_77 := ⟨sx_q_V (w := (RX8, TX8, 31)) (sx_dd bb_162 dX8_behind_77) oo_162 lk_StrawGarrisonModel_72_V ft_119_h (Nat.le_of_ble_eq_true rfl) rfl rfl, ox162_80⟩
def x162_76 : List sx_E := (.nop, 76, 77, [], .int (nI 3)) :: x162_77
theorem ox162_76 : sx_oks 162 x162_76 := ⟨sx_k_iconst (sx_dd bb_162 dX8_behind_76) (by decide +kernel), ox162_77⟩
def x162_75 : List sx_E := (.isub, 75, 76, [], .null) :: x162_76
theorem ox162_75 : sx_oks 162 x162_75 := ⟨⟨(sx_dd bb_162 dX8_behind_75), rfl⟩, ox162_76⟩
def x162_74 : List sx_E := (.nop, 74, 75, [], .int (nI 4)) :: x162_75
theorem ox162_74 : sx_oks 162 x162_74 := ⟨sx_k_iconst (sx_dd bb_162 dX8_behind_74) (by decide +kernel), ox162_75⟩
def x162_73 : List sx_E := (.iload 2, 73, 74, [], .null) :: x162_74
theorem ox162_73 : sx_oks 162 x162_73 := ⟨Or.inr ⟨_, (sx_dd bb_162 dX8_behind_73), rfl, rfl⟩, ox162_74⟩
def x162_72 : List sx_E := (.aload 0, 72, 73, [], .null) :: x162_73
theorem ox162_72 : sx_oks 162 x162_72 := ⟨Or.inr ⟨_, (sx_dd bb_162 dX8_behind_72), rfl, rfl⟩, ox162_73⟩
def x162_69 : List sx_E := (.goto (11), 69, 72, [80], .null) :: x162_72
theorem ox162_69 : sx_oks 162 x162_69 := ⟨⟨(sx_dd bb_162 dX8_behind_69), sx_t1 (by decide +kernel)⟩, ox162_72⟩
def x162_66 : List sx_E := (.invokevirtual 170, 66, 69, [144, 1, 0, 0, 7], .null) :: x162_69
theorem ox162_66 : sx_oks 162 x162_66 := ⟨sx_q_V (w := (RX8, TX8, 31)) (sx_dd bb_162 dX8_behind_66) oo_162 lk_StrawGarrisonModel_170_V ft_144_h (Nat.le_of_ble_eq_true rfl) rfl rfl, ox162_69⟩
def x162_65 : List sx_E := (.aload 0, 65, 66, [], .null) :: x162_66
theorem ox162_65 : sx_oks 162 x162_65 := ⟨Or.inr ⟨_, (sx_dd bb_162 dX8_behind_65), rfl, rfl⟩, ox162_66⟩
def x162_62 : List sx_E := (.if_icmp .ne (10), 62, 65, [72], .null) :: x162_65
theorem ox162_62 : sx_oks 162 x162_62 := ⟨⟨(sx_dd bb_162 dX8_behind_62), rfl, sx_t1 (by decide +kernel)⟩, ox162_65⟩
def x162_61 : List sx_E := (.nop, 61, 62, [], .int (nI 3)) :: x162_62
theorem ox162_61 : sx_oks 162 x162_61 := ⟨sx_k_iconst (sx_dd bb_162 dX8_behind_61) (by decide +kernel), ox162_62⟩
def x162_60 : List sx_E := (.iload 2, 60, 61, [], .null) :: x162_61
theorem ox162_60 : sx_oks 162 x162_60 := ⟨Or.inr ⟨_, (sx_dd bb_162 dX8_behind_60), rfl, rfl⟩, ox162_61⟩
def x162_57 : List sx_E := (.goto (23), 57, 60, [80], .null) :: x162_60
theorem ox162_57 : sx_oks 162 x162_57 := ⟨⟨(sx_dd bb_162 dX8_behind_57), sx_t1 (by decide +kernel)⟩, ox162_60⟩
def x162_56 : List sx_E := (.iaload, 56, 57, [], .null) :: x162_57
theorem ox162_56 : sx_oks 162 x162_56 := ⟨⟨(sx_dd bb_162 dX8_behind_56), rfl⟩, ox162_57⟩
def x162_55 : List sx_E := (.iadd, 55, 56, [], .null) :: x162_56
theorem ox162_55 : sx_oks 162 x162_55 := ⟨⟨(sx_dd bb_162 dX8_behind_55), rfl⟩, ox162_56⟩
def x162_54 : List sx_E := (.iload 2, 54, 55, [], .null) :: x162_55
theorem ox162_54 : sx_oks 162 x162_54 := ⟨Or.inr ⟨_, (sx_dd bb_162 dX8_behind_54), rfl, rfl⟩, ox162_55⟩
def x162_52 : List sx_E := (.nop, 52, 54, [], .int (nI 7)) :: x162_54
theorem ox162_52 : sx_oks 162 x162_52 := ⟨sx_k_bipush (sx_dd bb_162 dX8_behind_52) (by decide +kernel), ox162_54⟩
def x162_49 : List sx_E := (.getfield 7, 49, 52, [7, 0, 1], .null) :: x162_52
theorem ox162_49 : sx_oks 162 x162_49 := ⟨sx_q_get (w := (RX8, TX8, 31)) (sx_dd bb_162 dX8_behind_49) rfl rfl (Nat.le_of_ble_eq_true rfl) cu_7 (sx_ow3 oo_162 fl_StrawGarrisonModel_7) (by decide +kernel), ox162_52⟩
def x162_48 : List sx_E := (.aload 0, 48, 49, [], .null) :: x162_49
theorem ox162_48 : sx_oks 162 x162_48 := ⟨Or.inr ⟨_, (sx_dd bb_162 dX8_behind_48), rfl, rfl⟩, ox162_49⟩
def x162_45 : List sx_E := (.if_icmp .ge (15), 45, 48, [60], .null) :: x162_48
theorem ox162_45 : sx_oks 162 x162_45 := ⟨⟨(sx_dd bb_162 dX8_behind_45), rfl, sx_t1 (by decide +kernel)⟩, ox162_48⟩
def x162_44 : List sx_E := (.nop, 44, 45, [], .int (nI 3)) :: x162_45
theorem ox162_44 : sx_oks 162 x162_44 := ⟨sx_k_iconst (sx_dd bb_162 dX8_behind_44) (by decide +kernel), ox162_45⟩
def x162_43 : List sx_E := (.iload 2, 43, 44, [], .null) :: x162_44
theorem ox162_43 : sx_oks 162 x162_43 := ⟨Or.inr ⟨_, (sx_dd bb_162 dX8_behind_43), rfl, rfl⟩, ox162_44⟩
def x162_40 : List sx_E := (.invokevirtual 182, 40, 43, [150, 2, 0, 0, 7], .null) :: x162_43
theorem ox162_40 : sx_oks 162 x162_40 := ⟨sx_q_V (w := (RX8, TX8, 31)) (sx_dd bb_162 dX8_behind_40) oo_162 lk_StrawGarrisonModel_182_V ft_150_h (Nat.le_of_ble_eq_true rfl) rfl rfl, ox162_43⟩
def x162_39 : List sx_E := (.iload 1, 39, 40, [], .null) :: x162_40
theorem ox162_39 : sx_oks 162 x162_39 := ⟨Or.inr ⟨_, (sx_dd bb_162 dX8_behind_39), rfl, rfl⟩, ox162_40⟩
def x162_38 : List sx_E := (.aload 0, 38, 39, [], .null) :: x162_39
theorem ox162_38 : sx_oks 162 x162_38 := ⟨Or.inr ⟨_, (sx_dd bb_162 dX8_behind_38), rfl, rfl⟩, ox162_39⟩
def x162_35 : List sx_E := (.invokevirtual 196, 35, 38, [160, 1, 0, 0, 7], .null) :: x162_38
theorem ox162_35 : sx_oks 162 x162_35 := ⟨sx_q_V (w := (RX8, TX8, 31)) (sx_dd bb_162 dX8_behind_35) oo_162 lk_StrawGarrisonModel_196_V ft_160_h (Nat.le_of_ble_eq_true rfl) rfl rfl, ox162_38⟩
def x162_34 : List sx_E := (.aload 0, 34, 35, [], .null) :: x162_35
theorem ox162_34 : sx_oks 162 x162_34 := ⟨Or.inr ⟨_, (sx_dd bb_162 dX8_behind_34), rfl, rfl⟩, ox162_35⟩
def x162_33 : List sx_E := (.ireturn, 33, 34, [0], .null) :: x162_34
theorem ox162_33 : sx_oks 162 x162_33 := ⟨sx_q_iret0 (sx_dd bb_162 dX8_behind_33) rr_162, ox162_34⟩
def x162_31 : List sx_E := (.nop, 31, 33, [], .int ((-1000000001))) :: x162_33
theorem ox162_31 : sx_oks 162 x162_31 := ⟨sx_k_ldc (sx_dd bb_162 dX8_behind_31) (sx_ow1 oo_162 kc_StrawGarrisonModel_88), ox162_33⟩
def x162_28 : List sx_E := (.ifCond .ne (6), 28, 31, [34], .null) :: x162_31
theorem ox162_28 : sx_oks 162 x162_28 := ⟨⟨(sx_dd bb_162 dX8_behind_28), rfl, sx_t1 (by decide +kernel)⟩, ox162_31⟩
def x162_25 : List sx_E := (.invokevirtual 110, 25, 28, [121, 2, 0, 0, 7], .null) :: x162_28
theorem ox162_25 : sx_oks 162 x162_25 := ⟨sx_q_V (w := (RX8, TX8, 31)) (sx_dd bb_162 dX8_behind_25) oo_162 lk_StrawGarrisonModel_110_V ft_121_h (Nat.le_of_ble_eq_true rfl) rfl rfl, ox162_28⟩
def x162_24 : List sx_E := (.isub, 24, 25, [], .null) :: x162_25
theorem ox162_24 : sx_oks 162 x162_24 := ⟨⟨(sx_dd bb_162 dX8_behind_24), rfl⟩, ox162_25⟩
def x162_23 : List sx_E := (.nop, 23, 24, [], .int (nI 4)) :: x162_24
theorem ox162_23 : sx_oks 162 x162_23 := ⟨sx_k_iconst (sx_dd bb_162 dX8_behind_23) (by decide +kernel), ox162_24⟩
def x162_22 : List sx_E := (.iload 2, 22, 23, [], .null) :: x162_23
theorem ox162_22 : sx_oks 162 x162_22 := ⟨Or.inr ⟨_, (sx_dd bb_162 dX8_behind_22), rfl, rfl⟩, ox162_23⟩
def x162_21 : List sx_E := (.aload 0, 21, 22, [], .null) :: x162_22
theorem ox162_21 : sx_oks 162 x162_21 := ⟨Or.inr ⟨_, (sx_dd bb_162 dX8_behind_21), rfl, rfl⟩, ox162_22⟩
def x162_18 : List sx_E := (.if_icmp .le (16), 18, 21, [34], .null) :: x162_21
theorem ox162_18 : sx_oks 162 x162_18 := ⟨⟨(sx_dd bb_162 dX8_behind_18), rfl, sx_t1 (by decide +kernel)⟩, ox162_21⟩
def x162_17 : List sx_E := (.nop, 17, 18, [], .int (nI 3)) :: x162_18
theorem ox162_17 : sx_oks 162 x162_17 := ⟨sx_k_iconst (sx_dd bb_162 dX8_behind_17) (by decide +kernel), ox162_18⟩
def x162_16 : List sx_E := (.iload 2, 16, 17, [], .null) :: x162_17
theorem ox162_16 : sx_oks 162 x162_16 := ⟨Or.inr ⟨_, (sx_dd bb_162 dX8_behind_16), rfl, rfl⟩, ox162_17⟩
def x162_13 : List sx_E := (.ifCond .lt (18), 13, 16, [31], .null) :: x162_16
theorem ox162_13 : sx_oks 162 x162_13 := ⟨⟨(sx_dd bb_162 dX8_behind_13), rfl, sx_t1 (by decide +kernel)⟩, ox162_16⟩
def x162_12 : List sx_E := (.iload 2, 12, 13, [], .null) :: x162_13
theorem ox162_12 : sx_oks 162 x162_12 := ⟨Or.inr ⟨_, (sx_dd bb_162 dX8_behind_12), rfl, rfl⟩, ox162_13⟩
def x162_9 : List sx_E := (.ifCond .eq (22), 9, 12, [31], .null) :: x162_12
theorem ox162_9 : sx_oks 162 x162_9 := ⟨⟨(sx_dd bb_162 dX8_behind_9), rfl, sx_t1 (by decide +kernel)⟩, ox162_12⟩
def x162_6 : List sx_E := (.invokestatic 65, 6, 9, [113, 3, 0, 0], .null) :: x162_9
theorem ox162_6 : sx_oks 162 x162_6 := ⟨sx_q_S (sx_dd bb_162 dX8_behind_6) oo_162 lk_StrawGarrisonModel_65_S ft_113_h, ox162_9⟩
def x162_3 : List sx_E := (.nop, 3, 6, [], .long (100)) :: x162_6
theorem ox162_3 : sx_oks 162 x162_3 := ⟨sx_k_ldc2 (sx_dd bb_162 dX8_behind_3) (sx_ow2 oo_162 kl_StrawGarrisonModel_144), ox162_6⟩
def x162_2 : List sx_E := (.nop, 2, 3, [], .long (0)) :: x162_3
theorem ox162_2 : sx_oks 162 x162_2 := ⟨sx_k_lconst (sx_dd bb_162 dX8_behind_2) (by decide +kernel), ox162_3⟩
def x162_1 : List sx_E := (.i2l, 1, 2, [], .null) :: x162_2
theorem ox162_1 : sx_oks 162 x162_1 := ⟨⟨(sx_dd bb_162 dX8_behind_1), rfl⟩, ox162_2⟩
def x162_0 : List sx_E := (.iload 1, 0, 1, [], .null) :: x162_1
theorem ox162_0 : sx_oks 162 x162_0 := ⟨Or.inr ⟨_, (sx_dd bb_162 dX8_behind_0), rfl, rfl⟩, ox162_1⟩
theorem m162 : sx_mok 162 x162_0 := ⟨ox162_0, by decide +kernel⟩
theorem bb_163 : sx_by 163 = cX8_bluff := rfl
theorem oo_163 : (sx_nm 163).cls = "StrawGarrisonModel" := rfl
theorem mm_163 : sx_ml 163 = 4 := rfl
theorem rr_163 : sx_rt 163 = (some .int) := rfl
def x163_64 : List sx_E := (.ireturn, 64, 65, [0], .null) :: []
theorem ox163_64 : sx_oks 163 x163_64 := ⟨sx_q_iret0 (sx_dd bb_163 dX8_bluff_64) rr_163, trivial⟩
def x163_62 : List sx_E := (.nop, 62, 64, [], .int ((-1000000005))) :: x163_64
theorem ox163_62 : sx_oks 163 x163_62 := ⟨sx_k_ldc (sx_dd bb_163 dX8_bluff_62) (sx_ow1 oo_163 kc_StrawGarrisonModel_64), ox163_64⟩
def x163_59 : List sx_E := (.goto (5), 59, 62, [64], .null) :: x163_62
theorem ox163_59 : sx_oks 163 x163_59 := ⟨⟨(sx_dd bb_163 dX8_bluff_59), sx_t1 (by decide +kernel)⟩, ox163_62⟩
def x163_58 : List sx_E := (.iload 2, 58, 59, [], .null) :: x163_59
theorem ox163_58 : sx_oks 163 x163_58 := ⟨Or.inr ⟨_, (sx_dd bb_163 dX8_bluff_58), rfl, rfl⟩, ox163_59⟩
def x163_55 : List sx_E := (.ifCond .eq (7), 55, 58, [62], .null) :: x163_58
theorem ox163_55 : sx_oks 163 x163_55 := ⟨⟨(sx_dd bb_163 dX8_bluff_55), rfl, sx_t1 (by decide +kernel)⟩, ox163_58⟩
def x163_54 : List sx_E := (.iload 3, 54, 55, [], .null) :: x163_55
theorem ox163_54 : sx_oks 163 x163_54 := ⟨Or.inr ⟨_, (sx_dd bb_163 dX8_bluff_54), rfl, rfl⟩, ox163_55⟩
def x163_51 : List sx_E := (.invokevirtual 199, 51, 54, [161, 1, 0, 0, 7], .null) :: x163_54
theorem ox163_51 : sx_oks 163 x163_51 := ⟨sx_q_V (w := (RX8, TX8, 31)) (sx_dd bb_163 dX8_bluff_51) oo_163 lk_StrawGarrisonModel_199_V ft_161_h (Nat.le_of_ble_eq_true rfl) rfl rfl, ox163_54⟩
def x163_50 : List sx_E := (.aload 0, 50, 51, [], .null) :: x163_51
theorem ox163_50 : sx_oks 163 x163_50 := ⟨Or.inr ⟨_, (sx_dd bb_163 dX8_bluff_50), rfl, rfl⟩, ox163_51⟩
def x163_49 : List sx_E := (.istore 3, 49, 50, [], .null) :: x163_50
theorem ox163_49 : sx_oks 163 x163_49 := ⟨⟨sx_lt mm_163 (Nat.le_of_ble_eq_true rfl), Or.inr ⟨_, (sx_dd bb_163 dX8_bluff_49), rfl, rfl⟩⟩, ox163_50⟩
def x163_48 : List sx_E := (.nop, 48, 49, [], .int (nI 0)) :: x163_49
theorem ox163_48 : sx_oks 163 x163_48 := ⟨sx_k_iconst (sx_dd bb_163 dX8_bluff_48) (by decide +kernel), ox163_49⟩
def x163_45 : List sx_E := (.goto (4), 45, 48, [49], .null) :: x163_48
theorem ox163_45 : sx_oks 163 x163_45 := ⟨⟨(sx_dd bb_163 dX8_bluff_45), sx_t1 (by decide +kernel)⟩, ox163_48⟩
def x163_44 : List sx_E := (.nop, 44, 45, [], .int (nI 1)) :: x163_45
theorem ox163_44 : sx_oks 163 x163_44 := ⟨sx_k_iconst (sx_dd bb_163 dX8_bluff_44) (by decide +kernel), ox163_45⟩
def x163_41 : List sx_E := (.if_icmp .le (7), 41, 44, [48], .null) :: x163_44
theorem ox163_41 : sx_oks 163 x163_41 := ⟨⟨(sx_dd bb_163 dX8_bluff_41), rfl, sx_t1 (by decide +kernel)⟩, ox163_44⟩
def x163_40 : List sx_E := (.iload 1, 40, 41, [], .null) :: x163_41
theorem ox163_40 : sx_oks 163 x163_40 := ⟨Or.inr ⟨_, (sx_dd bb_163 dX8_bluff_40), rfl, rfl⟩, ox163_41⟩
def x163_37 : List sx_E := (.invokevirtual 179, 37, 40, [151, 1, 0, 0, 7], .null) :: x163_40
theorem ox163_37 : sx_oks 163 x163_37 := ⟨sx_q_V (w := (RX8, TX8, 31)) (sx_dd bb_163 dX8_bluff_37) oo_163 lk_StrawGarrisonModel_179_V ft_151_h (Nat.le_of_ble_eq_true rfl) rfl rfl, ox163_40⟩
def x163_36 : List sx_E := (.aload 0, 36, 37, [], .null) :: x163_37
theorem ox163_36 : sx_oks 163 x163_36 := ⟨Or.inr ⟨_, (sx_dd bb_163 dX8_bluff_36), rfl, rfl⟩, ox163_37⟩
def x163_33 : List sx_E := (.goto (-22), 33, 36, [11], .null) :: x163_36
theorem ox163_33 : sx_oks 163 x163_33 := ⟨⟨(sx_dd bb_163 dX8_bluff_33), sx_t1 (by decide +kernel)⟩, ox163_36⟩
def x163_30 : List sx_E := (.iinc 2 (1), 30, 33, [], .int (nI 1)) :: x163_33
theorem ox163_30 : sx_oks 163 x163_30 := ⟨⟨sx_lt mm_163 (Nat.le_of_ble_eq_true rfl), (sx_dd bb_163 dX8_bluff_30), rfl, by decide +kernel⟩, ox163_33⟩
def x163_27 : List sx_E := (.invokevirtual 176, 27, 30, [149, 1, 0, 0, 7], .null) :: x163_30
theorem ox163_27 : sx_oks 163 x163_27 := ⟨sx_q_V (w := (RX8, TX8, 31)) (sx_dd bb_163 dX8_bluff_27) oo_163 lk_StrawGarrisonModel_176_V ft_149_h (Nat.le_of_ble_eq_true rfl) rfl rfl, ox163_30⟩
def x163_26 : List sx_E := (.aload 0, 26, 27, [], .null) :: x163_27
theorem ox163_26 : sx_oks 163 x163_26 := ⟨Or.inr ⟨_, (sx_dd bb_163 dX8_bluff_26), rfl, rfl⟩, ox163_27⟩
def x163_23 : List sx_E := (.if_icmp .ne (13), 23, 26, [36], .null) :: x163_26
theorem ox163_23 : sx_oks 163 x163_23 := ⟨⟨(sx_dd bb_163 dX8_bluff_23), rfl, sx_t1 (by decide +kernel)⟩, ox163_26⟩
def x163_22 : List sx_E := (.iload 1, 22, 23, [], .null) :: x163_23
theorem ox163_22 : sx_oks 163 x163_22 := ⟨Or.inr ⟨_, (sx_dd bb_163 dX8_bluff_22), rfl, rfl⟩, ox163_23⟩
def x163_19 : List sx_E := (.invokevirtual 179, 19, 22, [151, 1, 0, 0, 7], .null) :: x163_22
theorem ox163_19 : sx_oks 163 x163_19 := ⟨sx_q_V (w := (RX8, TX8, 31)) (sx_dd bb_163 dX8_bluff_19) oo_163 lk_StrawGarrisonModel_179_V ft_151_h (Nat.le_of_ble_eq_true rfl) rfl rfl, ox163_22⟩
def x163_18 : List sx_E := (.aload 0, 18, 19, [], .null) :: x163_19
theorem ox163_18 : sx_oks 163 x163_18 := ⟨Or.inr ⟨_, (sx_dd bb_163 dX8_bluff_18), rfl, rfl⟩, ox163_19⟩
def x163_15 : List sx_E := (.if_icmp .ge (21), 15, 18, [36], .null) :: x163_18
theorem ox163_15 : sx_oks 163 x163_15 := ⟨⟨(sx_dd bb_163 dX8_bluff_15), rfl, sx_t1 (by decide +kernel)⟩, ox163_18⟩
def x163_12 : List sx_E := (.nop, 12, 15, [], .int (nI 200)) :: x163_15
theorem ox163_12 : sx_oks 163 x163_12 := ⟨sx_k_sipush (sx_dd bb_163 dX8_bluff_12) (by decide +kernel), ox163_15⟩
def x163_11 : List sx_E := (.iload 2, 11, 12, [], .null) :: x163_12
theorem ox163_11 : sx_oks 163 x163_11 := ⟨Or.inr ⟨_, (sx_dd bb_163 dX8_bluff_11), rfl, rfl⟩, ox163_12⟩
def x163_11h : List sx_E := (.monitorenter, 11, 11, [0, 1, 2], .null) :: x163_11
theorem ox163_11h : sx_oks 163 x163_11h := ⟨trivial, ox163_11⟩
def x163_10 : List sx_E := (.istore 2, 10, 11, [], .null) :: x163_11h
theorem ox163_10 : sx_oks 163 x163_10 := ⟨⟨sx_lt mm_163 (Nat.le_of_ble_eq_true rfl), Or.inr ⟨_, (sx_dd bb_163 dX8_bluff_10), rfl, rfl⟩⟩, ox163_11h⟩
def x163_9 : List sx_E := (.nop, 9, 10, [], .int (nI 0)) :: x163_10
theorem ox163_9 : sx_oks 163 x163_9 := ⟨sx_k_iconst (sx_dd bb_163 dX8_bluff_9) (by decide +kernel), ox163_10⟩
def x163_8 : List sx_E := (.istore 1, 8, 9, [], .null) :: x163_9
theorem ox163_8 : sx_oks 163 x163_8 := ⟨⟨sx_lt mm_163 (Nat.le_of_ble_eq_true rfl), Or.inr ⟨_, (sx_dd bb_163 dX8_bluff_8), rfl, rfl⟩⟩, ox163_9⟩
def x163_5 : List sx_E := (.invokevirtual 179, 5, 8, [151, 1, 0, 0, 7], .null) :: x163_8
theorem ox163_5 : sx_oks 163 x163_5 := ⟨sx_q_V (w := (RX8, TX8, 31)) (sx_dd bb_163 dX8_bluff_5) oo_163 lk_StrawGarrisonModel_179_V ft_151_h (Nat.le_of_ble_eq_true rfl) rfl rfl, ox163_8⟩
def x163_4 : List sx_E := (.aload 0, 4, 5, [], .null) :: x163_5
theorem ox163_4 : sx_oks 163 x163_4 := ⟨Or.inr ⟨_, (sx_dd bb_163 dX8_bluff_4), rfl, rfl⟩, ox163_5⟩
def x163_1 : List sx_E := (.invokevirtual 196, 1, 4, [160, 1, 0, 0, 7], .null) :: x163_4
theorem ox163_1 : sx_oks 163 x163_1 := ⟨sx_q_V (w := (RX8, TX8, 31)) (sx_dd bb_163 dX8_bluff_1) oo_163 lk_StrawGarrisonModel_196_V ft_160_h (Nat.le_of_ble_eq_true rfl) rfl rfl, ox163_4⟩
def x163_0 : List sx_E := (.aload 0, 0, 1, [], .null) :: x163_1
theorem ox163_0 : sx_oks 163 x163_0 := ⟨Or.inr ⟨_, (sx_dd bb_163 dX8_bluff_0), rfl, rfl⟩, ox163_1⟩
theorem m163 : sx_mok 163 x163_0 := ⟨ox163_0, by decide +kernel⟩
theorem bb_164 : sx_by 164 = cX8_isAsked := rfl
theorem oo_164 : (sx_nm 164).cls = "StrawGarrisonModel" := rfl
theorem mm_164 : sx_ml 164 = 2 := rfl
theorem rr_164 : sx_rt 164 = (some .boolean) := rfl
def x164_27 : List sx_E := (.ireturn, 27, 28, [1], .null) :: []
theorem ox164_27 : sx_oks 164 x164_27 := ⟨sx_q_iret1 (sx_dd bb_164 dX8_isAsked_27) rr_164, trivial⟩
def x164_26 : List sx_E := (.nop, 26, 27, [], .int (nI 0)) :: x164_27
theorem ox164_26 : sx_oks 164 x164_26 := ⟨sx_k_iconst (sx_dd bb_164 dX8_isAsked_26) (by decide +kernel), ox164_27⟩
def x164_23 : List sx_E := (.goto (4), 23, 26, [27], .null) :: x164_26
theorem ox164_23 : sx_oks 164 x164_23 := ⟨⟨(sx_dd bb_164 dX8_isAsked_23), sx_t1 (by decide +kernel)⟩, ox164_26⟩
def x164_22 : List sx_E := (.nop, 22, 23, [], .int (nI 1)) :: x164_23
theorem ox164_22 : sx_oks 164 x164_22 := ⟨sx_k_iconst (sx_dd bb_164 dX8_isAsked_22) (by decide +kernel), ox164_23⟩
def x164_19 : List sx_E := (.ifCond .eq (7), 19, 22, [26], .null) :: x164_22
theorem ox164_19 : sx_oks 164 x164_19 := ⟨⟨(sx_dd bb_164 dX8_isAsked_19), rfl, sx_t1 (by decide +kernel)⟩, ox164_22⟩
def x164_16 : List sx_E := (.invokestatic 65, 16, 19, [113, 3, 0, 0], .null) :: x164_19
theorem ox164_16 : sx_oks 164 x164_16 := ⟨sx_q_S (sx_dd bb_164 dX8_isAsked_16) oo_164 lk_StrawGarrisonModel_65_S ft_113_h, ox164_19⟩
def x164_15 : List sx_E := (.nop, 15, 16, [], .long (1)) :: x164_16
theorem ox164_15 : sx_oks 164 x164_15 := ⟨sx_k_lconst (sx_dd bb_164 dX8_isAsked_15) (by decide +kernel), ox164_16⟩
def x164_14 : List sx_E := (.nop, 14, 15, [], .long (0)) :: x164_15
theorem ox164_14 : sx_oks 164 x164_14 := ⟨sx_k_lconst (sx_dd bb_164 dX8_isAsked_14) (by decide +kernel), ox164_15⟩
def x164_13 : List sx_E := (.i2l, 13, 14, [], .null) :: x164_14
theorem ox164_13 : sx_oks 164 x164_13 := ⟨⟨(sx_dd bb_164 dX8_isAsked_13), rfl⟩, ox164_14⟩
def x164_12 : List sx_E := (.iload 1, 12, 13, [], .null) :: x164_13
theorem ox164_12 : sx_oks 164 x164_12 := ⟨Or.inr ⟨_, (sx_dd bb_164 dX8_isAsked_12), rfl, rfl⟩, ox164_13⟩
def x164_9 : List sx_E := (.ifCond .eq (17), 9, 12, [26], .null) :: x164_12
theorem ox164_9 : sx_oks 164 x164_9 := ⟨⟨(sx_dd bb_164 dX8_isAsked_9), rfl, sx_t1 (by decide +kernel)⟩, ox164_12⟩
def x164_6 : List sx_E := (.invokestatic 65, 6, 9, [113, 3, 0, 0], .null) :: x164_9
theorem ox164_6 : sx_oks 164 x164_6 := ⟨sx_q_S (sx_dd bb_164 dX8_isAsked_6) oo_164 lk_StrawGarrisonModel_65_S ft_113_h, ox164_9⟩
def x164_3 : List sx_E := (.nop, 3, 6, [], .long (60)) :: x164_6
theorem ox164_3 : sx_oks 164 x164_3 := ⟨sx_k_ldc2 (sx_dd bb_164 dX8_isAsked_3) (sx_ow2 oo_164 kl_StrawGarrisonModel_202), ox164_6⟩
def x164_2 : List sx_E := (.nop, 2, 3, [], .long (1)) :: x164_3
theorem ox164_2 : sx_oks 164 x164_2 := ⟨sx_k_lconst (sx_dd bb_164 dX8_isAsked_2) (by decide +kernel), ox164_3⟩
def x164_1 : List sx_E := (.i2l, 1, 2, [], .null) :: x164_2
theorem ox164_1 : sx_oks 164 x164_1 := ⟨⟨(sx_dd bb_164 dX8_isAsked_1), rfl⟩, ox164_2⟩
def x164_0 : List sx_E := (.iload 0, 0, 1, [], .null) :: x164_1
theorem ox164_0 : sx_oks 164 x164_0 := ⟨Or.inr ⟨_, (sx_dd bb_164 dX8_isAsked_0), rfl, rfl⟩, ox164_1⟩
theorem m164 : sx_mok 164 x164_0 := ⟨ox164_0, by decide +kernel⟩
theorem bb_165 : sx_by 165 = cX8_washed := rfl
theorem oo_165 : (sx_nm 165).cls = "StrawGarrisonModel" := rfl
theorem mm_165 : sx_ml 165 = 7 := rfl
theorem rr_165 : sx_rt 165 = (some .int) := rfl
def x165_112 : List sx_E := (.ireturn, 112, 113, [0], .null) :: []
theorem ox165_112 : sx_oks 165 x165_112 := ⟨sx_q_iret0 (sx_dd bb_165 dX8_washed_112) rr_165, trivial⟩
def x165_110 : List sx_E := (.iload 4, 110, 112, [], .null) :: x165_112
theorem ox165_110 : sx_oks 165 x165_110 := ⟨Or.inl ⟨(sx_dd bb_165 dX8_washed_110), rfl⟩, ox165_112⟩
def x165_107 : List sx_E := (.goto (5), 107, 110, [112], .null) :: x165_110
theorem ox165_107 : sx_oks 165 x165_107 := ⟨⟨(sx_dd bb_165 dX8_washed_107), sx_t1 (by decide +kernel)⟩, ox165_110⟩
def x165_106 : List sx_E := (.iload 3, 106, 107, [], .null) :: x165_107
theorem ox165_106 : sx_oks 165 x165_106 := ⟨Or.inr ⟨_, (sx_dd bb_165 dX8_washed_106), rfl, rfl⟩, ox165_107⟩
def x165_103 : List sx_E := (.ifCond .ne (7), 103, 106, [110], .null) :: x165_106
theorem ox165_103 : sx_oks 165 x165_103 := ⟨⟨(sx_dd bb_165 dX8_washed_103), rfl, sx_t1 (by decide +kernel)⟩, ox165_106⟩
def x165_102 : List sx_E := (.iload 2, 102, 103, [], .null) :: x165_103
theorem ox165_102 : sx_oks 165 x165_102 := ⟨Or.inr ⟨_, (sx_dd bb_165 dX8_washed_102), rfl, rfl⟩, ox165_103⟩
def x165_99 : List sx_E := (.goto (13), 99, 102, [112], .null) :: x165_102
theorem ox165_99 : sx_oks 165 x165_99 := ⟨⟨(sx_dd bb_165 dX8_washed_99), sx_t1 (by decide +kernel)⟩, ox165_102⟩
def x165_97 : List sx_E := (.nop, 97, 99, [], .int ((-1000000005))) :: x165_99
theorem ox165_97 : sx_oks 165 x165_97 := ⟨sx_k_ldc (sx_dd bb_165 dX8_washed_97) (sx_ow1 oo_165 kc_StrawGarrisonModel_64), ox165_99⟩
def x165_94 : List sx_E := (.ifCond .ge (8), 94, 97, [102], .null) :: x165_97
theorem ox165_94 : sx_oks 165 x165_94 := ⟨⟨(sx_dd bb_165 dX8_washed_94), rfl, sx_t1 (by decide +kernel)⟩, ox165_97⟩
def x165_93 : List sx_E := (.iload 3, 93, 94, [], .null) :: x165_94
theorem ox165_93 : sx_oks 165 x165_93 := ⟨Or.inr ⟨_, (sx_dd bb_165 dX8_washed_93), rfl, rfl⟩, ox165_94⟩
def x165_90 : List sx_E := (.goto (-67), 90, 93, [23], .null) :: x165_93
theorem ox165_90 : sx_oks 165 x165_90 := ⟨⟨(sx_dd bb_165 dX8_washed_90), sx_t1 (by decide +kernel)⟩, ox165_93⟩
def x165_87 : List sx_E := (.iinc 5 (1), 87, 90, [], .int (nI 1)) :: x165_90
theorem ox165_87 : sx_oks 165 x165_87 := ⟨⟨sx_lt mm_165 (Nat.le_of_ble_eq_true rfl), (sx_dd bb_165 dX8_washed_87), rfl, by decide +kernel⟩, ox165_90⟩
def x165_85 : List sx_E := (.istore 4, 85, 87, [], .null) :: x165_87
theorem ox165_85 : sx_oks 165 x165_85 := ⟨⟨sx_lt mm_165 (Nat.le_of_ble_eq_true rfl), Or.inl ⟨(sx_dd bb_165 dX8_washed_85), rfl⟩⟩, ox165_87⟩
def x165_83 : List sx_E := (.iload 4, 83, 85, [], .null) :: x165_85
theorem ox165_83 : sx_oks 165 x165_83 := ⟨Or.inl ⟨(sx_dd bb_165 dX8_washed_83), rfl⟩, ox165_85⟩
def x165_80 : List sx_E := (.goto (5), 80, 83, [85], .null) :: x165_83
theorem ox165_80 : sx_oks 165 x165_80 := ⟨⟨(sx_dd bb_165 dX8_washed_80), sx_t1 (by decide +kernel)⟩, ox165_83⟩
def x165_78 : List sx_E := (.iload 6, 78, 80, [], .null) :: x165_80
theorem ox165_78 : sx_oks 165 x165_78 := ⟨Or.inl ⟨(sx_dd bb_165 dX8_washed_78), rfl⟩, ox165_80⟩
def x165_75 : List sx_E := (.if_icmp .le (8), 75, 78, [83], .null) :: x165_78
theorem ox165_75 : sx_oks 165 x165_75 := ⟨⟨(sx_dd bb_165 dX8_washed_75), rfl, sx_t1 (by decide +kernel)⟩, ox165_78⟩
def x165_73 : List sx_E := (.iload 4, 73, 75, [], .null) :: x165_75
theorem ox165_73 : sx_oks 165 x165_73 := ⟨Or.inl ⟨(sx_dd bb_165 dX8_washed_73), rfl⟩, ox165_75⟩
def x165_71 : List sx_E := (.iload 6, 71, 73, [], .null) :: x165_73
theorem ox165_71 : sx_oks 165 x165_71 := ⟨Or.inl ⟨(sx_dd bb_165 dX8_washed_71), rfl⟩, ox165_73⟩
def x165_70 : List sx_E := (.istore 3, 70, 71, [], .null) :: x165_71
theorem ox165_70 : sx_oks 165 x165_70 := ⟨⟨sx_lt mm_165 (Nat.le_of_ble_eq_true rfl), Or.inr ⟨_, (sx_dd bb_165 dX8_washed_70), rfl, rfl⟩⟩, ox165_71⟩
def x165_69 : List sx_E := (.iload 3, 69, 70, [], .null) :: x165_70
theorem ox165_69 : sx_oks 165 x165_69 := ⟨Or.inr ⟨_, (sx_dd bb_165 dX8_washed_69), rfl, rfl⟩, ox165_70⟩
def x165_66 : List sx_E := (.goto (4), 66, 69, [70], .null) :: x165_69
theorem ox165_66 : sx_oks 165 x165_66 := ⟨⟨(sx_dd bb_165 dX8_washed_66), sx_t1 (by decide +kernel)⟩, ox165_69⟩
def x165_64 : List sx_E := (.iload 5, 64, 66, [], .null) :: x165_66
theorem ox165_64 : sx_oks 165 x165_64 := ⟨Or.inl ⟨(sx_dd bb_165 dX8_washed_64), rfl⟩, ox165_66⟩
def x165_61 : List sx_E := (.if_icmp .le (8), 61, 64, [69], .null) :: x165_64
theorem ox165_61 : sx_oks 165 x165_61 := ⟨⟨(sx_dd bb_165 dX8_washed_61), rfl, sx_t1 (by decide +kernel)⟩, ox165_64⟩
def x165_59 : List sx_E := (.iload 4, 59, 61, [], .null) :: x165_61
theorem ox165_59 : sx_oks 165 x165_59 := ⟨Or.inl ⟨(sx_dd bb_165 dX8_washed_59), rfl⟩, ox165_61⟩
def x165_57 : List sx_E := (.iload 6, 57, 59, [], .null) :: x165_59
theorem ox165_57 : sx_oks 165 x165_57 := ⟨Or.inl ⟨(sx_dd bb_165 dX8_washed_57), rfl⟩, ox165_59⟩
def x165_54 : List sx_E := (.invokevirtual 199, 54, 57, [161, 1, 0, 0, 7], .null) :: x165_57
theorem ox165_54 : sx_oks 165 x165_54 := ⟨sx_q_V (w := (RX8, TX8, 31)) (sx_dd bb_165 dX8_washed_54) oo_165 lk_StrawGarrisonModel_199_V ft_161_h (Nat.le_of_ble_eq_true rfl) rfl rfl, ox165_57⟩
def x165_53 : List sx_E := (.aload 0, 53, 54, [], .null) :: x165_54
theorem ox165_53 : sx_oks 165 x165_53 := ⟨Or.inr ⟨_, (sx_dd bb_165 dX8_washed_53), rfl, rfl⟩, ox165_54⟩
def x165_51 : List sx_E := (.istore 6, 51, 53, [], .null) :: x165_53
theorem ox165_51 : sx_oks 165 x165_51 := ⟨⟨sx_lt mm_165 (Nat.le_of_ble_eq_true rfl), Or.inl ⟨(sx_dd bb_165 dX8_washed_51), rfl⟩⟩, ox165_53⟩
def x165_48 : List sx_E := (.invokevirtual 170, 48, 51, [144, 1, 0, 0, 7], .null) :: x165_51
theorem ox165_48 : sx_oks 165 x165_48 := ⟨sx_q_V (w := (RX8, TX8, 31)) (sx_dd bb_165 dX8_washed_48) oo_165 lk_StrawGarrisonModel_170_V ft_144_h (Nat.le_of_ble_eq_true rfl) rfl rfl, ox165_51⟩
def x165_47 : List sx_E := (.aload 0, 47, 48, [], .null) :: x165_48
theorem ox165_47 : sx_oks 165 x165_47 := ⟨Or.inr ⟨_, (sx_dd bb_165 dX8_washed_47), rfl, rfl⟩, ox165_48⟩
def x165_44 : List sx_E := (.invokevirtual 182, 44, 47, [150, 2, 0, 0, 7], .null) :: x165_47
theorem ox165_44 : sx_oks 165 x165_44 := ⟨sx_q_V (w := (RX8, TX8, 31)) (sx_dd bb_165 dX8_washed_44) oo_165 lk_StrawGarrisonModel_182_V ft_150_h (Nat.le_of_ble_eq_true rfl) rfl rfl, ox165_47⟩
def x165_43 : List sx_E := (.iload 1, 43, 44, [], .null) :: x165_44
theorem ox165_43 : sx_oks 165 x165_43 := ⟨Or.inr ⟨_, (sx_dd bb_165 dX8_washed_43), rfl, rfl⟩, ox165_44⟩
def x165_42 : List sx_E := (.aload 0, 42, 43, [], .null) :: x165_43
theorem ox165_42 : sx_oks 165 x165_42 := ⟨Or.inr ⟨_, (sx_dd bb_165 dX8_washed_42), rfl, rfl⟩, ox165_43⟩
def x165_39 : List sx_E := (.invokevirtual 76, 39, 42, [120, 4, 0, 0, 7], .null) :: x165_42
theorem ox165_39 : sx_oks 165 x165_39 := ⟨sx_q_V (w := (RX8, TX8, 31)) (sx_dd bb_165 dX8_washed_39) oo_165 lk_StrawGarrisonModel_76_V ft_120_h (Nat.le_of_ble_eq_true rfl) rfl rfl, ox165_42⟩
def x165_38 : List sx_E := (.nop, 38, 39, [], .int (nI 0)) :: x165_39
theorem ox165_38 : sx_oks 165 x165_38 := ⟨sx_k_iconst (sx_dd bb_165 dX8_washed_38) (by decide +kernel), ox165_39⟩
def x165_37 : List sx_E := (.nop, 37, 38, [], .int (nI 2)) :: x165_38
theorem ox165_37 : sx_oks 165 x165_37 := ⟨sx_k_iconst (sx_dd bb_165 dX8_washed_37) (by decide +kernel), ox165_38⟩
def x165_35 : List sx_E := (.iload 5, 35, 37, [], .null) :: x165_37
theorem ox165_35 : sx_oks 165 x165_35 := ⟨Or.inl ⟨(sx_dd bb_165 dX8_washed_35), rfl⟩, ox165_37⟩
def x165_34 : List sx_E := (.aload 0, 34, 35, [], .null) :: x165_35
theorem ox165_34 : sx_oks 165 x165_34 := ⟨Or.inr ⟨_, (sx_dd bb_165 dX8_washed_34), rfl, rfl⟩, ox165_35⟩
def x165_31 : List sx_E := (.if_icmp .ge (62), 31, 34, [93], .null) :: x165_34
theorem ox165_31 : sx_oks 165 x165_31 := ⟨⟨(sx_dd bb_165 dX8_washed_31), rfl, sx_t1 (by decide +kernel)⟩, ox165_34⟩
def x165_30 : List sx_E := (.iaload, 30, 31, [], .null) :: x165_31
theorem ox165_30 : sx_oks 165 x165_30 := ⟨⟨(sx_dd bb_165 dX8_washed_30), rfl⟩, ox165_31⟩
def x165_29 : List sx_E := (.nop, 29, 30, [], .int (nI 0)) :: x165_30
theorem ox165_29 : sx_oks 165 x165_29 := ⟨sx_k_iconst (sx_dd bb_165 dX8_washed_29) (by decide +kernel), ox165_30⟩
def x165_26 : List sx_E := (.getfield 7, 26, 29, [7, 0, 1], .null) :: x165_29
theorem ox165_26 : sx_oks 165 x165_26 := ⟨sx_q_get (w := (RX8, TX8, 31)) (sx_dd bb_165 dX8_washed_26) rfl rfl (Nat.le_of_ble_eq_true rfl) cu_7 (sx_ow3 oo_165 fl_StrawGarrisonModel_7) (by decide +kernel), ox165_29⟩
def x165_25 : List sx_E := (.aload 0, 25, 26, [], .null) :: x165_26
theorem ox165_25 : sx_oks 165 x165_25 := ⟨Or.inr ⟨_, (sx_dd bb_165 dX8_washed_25), rfl, rfl⟩, ox165_26⟩
def x165_23 : List sx_E := (.iload 5, 23, 25, [], .null) :: x165_25
theorem ox165_23 : sx_oks 165 x165_23 := ⟨Or.inl ⟨(sx_dd bb_165 dX8_washed_23), rfl⟩, ox165_25⟩
def x165_23h : List sx_E := (.monitorenter, 23, 23, [0, 1, 2, 3, 4, 5], .null) :: x165_23
theorem ox165_23h : sx_oks 165 x165_23h := ⟨trivial, ox165_23⟩
def x165_21 : List sx_E := (.istore 5, 21, 23, [], .null) :: x165_23h
theorem ox165_21 : sx_oks 165 x165_21 := ⟨⟨sx_lt mm_165 (Nat.le_of_ble_eq_true rfl), Or.inl ⟨(sx_dd bb_165 dX8_washed_21), rfl⟩⟩, ox165_23h⟩
def x165_20 : List sx_E := (.nop, 20, 21, [], .int (nI 0)) :: x165_21
theorem ox165_20 : sx_oks 165 x165_20 := ⟨sx_k_iconst (sx_dd bb_165 dX8_washed_20) (by decide +kernel), ox165_21⟩
def x165_18 : List sx_E := (.istore 4, 18, 20, [], .null) :: x165_20
theorem ox165_18 : sx_oks 165 x165_18 := ⟨⟨sx_lt mm_165 (Nat.le_of_ble_eq_true rfl), Or.inl ⟨(sx_dd bb_165 dX8_washed_18), rfl⟩⟩, ox165_20⟩
def x165_17 : List sx_E := (.nop, 17, 18, [], .int ((-1))) :: x165_18
theorem ox165_17 : sx_oks 165 x165_17 := ⟨sx_k_iconst (sx_dd bb_165 dX8_washed_17) (by decide +kernel), ox165_18⟩
def x165_16 : List sx_E := (.istore 3, 16, 17, [], .null) :: x165_17
theorem ox165_16 : sx_oks 165 x165_16 := ⟨⟨sx_lt mm_165 (Nat.le_of_ble_eq_true rfl), Or.inr ⟨_, (sx_dd bb_165 dX8_washed_16), rfl, rfl⟩⟩, ox165_17⟩
def x165_15 : List sx_E := (.nop, 15, 16, [], .int ((-1))) :: x165_16
theorem ox165_15 : sx_oks 165 x165_15 := ⟨sx_k_iconst (sx_dd bb_165 dX8_washed_15) (by decide +kernel), ox165_16⟩
def x165_12 : List sx_E := (.invokevirtual 196, 12, 15, [160, 1, 0, 0, 7], .null) :: x165_15
theorem ox165_12 : sx_oks 165 x165_12 := ⟨sx_q_V (w := (RX8, TX8, 31)) (sx_dd bb_165 dX8_washed_12) oo_165 lk_StrawGarrisonModel_196_V ft_160_h (Nat.le_of_ble_eq_true rfl) rfl rfl, ox165_15⟩
def x165_11 : List sx_E := (.aload 0, 11, 12, [], .null) :: x165_12
theorem ox165_11 : sx_oks 165 x165_11 := ⟨Or.inr ⟨_, (sx_dd bb_165 dX8_washed_11), rfl, rfl⟩, ox165_12⟩
def x165_10 : List sx_E := (.ireturn, 10, 11, [0], .null) :: x165_11
theorem ox165_10 : sx_oks 165 x165_10 := ⟨sx_q_iret0 (sx_dd bb_165 dX8_washed_10) rr_165, ox165_11⟩
def x165_8 : List sx_E := (.nop, 8, 10, [], .int ((-1000000001))) :: x165_10
theorem ox165_8 : sx_oks 165 x165_8 := ⟨sx_k_ldc (sx_dd bb_165 dX8_washed_8) (sx_ow1 oo_165 kc_StrawGarrisonModel_88), ox165_10⟩
def x165_5 : List sx_E := (.ifCond .ne (6), 5, 8, [11], .null) :: x165_8
theorem ox165_5 : sx_oks 165 x165_5 := ⟨⟨(sx_dd bb_165 dX8_washed_5), rfl, sx_t1 (by decide +kernel)⟩, ox165_8⟩
def x165_2 : List sx_E := (.invokestatic 204, 2, 5, [164, 2, 0, 0], .null) :: x165_5
theorem ox165_2 : sx_oks 165 x165_2 := ⟨sx_q_S (sx_dd bb_165 dX8_washed_2) oo_165 lk_StrawGarrisonModel_204_S ft_164_h, ox165_5⟩
def x165_1 : List sx_E := (.iload 2, 1, 2, [], .null) :: x165_2
theorem ox165_1 : sx_oks 165 x165_1 := ⟨Or.inr ⟨_, (sx_dd bb_165 dX8_washed_1), rfl, rfl⟩, ox165_2⟩
def x165_0 : List sx_E := (.iload 1, 0, 1, [], .null) :: x165_1
theorem ox165_0 : sx_oks 165 x165_0 := ⟨Or.inr ⟨_, (sx_dd bb_165 dX8_washed_0), rfl, rfl⟩, ox165_1⟩
theorem m165 : sx_mok 165 x165_0 := ⟨ox165_0, by decide +kernel⟩
theorem bb_166 : sx_by 166 = cX8_needed := rfl
theorem oo_166 : (sx_nm 166).cls = "StrawGarrisonModel" := rfl
theorem mm_166 : sx_ml 166 = 5 := rfl
theorem rr_166 : sx_rt 166 = (some .int) := rfl
def x166_90 : List sx_E := (.ireturn, 90, 91, [0], .null) :: []
theorem ox166_90 : sx_oks 166 x166_90 := ⟨sx_q_iret0 (sx_dd bb_166 dX8_needed_90) rr_166, trivial⟩
def x166_88 : List sx_E := (.nop, 88, 90, [], .int ((-1000000005))) :: x166_90
theorem ox166_88 : sx_oks 166 x166_88 := ⟨sx_k_ldc (sx_dd bb_166 dX8_needed_88) (sx_ow1 oo_166 kc_StrawGarrisonModel_64), ox166_90⟩
def x166_85 : List sx_E := (.goto (5), 85, 88, [90], .null) :: x166_88
theorem ox166_85 : sx_oks 166 x166_85 := ⟨⟨(sx_dd bb_166 dX8_needed_85), sx_t1 (by decide +kernel)⟩, ox166_88⟩
def x166_84 : List sx_E := (.isub, 84, 85, [], .null) :: x166_85
theorem ox166_84 : sx_oks 166 x166_84 := ⟨⟨(sx_dd bb_166 dX8_needed_84), rfl⟩, ox166_85⟩
def x166_83 : List sx_E := (.nop, 83, 84, [], .int (nI 1)) :: x166_84
theorem ox166_83 : sx_oks 166 x166_83 := ⟨sx_k_iconst (sx_dd bb_166 dX8_needed_83) (by decide +kernel), ox166_84⟩
def x166_82 : List sx_E := (.iload 3, 82, 83, [], .null) :: x166_83
theorem ox166_82 : sx_oks 166 x166_82 := ⟨Or.inr ⟨_, (sx_dd bb_166 dX8_needed_82), rfl, rfl⟩, ox166_83⟩
def x166_79 : List sx_E := (.ifCond .eq (9), 79, 82, [88], .null) :: x166_82
theorem ox166_79 : sx_oks 166 x166_79 := ⟨⟨(sx_dd bb_166 dX8_needed_79), rfl, sx_t1 (by decide +kernel)⟩, ox166_82⟩
def x166_77 : List sx_E := (.iload 4, 77, 79, [], .null) :: x166_79
theorem ox166_77 : sx_oks 166 x166_77 := ⟨Or.inl ⟨(sx_dd bb_166 dX8_needed_77), rfl⟩, ox166_79⟩
def x166_74 : List sx_E := (.goto (-45), 74, 77, [29], .null) :: x166_77
theorem ox166_74 : sx_oks 166 x166_74 := ⟨⟨(sx_dd bb_166 dX8_needed_74), sx_t1 (by decide +kernel)⟩, ox166_77⟩
def x166_71 : List sx_E := (.iinc 3 (1), 71, 74, [], .int (nI 1)) :: x166_74
theorem ox166_71 : sx_oks 166 x166_71 := ⟨⟨sx_lt mm_166 (Nat.le_of_ble_eq_true rfl), (sx_dd bb_166 dX8_needed_71), rfl, by decide +kernel⟩, ox166_74⟩
def x166_68 : List sx_E := (.invokevirtual 199, 68, 71, [161, 1, 0, 0, 7], .null) :: x166_71
theorem ox166_68 : sx_oks 166 x166_68 := ⟨sx_q_V (w := (RX8, TX8, 31)) (sx_dd bb_166 dX8_needed_68) oo_166 lk_StrawGarrisonModel_199_V ft_161_h (Nat.le_of_ble_eq_true rfl) rfl rfl, ox166_71⟩
def x166_67 : List sx_E := (.aload 0, 67, 68, [], .null) :: x166_68
theorem ox166_67 : sx_oks 166 x166_67 := ⟨Or.inr ⟨_, (sx_dd bb_166 dX8_needed_67), rfl, rfl⟩, ox166_68⟩
def x166_65 : List sx_E := (.istore 4, 65, 67, [], .null) :: x166_67
theorem ox166_65 : sx_oks 166 x166_65 := ⟨⟨sx_lt mm_166 (Nat.le_of_ble_eq_true rfl), Or.inl ⟨(sx_dd bb_166 dX8_needed_65), rfl⟩⟩, ox166_67⟩
def x166_64 : List sx_E := (.nop, 64, 65, [], .int (nI 0)) :: x166_65
theorem ox166_64 : sx_oks 166 x166_64 := ⟨sx_k_iconst (sx_dd bb_166 dX8_needed_64) (by decide +kernel), ox166_65⟩
def x166_61 : List sx_E := (.goto (4), 61, 64, [65], .null) :: x166_64
theorem ox166_61 : sx_oks 166 x166_61 := ⟨⟨(sx_dd bb_166 dX8_needed_61), sx_t1 (by decide +kernel)⟩, ox166_64⟩
def x166_60 : List sx_E := (.nop, 60, 61, [], .int (nI 1)) :: x166_61
theorem ox166_60 : sx_oks 166 x166_60 := ⟨sx_k_iconst (sx_dd bb_166 dX8_needed_60) (by decide +kernel), ox166_61⟩
def x166_57 : List sx_E := (.if_icmp .ne (7), 57, 60, [64], .null) :: x166_60
theorem ox166_57 : sx_oks 166 x166_57 := ⟨⟨(sx_dd bb_166 dX8_needed_57), rfl, sx_t1 (by decide +kernel)⟩, ox166_60⟩
def x166_56 : List sx_E := (.iload 2, 56, 57, [], .null) :: x166_57
theorem ox166_56 : sx_oks 166 x166_56 := ⟨Or.inr ⟨_, (sx_dd bb_166 dX8_needed_56), rfl, rfl⟩, ox166_57⟩
def x166_53 : List sx_E := (.invokevirtual 179, 53, 56, [151, 1, 0, 0, 7], .null) :: x166_56
theorem ox166_53 : sx_oks 166 x166_53 := ⟨sx_q_V (w := (RX8, TX8, 31)) (sx_dd bb_166 dX8_needed_53) oo_166 lk_StrawGarrisonModel_179_V ft_151_h (Nat.le_of_ble_eq_true rfl) rfl rfl, ox166_56⟩
def x166_52 : List sx_E := (.aload 0, 52, 53, [], .null) :: x166_53
theorem ox166_52 : sx_oks 166 x166_52 := ⟨Or.inr ⟨_, (sx_dd bb_166 dX8_needed_52), rfl, rfl⟩, ox166_53⟩
def x166_49 : List sx_E := (.invokevirtual 182, 49, 52, [150, 2, 0, 0, 7], .null) :: x166_52
theorem ox166_49 : sx_oks 166 x166_49 := ⟨sx_q_V (w := (RX8, TX8, 31)) (sx_dd bb_166 dX8_needed_49) oo_166 lk_StrawGarrisonModel_182_V ft_150_h (Nat.le_of_ble_eq_true rfl) rfl rfl, ox166_52⟩
def x166_48 : List sx_E := (.iload 1, 48, 49, [], .null) :: x166_49
theorem ox166_48 : sx_oks 166 x166_48 := ⟨Or.inr ⟨_, (sx_dd bb_166 dX8_needed_48), rfl, rfl⟩, ox166_49⟩
def x166_47 : List sx_E := (.aload 0, 47, 48, [], .null) :: x166_48
theorem ox166_47 : sx_oks 166 x166_47 := ⟨Or.inr ⟨_, (sx_dd bb_166 dX8_needed_47), rfl, rfl⟩, ox166_48⟩
def x166_46 : List sx_E := (.iastore, 46, 47, [], .null) :: x166_47
theorem ox166_46 : sx_oks 166 x166_46 := ⟨⟨(sx_dd bb_166 dX8_needed_46), rfl⟩, ox166_47⟩
def x166_45 : List sx_E := (.iload 3, 45, 46, [], .null) :: x166_46
theorem ox166_45 : sx_oks 166 x166_45 := ⟨Or.inr ⟨_, (sx_dd bb_166 dX8_needed_45), rfl, rfl⟩, ox166_46⟩
def x166_44 : List sx_E := (.nop, 44, 45, [], .int (nI 3)) :: x166_45
theorem ox166_44 : sx_oks 166 x166_44 := ⟨sx_k_iconst (sx_dd bb_166 dX8_needed_44) (by decide +kernel), ox166_45⟩
def x166_41 : List sx_E := (.getfield 7, 41, 44, [7, 0, 1], .null) :: x166_44
theorem ox166_41 : sx_oks 166 x166_41 := ⟨sx_q_get (w := (RX8, TX8, 31)) (sx_dd bb_166 dX8_needed_41) rfl rfl (Nat.le_of_ble_eq_true rfl) cu_7 (sx_ow3 oo_166 fl_StrawGarrisonModel_7) (by decide +kernel), ox166_44⟩
def x166_40 : List sx_E := (.aload 0, 40, 41, [], .null) :: x166_41
theorem ox166_40 : sx_oks 166 x166_40 := ⟨Or.inr ⟨_, (sx_dd bb_166 dX8_needed_40), rfl, rfl⟩, ox166_41⟩
def x166_37 : List sx_E := (.ifCond .ne (40), 37, 40, [77], .null) :: x166_40
theorem ox166_37 : sx_oks 166 x166_37 := ⟨⟨(sx_dd bb_166 dX8_needed_37), rfl, sx_t1 (by decide +kernel)⟩, ox166_40⟩
def x166_35 : List sx_E := (.iload 4, 35, 37, [], .null) :: x166_37
theorem ox166_35 : sx_oks 166 x166_35 := ⟨Or.inl ⟨(sx_dd bb_166 dX8_needed_35), rfl⟩, ox166_37⟩
def x166_32 : List sx_E := (.if_icmp .ge (45), 32, 35, [77], .null) :: x166_35
theorem ox166_32 : sx_oks 166 x166_32 := ⟨⟨(sx_dd bb_166 dX8_needed_32), rfl, sx_t1 (by decide +kernel)⟩, ox166_35⟩
def x166_30 : List sx_E := (.nop, 30, 32, [], .int (nI 20)) :: x166_32
theorem ox166_30 : sx_oks 166 x166_30 := ⟨sx_k_bipush (sx_dd bb_166 dX8_needed_30) (by decide +kernel), ox166_32⟩
def x166_29 : List sx_E := (.iload 3, 29, 30, [], .null) :: x166_30
theorem ox166_29 : sx_oks 166 x166_29 := ⟨Or.inr ⟨_, (sx_dd bb_166 dX8_needed_29), rfl, rfl⟩, ox166_30⟩
def x166_29h : List sx_E := (.monitorenter, 29, 29, [0, 1, 2, 3, 4], .null) :: x166_29
theorem ox166_29h : sx_oks 166 x166_29h := ⟨trivial, ox166_29⟩
def x166_27 : List sx_E := (.istore 4, 27, 29, [], .null) :: x166_29h
theorem ox166_27 : sx_oks 166 x166_27 := ⟨⟨sx_lt mm_166 (Nat.le_of_ble_eq_true rfl), Or.inl ⟨(sx_dd bb_166 dX8_needed_27), rfl⟩⟩, ox166_29h⟩
def x166_26 : List sx_E := (.nop, 26, 27, [], .int (nI 0)) :: x166_27
theorem ox166_26 : sx_oks 166 x166_26 := ⟨sx_k_iconst (sx_dd bb_166 dX8_needed_26) (by decide +kernel), ox166_27⟩
def x166_25 : List sx_E := (.istore 3, 25, 26, [], .null) :: x166_26
theorem ox166_25 : sx_oks 166 x166_25 := ⟨⟨sx_lt mm_166 (Nat.le_of_ble_eq_true rfl), Or.inr ⟨_, (sx_dd bb_166 dX8_needed_25), rfl, rfl⟩⟩, ox166_26⟩
def x166_24 : List sx_E := (.nop, 24, 25, [], .int (nI 0)) :: x166_25
theorem ox166_24 : sx_oks 166 x166_24 := ⟨sx_k_iconst (sx_dd bb_166 dX8_needed_24) (by decide +kernel), ox166_25⟩
def x166_23 : List sx_E := (.istore 2, 23, 24, [], .null) :: x166_24
theorem ox166_23 : sx_oks 166 x166_23 := ⟨⟨sx_lt mm_166 (Nat.le_of_ble_eq_true rfl), Or.inr ⟨_, (sx_dd bb_166 dX8_needed_23), rfl, rfl⟩⟩, ox166_24⟩
def x166_20 : List sx_E := (.invokevirtual 179, 20, 23, [151, 1, 0, 0, 7], .null) :: x166_23
theorem ox166_20 : sx_oks 166 x166_20 := ⟨sx_q_V (w := (RX8, TX8, 31)) (sx_dd bb_166 dX8_needed_20) oo_166 lk_StrawGarrisonModel_179_V ft_151_h (Nat.le_of_ble_eq_true rfl) rfl rfl, ox166_23⟩
def x166_19 : List sx_E := (.aload 0, 19, 20, [], .null) :: x166_20
theorem ox166_19 : sx_oks 166 x166_19 := ⟨Or.inr ⟨_, (sx_dd bb_166 dX8_needed_19), rfl, rfl⟩, ox166_20⟩
def x166_16 : List sx_E := (.invokevirtual 196, 16, 19, [160, 1, 0, 0, 7], .null) :: x166_19
theorem ox166_16 : sx_oks 166 x166_16 := ⟨sx_q_V (w := (RX8, TX8, 31)) (sx_dd bb_166 dX8_needed_16) oo_166 lk_StrawGarrisonModel_196_V ft_160_h (Nat.le_of_ble_eq_true rfl) rfl rfl, ox166_19⟩
def x166_15 : List sx_E := (.aload 0, 15, 16, [], .null) :: x166_16
theorem ox166_15 : sx_oks 166 x166_15 := ⟨Or.inr ⟨_, (sx_dd bb_166 dX8_needed_15), rfl, rfl⟩, ox166_16⟩
def x166_14 : List sx_E := (.ireturn, 14, 15, [0], .null) :: x166_15
theorem ox166_14 : sx_oks 166 x166_14 := ⟨sx_q_iret0 (sx_dd bb_166 dX8_needed_14) rr_166, ox166_15⟩
def x166_12 : List sx_E := (.nop, 12, 14, [], .int ((-1000000001))) :: x166_14
theorem ox166_12 : sx_oks 166 x166_12 := ⟨sx_k_ldc (sx_dd bb_166 dX8_needed_12) (sx_ow1 oo_166 kc_StrawGarrisonModel_88), ox166_14⟩
def x166_9 : List sx_E := (.ifCond .ne (6), 9, 12, [15], .null) :: x166_12
theorem ox166_9 : sx_oks 166 x166_9 := ⟨⟨(sx_dd bb_166 dX8_needed_9), rfl, sx_t1 (by decide +kernel)⟩, ox166_12⟩
def x166_6 : List sx_E := (.invokestatic 65, 6, 9, [113, 3, 0, 0], .null) :: x166_9
theorem ox166_6 : sx_oks 166 x166_6 := ⟨sx_q_S (sx_dd bb_166 dX8_needed_6) oo_166 lk_StrawGarrisonModel_65_S ft_113_h, ox166_9⟩
def x166_3 : List sx_E := (.nop, 3, 6, [], .long (60)) :: x166_6
theorem ox166_3 : sx_oks 166 x166_3 := ⟨sx_k_ldc2 (sx_dd bb_166 dX8_needed_3) (sx_ow2 oo_166 kl_StrawGarrisonModel_202), ox166_6⟩
def x166_2 : List sx_E := (.nop, 2, 3, [], .long (1)) :: x166_3
theorem ox166_2 : sx_oks 166 x166_2 := ⟨sx_k_lconst (sx_dd bb_166 dX8_needed_2) (by decide +kernel), ox166_3⟩
def x166_1 : List sx_E := (.i2l, 1, 2, [], .null) :: x166_2
theorem ox166_1 : sx_oks 166 x166_1 := ⟨⟨(sx_dd bb_166 dX8_needed_1), rfl⟩, ox166_2⟩
def x166_0 : List sx_E := (.iload 1, 0, 1, [], .null) :: x166_1
theorem ox166_0 : sx_oks 166 x166_0 := ⟨Or.inr ⟨_, (sx_dd bb_166 dX8_needed_0), rfl, rfl⟩, ox166_1⟩
theorem m166 : sx_mok 166 x166_0 := ⟨ox166_0, by decide +kernel⟩
theorem bb_167 : sx_by 167 = cX8_becomes := rfl
theorem oo_167 : (sx_nm 167).cls = "StrawGarrisonModel" := rfl
theorem mm_167 : sx_ml 167 = 8 := rfl
theorem rr_167 : sx_rt 167 = (some .int) := rfl
def x167_111 : List sx_E := (.ireturn, 111, 112, [0], .null) :: []
theorem ox167_111 : sx_oks 167 x167_111 := ⟨sx_q_iret0 (sx_dd bb_167 dX8_becomes_111) rr_167, trivial⟩
def x167_109 : List sx_E := (.iload 5, 109, 111, [], .null) :: x167_111
theorem ox167_109 : sx_oks 167 x167_109 := ⟨Or.inl ⟨(sx_dd bb_167 dX8_becomes_109), rfl⟩, ox167_111⟩
def x167_106 : List sx_E := (.goto (5), 106, 109, [111], .null) :: x167_109
theorem ox167_106 : sx_oks 167 x167_106 := ⟨⟨(sx_dd bb_167 dX8_becomes_106), sx_t1 (by decide +kernel)⟩, ox167_109⟩
def x167_104 : List sx_E := (.iload 4, 104, 106, [], .null) :: x167_106
theorem ox167_104 : sx_oks 167 x167_104 := ⟨Or.inl ⟨(sx_dd bb_167 dX8_becomes_104), rfl⟩, ox167_106⟩
def x167_101 : List sx_E := (.ifCond .ne (8), 101, 104, [109], .null) :: x167_104
theorem ox167_101 : sx_oks 167 x167_101 := ⟨⟨(sx_dd bb_167 dX8_becomes_101), rfl, sx_t1 (by decide +kernel)⟩, ox167_104⟩
def x167_100 : List sx_E := (.iload 3, 100, 101, [], .null) :: x167_101
theorem ox167_100 : sx_oks 167 x167_100 := ⟨Or.inr ⟨_, (sx_dd bb_167 dX8_becomes_100), rfl, rfl⟩, ox167_101⟩
def x167_97 : List sx_E := (.goto (-65), 97, 100, [32], .null) :: x167_100
theorem ox167_97 : sx_oks 167 x167_97 := ⟨⟨(sx_dd bb_167 dX8_becomes_97), sx_t1 (by decide +kernel)⟩, ox167_100⟩
def x167_94 : List sx_E := (.iinc 6 (1), 94, 97, [], .int (nI 1)) :: x167_97
theorem ox167_94 : sx_oks 167 x167_94 := ⟨⟨sx_lt mm_167 (Nat.le_of_ble_eq_true rfl), (sx_dd bb_167 dX8_becomes_94), rfl, by decide +kernel⟩, ox167_97⟩
def x167_92 : List sx_E := (.istore 5, 92, 94, [], .null) :: x167_94
theorem ox167_92 : sx_oks 167 x167_92 := ⟨⟨sx_lt mm_167 (Nat.le_of_ble_eq_true rfl), Or.inl ⟨(sx_dd bb_167 dX8_becomes_92), rfl⟩⟩, ox167_94⟩
def x167_90 : List sx_E := (.iload 5, 90, 92, [], .null) :: x167_92
theorem ox167_90 : sx_oks 167 x167_90 := ⟨Or.inl ⟨(sx_dd bb_167 dX8_becomes_90), rfl⟩, ox167_92⟩
def x167_87 : List sx_E := (.goto (5), 87, 90, [92], .null) :: x167_90
theorem ox167_87 : sx_oks 167 x167_87 := ⟨⟨(sx_dd bb_167 dX8_becomes_87), sx_t1 (by decide +kernel)⟩, ox167_90⟩
def x167_85 : List sx_E := (.iload 7, 85, 87, [], .null) :: x167_87
theorem ox167_85 : sx_oks 167 x167_85 := ⟨Or.inl ⟨(sx_dd bb_167 dX8_becomes_85), rfl⟩, ox167_87⟩
def x167_82 : List sx_E := (.if_icmp .le (8), 82, 85, [90], .null) :: x167_85
theorem ox167_82 : sx_oks 167 x167_82 := ⟨⟨(sx_dd bb_167 dX8_becomes_82), rfl, sx_t1 (by decide +kernel)⟩, ox167_85⟩
def x167_80 : List sx_E := (.iload 5, 80, 82, [], .null) :: x167_82
theorem ox167_80 : sx_oks 167 x167_80 := ⟨Or.inl ⟨(sx_dd bb_167 dX8_becomes_80), rfl⟩, ox167_82⟩
def x167_78 : List sx_E := (.iload 7, 78, 80, [], .null) :: x167_80
theorem ox167_78 : sx_oks 167 x167_78 := ⟨Or.inl ⟨(sx_dd bb_167 dX8_becomes_78), rfl⟩, ox167_80⟩
def x167_76 : List sx_E := (.istore 4, 76, 78, [], .null) :: x167_78
theorem ox167_76 : sx_oks 167 x167_76 := ⟨⟨sx_lt mm_167 (Nat.le_of_ble_eq_true rfl), Or.inl ⟨(sx_dd bb_167 dX8_becomes_76), rfl⟩⟩, ox167_78⟩
def x167_74 : List sx_E := (.iload 4, 74, 76, [], .null) :: x167_76
theorem ox167_74 : sx_oks 167 x167_74 := ⟨Or.inl ⟨(sx_dd bb_167 dX8_becomes_74), rfl⟩, ox167_76⟩
def x167_71 : List sx_E := (.goto (5), 71, 74, [76], .null) :: x167_74
theorem ox167_71 : sx_oks 167 x167_71 := ⟨⟨(sx_dd bb_167 dX8_becomes_71), sx_t1 (by decide +kernel)⟩, ox167_74⟩
def x167_69 : List sx_E := (.iload 6, 69, 71, [], .null) :: x167_71
theorem ox167_69 : sx_oks 167 x167_69 := ⟨Or.inl ⟨(sx_dd bb_167 dX8_becomes_69), rfl⟩, ox167_71⟩
def x167_66 : List sx_E := (.if_icmp .le (8), 66, 69, [74], .null) :: x167_69
theorem ox167_66 : sx_oks 167 x167_66 := ⟨⟨(sx_dd bb_167 dX8_becomes_66), rfl, sx_t1 (by decide +kernel)⟩, ox167_69⟩
def x167_64 : List sx_E := (.iload 5, 64, 66, [], .null) :: x167_66
theorem ox167_64 : sx_oks 167 x167_64 := ⟨Or.inl ⟨(sx_dd bb_167 dX8_becomes_64), rfl⟩, ox167_66⟩
def x167_62 : List sx_E := (.iload 7, 62, 64, [], .null) :: x167_64
theorem ox167_62 : sx_oks 167 x167_62 := ⟨Or.inl ⟨(sx_dd bb_167 dX8_becomes_62), rfl⟩, ox167_64⟩
def x167_59 : List sx_E := (.invokevirtual 199, 59, 62, [161, 1, 0, 0, 7], .null) :: x167_62
theorem ox167_59 : sx_oks 167 x167_59 := ⟨sx_q_V (w := (RX8, TX8, 31)) (sx_dd bb_167 dX8_becomes_59) oo_167 lk_StrawGarrisonModel_199_V ft_161_h (Nat.le_of_ble_eq_true rfl) rfl rfl, ox167_62⟩
def x167_58 : List sx_E := (.aload 0, 58, 59, [], .null) :: x167_59
theorem ox167_58 : sx_oks 167 x167_58 := ⟨Or.inr ⟨_, (sx_dd bb_167 dX8_becomes_58), rfl, rfl⟩, ox167_59⟩
def x167_56 : List sx_E := (.istore 7, 56, 58, [], .null) :: x167_58
theorem ox167_56 : sx_oks 167 x167_56 := ⟨⟨sx_lt mm_167 (Nat.le_of_ble_eq_true rfl), Or.inl ⟨(sx_dd bb_167 dX8_becomes_56), rfl⟩⟩, ox167_58⟩
def x167_53 : List sx_E := (.invokevirtual 170, 53, 56, [144, 1, 0, 0, 7], .null) :: x167_56
theorem ox167_53 : sx_oks 167 x167_53 := ⟨sx_q_V (w := (RX8, TX8, 31)) (sx_dd bb_167 dX8_becomes_53) oo_167 lk_StrawGarrisonModel_170_V ft_144_h (Nat.le_of_ble_eq_true rfl) rfl rfl, ox167_56⟩
def x167_52 : List sx_E := (.aload 0, 52, 53, [], .null) :: x167_53
theorem ox167_52 : sx_oks 167 x167_52 := ⟨Or.inr ⟨_, (sx_dd bb_167 dX8_becomes_52), rfl, rfl⟩, ox167_53⟩
def x167_49 : List sx_E := (.invokevirtual 182, 49, 52, [150, 2, 0, 0, 7], .null) :: x167_52
theorem ox167_49 : sx_oks 167 x167_49 := ⟨sx_q_V (w := (RX8, TX8, 31)) (sx_dd bb_167 dX8_becomes_49) oo_167 lk_StrawGarrisonModel_182_V ft_150_h (Nat.le_of_ble_eq_true rfl) rfl rfl, ox167_52⟩
def x167_48 : List sx_E := (.iload 2, 48, 49, [], .null) :: x167_49
theorem ox167_48 : sx_oks 167 x167_48 := ⟨Or.inr ⟨_, (sx_dd bb_167 dX8_becomes_48), rfl, rfl⟩, ox167_49⟩
def x167_47 : List sx_E := (.aload 0, 47, 48, [], .null) :: x167_48
theorem ox167_47 : sx_oks 167 x167_47 := ⟨Or.inr ⟨_, (sx_dd bb_167 dX8_becomes_47), rfl, rfl⟩, ox167_48⟩
def x167_44 : List sx_E := (.invokevirtual 76, 44, 47, [120, 4, 0, 0, 7], .null) :: x167_47
theorem ox167_44 : sx_oks 167 x167_44 := ⟨sx_q_V (w := (RX8, TX8, 31)) (sx_dd bb_167 dX8_becomes_44) oo_167 lk_StrawGarrisonModel_76_V ft_120_h (Nat.le_of_ble_eq_true rfl) rfl rfl, ox167_47⟩
def x167_42 : List sx_E := (.iload 6, 42, 44, [], .null) :: x167_44
theorem ox167_42 : sx_oks 167 x167_42 := ⟨Or.inl ⟨(sx_dd bb_167 dX8_becomes_42), rfl⟩, ox167_44⟩
def x167_41 : List sx_E := (.nop, 41, 42, [], .int (nI 0)) :: x167_42
theorem ox167_41 : sx_oks 167 x167_41 := ⟨sx_k_iconst (sx_dd bb_167 dX8_becomes_41) (by decide +kernel), ox167_42⟩
def x167_40 : List sx_E := (.iload 1, 40, 41, [], .null) :: x167_41
theorem ox167_40 : sx_oks 167 x167_40 := ⟨Or.inr ⟨_, (sx_dd bb_167 dX8_becomes_40), rfl, rfl⟩, ox167_41⟩
def x167_39 : List sx_E := (.aload 0, 39, 40, [], .null) :: x167_40
theorem ox167_39 : sx_oks 167 x167_39 := ⟨Or.inr ⟨_, (sx_dd bb_167 dX8_becomes_39), rfl, rfl⟩, ox167_40⟩
def x167_36 : List sx_E := (.if_icmp .ge (64), 36, 39, [100], .null) :: x167_39
theorem ox167_36 : sx_oks 167 x167_36 := ⟨⟨(sx_dd bb_167 dX8_becomes_36), rfl, sx_t1 (by decide +kernel)⟩, ox167_39⟩
def x167_34 : List sx_E := (.nop, 34, 36, [], .int (nI 6)) :: x167_36
theorem ox167_34 : sx_oks 167 x167_34 := ⟨sx_k_bipush (sx_dd bb_167 dX8_becomes_34) (by decide +kernel), ox167_36⟩
def x167_32 : List sx_E := (.iload 6, 32, 34, [], .null) :: x167_34
theorem ox167_32 : sx_oks 167 x167_32 := ⟨Or.inl ⟨(sx_dd bb_167 dX8_becomes_32), rfl⟩, ox167_34⟩
def x167_32h : List sx_E := (.monitorenter, 32, 32, [0, 1, 2, 3, 4, 5, 6], .null) :: x167_32
theorem ox167_32h : sx_oks 167 x167_32h := ⟨trivial, ox167_32⟩
def x167_30 : List sx_E := (.istore 6, 30, 32, [], .null) :: x167_32h
theorem ox167_30 : sx_oks 167 x167_30 := ⟨⟨sx_lt mm_167 (Nat.le_of_ble_eq_true rfl), Or.inl ⟨(sx_dd bb_167 dX8_becomes_30), rfl⟩⟩, ox167_32h⟩
def x167_29 : List sx_E := (.nop, 29, 30, [], .int (nI 0)) :: x167_30
theorem ox167_29 : sx_oks 167 x167_29 := ⟨sx_k_iconst (sx_dd bb_167 dX8_becomes_29) (by decide +kernel), ox167_30⟩
def x167_27 : List sx_E := (.istore 5, 27, 29, [], .null) :: x167_29
theorem ox167_27 : sx_oks 167 x167_27 := ⟨⟨sx_lt mm_167 (Nat.le_of_ble_eq_true rfl), Or.inl ⟨(sx_dd bb_167 dX8_becomes_27), rfl⟩⟩, ox167_29⟩
def x167_26 : List sx_E := (.nop, 26, 27, [], .int ((-1))) :: x167_27
theorem ox167_26 : sx_oks 167 x167_26 := ⟨sx_k_iconst (sx_dd bb_167 dX8_becomes_26) (by decide +kernel), ox167_27⟩
def x167_24 : List sx_E := (.istore 4, 24, 26, [], .null) :: x167_26
theorem ox167_24 : sx_oks 167 x167_24 := ⟨⟨sx_lt mm_167 (Nat.le_of_ble_eq_true rfl), Or.inl ⟨(sx_dd bb_167 dX8_becomes_24), rfl⟩⟩, ox167_26⟩
def x167_23 : List sx_E := (.nop, 23, 24, [], .int (nI 0)) :: x167_24
theorem ox167_23 : sx_oks 167 x167_23 := ⟨sx_k_iconst (sx_dd bb_167 dX8_becomes_23) (by decide +kernel), ox167_24⟩
def x167_20 : List sx_E := (.invokevirtual 196, 20, 23, [160, 1, 0, 0, 7], .null) :: x167_23
theorem ox167_20 : sx_oks 167 x167_20 := ⟨sx_q_V (w := (RX8, TX8, 31)) (sx_dd bb_167 dX8_becomes_20) oo_167 lk_StrawGarrisonModel_196_V ft_160_h (Nat.le_of_ble_eq_true rfl) rfl rfl, ox167_23⟩
def x167_19 : List sx_E := (.aload 0, 19, 20, [], .null) :: x167_20
theorem ox167_19 : sx_oks 167 x167_19 := ⟨Or.inr ⟨_, (sx_dd bb_167 dX8_becomes_19), rfl, rfl⟩, ox167_20⟩
def x167_18 : List sx_E := (.ireturn, 18, 19, [0], .null) :: x167_19
theorem ox167_18 : sx_oks 167 x167_18 := ⟨sx_q_iret0 (sx_dd bb_167 dX8_becomes_18) rr_167, ox167_19⟩
def x167_16 : List sx_E := (.nop, 16, 18, [], .int ((-1000000001))) :: x167_18
theorem ox167_16 : sx_oks 167 x167_16 := ⟨sx_k_ldc (sx_dd bb_167 dX8_becomes_16) (sx_ow1 oo_167 kc_StrawGarrisonModel_88), ox167_18⟩
def x167_13 : List sx_E := (.ifCond .ne (6), 13, 16, [19], .null) :: x167_16
theorem ox167_13 : sx_oks 167 x167_13 := ⟨⟨(sx_dd bb_167 dX8_becomes_13), rfl, sx_t1 (by decide +kernel)⟩, ox167_16⟩
def x167_10 : List sx_E := (.invokestatic 204, 10, 13, [164, 2, 0, 0], .null) :: x167_13
theorem ox167_10 : sx_oks 167 x167_10 := ⟨sx_q_S (sx_dd bb_167 dX8_becomes_10) oo_167 lk_StrawGarrisonModel_204_S ft_164_h, ox167_13⟩
def x167_9 : List sx_E := (.iload 3, 9, 10, [], .null) :: x167_10
theorem ox167_9 : sx_oks 167 x167_9 := ⟨Or.inr ⟨_, (sx_dd bb_167 dX8_becomes_9), rfl, rfl⟩, ox167_10⟩
def x167_8 : List sx_E := (.iload 2, 8, 9, [], .null) :: x167_9
theorem ox167_8 : sx_oks 167 x167_8 := ⟨Or.inr ⟨_, (sx_dd bb_167 dX8_becomes_8), rfl, rfl⟩, ox167_9⟩
def x167_5 : List sx_E := (.ifCond .eq (11), 5, 8, [16], .null) :: x167_8
theorem ox167_5 : sx_oks 167 x167_5 := ⟨⟨(sx_dd bb_167 dX8_becomes_5), rfl, sx_t1 (by decide +kernel)⟩, ox167_8⟩
def x167_2 : List sx_E := (.invokevirtual 110, 2, 5, [121, 2, 0, 0, 7], .null) :: x167_5
theorem ox167_2 : sx_oks 167 x167_2 := ⟨sx_q_V (w := (RX8, TX8, 31)) (sx_dd bb_167 dX8_becomes_2) oo_167 lk_StrawGarrisonModel_110_V ft_121_h (Nat.le_of_ble_eq_true rfl) rfl rfl, ox167_5⟩
def x167_1 : List sx_E := (.iload 1, 1, 2, [], .null) :: x167_2
theorem ox167_1 : sx_oks 167 x167_1 := ⟨Or.inr ⟨_, (sx_dd bb_167 dX8_becomes_1), rfl, rfl⟩, ox167_2⟩
def x167_0 : List sx_E := (.aload 0, 0, 1, [], .null) :: x167_1
theorem ox167_0 : sx_oks 167 x167_0 := ⟨Or.inr ⟨_, (sx_dd bb_167 dX8_becomes_0), rfl, rfl⟩, ox167_1⟩
theorem m167 : sx_mok 167 x167_0 := ⟨ox167_0, by decide +kernel⟩
theorem bb_168 : sx_by 168 = cX8_fee := rfl
theorem oo_168 : (sx_nm 168).cls = "StrawGarrisonModel" := rfl
theorem mm_168 : sx_ml 168 = 2 := rfl
theorem rr_168 : sx_rt 168 = (some .int) := rfl
def x168_51 : List sx_E := (.ireturn, 51, 52, [0], .null) :: []
theorem ox168_51 : sx_oks 168 x168_51 := ⟨sx_q_iret0 (sx_dd bb_168 dX8_fee_51) rr_168, trivial⟩
def x168_48 : List sx_E := (.invokevirtual 101, 48, 51, [192, 2, 0, 0, 7], .null) :: x168_51
theorem ox168_48 : sx_oks 168 x168_48 := ⟨sx_q_V (w := (RX8, TX8, 31)) (sx_dd bb_168 dX8_fee_48) oo_168 lk_StrawGarrisonModel_101_V ft_192_h (Nat.le_of_ble_eq_true rfl) rfl rfl, ox168_51⟩
def x168_47 : List sx_E := (.iload 1, 47, 48, [], .null) :: x168_48
theorem ox168_47 : sx_oks 168 x168_47 := ⟨Or.inr ⟨_, (sx_dd bb_168 dX8_fee_47), rfl, rfl⟩, ox168_48⟩
def x168_46 : List sx_E := (.aload 0, 46, 47, [], .null) :: x168_47
theorem ox168_46 : sx_oks 168 x168_46 := ⟨Or.inr ⟨_, (sx_dd bb_168 dX8_fee_46), rfl, rfl⟩, ox168_47⟩
def x168_45 : List sx_E := (.iastore, 45, 46, [], .null) :: x168_46
theorem ox168_45 : sx_oks 168 x168_45 := ⟨⟨(sx_dd bb_168 dX8_fee_45), rfl⟩, ox168_46⟩
def x168_44 : List sx_E := (.iaload, 44, 45, [], .null) :: x168_45
theorem ox168_44 : sx_oks 168 x168_44 := ⟨⟨(sx_dd bb_168 dX8_fee_44), rfl⟩, ox168_45⟩
def x168_42 : List sx_E := (.nop, 42, 44, [], .int (nI 9)) :: x168_44
theorem ox168_42 : sx_oks 168 x168_42 := ⟨sx_k_bipush (sx_dd bb_168 dX8_fee_42) (by decide +kernel), ox168_44⟩
def x168_39 : List sx_E := (.getfield 7, 39, 42, [7, 0, 1], .null) :: x168_42
theorem ox168_39 : sx_oks 168 x168_39 := ⟨sx_q_get (w := (RX8, TX8, 31)) (sx_dd bb_168 dX8_fee_39) rfl rfl (Nat.le_of_ble_eq_true rfl) cu_7 (sx_ow3 oo_168 fl_StrawGarrisonModel_7) (by decide +kernel), ox168_42⟩
def x168_38 : List sx_E := (.aload 0, 38, 39, [], .null) :: x168_39
theorem ox168_38 : sx_oks 168 x168_38 := ⟨Or.inr ⟨_, (sx_dd bb_168 dX8_fee_38), rfl, rfl⟩, ox168_39⟩
def x168_36 : List sx_E := (.nop, 36, 38, [], .int (nI 108)) :: x168_38
theorem ox168_36 : sx_oks 168 x168_36 := ⟨sx_k_bipush (sx_dd bb_168 dX8_fee_36) (by decide +kernel), ox168_38⟩
def x168_33 : List sx_E := (.getfield 49, 33, 36, [7, 25, 1], .null) :: x168_36
theorem ox168_33 : sx_oks 168 x168_33 := ⟨sx_q_get (w := (RX8, TX8, 31)) (sx_dd bb_168 dX8_fee_33) rfl rfl (Nat.le_of_ble_eq_true rfl) cu_7 (sx_ow3 oo_168 fl_StrawGarrisonModel_49) (by decide +kernel), ox168_36⟩
def x168_32 : List sx_E := (.aload 0, 32, 33, [], .null) :: x168_33
theorem ox168_32 : sx_oks 168 x168_32 := ⟨Or.inr ⟨_, (sx_dd bb_168 dX8_fee_32), rfl, rfl⟩, ox168_33⟩
def x168_31 : List sx_E := (.iastore, 31, 32, [], .null) :: x168_32
theorem ox168_31 : sx_oks 168 x168_31 := ⟨⟨(sx_dd bb_168 dX8_fee_31), rfl⟩, ox168_32⟩
def x168_30 : List sx_E := (.iaload, 30, 31, [], .null) :: x168_31
theorem ox168_30 : sx_oks 168 x168_30 := ⟨⟨(sx_dd bb_168 dX8_fee_30), rfl⟩, ox168_31⟩
def x168_28 : List sx_E := (.nop, 28, 30, [], .int (nI 8)) :: x168_30
theorem ox168_28 : sx_oks 168 x168_28 := ⟨sx_k_bipush (sx_dd bb_168 dX8_fee_28) (by decide +kernel), ox168_30⟩
def x168_25 : List sx_E := (.getfield 7, 25, 28, [7, 0, 1], .null) :: x168_28
theorem ox168_25 : sx_oks 168 x168_25 := ⟨sx_q_get (w := (RX8, TX8, 31)) (sx_dd bb_168 dX8_fee_25) rfl rfl (Nat.le_of_ble_eq_true rfl) cu_7 (sx_ow3 oo_168 fl_StrawGarrisonModel_7) (by decide +kernel), ox168_28⟩
def x168_24 : List sx_E := (.aload 0, 24, 25, [], .null) :: x168_25
theorem ox168_24 : sx_oks 168 x168_24 := ⟨Or.inr ⟨_, (sx_dd bb_168 dX8_fee_24), rfl, rfl⟩, ox168_25⟩
def x168_22 : List sx_E := (.nop, 22, 24, [], .int (nI 104)) :: x168_24
theorem ox168_22 : sx_oks 168 x168_22 := ⟨sx_k_bipush (sx_dd bb_168 dX8_fee_22) (by decide +kernel), ox168_24⟩
def x168_19 : List sx_E := (.getfield 49, 19, 22, [7, 25, 1], .null) :: x168_22
theorem ox168_19 : sx_oks 168 x168_19 := ⟨sx_q_get (w := (RX8, TX8, 31)) (sx_dd bb_168 dX8_fee_19) rfl rfl (Nat.le_of_ble_eq_true rfl) cu_7 (sx_ow3 oo_168 fl_StrawGarrisonModel_49) (by decide +kernel), ox168_22⟩
def x168_18 : List sx_E := (.aload 0, 18, 19, [], .null) :: x168_19
theorem ox168_18 : sx_oks 168 x168_18 := ⟨Or.inr ⟨_, (sx_dd bb_168 dX8_fee_18), rfl, rfl⟩, ox168_19⟩
def x168_17 : List sx_E := (.ireturn, 17, 18, [0], .null) :: x168_18
theorem ox168_17 : sx_oks 168 x168_17 := ⟨sx_q_iret0 (sx_dd bb_168 dX8_fee_17) rr_168, ox168_18⟩
def x168_16 : List sx_E := (.iaload, 16, 17, [], .null) :: x168_17
theorem ox168_16 : sx_oks 168 x168_16 := ⟨⟨(sx_dd bb_168 dX8_fee_16), rfl⟩, ox168_17⟩
def x168_14 : List sx_E := (.nop, 14, 16, [], .int (nI 8)) :: x168_16
theorem ox168_14 : sx_oks 168 x168_14 := ⟨sx_k_bipush (sx_dd bb_168 dX8_fee_14) (by decide +kernel), ox168_16⟩
def x168_11 : List sx_E := (.getfield 7, 11, 14, [7, 0, 1], .null) :: x168_14
theorem ox168_11 : sx_oks 168 x168_11 := ⟨sx_q_get (w := (RX8, TX8, 31)) (sx_dd bb_168 dX8_fee_11) rfl rfl (Nat.le_of_ble_eq_true rfl) cu_7 (sx_ow3 oo_168 fl_StrawGarrisonModel_7) (by decide +kernel), ox168_14⟩
def x168_10 : List sx_E := (.aload 0, 10, 11, [], .null) :: x168_11
theorem ox168_10 : sx_oks 168 x168_10 := ⟨Or.inr ⟨_, (sx_dd bb_168 dX8_fee_10), rfl, rfl⟩, ox168_11⟩
def x168_7 : List sx_E := (.ifCond .ge (11), 7, 10, [18], .null) :: x168_10
theorem ox168_7 : sx_oks 168 x168_7 := ⟨⟨(sx_dd bb_168 dX8_fee_7), rfl, sx_t1 (by decide +kernel)⟩, ox168_10⟩
def x168_6 : List sx_E := (.iload 1, 6, 7, [], .null) :: x168_7
theorem ox168_6 : sx_oks 168 x168_6 := ⟨Or.inr ⟨_, (sx_dd bb_168 dX8_fee_6), rfl, rfl⟩, ox168_7⟩
def x168_5 : List sx_E := (.istore 1, 5, 6, [], .null) :: x168_6
theorem ox168_5 : sx_oks 168 x168_5 := ⟨⟨sx_lt mm_168 (Nat.le_of_ble_eq_true rfl), Or.inr ⟨_, (sx_dd bb_168 dX8_fee_5), rfl, rfl⟩⟩, ox168_6⟩
def x168_2 : List sx_E := (.invokevirtual 98, 2, 5, [189, 2, 0, 0, 7], .null) :: x168_5
theorem ox168_2 : sx_oks 168 x168_2 := ⟨sx_q_V (w := (RX8, TX8, 31)) (sx_dd bb_168 dX8_fee_2) oo_168 lk_StrawGarrisonModel_98_V ft_189_h (Nat.le_of_ble_eq_true rfl) rfl rfl, ox168_5⟩
def x168_1 : List sx_E := (.nop, 1, 2, [], .int (nI 1)) :: x168_2
theorem ox168_1 : sx_oks 168 x168_1 := ⟨sx_k_iconst (sx_dd bb_168 dX8_fee_1) (by decide +kernel), ox168_2⟩
def x168_0 : List sx_E := (.aload 0, 0, 1, [], .null) :: x168_1
theorem ox168_0 : sx_oks 168 x168_0 := ⟨Or.inr ⟨_, (sx_dd bb_168 dX8_fee_0), rfl, rfl⟩, ox168_1⟩
theorem m168 : sx_mok 168 x168_0 := ⟨ox168_0, by decide +kernel⟩
theorem bb_169 : sx_by 169 = cX8_fine := rfl
theorem oo_169 : (sx_nm 169).cls = "StrawGarrisonModel" := rfl
theorem mm_169 : sx_ml 169 = 3 := rfl
theorem rr_169 : sx_rt 169 = (some .int) := rfl
def x169_59 : List sx_E := (.ireturn, 59, 60, [0], .null) :: []
theorem ox169_59 : sx_oks 169 x169_59 := ⟨sx_q_iret0 (sx_dd bb_169 dX8_fine_59) rr_169, trivial⟩
def x169_56 : List sx_E := (.invokevirtual 101, 56, 59, [192, 2, 0, 0, 7], .null) :: x169_59
theorem ox169_56 : sx_oks 169 x169_56 := ⟨sx_q_V (w := (RX8, TX8, 31)) (sx_dd bb_169 dX8_fine_56) oo_169 lk_StrawGarrisonModel_101_V ft_192_h (Nat.le_of_ble_eq_true rfl) rfl rfl, ox169_59⟩
def x169_55 : List sx_E := (.iload 2, 55, 56, [], .null) :: x169_56
theorem ox169_55 : sx_oks 169 x169_55 := ⟨Or.inr ⟨_, (sx_dd bb_169 dX8_fine_55), rfl, rfl⟩, ox169_56⟩
def x169_54 : List sx_E := (.aload 0, 54, 55, [], .null) :: x169_55
theorem ox169_54 : sx_oks 169 x169_54 := ⟨Or.inr ⟨_, (sx_dd bb_169 dX8_fine_54), rfl, rfl⟩, ox169_55⟩
def x169_53 : List sx_E := (.iastore, 53, 54, [], .null) :: x169_54
theorem ox169_53 : sx_oks 169 x169_53 := ⟨⟨(sx_dd bb_169 dX8_fine_53), rfl⟩, ox169_54⟩
def x169_50 : List sx_E := (.invokevirtual 72, 50, 53, [119, 3, 0, 0, 7], .null) :: x169_53
theorem ox169_50 : sx_oks 169 x169_50 := ⟨sx_q_V (w := (RX8, TX8, 31)) (sx_dd bb_169 dX8_fine_50) oo_169 lk_StrawGarrisonModel_72_V ft_119_h (Nat.le_of_ble_eq_true rfl) rfl rfl, ox169_53⟩
def x169_49 : List sx_E := (.nop, 49, 50, [], .int (nI 3)) :: x169_50
theorem ox169_49 : sx_oks 169 x169_49 := ⟨sx_k_iconst (sx_dd bb_169 dX8_fine_49) (by decide +kernel), ox169_50⟩
def x169_48 : List sx_E := (.iload 1, 48, 49, [], .null) :: x169_49
theorem ox169_48 : sx_oks 169 x169_48 := ⟨Or.inr ⟨_, (sx_dd bb_169 dX8_fine_48), rfl, rfl⟩, ox169_49⟩
def x169_47 : List sx_E := (.aload 0, 47, 48, [], .null) :: x169_48
theorem ox169_47 : sx_oks 169 x169_47 := ⟨Or.inr ⟨_, (sx_dd bb_169 dX8_fine_47), rfl, rfl⟩, ox169_48⟩
def x169_45 : List sx_E := (.nop, 45, 47, [], .int (nI 100)) :: x169_47
theorem ox169_45 : sx_oks 169 x169_45 := ⟨sx_k_bipush (sx_dd bb_169 dX8_fine_45) (by decide +kernel), ox169_47⟩
def x169_42 : List sx_E := (.getfield 49, 42, 45, [7, 25, 1], .null) :: x169_45
theorem ox169_42 : sx_oks 169 x169_42 := ⟨sx_q_get (w := (RX8, TX8, 31)) (sx_dd bb_169 dX8_fine_42) rfl rfl (Nat.le_of_ble_eq_true rfl) cu_7 (sx_ow3 oo_169 fl_StrawGarrisonModel_49) (by decide +kernel), ox169_45⟩
def x169_41 : List sx_E := (.aload 0, 41, 42, [], .null) :: x169_42
theorem ox169_41 : sx_oks 169 x169_41 := ⟨Or.inr ⟨_, (sx_dd bb_169 dX8_fine_41), rfl, rfl⟩, ox169_42⟩
def x169_40 : List sx_E := (.iastore, 40, 41, [], .null) :: x169_41
theorem ox169_40 : sx_oks 169 x169_40 := ⟨⟨(sx_dd bb_169 dX8_fine_40), rfl⟩, ox169_41⟩
def x169_37 : List sx_E := (.invokevirtual 72, 37, 40, [119, 3, 0, 0, 7], .null) :: x169_40
theorem ox169_37 : sx_oks 169 x169_37 := ⟨sx_q_V (w := (RX8, TX8, 31)) (sx_dd bb_169 dX8_fine_37) oo_169 lk_StrawGarrisonModel_72_V ft_119_h (Nat.le_of_ble_eq_true rfl) rfl rfl, ox169_40⟩
def x169_36 : List sx_E := (.nop, 36, 37, [], .int (nI 2)) :: x169_37
theorem ox169_36 : sx_oks 169 x169_36 := ⟨sx_k_iconst (sx_dd bb_169 dX8_fine_36) (by decide +kernel), ox169_37⟩
def x169_35 : List sx_E := (.iload 1, 35, 36, [], .null) :: x169_36
theorem ox169_35 : sx_oks 169 x169_35 := ⟨Or.inr ⟨_, (sx_dd bb_169 dX8_fine_35), rfl, rfl⟩, ox169_36⟩
def x169_34 : List sx_E := (.aload 0, 34, 35, [], .null) :: x169_35
theorem ox169_34 : sx_oks 169 x169_34 := ⟨Or.inr ⟨_, (sx_dd bb_169 dX8_fine_34), rfl, rfl⟩, ox169_35⟩
def x169_32 : List sx_E := (.nop, 32, 34, [], .int (nI 119)) :: x169_34
theorem ox169_32 : sx_oks 169 x169_32 := ⟨sx_k_bipush (sx_dd bb_169 dX8_fine_32) (by decide +kernel), ox169_34⟩
def x169_29 : List sx_E := (.getfield 49, 29, 32, [7, 25, 1], .null) :: x169_32
theorem ox169_29 : sx_oks 169 x169_29 := ⟨sx_q_get (w := (RX8, TX8, 31)) (sx_dd bb_169 dX8_fine_29) rfl rfl (Nat.le_of_ble_eq_true rfl) cu_7 (sx_ow3 oo_169 fl_StrawGarrisonModel_49) (by decide +kernel), ox169_32⟩
def x169_28 : List sx_E := (.aload 0, 28, 29, [], .null) :: x169_29
theorem ox169_28 : sx_oks 169 x169_28 := ⟨Or.inr ⟨_, (sx_dd bb_169 dX8_fine_28), rfl, rfl⟩, ox169_29⟩
def x169_27 : List sx_E := (.ireturn, 27, 28, [0], .null) :: x169_28
theorem ox169_27 : sx_oks 169 x169_27 := ⟨sx_q_iret0 (sx_dd bb_169 dX8_fine_27) rr_169, ox169_28⟩
def x169_24 : List sx_E := (.invokevirtual 72, 24, 27, [119, 3, 0, 0, 7], .null) :: x169_27
theorem ox169_24 : sx_oks 169 x169_24 := ⟨sx_q_V (w := (RX8, TX8, 31)) (sx_dd bb_169 dX8_fine_24) oo_169 lk_StrawGarrisonModel_72_V ft_119_h (Nat.le_of_ble_eq_true rfl) rfl rfl, ox169_27⟩
def x169_23 : List sx_E := (.nop, 23, 24, [], .int (nI 3)) :: x169_24
theorem ox169_23 : sx_oks 169 x169_23 := ⟨sx_k_iconst (sx_dd bb_169 dX8_fine_23) (by decide +kernel), ox169_24⟩
def x169_22 : List sx_E := (.iload 1, 22, 23, [], .null) :: x169_23
theorem ox169_22 : sx_oks 169 x169_22 := ⟨Or.inr ⟨_, (sx_dd bb_169 dX8_fine_22), rfl, rfl⟩, ox169_23⟩
def x169_21 : List sx_E := (.aload 0, 21, 22, [], .null) :: x169_22
theorem ox169_21 : sx_oks 169 x169_21 := ⟨Or.inr ⟨_, (sx_dd bb_169 dX8_fine_21), rfl, rfl⟩, ox169_22⟩
def x169_18 : List sx_E := (.ifCond .ge (10), 18, 21, [28], .null) :: x169_21
theorem ox169_18 : sx_oks 169 x169_18 := ⟨⟨(sx_dd bb_169 dX8_fine_18), rfl, sx_t1 (by decide +kernel)⟩, ox169_21⟩
def x169_17 : List sx_E := (.iload 2, 17, 18, [], .null) :: x169_18
theorem ox169_17 : sx_oks 169 x169_17 := ⟨Or.inr ⟨_, (sx_dd bb_169 dX8_fine_17), rfl, rfl⟩, ox169_18⟩
def x169_16 : List sx_E := (.istore 2, 16, 17, [], .null) :: x169_17
theorem ox169_16 : sx_oks 169 x169_16 := ⟨⟨sx_lt mm_169 (Nat.le_of_ble_eq_true rfl), Or.inr ⟨_, (sx_dd bb_169 dX8_fine_16), rfl, rfl⟩⟩, ox169_17⟩
def x169_13 : List sx_E := (.invokevirtual 98, 13, 16, [189, 2, 0, 0, 7], .null) :: x169_16
theorem ox169_13 : sx_oks 169 x169_13 := ⟨sx_q_V (w := (RX8, TX8, 31)) (sx_dd bb_169 dX8_fine_13) oo_169 lk_StrawGarrisonModel_98_V ft_189_h (Nat.le_of_ble_eq_true rfl) rfl rfl, ox169_16⟩
def x169_12 : List sx_E := (.nop, 12, 13, [], .int (nI 2)) :: x169_13
theorem ox169_12 : sx_oks 169 x169_12 := ⟨sx_k_iconst (sx_dd bb_169 dX8_fine_12) (by decide +kernel), ox169_13⟩
def x169_11 : List sx_E := (.aload 0, 11, 12, [], .null) :: x169_12
theorem ox169_11 : sx_oks 169 x169_11 := ⟨Or.inr ⟨_, (sx_dd bb_169 dX8_fine_11), rfl, rfl⟩, ox169_12⟩
def x169_10 : List sx_E := (.ireturn, 10, 11, [0], .null) :: x169_11
theorem ox169_10 : sx_oks 169 x169_10 := ⟨sx_q_iret0 (sx_dd bb_169 dX8_fine_10) rr_169, ox169_11⟩
def x169_8 : List sx_E := (.nop, 8, 10, [], .int ((-1000000001))) :: x169_10
theorem ox169_8 : sx_oks 169 x169_8 := ⟨sx_k_ldc (sx_dd bb_169 dX8_fine_8) (sx_ow1 oo_169 kc_StrawGarrisonModel_88), ox169_10⟩
def x169_5 : List sx_E := (.ifCond .ne (6), 5, 8, [11], .null) :: x169_8
theorem ox169_5 : sx_oks 169 x169_5 := ⟨⟨(sx_dd bb_169 dX8_fine_5), rfl, sx_t1 (by decide +kernel)⟩, ox169_8⟩
def x169_2 : List sx_E := (.invokevirtual 110, 2, 5, [121, 2, 0, 0, 7], .null) :: x169_5
theorem ox169_2 : sx_oks 169 x169_2 := ⟨sx_q_V (w := (RX8, TX8, 31)) (sx_dd bb_169 dX8_fine_2) oo_169 lk_StrawGarrisonModel_110_V ft_121_h (Nat.le_of_ble_eq_true rfl) rfl rfl, ox169_5⟩
def x169_1 : List sx_E := (.iload 1, 1, 2, [], .null) :: x169_2
theorem ox169_1 : sx_oks 169 x169_1 := ⟨Or.inr ⟨_, (sx_dd bb_169 dX8_fine_1), rfl, rfl⟩, ox169_2⟩
def x169_0 : List sx_E := (.aload 0, 0, 1, [], .null) :: x169_1
theorem ox169_0 : sx_oks 169 x169_0 := ⟨Or.inr ⟨_, (sx_dd bb_169 dX8_fine_0), rfl, rfl⟩, ox169_1⟩
theorem m169 : sx_mok 169 x169_0 := ⟨ox169_0, by decide +kernel⟩
theorem bb_170 : sx_by 170 = cX8_feed := rfl
theorem oo_170 : (sx_nm 170).cls = "StrawGarrisonModel" := rfl
theorem mm_170 : sx_ml 170 = 6 := rfl
theorem rr_170 : sx_rt 170 = (some .int) := rfl
def x170_95 : List sx_E := (.ireturn, 95, 96, [0], .null) :: []
theorem ox170_95 : sx_oks 170 x170_95 := ⟨sx_q_iret0 (sx_dd bb_170 dX8_feed_95) rr_170, trivial⟩
def x170_92 : List sx_E := (.getfield 207, 92, 95, [7, 14, 0], .null) :: x170_95
theorem ox170_92 : sx_oks 170 x170_92 := ⟨sx_q_get (w := (RX8, TX8, 31)) (sx_dd bb_170 dX8_feed_92) rfl rfl (Nat.le_of_ble_eq_true rfl) cu_7 (sx_ow3 oo_170 fl_StrawGarrisonModel_207) (by decide +kernel), ox170_95⟩
def x170_91 : List sx_E := (.aload 0, 91, 92, [], .null) :: x170_92
theorem ox170_91 : sx_oks 170 x170_91 := ⟨Or.inr ⟨_, (sx_dd bb_170 dX8_feed_91), rfl, rfl⟩, ox170_92⟩
def x170_88 : List sx_E := (.goto (-70), 88, 91, [18], .null) :: x170_91
theorem ox170_88 : sx_oks 170 x170_88 := ⟨⟨(sx_dd bb_170 dX8_feed_88), sx_t1 (by decide +kernel)⟩, ox170_91⟩
def x170_85 : List sx_E := (.iinc 4 (1), 85, 88, [], .int (nI 1)) :: x170_88
theorem ox170_85 : sx_oks 170 x170_85 := ⟨⟨sx_lt mm_170 (Nat.le_of_ble_eq_true rfl), (sx_dd bb_170 dX8_feed_85), rfl, by decide +kernel⟩, ox170_88⟩
def x170_82 : List sx_E := (.putfield 207, 82, 85, [7, 14, 0], .null) :: x170_85
theorem ox170_82 : sx_oks 170 x170_82 := ⟨sx_q_put (w := (RX8, TX8, 31)) (ty0 := tyX8) (sx_dd bb_170 dX8_feed_82) rfl (Nat.le_of_ble_eq_true rfl) cu_7 (sx_ow3 oo_170 fl_StrawGarrisonModel_207) (by decide +kernel) tyX8_ok nmX8 (Or.inl rfl) (fun _ => rfl) (fun h => absurd h (by decide)) (fun h => absurd h (by decide)), ox170_85⟩
def x170_81 : List sx_E := (.iadd, 81, 82, [], .null) :: x170_82
theorem ox170_81 : sx_oks 170 x170_81 := ⟨⟨(sx_dd bb_170 dX8_feed_81), rfl⟩, ox170_82⟩
def x170_80 : List sx_E := (.nop, 80, 81, [], .int (nI 1)) :: x170_81
theorem ox170_80 : sx_oks 170 x170_80 := ⟨sx_k_iconst (sx_dd bb_170 dX8_feed_80) (by decide +kernel), ox170_81⟩
def x170_77 : List sx_E := (.getfield 207, 77, 80, [7, 14, 0], .null) :: x170_80
theorem ox170_77 : sx_oks 170 x170_77 := ⟨sx_q_get (w := (RX8, TX8, 31)) (sx_dd bb_170 dX8_feed_77) rfl rfl (Nat.le_of_ble_eq_true rfl) cu_7 (sx_ow3 oo_170 fl_StrawGarrisonModel_207) (by decide +kernel), ox170_80⟩
def x170_76 : List sx_E := (.dup, 76, 77, [], .null) :: x170_77
theorem ox170_76 : sx_oks 170 x170_76 := ⟨⟨(sx_dd bb_170 dX8_feed_76), rfl⟩, ox170_77⟩
def x170_75 : List sx_E := (.aload 0, 75, 76, [], .null) :: x170_76
theorem ox170_75 : sx_oks 170 x170_75 := ⟨Or.inr ⟨_, (sx_dd bb_170 dX8_feed_75), rfl, rfl⟩, ox170_76⟩
def x170_74 : List sx_E := (.iastore, 74, 75, [], .null) :: x170_75
theorem ox170_74 : sx_oks 170 x170_74 := ⟨⟨(sx_dd bb_170 dX8_feed_74), rfl⟩, ox170_75⟩
def x170_73 : List sx_E := (.iand, 73, 74, [], .null) :: x170_74
theorem ox170_73 : sx_oks 170 x170_73 := ⟨⟨(sx_dd bb_170 dX8_feed_73), rfl⟩, ox170_74⟩
def x170_70 : List sx_E := (.nop, 70, 73, [], .int (nI 255)) :: x170_73
theorem ox170_70 : sx_oks 170 x170_70 := ⟨sx_k_sipush (sx_dd bb_170 dX8_feed_70) (by decide +kernel), ox170_73⟩
def x170_69 : List sx_E := (.ishr, 69, 70, [], .null) :: x170_70
theorem ox170_69 : sx_oks 170 x170_69 := ⟨⟨(sx_dd bb_170 dX8_feed_69), rfl⟩, ox170_70⟩
def x170_68 : List sx_E := (.isub, 68, 69, [], .null) :: x170_69
theorem ox170_68 : sx_oks 170 x170_68 := ⟨⟨(sx_dd bb_170 dX8_feed_68), rfl⟩, ox170_69⟩
def x170_67 : List sx_E := (.imul, 67, 68, [], .null) :: x170_68
theorem ox170_67 : sx_oks 170 x170_67 := ⟨⟨(sx_dd bb_170 dX8_feed_67), rfl⟩, ox170_68⟩
def x170_66 : List sx_E := (.irem, 66, 67, [], .null) :: x170_67
theorem ox170_66 : sx_oks 170 x170_66 := ⟨⟨(sx_dd bb_170 dX8_feed_66), rfl⟩, ox170_67⟩
def x170_65 : List sx_E := (.nop, 65, 66, [], .int (nI 4)) :: x170_66
theorem ox170_65 : sx_oks 170 x170_65 := ⟨sx_k_iconst (sx_dd bb_170 dX8_feed_65) (by decide +kernel), ox170_66⟩
def x170_63 : List sx_E := (.iload 4, 63, 65, [], .null) :: x170_65
theorem ox170_63 : sx_oks 170 x170_63 := ⟨Or.inl ⟨(sx_dd bb_170 dX8_feed_63), rfl⟩, ox170_65⟩
def x170_61 : List sx_E := (.nop, 61, 63, [], .int (nI 8)) :: x170_63
theorem ox170_61 : sx_oks 170 x170_61 := ⟨sx_k_bipush (sx_dd bb_170 dX8_feed_61) (by decide +kernel), ox170_63⟩
def x170_59 : List sx_E := (.nop, 59, 61, [], .int (nI 24)) :: x170_61
theorem ox170_59 : sx_oks 170 x170_59 := ⟨sx_k_bipush (sx_dd bb_170 dX8_feed_59) (by decide +kernel), ox170_61⟩
def x170_57 : List sx_E := (.iload 5, 57, 59, [], .null) :: x170_59
theorem ox170_57 : sx_oks 170 x170_57 := ⟨Or.inl ⟨(sx_dd bb_170 dX8_feed_57), rfl⟩, ox170_59⟩
def x170_54 : List sx_E := (.getfield 207, 54, 57, [7, 14, 0], .null) :: x170_57
theorem ox170_54 : sx_oks 170 x170_54 := ⟨sx_q_get (w := (RX8, TX8, 31)) (sx_dd bb_170 dX8_feed_54) rfl rfl (Nat.le_of_ble_eq_true rfl) cu_7 (sx_ow3 oo_170 fl_StrawGarrisonModel_207) (by decide +kernel), ox170_57⟩
def x170_53 : List sx_E := (.aload 0, 53, 54, [], .null) :: x170_54
theorem ox170_53 : sx_oks 170 x170_53 := ⟨Or.inr ⟨_, (sx_dd bb_170 dX8_feed_53), rfl, rfl⟩, ox170_54⟩
def x170_50 : List sx_E := (.getfield 46, 50, 53, [7, 13, 1], .null) :: x170_53
theorem ox170_50 : sx_oks 170 x170_50 := ⟨sx_q_get (w := (RX8, TX8, 31)) (sx_dd bb_170 dX8_feed_50) rfl rfl (Nat.le_of_ble_eq_true rfl) cu_7 (sx_ow3 oo_170 fl_StrawGarrisonModel_46) (by decide +kernel), ox170_53⟩
def x170_49 : List sx_E := (.aload 0, 49, 50, [], .null) :: x170_50
theorem ox170_49 : sx_oks 170 x170_49 := ⟨Or.inr ⟨_, (sx_dd bb_170 dX8_feed_49), rfl, rfl⟩, ox170_50⟩
def x170_47 : List sx_E := (.istore 5, 47, 49, [], .null) :: x170_49
theorem ox170_47 : sx_oks 170 x170_47 := ⟨⟨sx_lt mm_170 (Nat.le_of_ble_eq_true rfl), Or.inl ⟨(sx_dd bb_170 dX8_feed_47), rfl⟩⟩, ox170_49⟩
def x170_46 : List sx_E := (.iload 3, 46, 47, [], .null) :: x170_47
theorem ox170_46 : sx_oks 170 x170_46 := ⟨Or.inr ⟨_, (sx_dd bb_170 dX8_feed_46), rfl, rfl⟩, ox170_47⟩
def x170_43 : List sx_E := (.goto (4), 43, 46, [47], .null) :: x170_46
theorem ox170_43 : sx_oks 170 x170_43 := ⟨⟨(sx_dd bb_170 dX8_feed_43), sx_t1 (by decide +kernel)⟩, ox170_46⟩
def x170_42 : List sx_E := (.iload 2, 42, 43, [], .null) :: x170_43
theorem ox170_42 : sx_oks 170 x170_42 := ⟨Or.inr ⟨_, (sx_dd bb_170 dX8_feed_42), rfl, rfl⟩, ox170_43⟩
def x170_39 : List sx_E := (.if_icmp .ge (7), 39, 42, [46], .null) :: x170_42
theorem ox170_39 : sx_oks 170 x170_39 := ⟨⟨(sx_dd bb_170 dX8_feed_39), rfl, sx_t1 (by decide +kernel)⟩, ox170_42⟩
def x170_37 : List sx_E := (.nop, 37, 39, [], .int (nI 8)) :: x170_39
theorem ox170_37 : sx_oks 170 x170_37 := ⟨sx_k_bipush (sx_dd bb_170 dX8_feed_37) (by decide +kernel), ox170_39⟩
def x170_35 : List sx_E := (.iload 4, 35, 37, [], .null) :: x170_37
theorem ox170_35 : sx_oks 170 x170_35 := ⟨Or.inl ⟨(sx_dd bb_170 dX8_feed_35), rfl⟩, ox170_37⟩
def x170_32 : List sx_E := (.goto (15), 32, 35, [47], .null) :: x170_35
theorem ox170_32 : sx_oks 170 x170_32 := ⟨⟨(sx_dd bb_170 dX8_feed_32), sx_t1 (by decide +kernel)⟩, ox170_35⟩
def x170_31 : List sx_E := (.iload 1, 31, 32, [], .null) :: x170_32
theorem ox170_31 : sx_oks 170 x170_31 := ⟨Or.inr ⟨_, (sx_dd bb_170 dX8_feed_31), rfl, rfl⟩, ox170_32⟩
def x170_28 : List sx_E := (.if_icmp .ge (7), 28, 31, [35], .null) :: x170_31
theorem ox170_28 : sx_oks 170 x170_28 := ⟨⟨(sx_dd bb_170 dX8_feed_28), rfl, sx_t1 (by decide +kernel)⟩, ox170_31⟩
def x170_27 : List sx_E := (.nop, 27, 28, [], .int (nI 4)) :: x170_28
theorem ox170_27 : sx_oks 170 x170_27 := ⟨sx_k_iconst (sx_dd bb_170 dX8_feed_27) (by decide +kernel), ox170_28⟩
def x170_25 : List sx_E := (.iload 4, 25, 27, [], .null) :: x170_27
theorem ox170_25 : sx_oks 170 x170_25 := ⟨Or.inl ⟨(sx_dd bb_170 dX8_feed_25), rfl⟩, ox170_27⟩
def x170_22 : List sx_E := (.if_icmp .ge (69), 22, 25, [91], .null) :: x170_25
theorem ox170_22 : sx_oks 170 x170_22 := ⟨⟨(sx_dd bb_170 dX8_feed_22), rfl, sx_t1 (by decide +kernel)⟩, ox170_25⟩
def x170_20 : List sx_E := (.nop, 20, 22, [], .int (nI 12)) :: x170_22
theorem ox170_20 : sx_oks 170 x170_20 := ⟨sx_k_bipush (sx_dd bb_170 dX8_feed_20) (by decide +kernel), ox170_22⟩
def x170_18 : List sx_E := (.iload 4, 18, 20, [], .null) :: x170_20
theorem ox170_18 : sx_oks 170 x170_18 := ⟨Or.inl ⟨(sx_dd bb_170 dX8_feed_18), rfl⟩, ox170_20⟩
def x170_18h : List sx_E := (.monitorenter, 18, 18, [0, 1, 2, 3, 4], .null) :: x170_18
theorem ox170_18h : sx_oks 170 x170_18h := ⟨trivial, ox170_18⟩
def x170_16 : List sx_E := (.istore 4, 16, 18, [], .null) :: x170_18h
theorem ox170_16 : sx_oks 170 x170_16 := ⟨⟨sx_lt mm_170 (Nat.le_of_ble_eq_true rfl), Or.inl ⟨(sx_dd bb_170 dX8_feed_16), rfl⟩⟩, ox170_18h⟩
def x170_15 : List sx_E := (.nop, 15, 16, [], .int (nI 0)) :: x170_16
theorem ox170_15 : sx_oks 170 x170_15 := ⟨sx_k_iconst (sx_dd bb_170 dX8_feed_15) (by decide +kernel), ox170_16⟩
def x170_14 : List sx_E := (.ireturn, 14, 15, [0], .null) :: x170_15
theorem ox170_14 : sx_oks 170 x170_14 := ⟨sx_q_iret0 (sx_dd bb_170 dX8_feed_14) rr_170, ox170_15⟩
def x170_12 : List sx_E := (.nop, 12, 14, [], .int ((-1000000003))) :: x170_14
theorem ox170_12 : sx_oks 170 x170_12 := ⟨sx_k_ldc (sx_dd bb_170 dX8_feed_12) (sx_ow1 oo_170 kc_StrawGarrisonModel_94), ox170_14⟩
def x170_9 : List sx_E := (.if_icmp .le (6), 9, 12, [15], .null) :: x170_12
theorem ox170_9 : sx_oks 170 x170_9 := ⟨⟨(sx_dd bb_170 dX8_feed_9), rfl, sx_t1 (by decide +kernel)⟩, ox170_12⟩
def x170_7 : List sx_E := (.nop, 7, 9, [], .int (nI 96)) :: x170_9
theorem ox170_7 : sx_oks 170 x170_7 := ⟨sx_k_bipush (sx_dd bb_170 dX8_feed_7) (by decide +kernel), ox170_9⟩
def x170_6 : List sx_E := (.iadd, 6, 7, [], .null) :: x170_7
theorem ox170_6 : sx_oks 170 x170_6 := ⟨⟨(sx_dd bb_170 dX8_feed_6), rfl⟩, ox170_7⟩
def x170_4 : List sx_E := (.nop, 4, 6, [], .int (nI 12)) :: x170_6
theorem ox170_4 : sx_oks 170 x170_4 := ⟨sx_k_bipush (sx_dd bb_170 dX8_feed_4) (by decide +kernel), ox170_6⟩
def x170_1 : List sx_E := (.getfield 207, 1, 4, [7, 14, 0], .null) :: x170_4
theorem ox170_1 : sx_oks 170 x170_1 := ⟨sx_q_get (w := (RX8, TX8, 31)) (sx_dd bb_170 dX8_feed_1) rfl rfl (Nat.le_of_ble_eq_true rfl) cu_7 (sx_ow3 oo_170 fl_StrawGarrisonModel_207) (by decide +kernel), ox170_4⟩
def x170_0 : List sx_E := (.aload 0, 0, 1, [], .null) :: x170_1
theorem ox170_0 : sx_oks 170 x170_0 := ⟨Or.inr ⟨_, (sx_dd bb_170 dX8_feed_0), rfl, rfl⟩, ox170_1⟩
theorem m170 : sx_mok 170 x170_0 := ⟨ox170_0, by decide +kernel⟩
theorem bb_171 : sx_by 171 = cX8_trim := rfl
theorem oo_171 : (sx_nm 171).cls = "StrawGarrisonModel" := rfl
theorem mm_171 : sx_ml 171 = 2 := rfl
theorem rr_171 : sx_rt 171 = (some .int) := rfl
def x171_23 : List sx_E := (.ireturn, 23, 24, [0], .null) :: []
theorem ox171_23 : sx_oks 171 x171_23 := ⟨sx_q_iret0 (sx_dd bb_171 dX8_trim_23) rr_171, trivial⟩
def x171_22 : List sx_E := (.iload 1, 22, 23, [], .null) :: x171_23
theorem ox171_22 : sx_oks 171 x171_22 := ⟨Or.inr ⟨_, (sx_dd bb_171 dX8_trim_22), rfl, rfl⟩, ox171_23⟩
def x171_19 : List sx_E := (.putfield 207, 19, 22, [7, 14, 0], .null) :: x171_22
theorem ox171_19 : sx_oks 171 x171_19 := ⟨sx_q_put (w := (RX8, TX8, 31)) (ty0 := tyX8) (sx_dd bb_171 dX8_trim_19) rfl (Nat.le_of_ble_eq_true rfl) cu_7 (sx_ow3 oo_171 fl_StrawGarrisonModel_207) (by decide +kernel) tyX8_ok nmX8 (Or.inl rfl) (fun _ => rfl) (fun h => absurd h (by decide)) (fun h => absurd h (by decide)), ox171_22⟩
def x171_18 : List sx_E := (.iload 1, 18, 19, [], .null) :: x171_19
theorem ox171_18 : sx_oks 171 x171_18 := ⟨Or.inr ⟨_, (sx_dd bb_171 dX8_trim_18), rfl, rfl⟩, ox171_19⟩
def x171_17 : List sx_E := (.aload 0, 17, 18, [], .null) :: x171_18
theorem ox171_17 : sx_oks 171 x171_17 := ⟨Or.inr ⟨_, (sx_dd bb_171 dX8_trim_17), rfl, rfl⟩, ox171_18⟩
def x171_16 : List sx_E := (.ireturn, 16, 17, [0], .null) :: x171_17
theorem ox171_16 : sx_oks 171 x171_16 := ⟨sx_q_iret0 (sx_dd bb_171 dX8_trim_16) rr_171, ox171_17⟩
def x171_14 : List sx_E := (.nop, 14, 16, [], .int ((-1000000001))) :: x171_16
theorem ox171_14 : sx_oks 171 x171_14 := ⟨sx_k_ldc (sx_dd bb_171 dX8_trim_14) (sx_ow1 oo_171 kc_StrawGarrisonModel_88), ox171_16⟩
def x171_11 : List sx_E := (.ifCond .ne (6), 11, 14, [17], .null) :: x171_14
theorem ox171_11 : sx_oks 171 x171_11 := ⟨⟨(sx_dd bb_171 dX8_trim_11), rfl, sx_t1 (by decide +kernel)⟩, ox171_14⟩
def x171_8 : List sx_E := (.invokestatic 65, 8, 11, [113, 3, 0, 0], .null) :: x171_11
theorem ox171_8 : sx_oks 171 x171_8 := ⟨sx_q_S (sx_dd bb_171 dX8_trim_8) oo_171 lk_StrawGarrisonModel_65_S ft_113_h, ox171_11⟩
def x171_7 : List sx_E := (.i2l, 7, 8, [], .null) :: x171_8
theorem ox171_7 : sx_oks 171 x171_7 := ⟨⟨(sx_dd bb_171 dX8_trim_7), rfl⟩, ox171_8⟩
def x171_4 : List sx_E := (.getfield 207, 4, 7, [7, 14, 0], .null) :: x171_7
theorem ox171_4 : sx_oks 171 x171_4 := ⟨sx_q_get (w := (RX8, TX8, 31)) (sx_dd bb_171 dX8_trim_4) rfl rfl (Nat.le_of_ble_eq_true rfl) cu_7 (sx_ow3 oo_171 fl_StrawGarrisonModel_207) (by decide +kernel), ox171_7⟩
def x171_3 : List sx_E := (.aload 0, 3, 4, [], .null) :: x171_4
theorem ox171_3 : sx_oks 171 x171_3 := ⟨Or.inr ⟨_, (sx_dd bb_171 dX8_trim_3), rfl, rfl⟩, ox171_4⟩
def x171_2 : List sx_E := (.nop, 2, 3, [], .long (0)) :: x171_3
theorem ox171_2 : sx_oks 171 x171_2 := ⟨sx_k_lconst (sx_dd bb_171 dX8_trim_2) (by decide +kernel), ox171_3⟩
def x171_1 : List sx_E := (.i2l, 1, 2, [], .null) :: x171_2
theorem ox171_1 : sx_oks 171 x171_1 := ⟨⟨(sx_dd bb_171 dX8_trim_1), rfl⟩, ox171_2⟩
def x171_0 : List sx_E := (.iload 1, 0, 1, [], .null) :: x171_1
theorem ox171_0 : sx_oks 171 x171_0 := ⟨Or.inr ⟨_, (sx_dd bb_171 dX8_trim_0), rfl, rfl⟩, ox171_1⟩
theorem m171 : sx_mok 171 x171_0 := ⟨ox171_0, by decide +kernel⟩
theorem bb_172 : sx_by 172 = cX8_isLetter := rfl
theorem oo_172 : (sx_nm 172).cls = "StrawGarrisonModel" := rfl
theorem mm_172 : sx_ml 172 = 2 := rfl
theorem rr_172 : sx_rt 172 = (some .boolean) := rfl
def x172_32 : List sx_E := (.ireturn, 32, 33, [1], .null) :: []
theorem ox172_32 : sx_oks 172 x172_32 := ⟨sx_q_iret1 (sx_dd bb_172 dX8_isLetter_32) rr_172, trivial⟩
def x172_31 : List sx_E := (.nop, 31, 32, [], .int (nI 0)) :: x172_32
theorem ox172_31 : sx_oks 172 x172_31 := ⟨sx_k_iconst (sx_dd bb_172 dX8_isLetter_31) (by decide +kernel), ox172_32⟩
def x172_28 : List sx_E := (.goto (4), 28, 31, [32], .null) :: x172_31
theorem ox172_28 : sx_oks 172 x172_28 := ⟨⟨(sx_dd bb_172 dX8_isLetter_28), sx_t1 (by decide +kernel)⟩, ox172_31⟩
def x172_27 : List sx_E := (.nop, 27, 28, [], .int (nI 1)) :: x172_28
theorem ox172_27 : sx_oks 172 x172_27 := ⟨sx_k_iconst (sx_dd bb_172 dX8_isLetter_27) (by decide +kernel), ox172_28⟩
def x172_24 : List sx_E := (.ifCond .eq (7), 24, 27, [31], .null) :: x172_27
theorem ox172_24 : sx_oks 172 x172_24 := ⟨⟨(sx_dd bb_172 dX8_isLetter_24), rfl, sx_t1 (by decide +kernel)⟩, ox172_27⟩
def x172_21 : List sx_E := (.invokestatic 65, 21, 24, [113, 3, 0, 0], .null) :: x172_24
theorem ox172_21 : sx_oks 172 x172_21 := ⟨sx_q_S (sx_dd bb_172 dX8_isLetter_21) oo_172 lk_StrawGarrisonModel_65_S ft_113_h, ox172_24⟩
def x172_18 : List sx_E := (.nop, 18, 21, [], .long (122)) :: x172_21
theorem ox172_18 : sx_oks 172 x172_18 := ⟨sx_k_ldc2 (sx_dd bb_172 dX8_isLetter_18) (sx_ow2 oo_172 kl_StrawGarrisonModel_213), ox172_21⟩
def x172_15 : List sx_E := (.nop, 15, 18, [], .long (97)) :: x172_18
theorem ox172_15 : sx_oks 172 x172_15 := ⟨sx_k_ldc2 (sx_dd bb_172 dX8_isLetter_15) (sx_ow2 oo_172 kl_StrawGarrisonModel_211), ox172_18⟩
def x172_14 : List sx_E := (.i2l, 14, 15, [], .null) :: x172_15
theorem ox172_14 : sx_oks 172 x172_14 := ⟨⟨(sx_dd bb_172 dX8_isLetter_14), rfl⟩, ox172_15⟩
def x172_13 : List sx_E := (.iaload, 13, 14, [], .null) :: x172_14
theorem ox172_13 : sx_oks 172 x172_13 := ⟨⟨(sx_dd bb_172 dX8_isLetter_13), rfl⟩, ox172_14⟩
def x172_12 : List sx_E := (.iload 1, 12, 13, [], .null) :: x172_13
theorem ox172_12 : sx_oks 172 x172_12 := ⟨Or.inr ⟨_, (sx_dd bb_172 dX8_isLetter_12), rfl, rfl⟩, ox172_13⟩
def x172_9 : List sx_E := (.getfield 46, 9, 12, [7, 13, 1], .null) :: x172_12
theorem ox172_9 : sx_oks 172 x172_9 := ⟨sx_q_get (w := (RX8, TX8, 31)) (sx_dd bb_172 dX8_isLetter_9) rfl rfl (Nat.le_of_ble_eq_true rfl) cu_7 (sx_ow3 oo_172 fl_StrawGarrisonModel_46) (by decide +kernel), ox172_12⟩
def x172_8 : List sx_E := (.aload 0, 8, 9, [], .null) :: x172_9
theorem ox172_8 : sx_oks 172 x172_8 := ⟨Or.inr ⟨_, (sx_dd bb_172 dX8_isLetter_8), rfl, rfl⟩, ox172_9⟩
def x172_5 : List sx_E := (.if_icmp .ge (26), 5, 8, [31], .null) :: x172_8
theorem ox172_5 : sx_oks 172 x172_5 := ⟨⟨(sx_dd bb_172 dX8_isLetter_5), rfl, sx_t1 (by decide +kernel)⟩, ox172_8⟩
def x172_2 : List sx_E := (.getfield 207, 2, 5, [7, 14, 0], .null) :: x172_5
theorem ox172_2 : sx_oks 172 x172_2 := ⟨sx_q_get (w := (RX8, TX8, 31)) (sx_dd bb_172 dX8_isLetter_2) rfl rfl (Nat.le_of_ble_eq_true rfl) cu_7 (sx_ow3 oo_172 fl_StrawGarrisonModel_207) (by decide +kernel), ox172_5⟩
def x172_1 : List sx_E := (.aload 0, 1, 2, [], .null) :: x172_2
theorem ox172_1 : sx_oks 172 x172_1 := ⟨Or.inr ⟨_, (sx_dd bb_172 dX8_isLetter_1), rfl, rfl⟩, ox172_2⟩
def x172_0 : List sx_E := (.iload 1, 0, 1, [], .null) :: x172_1
theorem ox172_0 : sx_oks 172 x172_0 := ⟨Or.inr ⟨_, (sx_dd bb_172 dX8_isLetter_0), rfl, rfl⟩, ox172_1⟩
theorem m172 : sx_mok 172 x172_0 := ⟨ox172_0, by decide +kernel⟩
theorem bb_173 : sx_by 173 = cX8_isDigit := rfl
theorem oo_173 : (sx_nm 173).cls = "StrawGarrisonModel" := rfl
theorem mm_173 : sx_ml 173 = 2 := rfl
theorem rr_173 : sx_rt 173 = (some .boolean) := rfl
def x173_32 : List sx_E := (.ireturn, 32, 33, [1], .null) :: []
theorem ox173_32 : sx_oks 173 x173_32 := ⟨sx_q_iret1 (sx_dd bb_173 dX8_isDigit_32) rr_173, trivial⟩
def x173_31 : List sx_E := (.nop, 31, 32, [], .int (nI 0)) :: x173_32
theorem ox173_31 : sx_oks 173 x173_31 := ⟨sx_k_iconst (sx_dd bb_173 dX8_isDigit_31) (by decide +kernel), ox173_32⟩
def x173_28 : List sx_E := (.goto (4), 28, 31, [32], .null) :: x173_31
theorem ox173_28 : sx_oks 173 x173_28 := ⟨⟨(sx_dd bb_173 dX8_isDigit_28), sx_t1 (by decide +kernel)⟩, ox173_31⟩
def x173_27 : List sx_E := (.nop, 27, 28, [], .int (nI 1)) :: x173_28
theorem ox173_27 : sx_oks 173 x173_27 := ⟨sx_k_iconst (sx_dd bb_173 dX8_isDigit_27) (by decide +kernel), ox173_28⟩
def x173_24 : List sx_E := (.ifCond .eq (7), 24, 27, [31], .null) :: x173_27
theorem ox173_24 : sx_oks 173 x173_24 := ⟨⟨(sx_dd bb_173 dX8_isDigit_24), rfl, sx_t1 (by decide +kernel)⟩, ox173_27⟩
def x173_21 : List sx_E := (.invokestatic 65, 21, 24, [113, 3, 0, 0], .null) :: x173_24
theorem ox173_21 : sx_oks 173 x173_21 := ⟨sx_q_S (sx_dd bb_173 dX8_isDigit_21) oo_173 lk_StrawGarrisonModel_65_S ft_113_h, ox173_24⟩
def x173_18 : List sx_E := (.nop, 18, 21, [], .long (57)) :: x173_21
theorem ox173_18 : sx_oks 173 x173_18 := ⟨sx_k_ldc2 (sx_dd bb_173 dX8_isDigit_18) (sx_ow2 oo_173 kl_StrawGarrisonModel_217), ox173_21⟩
def x173_15 : List sx_E := (.nop, 15, 18, [], .long (48)) :: x173_18
theorem ox173_15 : sx_oks 173 x173_15 := ⟨sx_k_ldc2 (sx_dd bb_173 dX8_isDigit_15) (sx_ow2 oo_173 kl_StrawGarrisonModel_215), ox173_18⟩
def x173_14 : List sx_E := (.i2l, 14, 15, [], .null) :: x173_15
theorem ox173_14 : sx_oks 173 x173_14 := ⟨⟨(sx_dd bb_173 dX8_isDigit_14), rfl⟩, ox173_15⟩
def x173_13 : List sx_E := (.iaload, 13, 14, [], .null) :: x173_14
theorem ox173_13 : sx_oks 173 x173_13 := ⟨⟨(sx_dd bb_173 dX8_isDigit_13), rfl⟩, ox173_14⟩
def x173_12 : List sx_E := (.iload 1, 12, 13, [], .null) :: x173_13
theorem ox173_12 : sx_oks 173 x173_12 := ⟨Or.inr ⟨_, (sx_dd bb_173 dX8_isDigit_12), rfl, rfl⟩, ox173_13⟩
def x173_9 : List sx_E := (.getfield 46, 9, 12, [7, 13, 1], .null) :: x173_12
theorem ox173_9 : sx_oks 173 x173_9 := ⟨sx_q_get (w := (RX8, TX8, 31)) (sx_dd bb_173 dX8_isDigit_9) rfl rfl (Nat.le_of_ble_eq_true rfl) cu_7 (sx_ow3 oo_173 fl_StrawGarrisonModel_46) (by decide +kernel), ox173_12⟩
def x173_8 : List sx_E := (.aload 0, 8, 9, [], .null) :: x173_9
theorem ox173_8 : sx_oks 173 x173_8 := ⟨Or.inr ⟨_, (sx_dd bb_173 dX8_isDigit_8), rfl, rfl⟩, ox173_9⟩
def x173_5 : List sx_E := (.if_icmp .ge (26), 5, 8, [31], .null) :: x173_8
theorem ox173_5 : sx_oks 173 x173_5 := ⟨⟨(sx_dd bb_173 dX8_isDigit_5), rfl, sx_t1 (by decide +kernel)⟩, ox173_8⟩
def x173_2 : List sx_E := (.getfield 207, 2, 5, [7, 14, 0], .null) :: x173_5
theorem ox173_2 : sx_oks 173 x173_2 := ⟨sx_q_get (w := (RX8, TX8, 31)) (sx_dd bb_173 dX8_isDigit_2) rfl rfl (Nat.le_of_ble_eq_true rfl) cu_7 (sx_ow3 oo_173 fl_StrawGarrisonModel_207) (by decide +kernel), ox173_5⟩
def x173_1 : List sx_E := (.aload 0, 1, 2, [], .null) :: x173_2
theorem ox173_1 : sx_oks 173 x173_1 := ⟨Or.inr ⟨_, (sx_dd bb_173 dX8_isDigit_1), rfl, rfl⟩, ox173_2⟩
def x173_0 : List sx_E := (.iload 1, 0, 1, [], .null) :: x173_1
theorem ox173_0 : sx_oks 173 x173_0 := ⟨Or.inr ⟨_, (sx_dd bb_173 dX8_isDigit_0), rfl, rfl⟩, ox173_1⟩
theorem m173 : sx_mok 173 x173_0 := ⟨ox173_0, by decide +kernel⟩
theorem bb_174 : sx_by 174 = cX8_nextToken := rfl
theorem oo_174 : (sx_nm 174).cls = "StrawGarrisonModel" := rfl
theorem mm_174 : sx_ml 174 = 3 := rfl
theorem rr_174 : sx_rt 174 = none := rfl
def x174_339 : List sx_E := (.return_, 339, 340, [], .null) :: []
theorem ox174_339 : sx_oks 174 x174_339 := ⟨⟨(sx_dd bb_174 dX8_nextToken_339), rr_174⟩, trivial⟩
def x174_336 : List sx_E := (.putfield 219, 336, 339, [7, 16, 0], .null) :: x174_339
theorem ox174_336 : sx_oks 174 x174_336 := ⟨sx_q_put (w := (RX8, TX8, 31)) (ty0 := tyX8) (sx_dd bb_174 dX8_nextToken_336) rfl (Nat.le_of_ble_eq_true rfl) cu_7 (sx_ow3 oo_174 fl_StrawGarrisonModel_219) (by decide +kernel) tyX8_ok nmX8 (Or.inl rfl) (fun _ => rfl) (fun h => absurd h (by decide)) (fun h => absurd h (by decide)), ox174_339⟩
def x174_335 : List sx_E := (.iadd, 335, 336, [], .null) :: x174_336
theorem ox174_335 : sx_oks 174 x174_335 := ⟨⟨(sx_dd bb_174 dX8_nextToken_335), rfl⟩, ox174_336⟩
def x174_334 : List sx_E := (.nop, 334, 335, [], .int (nI 1)) :: x174_335
theorem ox174_334 : sx_oks 174 x174_334 := ⟨sx_k_iconst (sx_dd bb_174 dX8_nextToken_334) (by decide +kernel), ox174_335⟩
def x174_331 : List sx_E := (.getfield 219, 331, 334, [7, 16, 0], .null) :: x174_334
theorem ox174_331 : sx_oks 174 x174_331 := ⟨sx_q_get (w := (RX8, TX8, 31)) (sx_dd bb_174 dX8_nextToken_331) rfl rfl (Nat.le_of_ble_eq_true rfl) cu_7 (sx_ow3 oo_174 fl_StrawGarrisonModel_219) (by decide +kernel), ox174_334⟩
def x174_330 : List sx_E := (.dup, 330, 331, [], .null) :: x174_331
theorem ox174_330 : sx_oks 174 x174_330 := ⟨⟨(sx_dd bb_174 dX8_nextToken_330), rfl⟩, ox174_331⟩
def x174_329 : List sx_E := (.aload 0, 329, 330, [], .null) :: x174_330
theorem ox174_329 : sx_oks 174 x174_329 := ⟨Or.inr ⟨_, (sx_dd bb_174 dX8_nextToken_329), rfl, rfl⟩, ox174_330⟩
def x174_326 : List sx_E := (.putfield 231, 326, 329, [7, 19, 0], .null) :: x174_329
theorem ox174_326 : sx_oks 174 x174_326 := ⟨sx_q_put (w := (RX8, TX8, 31)) (ty0 := tyX8) (sx_dd bb_174 dX8_nextToken_326) rfl (Nat.le_of_ble_eq_true rfl) cu_7 (sx_ow3 oo_174 fl_StrawGarrisonModel_231) (by decide +kernel) tyX8_ok nmX8 (Or.inl rfl) (fun _ => rfl) (fun h => absurd h (by decide)) (fun h => absurd h (by decide)), ox174_329⟩
def x174_325 : List sx_E := (.iaload, 325, 326, [], .null) :: x174_326
theorem ox174_325 : sx_oks 174 x174_325 := ⟨⟨(sx_dd bb_174 dX8_nextToken_325), rfl⟩, ox174_326⟩
def x174_322 : List sx_E := (.getfield 225, 322, 325, [7, 15, 0], .null) :: x174_325
theorem ox174_322 : sx_oks 174 x174_322 := ⟨sx_q_get (w := (RX8, TX8, 31)) (sx_dd bb_174 dX8_nextToken_322) rfl rfl (Nat.le_of_ble_eq_true rfl) cu_7 (sx_ow3 oo_174 fl_StrawGarrisonModel_225) (by decide +kernel), ox174_325⟩
def x174_321 : List sx_E := (.aload 0, 321, 322, [], .null) :: x174_322
theorem ox174_321 : sx_oks 174 x174_321 := ⟨Or.inr ⟨_, (sx_dd bb_174 dX8_nextToken_321), rfl, rfl⟩, ox174_322⟩
def x174_318 : List sx_E := (.getfield 46, 318, 321, [7, 13, 1], .null) :: x174_321
theorem ox174_318 : sx_oks 174 x174_318 := ⟨sx_q_get (w := (RX8, TX8, 31)) (sx_dd bb_174 dX8_nextToken_318) rfl rfl (Nat.le_of_ble_eq_true rfl) cu_7 (sx_ow3 oo_174 fl_StrawGarrisonModel_46) (by decide +kernel), ox174_321⟩
def x174_317 : List sx_E := (.aload 0, 317, 318, [], .null) :: x174_318
theorem ox174_317 : sx_oks 174 x174_317 := ⟨Or.inr ⟨_, (sx_dd bb_174 dX8_nextToken_317), rfl, rfl⟩, ox174_318⟩
def x174_316 : List sx_E := (.aload 0, 316, 317, [], .null) :: x174_317
theorem ox174_316 : sx_oks 174 x174_316 := ⟨Or.inr ⟨_, (sx_dd bb_174 dX8_nextToken_316), rfl, rfl⟩, ox174_317⟩
def x174_313 : List sx_E := (.putfield 222, 313, 316, [7, 17, 0], .null) :: x174_316
theorem ox174_313 : sx_oks 174 x174_313 := ⟨sx_q_put (w := (RX8, TX8, 31)) (ty0 := tyX8) (sx_dd bb_174 dX8_nextToken_313) rfl (Nat.le_of_ble_eq_true rfl) cu_7 (sx_ow3 oo_174 fl_StrawGarrisonModel_222) (by decide +kernel) tyX8_ok nmX8 (Or.inl rfl) (fun _ => rfl) (fun h => absurd h (by decide)) (fun h => absurd h (by decide)), ox174_316⟩
def x174_312 : List sx_E := (.nop, 312, 313, [], .int (nI 3)) :: x174_313
theorem ox174_312 : sx_oks 174 x174_312 := ⟨sx_k_iconst (sx_dd bb_174 dX8_nextToken_312) (by decide +kernel), ox174_313⟩
def x174_311 : List sx_E := (.aload 0, 311, 312, [], .null) :: x174_312
theorem ox174_311 : sx_oks 174 x174_311 := ⟨Or.inr ⟨_, (sx_dd bb_174 dX8_nextToken_311), rfl, rfl⟩, ox174_312⟩
def x174_308 : List sx_E := (.goto (31), 308, 311, [339], .null) :: x174_311
theorem ox174_308 : sx_oks 174 x174_308 := ⟨⟨(sx_dd bb_174 dX8_nextToken_308), sx_t1 (by decide +kernel)⟩, ox174_311⟩
def x174_305 : List sx_E := (.putfield 222, 305, 308, [7, 17, 0], .null) :: x174_308
theorem ox174_305 : sx_oks 174 x174_305 := ⟨sx_q_put (w := (RX8, TX8, 31)) (ty0 := tyX8) (sx_dd bb_174 dX8_nextToken_305) rfl (Nat.le_of_ble_eq_true rfl) cu_7 (sx_ow3 oo_174 fl_StrawGarrisonModel_222) (by decide +kernel) tyX8_ok nmX8 (Or.inl rfl) (fun _ => rfl) (fun h => absurd h (by decide)) (fun h => absurd h (by decide)), ox174_308⟩
def x174_304 : List sx_E := (.nop, 304, 305, [], .int (nI 2)) :: x174_305
theorem ox174_304 : sx_oks 174 x174_304 := ⟨sx_k_iconst (sx_dd bb_174 dX8_nextToken_304) (by decide +kernel), ox174_305⟩
def x174_301 : List sx_E := (.goto (4), 301, 304, [305], .null) :: x174_304
theorem ox174_301 : sx_oks 174 x174_301 := ⟨⟨(sx_dd bb_174 dX8_nextToken_301), sx_t1 (by decide +kernel)⟩, ox174_304⟩
def x174_300 : List sx_E := (.nop, 300, 301, [], .int (nI 4)) :: x174_301
theorem ox174_300 : sx_oks 174 x174_300 := ⟨sx_k_iconst (sx_dd bb_174 dX8_nextToken_300) (by decide +kernel), ox174_301⟩
def x174_297 : List sx_E := (.if_icmp .le (7), 297, 300, [304], .null) :: x174_300
theorem ox174_297 : sx_oks 174 x174_297 := ⟨⟨(sx_dd bb_174 dX8_nextToken_297), rfl, sx_t1 (by decide +kernel)⟩, ox174_300⟩
def x174_296 : List sx_E := (.nop, 296, 297, [], .int (nI 4)) :: x174_297
theorem ox174_296 : sx_oks 174 x174_296 := ⟨sx_k_iconst (sx_dd bb_174 dX8_nextToken_296) (by decide +kernel), ox174_297⟩
def x174_295 : List sx_E := (.isub, 295, 296, [], .null) :: x174_296
theorem ox174_295 : sx_oks 174 x174_295 := ⟨⟨(sx_dd bb_174 dX8_nextToken_295), rfl⟩, ox174_296⟩
def x174_292 : List sx_E := (.getfield 225, 292, 295, [7, 15, 0], .null) :: x174_295
theorem ox174_292 : sx_oks 174 x174_292 := ⟨sx_q_get (w := (RX8, TX8, 31)) (sx_dd bb_174 dX8_nextToken_292) rfl rfl (Nat.le_of_ble_eq_true rfl) cu_7 (sx_ow3 oo_174 fl_StrawGarrisonModel_225) (by decide +kernel), ox174_295⟩
def x174_291 : List sx_E := (.aload 0, 291, 292, [], .null) :: x174_292
theorem ox174_291 : sx_oks 174 x174_291 := ⟨Or.inr ⟨_, (sx_dd bb_174 dX8_nextToken_291), rfl, rfl⟩, ox174_292⟩
def x174_288 : List sx_E := (.getfield 219, 288, 291, [7, 16, 0], .null) :: x174_291
theorem ox174_288 : sx_oks 174 x174_288 := ⟨sx_q_get (w := (RX8, TX8, 31)) (sx_dd bb_174 dX8_nextToken_288) rfl rfl (Nat.le_of_ble_eq_true rfl) cu_7 (sx_ow3 oo_174 fl_StrawGarrisonModel_219) (by decide +kernel), ox174_291⟩
def x174_287 : List sx_E := (.aload 0, 287, 288, [], .null) :: x174_288
theorem ox174_287 : sx_oks 174 x174_287 := ⟨Or.inr ⟨_, (sx_dd bb_174 dX8_nextToken_287), rfl, rfl⟩, ox174_288⟩
def x174_284 : List sx_E := (.ifCond .ne (16), 284, 287, [300], .null) :: x174_287
theorem ox174_284 : sx_oks 174 x174_284 := ⟨⟨(sx_dd bb_174 dX8_nextToken_284), rfl, sx_t1 (by decide +kernel)⟩, ox174_287⟩
def x174_283 : List sx_E := (.iload 1, 283, 284, [], .null) :: x174_284
theorem ox174_283 : sx_oks 174 x174_283 := ⟨Or.inr ⟨_, (sx_dd bb_174 dX8_nextToken_283), rfl, rfl⟩, ox174_284⟩
def x174_282 : List sx_E := (.aload 0, 282, 283, [], .null) :: x174_283
theorem ox174_282 : sx_oks 174 x174_282 := ⟨Or.inr ⟨_, (sx_dd bb_174 dX8_nextToken_282), rfl, rfl⟩, ox174_283⟩
def x174_279 : List sx_E := (.goto (-65), 279, 282, [214], .null) :: x174_282
theorem ox174_279 : sx_oks 174 x174_279 := ⟨⟨(sx_dd bb_174 dX8_nextToken_279), sx_t1 (by decide +kernel)⟩, ox174_282⟩
def x174_276 : List sx_E := (.putfield 219, 276, 279, [7, 16, 0], .null) :: x174_279
theorem ox174_276 : sx_oks 174 x174_276 := ⟨sx_q_put (w := (RX8, TX8, 31)) (ty0 := tyX8) (sx_dd bb_174 dX8_nextToken_276) rfl (Nat.le_of_ble_eq_true rfl) cu_7 (sx_ow3 oo_174 fl_StrawGarrisonModel_219) (by decide +kernel) tyX8_ok nmX8 (Or.inl rfl) (fun _ => rfl) (fun h => absurd h (by decide)) (fun h => absurd h (by decide)), ox174_279⟩
def x174_275 : List sx_E := (.iadd, 275, 276, [], .null) :: x174_276
theorem ox174_275 : sx_oks 174 x174_275 := ⟨⟨(sx_dd bb_174 dX8_nextToken_275), rfl⟩, ox174_276⟩
def x174_274 : List sx_E := (.nop, 274, 275, [], .int (nI 1)) :: x174_275
theorem ox174_274 : sx_oks 174 x174_274 := ⟨sx_k_iconst (sx_dd bb_174 dX8_nextToken_274) (by decide +kernel), ox174_275⟩
def x174_271 : List sx_E := (.getfield 219, 271, 274, [7, 16, 0], .null) :: x174_274
theorem ox174_271 : sx_oks 174 x174_271 := ⟨sx_q_get (w := (RX8, TX8, 31)) (sx_dd bb_174 dX8_nextToken_271) rfl rfl (Nat.le_of_ble_eq_true rfl) cu_7 (sx_ow3 oo_174 fl_StrawGarrisonModel_219) (by decide +kernel), ox174_274⟩
def x174_270 : List sx_E := (.dup, 270, 271, [], .null) :: x174_271
theorem ox174_270 : sx_oks 174 x174_270 := ⟨⟨(sx_dd bb_174 dX8_nextToken_270), rfl⟩, ox174_271⟩
def x174_269 : List sx_E := (.aload 0, 269, 270, [], .null) :: x174_270
theorem ox174_269 : sx_oks 174 x174_269 := ⟨Or.inr ⟨_, (sx_dd bb_174 dX8_nextToken_269), rfl, rfl⟩, ox174_270⟩
def x174_266 : List sx_E := (.putfield 237, 266, 269, [7, 18, 0], .null) :: x174_269
theorem ox174_266 : sx_oks 174 x174_266 := ⟨sx_q_put (w := (RX8, TX8, 31)) (ty0 := tyX8) (sx_dd bb_174 dX8_nextToken_266) rfl (Nat.le_of_ble_eq_true rfl) cu_7 (sx_ow3 oo_174 fl_StrawGarrisonModel_237) (by decide +kernel) tyX8_ok nmX8 (Or.inl rfl) (fun _ => rfl) (fun h => absurd h (by decide)) (fun h => absurd h (by decide)), ox174_269⟩
def x174_263 : List sx_E := (.getfield 237, 263, 266, [7, 18, 0], .null) :: x174_266
theorem ox174_263 : sx_oks 174 x174_263 := ⟨sx_q_get (w := (RX8, TX8, 31)) (sx_dd bb_174 dX8_nextToken_263) rfl rfl (Nat.le_of_ble_eq_true rfl) cu_7 (sx_ow3 oo_174 fl_StrawGarrisonModel_237) (by decide +kernel), ox174_266⟩
def x174_262 : List sx_E := (.aload 0, 262, 263, [], .null) :: x174_263
theorem ox174_262 : sx_oks 174 x174_262 := ⟨Or.inr ⟨_, (sx_dd bb_174 dX8_nextToken_262), rfl, rfl⟩, ox174_263⟩
def x174_259 : List sx_E := (.goto (7), 259, 262, [266], .null) :: x174_262
theorem ox174_259 : sx_oks 174 x174_259 := ⟨⟨(sx_dd bb_174 dX8_nextToken_259), sx_t1 (by decide +kernel)⟩, ox174_262⟩
def x174_258 : List sx_E := (.isub, 258, 259, [], .null) :: x174_259
theorem ox174_258 : sx_oks 174 x174_258 := ⟨⟨(sx_dd bb_174 dX8_nextToken_258), rfl⟩, ox174_259⟩
def x174_256 : List sx_E := (.nop, 256, 258, [], .int (nI 48)) :: x174_258
theorem ox174_256 : sx_oks 174 x174_256 := ⟨sx_k_bipush (sx_dd bb_174 dX8_nextToken_256) (by decide +kernel), ox174_258⟩
def x174_255 : List sx_E := (.iadd, 255, 256, [], .null) :: x174_256
theorem ox174_255 : sx_oks 174 x174_255 := ⟨⟨(sx_dd bb_174 dX8_nextToken_255), rfl⟩, ox174_256⟩
def x174_254 : List sx_E := (.iaload, 254, 255, [], .null) :: x174_255
theorem ox174_254 : sx_oks 174 x174_254 := ⟨⟨(sx_dd bb_174 dX8_nextToken_254), rfl⟩, ox174_255⟩
def x174_251 : List sx_E := (.getfield 219, 251, 254, [7, 16, 0], .null) :: x174_254
theorem ox174_251 : sx_oks 174 x174_251 := ⟨sx_q_get (w := (RX8, TX8, 31)) (sx_dd bb_174 dX8_nextToken_251) rfl rfl (Nat.le_of_ble_eq_true rfl) cu_7 (sx_ow3 oo_174 fl_StrawGarrisonModel_219) (by decide +kernel), ox174_254⟩
def x174_250 : List sx_E := (.aload 0, 250, 251, [], .null) :: x174_251
theorem ox174_250 : sx_oks 174 x174_250 := ⟨Or.inr ⟨_, (sx_dd bb_174 dX8_nextToken_250), rfl, rfl⟩, ox174_251⟩
def x174_247 : List sx_E := (.getfield 46, 247, 250, [7, 13, 1], .null) :: x174_250
theorem ox174_247 : sx_oks 174 x174_247 := ⟨sx_q_get (w := (RX8, TX8, 31)) (sx_dd bb_174 dX8_nextToken_247) rfl rfl (Nat.le_of_ble_eq_true rfl) cu_7 (sx_ow3 oo_174 fl_StrawGarrisonModel_46) (by decide +kernel), ox174_250⟩
def x174_246 : List sx_E := (.aload 0, 246, 247, [], .null) :: x174_247
theorem ox174_246 : sx_oks 174 x174_246 := ⟨Or.inr ⟨_, (sx_dd bb_174 dX8_nextToken_246), rfl, rfl⟩, ox174_247⟩
def x174_245 : List sx_E := (.imul, 245, 246, [], .null) :: x174_246
theorem ox174_245 : sx_oks 174 x174_245 := ⟨⟨(sx_dd bb_174 dX8_nextToken_245), rfl⟩, ox174_246⟩
def x174_242 : List sx_E := (.getfield 237, 242, 245, [7, 18, 0], .null) :: x174_245
theorem ox174_242 : sx_oks 174 x174_242 := ⟨sx_q_get (w := (RX8, TX8, 31)) (sx_dd bb_174 dX8_nextToken_242) rfl rfl (Nat.le_of_ble_eq_true rfl) cu_7 (sx_ow3 oo_174 fl_StrawGarrisonModel_237) (by decide +kernel), ox174_245⟩
def x174_241 : List sx_E := (.aload 0, 241, 242, [], .null) :: x174_242
theorem ox174_241 : sx_oks 174 x174_241 := ⟨Or.inr ⟨_, (sx_dd bb_174 dX8_nextToken_241), rfl, rfl⟩, ox174_242⟩
def x174_239 : List sx_E := (.nop, 239, 241, [], .int (nI 10)) :: x174_241
theorem ox174_239 : sx_oks 174 x174_239 := ⟨sx_k_bipush (sx_dd bb_174 dX8_nextToken_239) (by decide +kernel), ox174_241⟩
def x174_236 : List sx_E := (.if_icmp .ge (26), 236, 239, [262], .null) :: x174_239
theorem ox174_236 : sx_oks 174 x174_236 := ⟨⟨(sx_dd bb_174 dX8_nextToken_236), rfl, sx_t1 (by decide +kernel)⟩, ox174_239⟩
def x174_235 : List sx_E := (.nop, 235, 236, [], .int (nI 4)) :: x174_236
theorem ox174_235 : sx_oks 174 x174_235 := ⟨sx_k_iconst (sx_dd bb_174 dX8_nextToken_235) (by decide +kernel), ox174_236⟩
def x174_234 : List sx_E := (.isub, 234, 235, [], .null) :: x174_235
theorem ox174_234 : sx_oks 174 x174_234 := ⟨⟨(sx_dd bb_174 dX8_nextToken_234), rfl⟩, ox174_235⟩
def x174_231 : List sx_E := (.getfield 225, 231, 234, [7, 15, 0], .null) :: x174_234
theorem ox174_231 : sx_oks 174 x174_231 := ⟨sx_q_get (w := (RX8, TX8, 31)) (sx_dd bb_174 dX8_nextToken_231) rfl rfl (Nat.le_of_ble_eq_true rfl) cu_7 (sx_ow3 oo_174 fl_StrawGarrisonModel_225) (by decide +kernel), ox174_234⟩
def x174_230 : List sx_E := (.aload 0, 230, 231, [], .null) :: x174_231
theorem ox174_230 : sx_oks 174 x174_230 := ⟨Or.inr ⟨_, (sx_dd bb_174 dX8_nextToken_230), rfl, rfl⟩, ox174_231⟩
def x174_227 : List sx_E := (.getfield 219, 227, 230, [7, 16, 0], .null) :: x174_230
theorem ox174_227 : sx_oks 174 x174_227 := ⟨sx_q_get (w := (RX8, TX8, 31)) (sx_dd bb_174 dX8_nextToken_227) rfl rfl (Nat.le_of_ble_eq_true rfl) cu_7 (sx_ow3 oo_174 fl_StrawGarrisonModel_219) (by decide +kernel), ox174_230⟩
def x174_226 : List sx_E := (.aload 0, 226, 227, [], .null) :: x174_227
theorem ox174_226 : sx_oks 174 x174_226 := ⟨Or.inr ⟨_, (sx_dd bb_174 dX8_nextToken_226), rfl, rfl⟩, ox174_227⟩
def x174_225 : List sx_E := (.aload 0, 225, 226, [], .null) :: x174_226
theorem ox174_225 : sx_oks 174 x174_225 := ⟨Or.inr ⟨_, (sx_dd bb_174 dX8_nextToken_225), rfl, rfl⟩, ox174_226⟩
def x174_222 : List sx_E := (.ifCond .eq (60), 222, 225, [282], .null) :: x174_225
theorem ox174_222 : sx_oks 174 x174_222 := ⟨⟨(sx_dd bb_174 dX8_nextToken_222), rfl, sx_t1 (by decide +kernel)⟩, ox174_225⟩
def x174_219 : List sx_E := (.invokevirtual 234, 219, 222, [173, 2, 0, 0, 7], .null) :: x174_222
theorem ox174_219 : sx_oks 174 x174_219 := ⟨sx_q_V (w := (RX8, TX8, 31)) (sx_dd bb_174 dX8_nextToken_219) oo_174 lk_StrawGarrisonModel_234_V ft_173_h (Nat.le_of_ble_eq_true rfl) rfl rfl, ox174_222⟩
def x174_216 : List sx_E := (.getfield 219, 216, 219, [7, 16, 0], .null) :: x174_219
theorem ox174_216 : sx_oks 174 x174_216 := ⟨sx_q_get (w := (RX8, TX8, 31)) (sx_dd bb_174 dX8_nextToken_216) rfl rfl (Nat.le_of_ble_eq_true rfl) cu_7 (sx_ow3 oo_174 fl_StrawGarrisonModel_219) (by decide +kernel), ox174_219⟩
def x174_215 : List sx_E := (.aload 0, 215, 216, [], .null) :: x174_216
theorem ox174_215 : sx_oks 174 x174_215 := ⟨Or.inr ⟨_, (sx_dd bb_174 dX8_nextToken_215), rfl, rfl⟩, ox174_216⟩
def x174_214 : List sx_E := (.aload 0, 214, 215, [], .null) :: x174_215
theorem ox174_214 : sx_oks 174 x174_214 := ⟨Or.inr ⟨_, (sx_dd bb_174 dX8_nextToken_214), rfl, rfl⟩, ox174_215⟩
def x174_214h : List sx_E := (.monitorenter, 214, 214, [0, 1], .null) :: x174_214
theorem ox174_214h : sx_oks 174 x174_214h := ⟨trivial, ox174_214⟩
def x174_211 : List sx_E := (.putfield 237, 211, 214, [7, 18, 0], .null) :: x174_214h
theorem ox174_211 : sx_oks 174 x174_211 := ⟨sx_q_put (w := (RX8, TX8, 31)) (ty0 := tyX8) (sx_dd bb_174 dX8_nextToken_211) rfl (Nat.le_of_ble_eq_true rfl) cu_7 (sx_ow3 oo_174 fl_StrawGarrisonModel_237) (by decide +kernel) tyX8_ok nmX8 (Or.inl rfl) (fun _ => rfl) (fun h => absurd h (by decide)) (fun h => absurd h (by decide)), ox174_214h⟩
def x174_210 : List sx_E := (.nop, 210, 211, [], .int (nI 0)) :: x174_211
theorem ox174_210 : sx_oks 174 x174_210 := ⟨sx_k_iconst (sx_dd bb_174 dX8_nextToken_210) (by decide +kernel), ox174_211⟩
def x174_209 : List sx_E := (.aload 0, 209, 210, [], .null) :: x174_210
theorem ox174_209 : sx_oks 174 x174_209 := ⟨Or.inr ⟨_, (sx_dd bb_174 dX8_nextToken_209), rfl, rfl⟩, ox174_210⟩
def x174_206 : List sx_E := (.ifCond .eq (105), 206, 209, [311], .null) :: x174_209
theorem ox174_206 : sx_oks 174 x174_206 := ⟨⟨(sx_dd bb_174 dX8_nextToken_206), rfl, sx_t1 (by decide +kernel)⟩, ox174_209⟩
def x174_203 : List sx_E := (.invokevirtual 234, 203, 206, [173, 2, 0, 0, 7], .null) :: x174_206
theorem ox174_203 : sx_oks 174 x174_203 := ⟨sx_q_V (w := (RX8, TX8, 31)) (sx_dd bb_174 dX8_nextToken_203) oo_174 lk_StrawGarrisonModel_234_V ft_173_h (Nat.le_of_ble_eq_true rfl) rfl rfl, ox174_206⟩
def x174_200 : List sx_E := (.getfield 225, 200, 203, [7, 15, 0], .null) :: x174_203
theorem ox174_200 : sx_oks 174 x174_200 := ⟨sx_q_get (w := (RX8, TX8, 31)) (sx_dd bb_174 dX8_nextToken_200) rfl rfl (Nat.le_of_ble_eq_true rfl) cu_7 (sx_ow3 oo_174 fl_StrawGarrisonModel_225) (by decide +kernel), ox174_203⟩
def x174_199 : List sx_E := (.aload 0, 199, 200, [], .null) :: x174_200
theorem ox174_199 : sx_oks 174 x174_199 := ⟨Or.inr ⟨_, (sx_dd bb_174 dX8_nextToken_199), rfl, rfl⟩, ox174_200⟩
def x174_198 : List sx_E := (.aload 0, 198, 199, [], .null) :: x174_199
theorem ox174_198 : sx_oks 174 x174_198 := ⟨Or.inr ⟨_, (sx_dd bb_174 dX8_nextToken_198), rfl, rfl⟩, ox174_199⟩
def x174_195 : List sx_E := (.goto (144), 195, 198, [339], .null) :: x174_198
theorem ox174_195 : sx_oks 174 x174_195 := ⟨⟨(sx_dd bb_174 dX8_nextToken_195), sx_t1 (by decide +kernel)⟩, ox174_198⟩
def x174_192 : List sx_E := (.putfield 231, 192, 195, [7, 19, 0], .null) :: x174_195
theorem ox174_192 : sx_oks 174 x174_192 := ⟨sx_q_put (w := (RX8, TX8, 31)) (ty0 := tyX8) (sx_dd bb_174 dX8_nextToken_192) rfl (Nat.le_of_ble_eq_true rfl) cu_7 (sx_ow3 oo_174 fl_StrawGarrisonModel_231) (by decide +kernel) tyX8_ok nmX8 (Or.inl rfl) (fun _ => rfl) (fun h => absurd h (by decide)) (fun h => absurd h (by decide)), ox174_195⟩
def x174_191 : List sx_E := (.nop, 191, 192, [], .int (nI 0)) :: x174_192
theorem ox174_191 : sx_oks 174 x174_191 := ⟨sx_k_iconst (sx_dd bb_174 dX8_nextToken_191) (by decide +kernel), ox174_192⟩
def x174_188 : List sx_E := (.goto (4), 188, 191, [192], .null) :: x174_191
theorem ox174_188 : sx_oks 174 x174_188 := ⟨⟨(sx_dd bb_174 dX8_nextToken_188), sx_t1 (by decide +kernel)⟩, ox174_191⟩
def x174_187 : List sx_E := (.iaload, 187, 188, [], .null) :: x174_188
theorem ox174_187 : sx_oks 174 x174_187 := ⟨⟨(sx_dd bb_174 dX8_nextToken_187), rfl⟩, ox174_188⟩
def x174_184 : List sx_E := (.getfield 225, 184, 187, [7, 15, 0], .null) :: x174_187
theorem ox174_184 : sx_oks 174 x174_184 := ⟨sx_q_get (w := (RX8, TX8, 31)) (sx_dd bb_174 dX8_nextToken_184) rfl rfl (Nat.le_of_ble_eq_true rfl) cu_7 (sx_ow3 oo_174 fl_StrawGarrisonModel_225) (by decide +kernel), ox174_187⟩
def x174_183 : List sx_E := (.aload 0, 183, 184, [], .null) :: x174_184
theorem ox174_183 : sx_oks 174 x174_183 := ⟨Or.inr ⟨_, (sx_dd bb_174 dX8_nextToken_183), rfl, rfl⟩, ox174_184⟩
def x174_180 : List sx_E := (.getfield 46, 180, 183, [7, 13, 1], .null) :: x174_183
theorem ox174_180 : sx_oks 174 x174_180 := ⟨sx_q_get (w := (RX8, TX8, 31)) (sx_dd bb_174 dX8_nextToken_180) rfl rfl (Nat.le_of_ble_eq_true rfl) cu_7 (sx_ow3 oo_174 fl_StrawGarrisonModel_46) (by decide +kernel), ox174_183⟩
def x174_179 : List sx_E := (.aload 0, 179, 180, [], .null) :: x174_180
theorem ox174_179 : sx_oks 174 x174_179 := ⟨Or.inr ⟨_, (sx_dd bb_174 dX8_nextToken_179), rfl, rfl⟩, ox174_180⟩
def x174_176 : List sx_E := (.if_icmp .ne (15), 176, 179, [191], .null) :: x174_179
theorem ox174_176 : sx_oks 174 x174_176 := ⟨⟨(sx_dd bb_174 dX8_nextToken_176), rfl, sx_t1 (by decide +kernel)⟩, ox174_179⟩
def x174_175 : List sx_E := (.nop, 175, 176, [], .int (nI 1)) :: x174_176
theorem ox174_175 : sx_oks 174 x174_175 := ⟨sx_k_iconst (sx_dd bb_174 dX8_nextToken_175) (by decide +kernel), ox174_176⟩
def x174_174 : List sx_E := (.isub, 174, 175, [], .null) :: x174_175
theorem ox174_174 : sx_oks 174 x174_174 := ⟨⟨(sx_dd bb_174 dX8_nextToken_174), rfl⟩, ox174_175⟩
def x174_171 : List sx_E := (.getfield 225, 171, 174, [7, 15, 0], .null) :: x174_174
theorem ox174_171 : sx_oks 174 x174_171 := ⟨sx_q_get (w := (RX8, TX8, 31)) (sx_dd bb_174 dX8_nextToken_171) rfl rfl (Nat.le_of_ble_eq_true rfl) cu_7 (sx_ow3 oo_174 fl_StrawGarrisonModel_225) (by decide +kernel), ox174_174⟩
def x174_170 : List sx_E := (.aload 0, 170, 171, [], .null) :: x174_171
theorem ox174_170 : sx_oks 174 x174_170 := ⟨Or.inr ⟨_, (sx_dd bb_174 dX8_nextToken_170), rfl, rfl⟩, ox174_171⟩
def x174_167 : List sx_E := (.getfield 219, 167, 170, [7, 16, 0], .null) :: x174_170
theorem ox174_167 : sx_oks 174 x174_167 := ⟨sx_q_get (w := (RX8, TX8, 31)) (sx_dd bb_174 dX8_nextToken_167) rfl rfl (Nat.le_of_ble_eq_true rfl) cu_7 (sx_ow3 oo_174 fl_StrawGarrisonModel_219) (by decide +kernel), ox174_170⟩
def x174_166 : List sx_E := (.aload 0, 166, 167, [], .null) :: x174_167
theorem ox174_166 : sx_oks 174 x174_166 := ⟨Or.inr ⟨_, (sx_dd bb_174 dX8_nextToken_166), rfl, rfl⟩, ox174_167⟩
def x174_165 : List sx_E := (.aload 0, 165, 166, [], .null) :: x174_166
theorem ox174_165 : sx_oks 174 x174_165 := ⟨Or.inr ⟨_, (sx_dd bb_174 dX8_nextToken_165), rfl, rfl⟩, ox174_166⟩
def x174_162 : List sx_E := (.putfield 222, 162, 165, [7, 17, 0], .null) :: x174_165
theorem ox174_162 : sx_oks 174 x174_162 := ⟨sx_q_put (w := (RX8, TX8, 31)) (ty0 := tyX8) (sx_dd bb_174 dX8_nextToken_162) rfl (Nat.le_of_ble_eq_true rfl) cu_7 (sx_ow3 oo_174 fl_StrawGarrisonModel_222) (by decide +kernel) tyX8_ok nmX8 (Or.inl rfl) (fun _ => rfl) (fun h => absurd h (by decide)) (fun h => absurd h (by decide)), ox174_165⟩
def x174_161 : List sx_E := (.nop, 161, 162, [], .int (nI 1)) :: x174_162
theorem ox174_161 : sx_oks 174 x174_161 := ⟨sx_k_iconst (sx_dd bb_174 dX8_nextToken_161) (by decide +kernel), ox174_162⟩
def x174_158 : List sx_E := (.goto (4), 158, 161, [162], .null) :: x174_161
theorem ox174_158 : sx_oks 174 x174_158 := ⟨⟨(sx_dd bb_174 dX8_nextToken_158), sx_t1 (by decide +kernel)⟩, ox174_161⟩
def x174_157 : List sx_E := (.nop, 157, 158, [], .int (nI 4)) :: x174_158
theorem ox174_157 : sx_oks 174 x174_157 := ⟨sx_k_iconst (sx_dd bb_174 dX8_nextToken_157) (by decide +kernel), ox174_158⟩
def x174_154 : List sx_E := (.ifCond .eq (7), 154, 157, [161], .null) :: x174_157
theorem ox174_154 : sx_oks 174 x174_154 := ⟨⟨(sx_dd bb_174 dX8_nextToken_154), rfl, sx_t1 (by decide +kernel)⟩, ox174_157⟩
def x174_153 : List sx_E := (.iload 1, 153, 154, [], .null) :: x174_154
theorem ox174_153 : sx_oks 174 x174_153 := ⟨Or.inr ⟨_, (sx_dd bb_174 dX8_nextToken_153), rfl, rfl⟩, ox174_154⟩
def x174_152 : List sx_E := (.aload 0, 152, 153, [], .null) :: x174_153
theorem ox174_152 : sx_oks 174 x174_152 := ⟨Or.inr ⟨_, (sx_dd bb_174 dX8_nextToken_152), rfl, rfl⟩, ox174_153⟩
def x174_149 : List sx_E := (.goto (-21), 149, 152, [128], .null) :: x174_152
theorem ox174_149 : sx_oks 174 x174_149 := ⟨⟨(sx_dd bb_174 dX8_nextToken_149), sx_t1 (by decide +kernel)⟩, ox174_152⟩
def x174_146 : List sx_E := (.putfield 219, 146, 149, [7, 16, 0], .null) :: x174_149
theorem ox174_146 : sx_oks 174 x174_146 := ⟨sx_q_put (w := (RX8, TX8, 31)) (ty0 := tyX8) (sx_dd bb_174 dX8_nextToken_146) rfl (Nat.le_of_ble_eq_true rfl) cu_7 (sx_ow3 oo_174 fl_StrawGarrisonModel_219) (by decide +kernel) tyX8_ok nmX8 (Or.inl rfl) (fun _ => rfl) (fun h => absurd h (by decide)) (fun h => absurd h (by decide)), ox174_149⟩
def x174_145 : List sx_E := (.iadd, 145, 146, [], .null) :: x174_146
theorem ox174_145 : sx_oks 174 x174_145 := ⟨⟨(sx_dd bb_174 dX8_nextToken_145), rfl⟩, ox174_146⟩
def x174_144 : List sx_E := (.nop, 144, 145, [], .int (nI 1)) :: x174_145
theorem ox174_144 : sx_oks 174 x174_144 := ⟨sx_k_iconst (sx_dd bb_174 dX8_nextToken_144) (by decide +kernel), ox174_145⟩
def x174_141 : List sx_E := (.getfield 219, 141, 144, [7, 16, 0], .null) :: x174_144
theorem ox174_141 : sx_oks 174 x174_141 := ⟨sx_q_get (w := (RX8, TX8, 31)) (sx_dd bb_174 dX8_nextToken_141) rfl rfl (Nat.le_of_ble_eq_true rfl) cu_7 (sx_ow3 oo_174 fl_StrawGarrisonModel_219) (by decide +kernel), ox174_144⟩
def x174_140 : List sx_E := (.dup, 140, 141, [], .null) :: x174_141
theorem ox174_140 : sx_oks 174 x174_140 := ⟨⟨(sx_dd bb_174 dX8_nextToken_140), rfl⟩, ox174_141⟩
def x174_139 : List sx_E := (.aload 0, 139, 140, [], .null) :: x174_140
theorem ox174_139 : sx_oks 174 x174_139 := ⟨Or.inr ⟨_, (sx_dd bb_174 dX8_nextToken_139), rfl, rfl⟩, ox174_140⟩
def x174_136 : List sx_E := (.ifCond .eq (16), 136, 139, [152], .null) :: x174_139
theorem ox174_136 : sx_oks 174 x174_136 := ⟨⟨(sx_dd bb_174 dX8_nextToken_136), rfl, sx_t1 (by decide +kernel)⟩, ox174_139⟩
def x174_133 : List sx_E := (.invokevirtual 228, 133, 136, [172, 2, 0, 0, 7], .null) :: x174_136
theorem ox174_133 : sx_oks 174 x174_133 := ⟨sx_q_V (w := (RX8, TX8, 31)) (sx_dd bb_174 dX8_nextToken_133) oo_174 lk_StrawGarrisonModel_228_V ft_172_h (Nat.le_of_ble_eq_true rfl) rfl rfl, ox174_136⟩
def x174_130 : List sx_E := (.getfield 219, 130, 133, [7, 16, 0], .null) :: x174_133
theorem ox174_130 : sx_oks 174 x174_130 := ⟨sx_q_get (w := (RX8, TX8, 31)) (sx_dd bb_174 dX8_nextToken_130) rfl rfl (Nat.le_of_ble_eq_true rfl) cu_7 (sx_ow3 oo_174 fl_StrawGarrisonModel_219) (by decide +kernel), ox174_133⟩
def x174_129 : List sx_E := (.aload 0, 129, 130, [], .null) :: x174_130
theorem ox174_129 : sx_oks 174 x174_129 := ⟨Or.inr ⟨_, (sx_dd bb_174 dX8_nextToken_129), rfl, rfl⟩, ox174_130⟩
def x174_128 : List sx_E := (.aload 0, 128, 129, [], .null) :: x174_129
theorem ox174_128 : sx_oks 174 x174_128 := ⟨Or.inr ⟨_, (sx_dd bb_174 dX8_nextToken_128), rfl, rfl⟩, ox174_129⟩
def x174_128h : List sx_E := (.monitorenter, 128, 128, [0, 1], .null) :: x174_128
theorem ox174_128h : sx_oks 174 x174_128h := ⟨trivial, ox174_128⟩
def x174_125 : List sx_E := (.ifCond .eq (73), 125, 128, [198], .null) :: x174_128h
theorem ox174_125 : sx_oks 174 x174_125 := ⟨⟨(sx_dd bb_174 dX8_nextToken_125), rfl, sx_t1 (by decide +kernel)⟩, ox174_128h⟩
def x174_122 : List sx_E := (.invokevirtual 228, 122, 125, [172, 2, 0, 0, 7], .null) :: x174_125
theorem ox174_122 : sx_oks 174 x174_122 := ⟨sx_q_V (w := (RX8, TX8, 31)) (sx_dd bb_174 dX8_nextToken_122) oo_174 lk_StrawGarrisonModel_228_V ft_172_h (Nat.le_of_ble_eq_true rfl) rfl rfl, ox174_125⟩
def x174_119 : List sx_E := (.getfield 225, 119, 122, [7, 15, 0], .null) :: x174_122
theorem ox174_119 : sx_oks 174 x174_119 := ⟨sx_q_get (w := (RX8, TX8, 31)) (sx_dd bb_174 dX8_nextToken_119) rfl rfl (Nat.le_of_ble_eq_true rfl) cu_7 (sx_ow3 oo_174 fl_StrawGarrisonModel_225) (by decide +kernel), ox174_122⟩
def x174_118 : List sx_E := (.aload 0, 118, 119, [], .null) :: x174_119
theorem ox174_118 : sx_oks 174 x174_118 := ⟨Or.inr ⟨_, (sx_dd bb_174 dX8_nextToken_118), rfl, rfl⟩, ox174_119⟩
def x174_117 : List sx_E := (.aload 0, 117, 118, [], .null) :: x174_118
theorem ox174_117 : sx_oks 174 x174_117 := ⟨Or.inr ⟨_, (sx_dd bb_174 dX8_nextToken_117), rfl, rfl⟩, ox174_118⟩
def x174_114 : List sx_E := (.goto (225), 114, 117, [339], .null) :: x174_117
theorem ox174_114 : sx_oks 174 x174_114 := ⟨⟨(sx_dd bb_174 dX8_nextToken_114), sx_t1 (by decide +kernel)⟩, ox174_117⟩
def x174_111 : List sx_E := (.putfield 222, 111, 114, [7, 17, 0], .null) :: x174_114
theorem ox174_111 : sx_oks 174 x174_111 := ⟨sx_q_put (w := (RX8, TX8, 31)) (ty0 := tyX8) (sx_dd bb_174 dX8_nextToken_111) rfl (Nat.le_of_ble_eq_true rfl) cu_7 (sx_ow3 oo_174 fl_StrawGarrisonModel_222) (by decide +kernel) tyX8_ok nmX8 (Or.inl rfl) (fun _ => rfl) (fun h => absurd h (by decide)) (fun h => absurd h (by decide)), ox174_114⟩
def x174_110 : List sx_E := (.nop, 110, 111, [], .int (nI 0)) :: x174_111
theorem ox174_110 : sx_oks 174 x174_110 := ⟨sx_k_iconst (sx_dd bb_174 dX8_nextToken_110) (by decide +kernel), ox174_111⟩
def x174_109 : List sx_E := (.aload 0, 109, 110, [], .null) :: x174_110
theorem ox174_109 : sx_oks 174 x174_109 := ⟨Or.inr ⟨_, (sx_dd bb_174 dX8_nextToken_109), rfl, rfl⟩, ox174_110⟩
def x174_106 : List sx_E := (.if_icmp .ne (11), 106, 109, [117], .null) :: x174_109
theorem ox174_106 : sx_oks 174 x174_106 := ⟨⟨(sx_dd bb_174 dX8_nextToken_106), rfl, sx_t1 (by decide +kernel)⟩, ox174_109⟩
def x174_103 : List sx_E := (.getfield 207, 103, 106, [7, 14, 0], .null) :: x174_106
theorem ox174_103 : sx_oks 174 x174_103 := ⟨sx_q_get (w := (RX8, TX8, 31)) (sx_dd bb_174 dX8_nextToken_103) rfl rfl (Nat.le_of_ble_eq_true rfl) cu_7 (sx_ow3 oo_174 fl_StrawGarrisonModel_207) (by decide +kernel), ox174_106⟩
def x174_102 : List sx_E := (.aload 0, 102, 103, [], .null) :: x174_103
theorem ox174_102 : sx_oks 174 x174_102 := ⟨Or.inr ⟨_, (sx_dd bb_174 dX8_nextToken_102), rfl, rfl⟩, ox174_103⟩
def x174_99 : List sx_E := (.getfield 225, 99, 102, [7, 15, 0], .null) :: x174_102
theorem ox174_99 : sx_oks 174 x174_99 := ⟨sx_q_get (w := (RX8, TX8, 31)) (sx_dd bb_174 dX8_nextToken_99) rfl rfl (Nat.le_of_ble_eq_true rfl) cu_7 (sx_ow3 oo_174 fl_StrawGarrisonModel_225) (by decide +kernel), ox174_102⟩
def x174_98 : List sx_E := (.aload 0, 98, 99, [], .null) :: x174_99
theorem ox174_98 : sx_oks 174 x174_98 := ⟨Or.inr ⟨_, (sx_dd bb_174 dX8_nextToken_98), rfl, rfl⟩, ox174_99⟩
def x174_95 : List sx_E := (.putfield 225, 95, 98, [7, 15, 0], .null) :: x174_98
theorem ox174_95 : sx_oks 174 x174_95 := ⟨sx_q_put (w := (RX8, TX8, 31)) (ty0 := tyX8) (sx_dd bb_174 dX8_nextToken_95) rfl (Nat.le_of_ble_eq_true rfl) cu_7 (sx_ow3 oo_174 fl_StrawGarrisonModel_225) (by decide +kernel) tyX8_ok nmX8 (Or.inl rfl) (fun _ => rfl) (fun h => absurd h (by decide)) (fun h => absurd h (by decide)), ox174_98⟩
def x174_92 : List sx_E := (.getfield 219, 92, 95, [7, 16, 0], .null) :: x174_95
theorem ox174_92 : sx_oks 174 x174_92 := ⟨sx_q_get (w := (RX8, TX8, 31)) (sx_dd bb_174 dX8_nextToken_92) rfl rfl (Nat.le_of_ble_eq_true rfl) cu_7 (sx_ow3 oo_174 fl_StrawGarrisonModel_219) (by decide +kernel), ox174_95⟩
def x174_91 : List sx_E := (.aload 0, 91, 92, [], .null) :: x174_92
theorem ox174_91 : sx_oks 174 x174_91 := ⟨Or.inr ⟨_, (sx_dd bb_174 dX8_nextToken_91), rfl, rfl⟩, ox174_92⟩
def x174_90 : List sx_E := (.aload 0, 90, 91, [], .null) :: x174_91
theorem ox174_90 : sx_oks 174 x174_90 := ⟨Or.inr ⟨_, (sx_dd bb_174 dX8_nextToken_90), rfl, rfl⟩, ox174_91⟩
def x174_90h : List sx_E := (.monitorenter, 90, 90, [0, 1], .null) :: x174_90
theorem ox174_90h : sx_oks 174 x174_90h := ⟨trivial, ox174_90⟩
def x174_89 : List sx_E := (.istore 1, 89, 90, [], .null) :: x174_90h
theorem ox174_89 : sx_oks 174 x174_89 := ⟨⟨sx_lt mm_174 (Nat.le_of_ble_eq_true rfl), Or.inr ⟨_, (sx_dd bb_174 dX8_nextToken_89), rfl, rfl⟩⟩, ox174_90h⟩
def x174_88 : List sx_E := (.nop, 88, 89, [], .int (nI 0)) :: x174_89
theorem ox174_88 : sx_oks 174 x174_88 := ⟨sx_k_iconst (sx_dd bb_174 dX8_nextToken_88) (by decide +kernel), ox174_89⟩
def x174_85 : List sx_E := (.goto (4), 85, 88, [89], .null) :: x174_88
theorem ox174_85 : sx_oks 174 x174_85 := ⟨⟨(sx_dd bb_174 dX8_nextToken_85), sx_t1 (by decide +kernel)⟩, ox174_88⟩
def x174_84 : List sx_E := (.nop, 84, 85, [], .int (nI 1)) :: x174_85
theorem ox174_84 : sx_oks 174 x174_84 := ⟨sx_k_iconst (sx_dd bb_174 dX8_nextToken_84) (by decide +kernel), ox174_85⟩
def x174_81 : List sx_E := (.if_icmp .ne (7), 81, 84, [88], .null) :: x174_84
theorem ox174_81 : sx_oks 174 x174_81 := ⟨⟨(sx_dd bb_174 dX8_nextToken_81), rfl, sx_t1 (by decide +kernel)⟩, ox174_84⟩
def x174_78 : List sx_E := (.getfield 219, 78, 81, [7, 16, 0], .null) :: x174_81
theorem ox174_78 : sx_oks 174 x174_78 := ⟨sx_q_get (w := (RX8, TX8, 31)) (sx_dd bb_174 dX8_nextToken_78) rfl rfl (Nat.le_of_ble_eq_true rfl) cu_7 (sx_ow3 oo_174 fl_StrawGarrisonModel_219) (by decide +kernel), ox174_81⟩
def x174_77 : List sx_E := (.aload 0, 77, 78, [], .null) :: x174_78
theorem ox174_77 : sx_oks 174 x174_77 := ⟨Or.inr ⟨_, (sx_dd bb_174 dX8_nextToken_77), rfl, rfl⟩, ox174_78⟩
def x174_76 : List sx_E := (.iload 2, 76, 77, [], .null) :: x174_77
theorem ox174_76 : sx_oks 174 x174_76 := ⟨Or.inr ⟨_, (sx_dd bb_174 dX8_nextToken_76), rfl, rfl⟩, ox174_77⟩
def x174_73 : List sx_E := (.ifCond .eq (15), 73, 76, [88], .null) :: x174_76
theorem ox174_73 : sx_oks 174 x174_73 := ⟨⟨(sx_dd bb_174 dX8_nextToken_73), rfl, sx_t1 (by decide +kernel)⟩, ox174_76⟩
def x174_72 : List sx_E := (.iload 1, 72, 73, [], .null) :: x174_73
theorem ox174_72 : sx_oks 174 x174_72 := ⟨Or.inr ⟨_, (sx_dd bb_174 dX8_nextToken_72), rfl, rfl⟩, ox174_73⟩
def x174_69 : List sx_E := (.goto (-35), 69, 72, [34], .null) :: x174_72
theorem ox174_69 : sx_oks 174 x174_69 := ⟨⟨(sx_dd bb_174 dX8_nextToken_69), sx_t1 (by decide +kernel)⟩, ox174_72⟩
def x174_66 : List sx_E := (.putfield 219, 66, 69, [7, 16, 0], .null) :: x174_69
theorem ox174_66 : sx_oks 174 x174_66 := ⟨sx_q_put (w := (RX8, TX8, 31)) (ty0 := tyX8) (sx_dd bb_174 dX8_nextToken_66) rfl (Nat.le_of_ble_eq_true rfl) cu_7 (sx_ow3 oo_174 fl_StrawGarrisonModel_219) (by decide +kernel) tyX8_ok nmX8 (Or.inl rfl) (fun _ => rfl) (fun h => absurd h (by decide)) (fun h => absurd h (by decide)), ox174_69⟩
def x174_65 : List sx_E := (.iadd, 65, 66, [], .null) :: x174_66
theorem ox174_65 : sx_oks 174 x174_65 := ⟨⟨(sx_dd bb_174 dX8_nextToken_65), rfl⟩, ox174_66⟩
def x174_64 : List sx_E := (.nop, 64, 65, [], .int (nI 1)) :: x174_65
theorem ox174_64 : sx_oks 174 x174_64 := ⟨sx_k_iconst (sx_dd bb_174 dX8_nextToken_64) (by decide +kernel), ox174_65⟩
def x174_61 : List sx_E := (.getfield 219, 61, 64, [7, 16, 0], .null) :: x174_64
theorem ox174_61 : sx_oks 174 x174_61 := ⟨sx_q_get (w := (RX8, TX8, 31)) (sx_dd bb_174 dX8_nextToken_61) rfl rfl (Nat.le_of_ble_eq_true rfl) cu_7 (sx_ow3 oo_174 fl_StrawGarrisonModel_219) (by decide +kernel), ox174_64⟩
def x174_60 : List sx_E := (.dup, 60, 61, [], .null) :: x174_61
theorem ox174_60 : sx_oks 174 x174_60 := ⟨⟨(sx_dd bb_174 dX8_nextToken_60), rfl⟩, ox174_61⟩
def x174_59 : List sx_E := (.aload 0, 59, 60, [], .null) :: x174_60
theorem ox174_59 : sx_oks 174 x174_59 := ⟨Or.inr ⟨_, (sx_dd bb_174 dX8_nextToken_59), rfl, rfl⟩, ox174_60⟩
def x174_56 : List sx_E := (.if_icmp .ne (16), 56, 59, [72], .null) :: x174_59
theorem ox174_56 : sx_oks 174 x174_56 := ⟨⟨(sx_dd bb_174 dX8_nextToken_56), rfl, sx_t1 (by decide +kernel)⟩, ox174_59⟩
def x174_54 : List sx_E := (.nop, 54, 56, [], .int (nI 32)) :: x174_56
theorem ox174_54 : sx_oks 174 x174_54 := ⟨sx_k_bipush (sx_dd bb_174 dX8_nextToken_54) (by decide +kernel), ox174_56⟩
def x174_53 : List sx_E := (.iaload, 53, 54, [], .null) :: x174_54
theorem ox174_53 : sx_oks 174 x174_53 := ⟨⟨(sx_dd bb_174 dX8_nextToken_53), rfl⟩, ox174_54⟩
def x174_50 : List sx_E := (.getfield 219, 50, 53, [7, 16, 0], .null) :: x174_53
theorem ox174_50 : sx_oks 174 x174_50 := ⟨sx_q_get (w := (RX8, TX8, 31)) (sx_dd bb_174 dX8_nextToken_50) rfl rfl (Nat.le_of_ble_eq_true rfl) cu_7 (sx_ow3 oo_174 fl_StrawGarrisonModel_219) (by decide +kernel), ox174_53⟩
def x174_49 : List sx_E := (.aload 0, 49, 50, [], .null) :: x174_50
theorem ox174_49 : sx_oks 174 x174_49 := ⟨Or.inr ⟨_, (sx_dd bb_174 dX8_nextToken_49), rfl, rfl⟩, ox174_50⟩
def x174_46 : List sx_E := (.getfield 46, 46, 49, [7, 13, 1], .null) :: x174_49
theorem ox174_46 : sx_oks 174 x174_46 := ⟨sx_q_get (w := (RX8, TX8, 31)) (sx_dd bb_174 dX8_nextToken_46) rfl rfl (Nat.le_of_ble_eq_true rfl) cu_7 (sx_ow3 oo_174 fl_StrawGarrisonModel_46) (by decide +kernel), ox174_49⟩
def x174_45 : List sx_E := (.aload 0, 45, 46, [], .null) :: x174_46
theorem ox174_45 : sx_oks 174 x174_45 := ⟨Or.inr ⟨_, (sx_dd bb_174 dX8_nextToken_45), rfl, rfl⟩, ox174_46⟩
def x174_42 : List sx_E := (.if_icmp .ge (30), 42, 45, [72], .null) :: x174_45
theorem ox174_42 : sx_oks 174 x174_42 := ⟨⟨(sx_dd bb_174 dX8_nextToken_42), rfl, sx_t1 (by decide +kernel)⟩, ox174_45⟩
def x174_39 : List sx_E := (.getfield 207, 39, 42, [7, 14, 0], .null) :: x174_42
theorem ox174_39 : sx_oks 174 x174_39 := ⟨sx_q_get (w := (RX8, TX8, 31)) (sx_dd bb_174 dX8_nextToken_39) rfl rfl (Nat.le_of_ble_eq_true rfl) cu_7 (sx_ow3 oo_174 fl_StrawGarrisonModel_207) (by decide +kernel), ox174_42⟩
def x174_38 : List sx_E := (.aload 0, 38, 39, [], .null) :: x174_39
theorem ox174_38 : sx_oks 174 x174_38 := ⟨Or.inr ⟨_, (sx_dd bb_174 dX8_nextToken_38), rfl, rfl⟩, ox174_39⟩
def x174_35 : List sx_E := (.getfield 219, 35, 38, [7, 16, 0], .null) :: x174_38
theorem ox174_35 : sx_oks 174 x174_35 := ⟨sx_q_get (w := (RX8, TX8, 31)) (sx_dd bb_174 dX8_nextToken_35) rfl rfl (Nat.le_of_ble_eq_true rfl) cu_7 (sx_ow3 oo_174 fl_StrawGarrisonModel_219) (by decide +kernel), ox174_38⟩
def x174_34 : List sx_E := (.aload 0, 34, 35, [], .null) :: x174_35
theorem ox174_34 : sx_oks 174 x174_34 := ⟨Or.inr ⟨_, (sx_dd bb_174 dX8_nextToken_34), rfl, rfl⟩, ox174_35⟩
def x174_34h : List sx_E := (.monitorenter, 34, 34, [0, 1, 2], .null) :: x174_34
theorem ox174_34h : sx_oks 174 x174_34h := ⟨trivial, ox174_34⟩
def x174_33 : List sx_E := (.istore 2, 33, 34, [], .null) :: x174_34h
theorem ox174_33 : sx_oks 174 x174_33 := ⟨⟨sx_lt mm_174 (Nat.le_of_ble_eq_true rfl), Or.inr ⟨_, (sx_dd bb_174 dX8_nextToken_33), rfl, rfl⟩⟩, ox174_34h⟩
def x174_30 : List sx_E := (.getfield 219, 30, 33, [7, 16, 0], .null) :: x174_33
theorem ox174_30 : sx_oks 174 x174_30 := ⟨sx_q_get (w := (RX8, TX8, 31)) (sx_dd bb_174 dX8_nextToken_30) rfl rfl (Nat.le_of_ble_eq_true rfl) cu_7 (sx_ow3 oo_174 fl_StrawGarrisonModel_219) (by decide +kernel), ox174_33⟩
def x174_29 : List sx_E := (.aload 0, 29, 30, [], .null) :: x174_30
theorem ox174_29 : sx_oks 174 x174_29 := ⟨Or.inr ⟨_, (sx_dd bb_174 dX8_nextToken_29), rfl, rfl⟩, ox174_30⟩
def x174_28 : List sx_E := (.istore 1, 28, 29, [], .null) :: x174_29
theorem ox174_28 : sx_oks 174 x174_28 := ⟨⟨sx_lt mm_174 (Nat.le_of_ble_eq_true rfl), Or.inr ⟨_, (sx_dd bb_174 dX8_nextToken_28), rfl, rfl⟩⟩, ox174_29⟩
def x174_27 : List sx_E := (.nop, 27, 28, [], .int (nI 0)) :: x174_28
theorem ox174_27 : sx_oks 174 x174_27 := ⟨sx_k_iconst (sx_dd bb_174 dX8_nextToken_27) (by decide +kernel), ox174_28⟩
def x174_24 : List sx_E := (.goto (4), 24, 27, [28], .null) :: x174_27
theorem ox174_24 : sx_oks 174 x174_24 := ⟨⟨(sx_dd bb_174 dX8_nextToken_24), sx_t1 (by decide +kernel)⟩, ox174_27⟩
def x174_23 : List sx_E := (.nop, 23, 24, [], .int (nI 1)) :: x174_24
theorem ox174_23 : sx_oks 174 x174_23 := ⟨sx_k_iconst (sx_dd bb_174 dX8_nextToken_23) (by decide +kernel), ox174_24⟩
def x174_20 : List sx_E := (.if_icmp .ne (7), 20, 23, [27], .null) :: x174_23
theorem ox174_20 : sx_oks 174 x174_20 := ⟨⟨(sx_dd bb_174 dX8_nextToken_20), rfl, sx_t1 (by decide +kernel)⟩, ox174_23⟩
def x174_19 : List sx_E := (.nop, 19, 20, [], .int (nI 2)) :: x174_20
theorem ox174_19 : sx_oks 174 x174_19 := ⟨sx_k_iconst (sx_dd bb_174 dX8_nextToken_19) (by decide +kernel), ox174_20⟩
def x174_16 : List sx_E := (.getfield 222, 16, 19, [7, 17, 0], .null) :: x174_19
theorem ox174_16 : sx_oks 174 x174_16 := ⟨sx_q_get (w := (RX8, TX8, 31)) (sx_dd bb_174 dX8_nextToken_16) rfl rfl (Nat.le_of_ble_eq_true rfl) cu_7 (sx_ow3 oo_174 fl_StrawGarrisonModel_222) (by decide +kernel), ox174_19⟩
def x174_15 : List sx_E := (.aload 0, 15, 16, [], .null) :: x174_16
theorem ox174_15 : sx_oks 174 x174_15 := ⟨Or.inr ⟨_, (sx_dd bb_174 dX8_nextToken_15), rfl, rfl⟩, ox174_16⟩
def x174_12 : List sx_E := (.if_icmp .eq (11), 12, 15, [23], .null) :: x174_15
theorem ox174_12 : sx_oks 174 x174_12 := ⟨⟨(sx_dd bb_174 dX8_nextToken_12), rfl, sx_t1 (by decide +kernel)⟩, ox174_15⟩
def x174_11 : List sx_E := (.nop, 11, 12, [], .int (nI 1)) :: x174_12
theorem ox174_11 : sx_oks 174 x174_11 := ⟨sx_k_iconst (sx_dd bb_174 dX8_nextToken_11) (by decide +kernel), ox174_12⟩
def x174_8 : List sx_E := (.getfield 222, 8, 11, [7, 17, 0], .null) :: x174_11
theorem ox174_8 : sx_oks 174 x174_8 := ⟨sx_q_get (w := (RX8, TX8, 31)) (sx_dd bb_174 dX8_nextToken_8) rfl rfl (Nat.le_of_ble_eq_true rfl) cu_7 (sx_ow3 oo_174 fl_StrawGarrisonModel_222) (by decide +kernel), ox174_11⟩
def x174_7 : List sx_E := (.aload 0, 7, 8, [], .null) :: x174_8
theorem ox174_7 : sx_oks 174 x174_7 := ⟨Or.inr ⟨_, (sx_dd bb_174 dX8_nextToken_7), rfl, rfl⟩, ox174_8⟩
def x174_4 : List sx_E := (.ifCond .le (23), 4, 7, [27], .null) :: x174_7
theorem ox174_4 : sx_oks 174 x174_4 := ⟨⟨(sx_dd bb_174 dX8_nextToken_4), rfl, sx_t1 (by decide +kernel)⟩, ox174_7⟩
def x174_1 : List sx_E := (.getfield 219, 1, 4, [7, 16, 0], .null) :: x174_4
theorem ox174_1 : sx_oks 174 x174_1 := ⟨sx_q_get (w := (RX8, TX8, 31)) (sx_dd bb_174 dX8_nextToken_1) rfl rfl (Nat.le_of_ble_eq_true rfl) cu_7 (sx_ow3 oo_174 fl_StrawGarrisonModel_219) (by decide +kernel), ox174_4⟩
def x174_0 : List sx_E := (.aload 0, 0, 1, [], .null) :: x174_1
theorem ox174_0 : sx_oks 174 x174_0 := ⟨Or.inr ⟨_, (sx_dd bb_174 dX8_nextToken_0), rfl, rfl⟩, ox174_1⟩
theorem m174 : sx_mok 174 x174_0 := ⟨ox174_0, by decide +kernel⟩
