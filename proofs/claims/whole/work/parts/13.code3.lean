theorem bb_98 : sx_by 98 = cX7_keep := rfl
theorem oo_98 : (sx_nm 98).cls = "StrawGarrison" := rfl
theorem mm_98 : sx_ml 98 = 1 := rfl
theorem rr_98 : sx_rt 98 = (some .int) := rfl
def x98_23 : List sx_E := (.ireturn, 23, 24, [0], .null) :: []
theorem ox98_23 : sx_oks 98 x98_23 := ⟨sx_q_iret0 (sx_dd bb_98 dX7_keep_23) rr_98, trivial⟩
def x98_20 : List sx_E := (.getfield 83, 20, 23, [1, 1, 0], .null) :: x98_23
theorem ox98_20 : sx_oks 98 x98_20 := ⟨sx_q_get (w := (RX1, TX1, 11)) (sx_dd bb_98 dX7_keep_20) rfl rfl (Nat.le_of_ble_eq_true rfl) cu_1 (sx_ow3 oo_98 fl_StrawGarrison_83) (by decide +kernel), ox98_23⟩
def x98_17 : List sx_E := (.getfield 16, 17, 20, [6, 2, 1], .null) :: x98_20
theorem ox98_17 : sx_oks 98 x98_17 := ⟨sx_q_get (w := (RX7, TX7, 12)) (sx_dd bb_98 dX7_keep_17) rfl rfl (Nat.le_of_ble_eq_true rfl) cu_6 (sx_ow3 oo_98 fl_StrawGarrison_16) (by decide +kernel), ox98_20⟩
def x98_16 : List sx_E := (.aload 0, 16, 17, [], .null) :: x98_17
theorem ox98_16 : sx_oks 98 x98_16 := ⟨Or.inr ⟨_, (sx_dd bb_98 dX7_keep_16), rfl, rfl⟩, ox98_17⟩
def x98_13 : List sx_E := (.putfield 22, 13, 16, [6, 4, 2], .null) :: x98_16
theorem ox98_13 : sx_oks 98 x98_13 := ⟨sx_q_put (w := (RX7, TX7, 12)) (ty0 := tyX7) (sx_dd bb_98 dX7_keep_13) rfl (Nat.le_of_ble_eq_true rfl) cu_6 (sx_ow3 oo_98 fl_StrawGarrison_22) (by decide +kernel) tyX7_ok nmX7 (Or.inl rfl) (fun h => absurd h (by decide)) (fun _ => rfl) (fun h => absurd h (by decide)), ox98_16⟩
def x98_12 : List sx_E := (.nop, 12, 13, [], .int (nI 1)) :: x98_13
theorem ox98_12 : sx_oks 98 x98_12 := ⟨sx_k_iconst (sx_dd bb_98 dX7_keep_12) (by decide +kernel), ox98_13⟩
def x98_11 : List sx_E := (.aload 0, 11, 12, [], .null) :: x98_12
theorem ox98_11 : sx_oks 98 x98_11 := ⟨Or.inr ⟨_, (sx_dd bb_98 dX7_keep_11), rfl, rfl⟩, ox98_12⟩
def x98_8 : List sx_E := (.invokevirtual 178, 8, 11, [6, 2, 0, 0, 1], .null) :: x98_11
theorem ox98_8 : sx_oks 98 x98_8 := ⟨sx_q_V (w := (RX1, TX1, 11)) (sx_dd bb_98 dX7_keep_8) oo_98 lk_StrawGarrison_178_V ft_6_h (Nat.le_of_ble_eq_true rfl) rfl rfl, ox98_11⟩
def x98_5 : List sx_E := (.getfield 10, 5, 8, [6, 1, 1], .null) :: x98_8
theorem ox98_5 : sx_oks 98 x98_5 := ⟨sx_q_get (w := (RX7, TX7, 12)) (sx_dd bb_98 dX7_keep_5) rfl rfl (Nat.le_of_ble_eq_true rfl) cu_6 (sx_ow3 oo_98 fl_StrawGarrison_10) (by decide +kernel), ox98_8⟩
def x98_4 : List sx_E := (.aload 0, 4, 5, [], .null) :: x98_5
theorem ox98_4 : sx_oks 98 x98_4 := ⟨Or.inr ⟨_, (sx_dd bb_98 dX7_keep_4), rfl, rfl⟩, ox98_5⟩
def x98_1 : List sx_E := (.getfield 16, 1, 4, [6, 2, 1], .null) :: x98_4
theorem ox98_1 : sx_oks 98 x98_1 := ⟨sx_q_get (w := (RX7, TX7, 12)) (sx_dd bb_98 dX7_keep_1) rfl rfl (Nat.le_of_ble_eq_true rfl) cu_6 (sx_ow3 oo_98 fl_StrawGarrison_16) (by decide +kernel), ox98_4⟩
def x98_0 : List sx_E := (.aload 0, 0, 1, [], .null) :: x98_1
theorem ox98_0 : sx_oks 98 x98_0 := ⟨Or.inr ⟨_, (sx_dd bb_98 dX7_keep_0), rfl, rfl⟩, ox98_1⟩
theorem m98 : sx_mok 98 x98_0 := ⟨ox98_0, by decide +kernel⟩
theorem bb_99 : sx_by 99 = cX7_back := rfl
theorem oo_99 : (sx_nm 99).cls = "StrawGarrison" := rfl
theorem mm_99 : sx_ml 99 = 1 := rfl
theorem rr_99 : sx_rt 99 = (some .int) := rfl
def x99_28 : List sx_E := (.ireturn, 28, 29, [0], .null) :: []
theorem ox99_28 : sx_oks 99 x99_28 := ⟨sx_q_iret0 (sx_dd bb_99 dX7_back_28) rr_99, trivial⟩
def x99_25 : List sx_E := (.getfield 83, 25, 28, [1, 1, 0], .null) :: x99_28
theorem ox99_25 : sx_oks 99 x99_25 := ⟨sx_q_get (w := (RX1, TX1, 11)) (sx_dd bb_99 dX7_back_25) rfl rfl (Nat.le_of_ble_eq_true rfl) cu_1 (sx_ow3 oo_99 fl_StrawGarrison_83) (by decide +kernel), ox99_28⟩
def x99_22 : List sx_E := (.getfield 10, 22, 25, [6, 1, 1], .null) :: x99_25
theorem ox99_22 : sx_oks 99 x99_22 := ⟨sx_q_get (w := (RX7, TX7, 12)) (sx_dd bb_99 dX7_back_22) rfl rfl (Nat.le_of_ble_eq_true rfl) cu_6 (sx_ow3 oo_99 fl_StrawGarrison_10) (by decide +kernel), ox99_25⟩
def x99_21 : List sx_E := (.aload 0, 21, 22, [], .null) :: x99_22
theorem ox99_21 : sx_oks 99 x99_21 := ⟨Or.inr ⟨_, (sx_dd bb_99 dX7_back_21), rfl, rfl⟩, ox99_22⟩
def x99_18 : List sx_E := (.invokevirtual 178, 18, 21, [6, 2, 0, 0, 1], .null) :: x99_21
theorem ox99_18 : sx_oks 99 x99_18 := ⟨sx_q_V (w := (RX1, TX1, 11)) (sx_dd bb_99 dX7_back_18) oo_99 lk_StrawGarrison_178_V ft_6_h (Nat.le_of_ble_eq_true rfl) rfl rfl, ox99_21⟩
def x99_15 : List sx_E := (.getfield 16, 15, 18, [6, 2, 1], .null) :: x99_18
theorem ox99_15 : sx_oks 99 x99_15 := ⟨sx_q_get (w := (RX7, TX7, 12)) (sx_dd bb_99 dX7_back_15) rfl rfl (Nat.le_of_ble_eq_true rfl) cu_6 (sx_ow3 oo_99 fl_StrawGarrison_16) (by decide +kernel), ox99_18⟩
def x99_14 : List sx_E := (.aload 0, 14, 15, [], .null) :: x99_15
theorem ox99_14 : sx_oks 99 x99_14 := ⟨Or.inr ⟨_, (sx_dd bb_99 dX7_back_14), rfl, rfl⟩, ox99_15⟩
def x99_11 : List sx_E := (.getfield 10, 11, 14, [6, 1, 1], .null) :: x99_14
theorem ox99_11 : sx_oks 99 x99_11 := ⟨sx_q_get (w := (RX7, TX7, 12)) (sx_dd bb_99 dX7_back_11) rfl rfl (Nat.le_of_ble_eq_true rfl) cu_6 (sx_ow3 oo_99 fl_StrawGarrison_10) (by decide +kernel), ox99_14⟩
def x99_10 : List sx_E := (.aload 0, 10, 11, [], .null) :: x99_11
theorem ox99_10 : sx_oks 99 x99_10 := ⟨Or.inr ⟨_, (sx_dd bb_99 dX7_back_10), rfl, rfl⟩, ox99_11⟩
def x99_9 : List sx_E := (.ireturn, 9, 10, [0], .null) :: x99_10
theorem ox99_9 : sx_oks 99 x99_9 := ⟨sx_q_iret0 (sx_dd bb_99 dX7_back_9) rr_99, ox99_10⟩
def x99_7 : List sx_E := (.nop, 7, 9, [], .int ((-1000000002))) :: x99_9
theorem ox99_7 : sx_oks 99 x99_7 := ⟨sx_k_ldc (sx_dd bb_99 dX7_back_7) (sx_ow1 oo_99 kc_StrawGarrison_82), ox99_9⟩
def x99_4 : List sx_E := (.ifCond .ne (6), 4, 7, [10], .null) :: x99_7
theorem ox99_4 : sx_oks 99 x99_4 := ⟨⟨(sx_dd bb_99 dX7_back_4), rfl, sx_t1 (by decide +kernel)⟩, ox99_7⟩
def x99_1 : List sx_E := (.getfield 22, 1, 4, [6, 4, 2], .null) :: x99_4
theorem ox99_1 : sx_oks 99 x99_1 := ⟨sx_q_get (w := (RX7, TX7, 12)) (sx_dd bb_99 dX7_back_1) rfl rfl (Nat.le_of_ble_eq_true rfl) cu_6 (sx_ow3 oo_99 fl_StrawGarrison_22) (by decide +kernel), ox99_4⟩
def x99_0 : List sx_E := (.aload 0, 0, 1, [], .null) :: x99_1
theorem ox99_0 : sx_oks 99 x99_0 := ⟨Or.inr ⟨_, (sx_dd bb_99 dX7_back_0), rfl, rfl⟩, ox99_1⟩
theorem m99 : sx_mok 99 x99_0 := ⟨ox99_0, by decide +kernel⟩
theorem bb_100 : sx_by 100 = cX7_count := rfl
theorem oo_100 : (sx_nm 100).cls = "StrawGarrison" := rfl
theorem mm_100 : sx_ml 100 = 2 := rfl
theorem rr_100 : sx_rt 100 = (some .int) := rfl
def x100_143 : List sx_E := (.ireturn, 143, 144, [0], .null) :: []
theorem ox100_143 : sx_oks 100 x100_143 := ⟨sx_q_iret0 (sx_dd bb_100 dX7_count_143) rr_100, trivial⟩
def x100_141 : List sx_E := (.nop, 141, 143, [], .int ((-1000000001))) :: x100_143
theorem ox100_141 : sx_oks 100 x100_141 := ⟨sx_k_ldc (sx_dd bb_100 dX7_count_141) (sx_ow1 oo_100 kc_StrawGarrison_76), ox100_143⟩
def x100_140 : List sx_E := (.ireturn, 140, 141, [0], .null) :: x100_141
theorem ox100_140 : sx_oks 100 x100_140 := ⟨sx_q_iret0 (sx_dd bb_100 dX7_count_140) rr_100, ox100_141⟩
def x100_137 : List sx_E := (.getfield 143, 137, 140, [1, 10, 0], .null) :: x100_140
theorem ox100_137 : sx_oks 100 x100_137 := ⟨sx_q_get (w := (RX1, TX1, 11)) (sx_dd bb_100 dX7_count_137) rfl rfl (Nat.le_of_ble_eq_true rfl) cu_1 (sx_ow3 oo_100 fl_StrawGarrison_143) (by decide +kernel), ox100_140⟩
def x100_134 : List sx_E := (.getfield 10, 134, 137, [6, 1, 1], .null) :: x100_137
theorem ox100_134 : sx_oks 100 x100_134 := ⟨sx_q_get (w := (RX7, TX7, 12)) (sx_dd bb_100 dX7_count_134) rfl rfl (Nat.le_of_ble_eq_true rfl) cu_6 (sx_ow3 oo_100 fl_StrawGarrison_10) (by decide +kernel), ox100_137⟩
def x100_133 : List sx_E := (.aload 0, 133, 134, [], .null) :: x100_134
theorem ox100_133 : sx_oks 100 x100_133 := ⟨Or.inr ⟨_, (sx_dd bb_100 dX7_count_133), rfl, rfl⟩, ox100_134⟩
def x100_132 : List sx_E := (.ireturn, 132, 133, [0], .null) :: x100_133
theorem ox100_132 : sx_oks 100 x100_132 := ⟨sx_q_iret0 (sx_dd bb_100 dX7_count_132) rr_100, ox100_133⟩
def x100_129 : List sx_E := (.getfield 37, 129, 132, [6, 7, 0], .null) :: x100_132
theorem ox100_129 : sx_oks 100 x100_129 := ⟨sx_q_get (w := (RX7, TX7, 12)) (sx_dd bb_100 dX7_count_129) rfl rfl (Nat.le_of_ble_eq_true rfl) cu_6 (sx_ow3 oo_100 fl_StrawGarrison_37) (by decide +kernel), ox100_132⟩
def x100_128 : List sx_E := (.aload 0, 128, 129, [], .null) :: x100_129
theorem ox100_128 : sx_oks 100 x100_128 := ⟨Or.inr ⟨_, (sx_dd bb_100 dX7_count_128), rfl, rfl⟩, ox100_129⟩
def x100_127 : List sx_E := (.ireturn, 127, 128, [0], .null) :: x100_128
theorem ox100_127 : sx_oks 100 x100_127 := ⟨sx_q_iret0 (sx_dd bb_100 dX7_count_127) rr_100, ox100_128⟩
def x100_124 : List sx_E := (.getfield 57, 124, 127, [6, 11, 0], .null) :: x100_127
theorem ox100_124 : sx_oks 100 x100_124 := ⟨sx_q_get (w := (RX7, TX7, 12)) (sx_dd bb_100 dX7_count_124) rfl rfl (Nat.le_of_ble_eq_true rfl) cu_6 (sx_ow3 oo_100 fl_StrawGarrison_57) (by decide +kernel), ox100_127⟩
def x100_123 : List sx_E := (.aload 0, 123, 124, [], .null) :: x100_124
theorem ox100_123 : sx_oks 100 x100_123 := ⟨Or.inr ⟨_, (sx_dd bb_100 dX7_count_123), rfl, rfl⟩, ox100_124⟩
def x100_122 : List sx_E := (.ireturn, 122, 123, [0], .null) :: x100_123
theorem ox100_122 : sx_oks 100 x100_122 := ⟨sx_q_iret0 (sx_dd bb_100 dX7_count_122) rr_100, ox100_123⟩
def x100_119 : List sx_E := (.getfield 286, 119, 122, [0, 1, 0], .null) :: x100_122
theorem ox100_119 : sx_oks 100 x100_119 := ⟨sx_q_get (w := (RX0, TX0, 3)) (sx_dd bb_100 dX7_count_119) rfl rfl (Nat.le_of_ble_eq_true rfl) cu_0 (sx_ow3 oo_100 fl_StrawGarrison_286) (by decide +kernel), ox100_122⟩
def x100_116 : List sx_E := (.getfield 199, 116, 119, [1, 0, 1], .null) :: x100_119
theorem ox100_116 : sx_oks 100 x100_116 := ⟨sx_q_get (w := (RX1, TX1, 11)) (sx_dd bb_100 dX7_count_116) rfl rfl (Nat.le_of_ble_eq_true rfl) cu_1 (sx_ow3 oo_100 fl_StrawGarrison_199) (by decide +kernel), ox100_119⟩
def x100_113 : List sx_E := (.getfield 10, 113, 116, [6, 1, 1], .null) :: x100_116
theorem ox100_113 : sx_oks 100 x100_113 := ⟨sx_q_get (w := (RX7, TX7, 12)) (sx_dd bb_100 dX7_count_113) rfl rfl (Nat.le_of_ble_eq_true rfl) cu_6 (sx_ow3 oo_100 fl_StrawGarrison_10) (by decide +kernel), ox100_116⟩
def x100_112 : List sx_E := (.aload 0, 112, 113, [], .null) :: x100_113
theorem ox100_112 : sx_oks 100 x100_112 := ⟨Or.inr ⟨_, (sx_dd bb_100 dX7_count_112), rfl, rfl⟩, ox100_113⟩
def x100_111 : List sx_E := (.ireturn, 111, 112, [0], .null) :: x100_112
theorem ox100_111 : sx_oks 100 x100_111 := ⟨sx_q_iret0 (sx_dd bb_100 dX7_count_111) rr_100, ox100_112⟩
def x100_110 : List sx_E := (.iaload, 110, 111, [], .null) :: x100_111
theorem ox100_110 : sx_oks 100 x100_110 := ⟨⟨(sx_dd bb_100 dX7_count_110), rfl⟩, ox100_111⟩
def x100_109 : List sx_E := (.nop, 109, 110, [], .int (nI 3)) :: x100_110
theorem ox100_109 : sx_oks 100 x100_109 := ⟨sx_k_iconst (sx_dd bb_100 dX7_count_109) (by decide +kernel), ox100_110⟩
def x100_106 : List sx_E := (.getfield 132, 106, 109, [1, 7, 1], .null) :: x100_109
theorem ox100_106 : sx_oks 100 x100_106 := ⟨sx_q_get (w := (RX1, TX1, 11)) (sx_dd bb_100 dX7_count_106) rfl rfl (Nat.le_of_ble_eq_true rfl) cu_1 (sx_ow3 oo_100 fl_StrawGarrison_132) (by decide +kernel), ox100_109⟩
def x100_103 : List sx_E := (.getfield 10, 103, 106, [6, 1, 1], .null) :: x100_106
theorem ox100_103 : sx_oks 100 x100_103 := ⟨sx_q_get (w := (RX7, TX7, 12)) (sx_dd bb_100 dX7_count_103) rfl rfl (Nat.le_of_ble_eq_true rfl) cu_6 (sx_ow3 oo_100 fl_StrawGarrison_10) (by decide +kernel), ox100_106⟩
def x100_102 : List sx_E := (.aload 0, 102, 103, [], .null) :: x100_103
theorem ox100_102 : sx_oks 100 x100_102 := ⟨Or.inr ⟨_, (sx_dd bb_100 dX7_count_102), rfl, rfl⟩, ox100_103⟩
def x100_101 : List sx_E := (.ireturn, 101, 102, [0], .null) :: x100_102
theorem ox100_101 : sx_oks 100 x100_101 := ⟨sx_q_iret0 (sx_dd bb_100 dX7_count_101) rr_100, ox100_102⟩
def x100_100 : List sx_E := (.iaload, 100, 101, [], .null) :: x100_101
theorem ox100_100 : sx_oks 100 x100_100 := ⟨⟨(sx_dd bb_100 dX7_count_100), rfl⟩, ox100_101⟩
def x100_99 : List sx_E := (.nop, 99, 100, [], .int (nI 2)) :: x100_100
theorem ox100_99 : sx_oks 100 x100_99 := ⟨sx_k_iconst (sx_dd bb_100 dX7_count_99) (by decide +kernel), ox100_100⟩
def x100_96 : List sx_E := (.getfield 132, 96, 99, [1, 7, 1], .null) :: x100_99
theorem ox100_96 : sx_oks 100 x100_96 := ⟨sx_q_get (w := (RX1, TX1, 11)) (sx_dd bb_100 dX7_count_96) rfl rfl (Nat.le_of_ble_eq_true rfl) cu_1 (sx_ow3 oo_100 fl_StrawGarrison_132) (by decide +kernel), ox100_99⟩
def x100_93 : List sx_E := (.getfield 10, 93, 96, [6, 1, 1], .null) :: x100_96
theorem ox100_93 : sx_oks 100 x100_93 := ⟨sx_q_get (w := (RX7, TX7, 12)) (sx_dd bb_100 dX7_count_93) rfl rfl (Nat.le_of_ble_eq_true rfl) cu_6 (sx_ow3 oo_100 fl_StrawGarrison_10) (by decide +kernel), ox100_96⟩
def x100_92 : List sx_E := (.aload 0, 92, 93, [], .null) :: x100_93
theorem ox100_92 : sx_oks 100 x100_92 := ⟨Or.inr ⟨_, (sx_dd bb_100 dX7_count_92), rfl, rfl⟩, ox100_93⟩
def x100_91 : List sx_E := (.ireturn, 91, 92, [0], .null) :: x100_92
theorem ox100_91 : sx_oks 100 x100_91 := ⟨sx_q_iret0 (sx_dd bb_100 dX7_count_91) rr_100, ox100_92⟩
def x100_90 : List sx_E := (.iaload, 90, 91, [], .null) :: x100_91
theorem ox100_90 : sx_oks 100 x100_90 := ⟨⟨(sx_dd bb_100 dX7_count_90), rfl⟩, ox100_91⟩
def x100_89 : List sx_E := (.nop, 89, 90, [], .int (nI 1)) :: x100_90
theorem ox100_89 : sx_oks 100 x100_89 := ⟨sx_k_iconst (sx_dd bb_100 dX7_count_89) (by decide +kernel), ox100_90⟩
def x100_86 : List sx_E := (.getfield 132, 86, 89, [1, 7, 1], .null) :: x100_89
theorem ox100_86 : sx_oks 100 x100_86 := ⟨sx_q_get (w := (RX1, TX1, 11)) (sx_dd bb_100 dX7_count_86) rfl rfl (Nat.le_of_ble_eq_true rfl) cu_1 (sx_ow3 oo_100 fl_StrawGarrison_132) (by decide +kernel), ox100_89⟩
def x100_83 : List sx_E := (.getfield 10, 83, 86, [6, 1, 1], .null) :: x100_86
theorem ox100_83 : sx_oks 100 x100_83 := ⟨sx_q_get (w := (RX7, TX7, 12)) (sx_dd bb_100 dX7_count_83) rfl rfl (Nat.le_of_ble_eq_true rfl) cu_6 (sx_ow3 oo_100 fl_StrawGarrison_10) (by decide +kernel), ox100_86⟩
def x100_82 : List sx_E := (.aload 0, 82, 83, [], .null) :: x100_83
theorem ox100_82 : sx_oks 100 x100_82 := ⟨Or.inr ⟨_, (sx_dd bb_100 dX7_count_82), rfl, rfl⟩, ox100_83⟩
def x100_81 : List sx_E := (.ireturn, 81, 82, [0], .null) :: x100_82
theorem ox100_81 : sx_oks 100 x100_81 := ⟨sx_q_iret0 (sx_dd bb_100 dX7_count_81) rr_100, ox100_82⟩
def x100_80 : List sx_E := (.iaload, 80, 81, [], .null) :: x100_81
theorem ox100_80 : sx_oks 100 x100_80 := ⟨⟨(sx_dd bb_100 dX7_count_80), rfl⟩, ox100_81⟩
def x100_79 : List sx_E := (.nop, 79, 80, [], .int (nI 0)) :: x100_80
theorem ox100_79 : sx_oks 100 x100_79 := ⟨sx_k_iconst (sx_dd bb_100 dX7_count_79) (by decide +kernel), ox100_80⟩
def x100_76 : List sx_E := (.getfield 132, 76, 79, [1, 7, 1], .null) :: x100_79
theorem ox100_76 : sx_oks 100 x100_76 := ⟨sx_q_get (w := (RX1, TX1, 11)) (sx_dd bb_100 dX7_count_76) rfl rfl (Nat.le_of_ble_eq_true rfl) cu_1 (sx_ow3 oo_100 fl_StrawGarrison_132) (by decide +kernel), ox100_79⟩
def x100_73 : List sx_E := (.getfield 10, 73, 76, [6, 1, 1], .null) :: x100_76
theorem ox100_73 : sx_oks 100 x100_73 := ⟨sx_q_get (w := (RX7, TX7, 12)) (sx_dd bb_100 dX7_count_73) rfl rfl (Nat.le_of_ble_eq_true rfl) cu_6 (sx_ow3 oo_100 fl_StrawGarrison_10) (by decide +kernel), ox100_76⟩
def x100_72 : List sx_E := (.aload 0, 72, 73, [], .null) :: x100_73
theorem ox100_72 : sx_oks 100 x100_72 := ⟨Or.inr ⟨_, (sx_dd bb_100 dX7_count_72), rfl, rfl⟩, ox100_73⟩
def x100_71 : List sx_E := (.ireturn, 71, 72, [0], .null) :: x100_72
theorem ox100_71 : sx_oks 100 x100_71 := ⟨sx_q_iret0 (sx_dd bb_100 dX7_count_71) rr_100, ox100_72⟩
def x100_68 : List sx_E := (.getfield 149, 68, 71, [1, 9, 0], .null) :: x100_71
theorem ox100_68 : sx_oks 100 x100_68 := ⟨sx_q_get (w := (RX1, TX1, 11)) (sx_dd bb_100 dX7_count_68) rfl rfl (Nat.le_of_ble_eq_true rfl) cu_1 (sx_ow3 oo_100 fl_StrawGarrison_149) (by decide +kernel), ox100_71⟩
def x100_65 : List sx_E := (.getfield 10, 65, 68, [6, 1, 1], .null) :: x100_68
theorem ox100_65 : sx_oks 100 x100_65 := ⟨sx_q_get (w := (RX7, TX7, 12)) (sx_dd bb_100 dX7_count_65) rfl rfl (Nat.le_of_ble_eq_true rfl) cu_6 (sx_ow3 oo_100 fl_StrawGarrison_10) (by decide +kernel), ox100_68⟩
def x100_64 : List sx_E := (.aload 0, 64, 65, [], .null) :: x100_65
theorem ox100_64 : sx_oks 100 x100_64 := ⟨Or.inr ⟨_, (sx_dd bb_100 dX7_count_64), rfl, rfl⟩, ox100_65⟩
def x100_63 : List sx_E := (.ireturn, 63, 64, [0], .null) :: x100_64
theorem ox100_63 : sx_oks 100 x100_63 := ⟨sx_q_iret0 (sx_dd bb_100 dX7_count_63) rr_100, ox100_64⟩
def x100_60 : List sx_E := (.getfield 83, 60, 63, [1, 1, 0], .null) :: x100_63
theorem ox100_60 : sx_oks 100 x100_60 := ⟨sx_q_get (w := (RX1, TX1, 11)) (sx_dd bb_100 dX7_count_60) rfl rfl (Nat.le_of_ble_eq_true rfl) cu_1 (sx_ow3 oo_100 fl_StrawGarrison_83) (by decide +kernel), ox100_63⟩
def x100_57 : List sx_E := (.getfield 10, 57, 60, [6, 1, 1], .null) :: x100_60
theorem ox100_57 : sx_oks 100 x100_57 := ⟨sx_q_get (w := (RX7, TX7, 12)) (sx_dd bb_100 dX7_count_57) rfl rfl (Nat.le_of_ble_eq_true rfl) cu_6 (sx_ow3 oo_100 fl_StrawGarrison_10) (by decide +kernel), ox100_60⟩
def x100_56 : List sx_E := (.aload 0, 56, 57, [], .null) :: x100_57
theorem ox100_56 : sx_oks 100 x100_56 := ⟨Or.inr ⟨_, (sx_dd bb_100 dX7_count_56), rfl, rfl⟩, ox100_57⟩
def x100_1 : List sx_E := (.tableswitch 140 0 9 #[55, 63, 71, 81, 91, 101, 111, 122, 127, 132], 1, 56, [0, 141, 56, 64, 72, 82, 92, 102, 112, 123, 128, 133], .null) :: x100_56
theorem ox100_1 : sx_oks 100 x100_1 := ⟨⟨⟨_, (sx_dd bb_100 dX7_count_1)⟩, sx_t2 (by decide +kernel) (by decide +kernel) (Nat.le_of_ble_eq_true rfl) (by decide +kernel) (by decide +kernel)⟩, ox100_56⟩
def x100_0 : List sx_E := (.iload 1, 0, 1, [], .null) :: x100_1
theorem ox100_0 : sx_oks 100 x100_0 := ⟨Or.inr ⟨_, (sx_dd bb_100 dX7_count_0), rfl, rfl⟩, ox100_1⟩
theorem m100 : sx_mok 100 x100_0 := ⟨ox100_0, by decide +kernel⟩
theorem bb_101 : sx_by 101 = cX7_isGuard := rfl
theorem oo_101 : (sx_nm 101).cls = "StrawGarrison" := rfl
theorem mm_101 : sx_ml 101 = 2 := rfl
theorem rr_101 : sx_rt 101 = (some .boolean) := rfl
def x101_14 : List sx_E := (.ireturn, 14, 15, [1], .null) :: []
theorem ox101_14 : sx_oks 101 x101_14 := ⟨sx_q_iret1 (sx_dd bb_101 dX7_isGuard_14) rr_101, trivial⟩
def x101_11 : List sx_E := (.invokestatic 72, 11, 14, [106, 3, 0, 0], .null) :: x101_14
theorem ox101_11 : sx_oks 101 x101_11 := ⟨sx_q_S (sx_dd bb_101 dX7_isGuard_11) oo_101 lk_StrawGarrison_72_S ft_106_h, ox101_14⟩
def x101_10 : List sx_E := (.isub, 10, 11, [], .null) :: x101_11
theorem ox101_10 : sx_oks 101 x101_10 := ⟨⟨(sx_dd bb_101 dX7_isGuard_10), rfl⟩, ox101_11⟩
def x101_9 : List sx_E := (.nop, 9, 10, [], .int (nI 1)) :: x101_10
theorem ox101_9 : sx_oks 101 x101_9 := ⟨sx_k_iconst (sx_dd bb_101 dX7_isGuard_9) (by decide +kernel), ox101_10⟩
def x101_6 : List sx_E := (.getfield 83, 6, 9, [1, 1, 0], .null) :: x101_9
theorem ox101_6 : sx_oks 101 x101_6 := ⟨sx_q_get (w := (RX1, TX1, 11)) (sx_dd bb_101 dX7_isGuard_6) rfl rfl (Nat.le_of_ble_eq_true rfl) cu_1 (sx_ow3 oo_101 fl_StrawGarrison_83) (by decide +kernel), ox101_9⟩
def x101_3 : List sx_E := (.getfield 10, 3, 6, [6, 1, 1], .null) :: x101_6
theorem ox101_3 : sx_oks 101 x101_3 := ⟨sx_q_get (w := (RX7, TX7, 12)) (sx_dd bb_101 dX7_isGuard_3) rfl rfl (Nat.le_of_ble_eq_true rfl) cu_6 (sx_ow3 oo_101 fl_StrawGarrison_10) (by decide +kernel), ox101_6⟩
def x101_2 : List sx_E := (.aload 0, 2, 3, [], .null) :: x101_3
theorem ox101_2 : sx_oks 101 x101_2 := ⟨Or.inr ⟨_, (sx_dd bb_101 dX7_isGuard_2), rfl, rfl⟩, ox101_3⟩
def x101_1 : List sx_E := (.nop, 1, 2, [], .int (nI 0)) :: x101_2
theorem ox101_1 : sx_oks 101 x101_1 := ⟨sx_k_iconst (sx_dd bb_101 dX7_isGuard_1) (by decide +kernel), ox101_2⟩
def x101_0 : List sx_E := (.iload 1, 0, 1, [], .null) :: x101_1
theorem ox101_0 : sx_oks 101 x101_0 := ⟨Or.inr ⟨_, (sx_dd bb_101 dX7_isGuard_0), rfl, rfl⟩, ox101_1⟩
theorem m101 : sx_mok 101 x101_0 := ⟨ox101_0, by decide +kernel⟩
theorem bb_102 : sx_by 102 = cX7_isKind := rfl
theorem oo_102 : (sx_nm 102).cls = "StrawGarrison" := rfl
theorem mm_102 : sx_ml 102 = 1 := rfl
theorem rr_102 : sx_rt 102 = (some .boolean) := rfl
def x102_6 : List sx_E := (.ireturn, 6, 7, [1], .null) :: []
theorem ox102_6 : sx_oks 102 x102_6 := ⟨sx_q_iret1 (sx_dd bb_102 dX7_isKind_6) rr_102, trivial⟩
def x102_3 : List sx_E := (.invokestatic 72, 3, 6, [106, 3, 0, 0], .null) :: x102_6
theorem ox102_3 : sx_oks 102 x102_3 := ⟨sx_q_S (sx_dd bb_102 dX7_isKind_3) oo_102 lk_StrawGarrison_72_S ft_106_h, ox102_6⟩
def x102_2 : List sx_E := (.nop, 2, 3, [], .int (nI 5)) :: x102_3
theorem ox102_2 : sx_oks 102 x102_2 := ⟨sx_k_iconst (sx_dd bb_102 dX7_isKind_2) (by decide +kernel), ox102_3⟩
def x102_1 : List sx_E := (.nop, 1, 2, [], .int (nI 0)) :: x102_2
theorem ox102_1 : sx_oks 102 x102_1 := ⟨sx_k_iconst (sx_dd bb_102 dX7_isKind_1) (by decide +kernel), ox102_2⟩
def x102_0 : List sx_E := (.iload 0, 0, 1, [], .null) :: x102_1
theorem ox102_0 : sx_oks 102 x102_0 := ⟨Or.inr ⟨_, (sx_dd bb_102 dX7_isKind_0), rfl, rfl⟩, ox102_1⟩
theorem m102 : sx_mok 102 x102_0 := ⟨ox102_0, by decide +kernel⟩
theorem bb_103 : sx_by 103 = cX7_isPost := rfl
theorem oo_103 : (sx_nm 103).cls = "StrawGarrison" := rfl
theorem mm_103 : sx_ml 103 = 1 := rfl
theorem rr_103 : sx_rt 103 = (some .boolean) := rfl
def x103_7 : List sx_E := (.ireturn, 7, 8, [1], .null) :: []
theorem ox103_7 : sx_oks 103 x103_7 := ⟨sx_q_iret1 (sx_dd bb_103 dX7_isPost_7) rr_103, trivial⟩
def x103_4 : List sx_E := (.invokestatic 72, 4, 7, [106, 3, 0, 0], .null) :: x103_7
theorem ox103_4 : sx_oks 103 x103_4 := ⟨sx_q_S (sx_dd bb_103 dX7_isPost_4) oo_103 lk_StrawGarrison_72_S ft_106_h, ox103_7⟩
def x103_2 : List sx_E := (.nop, 2, 4, [], .int (nI 19)) :: x103_4
theorem ox103_2 : sx_oks 103 x103_2 := ⟨sx_k_bipush (sx_dd bb_103 dX7_isPost_2) (by decide +kernel), ox103_4⟩
def x103_1 : List sx_E := (.nop, 1, 2, [], .int (nI 0)) :: x103_2
theorem ox103_1 : sx_oks 103 x103_1 := ⟨sx_k_iconst (sx_dd bb_103 dX7_isPost_1) (by decide +kernel), ox103_2⟩
def x103_0 : List sx_E := (.iload 0, 0, 1, [], .null) :: x103_1
theorem ox103_0 : sx_oks 103 x103_0 := ⟨Or.inr ⟨_, (sx_dd bb_103 dX7_isPost_0), rfl, rfl⟩, ox103_1⟩
theorem m103 : sx_mok 103 x103_0 := ⟨ox103_0, by decide +kernel⟩
theorem bb_104 : sx_by 104 = cX7_isSheet := rfl
theorem oo_104 : (sx_nm 104).cls = "StrawGarrison" := rfl
theorem mm_104 : sx_ml 104 = 1 := rfl
theorem rr_104 : sx_rt 104 = (some .boolean) := rfl
def x104_6 : List sx_E := (.ireturn, 6, 7, [1], .null) :: []
theorem ox104_6 : sx_oks 104 x104_6 := ⟨sx_q_iret1 (sx_dd bb_104 dX7_isSheet_6) rr_104, trivial⟩
def x104_3 : List sx_E := (.invokestatic 72, 3, 6, [106, 3, 0, 0], .null) :: x104_6
theorem ox104_3 : sx_oks 104 x104_3 := ⟨sx_q_S (sx_dd bb_104 dX7_isSheet_3) oo_104 lk_StrawGarrison_72_S ft_106_h, ox104_6⟩
def x104_2 : List sx_E := (.nop, 2, 3, [], .int (nI 3)) :: x104_3
theorem ox104_2 : sx_oks 104 x104_2 := ⟨sx_k_iconst (sx_dd bb_104 dX7_isSheet_2) (by decide +kernel), ox104_3⟩
def x104_1 : List sx_E := (.nop, 1, 2, [], .int (nI 0)) :: x104_2
theorem ox104_1 : sx_oks 104 x104_1 := ⟨sx_k_iconst (sx_dd bb_104 dX7_isSheet_1) (by decide +kernel), ox104_2⟩
def x104_0 : List sx_E := (.iload 0, 0, 1, [], .null) :: x104_1
theorem ox104_0 : sx_oks 104 x104_0 := ⟨Or.inr ⟨_, (sx_dd bb_104 dX7_isSheet_0), rfl, rfl⟩, ox104_1⟩
theorem m104 : sx_mok 104 x104_0 := ⟨ox104_0, by decide +kernel⟩
theorem bb_105 : sx_by 105 = cX7_isSlot := rfl
theorem oo_105 : (sx_nm 105).cls = "StrawGarrison" := rfl
theorem mm_105 : sx_ml 105 = 1 := rfl
theorem rr_105 : sx_rt 105 = (some .boolean) := rfl
def x105_6 : List sx_E := (.ireturn, 6, 7, [1], .null) :: []
theorem ox105_6 : sx_oks 105 x105_6 := ⟨sx_q_iret1 (sx_dd bb_105 dX7_isSlot_6) rr_105, trivial⟩
def x105_3 : List sx_E := (.invokestatic 72, 3, 6, [106, 3, 0, 0], .null) :: x105_6
theorem ox105_3 : sx_oks 105 x105_3 := ⟨sx_q_S (sx_dd bb_105 dX7_isSlot_3) oo_105 lk_StrawGarrison_72_S ft_106_h, ox105_6⟩
def x105_2 : List sx_E := (.nop, 2, 3, [], .int (nI 4)) :: x105_3
theorem ox105_2 : sx_oks 105 x105_2 := ⟨sx_k_iconst (sx_dd bb_105 dX7_isSlot_2) (by decide +kernel), ox105_3⟩
def x105_1 : List sx_E := (.nop, 1, 2, [], .int (nI 0)) :: x105_2
theorem ox105_1 : sx_oks 105 x105_1 := ⟨sx_k_iconst (sx_dd bb_105 dX7_isSlot_1) (by decide +kernel), ox105_2⟩
def x105_0 : List sx_E := (.iload 0, 0, 1, [], .null) :: x105_1
theorem ox105_0 : sx_oks 105 x105_0 := ⟨Or.inr ⟨_, (sx_dd bb_105 dX7_isSlot_0), rfl, rfl⟩, ox105_1⟩
theorem m105 : sx_mok 105 x105_0 := ⟨ox105_0, by decide +kernel⟩
theorem bb_106 : sx_by 106 = cX7_isWithin := rfl
theorem oo_106 : (sx_nm 106).cls = "StrawGarrison" := rfl
theorem mm_106 : sx_ml 106 = 3 := rfl
theorem rr_106 : sx_rt 106 = (some .boolean) := rfl
def x106_15 : List sx_E := (.ireturn, 15, 16, [1], .null) :: []
theorem ox106_15 : sx_oks 106 x106_15 := ⟨sx_q_iret1 (sx_dd bb_106 dX7_isWithin_15) rr_106, trivial⟩
def x106_14 : List sx_E := (.nop, 14, 15, [], .int (nI 0)) :: x106_15
theorem ox106_14 : sx_oks 106 x106_14 := ⟨sx_k_iconst (sx_dd bb_106 dX7_isWithin_14) (by decide +kernel), ox106_15⟩
def x106_11 : List sx_E := (.goto (4), 11, 14, [15], .null) :: x106_14
theorem ox106_11 : sx_oks 106 x106_11 := ⟨⟨(sx_dd bb_106 dX7_isWithin_11), sx_t1 (by decide +kernel)⟩, ox106_14⟩
def x106_10 : List sx_E := (.nop, 10, 11, [], .int (nI 1)) :: x106_11
theorem ox106_10 : sx_oks 106 x106_10 := ⟨sx_k_iconst (sx_dd bb_106 dX7_isWithin_10) (by decide +kernel), ox106_11⟩
def x106_7 : List sx_E := (.if_icmp .gt (7), 7, 10, [14], .null) :: x106_10
theorem ox106_7 : sx_oks 106 x106_7 := ⟨⟨(sx_dd bb_106 dX7_isWithin_7), rfl, sx_t1 (by decide +kernel)⟩, ox106_10⟩
def x106_6 : List sx_E := (.iload 2, 6, 7, [], .null) :: x106_7
theorem ox106_6 : sx_oks 106 x106_6 := ⟨Or.inr ⟨_, (sx_dd bb_106 dX7_isWithin_6), rfl, rfl⟩, ox106_7⟩
def x106_5 : List sx_E := (.iload 0, 5, 6, [], .null) :: x106_6
theorem ox106_5 : sx_oks 106 x106_5 := ⟨Or.inr ⟨_, (sx_dd bb_106 dX7_isWithin_5), rfl, rfl⟩, ox106_6⟩
def x106_2 : List sx_E := (.if_icmp .lt (12), 2, 5, [14], .null) :: x106_5
theorem ox106_2 : sx_oks 106 x106_2 := ⟨⟨(sx_dd bb_106 dX7_isWithin_2), rfl, sx_t1 (by decide +kernel)⟩, ox106_5⟩
def x106_1 : List sx_E := (.iload 1, 1, 2, [], .null) :: x106_2
theorem ox106_1 : sx_oks 106 x106_1 := ⟨Or.inr ⟨_, (sx_dd bb_106 dX7_isWithin_1), rfl, rfl⟩, ox106_2⟩
def x106_0 : List sx_E := (.iload 0, 0, 1, [], .null) :: x106_1
theorem ox106_0 : sx_oks 106 x106_0 := ⟨Or.inr ⟨_, (sx_dd bb_106 dX7_isWithin_0), rfl, rfl⟩, ox106_1⟩
theorem m106 : sx_mok 106 x106_0 := ⟨ox106_0, by decide +kernel⟩
theorem bb_107 : sx_by 107 = cX7_heldWithin99 := rfl
theorem oo_107 : (sx_nm 107).cls = "StrawGarrison" := rfl
theorem mm_107 : sx_ml 107 = 1 := rfl
theorem rr_107 : sx_rt 107 = (some .int) := rfl
def x107_10 : List sx_E := (.ireturn, 10, 11, [0], .null) :: []
theorem ox107_10 : sx_oks 107 x107_10 := ⟨sx_q_iret0 (sx_dd bb_107 dX7_heldWithin99_10) rr_107, trivial⟩
def x107_7 : List sx_E := (.invokestatic 289, 7, 10, [213, 2, 0, 0], .null) :: x107_10
theorem ox107_7 : sx_oks 107 x107_7 := ⟨sx_q_S (sx_dd bb_107 dX7_heldWithin99_7) oo_107 lk_StrawGarrison_289_S ft_213_h, ox107_10⟩
def x107_4 : List sx_E := (.invokestatic 135, 4, 7, [214, 2, 0, 0], .null) :: x107_7
theorem ox107_4 : sx_oks 107 x107_4 := ⟨sx_q_S (sx_dd bb_107 dX7_heldWithin99_4) oo_107 lk_StrawGarrison_135_S ft_214_h, ox107_7⟩
def x107_3 : List sx_E := (.iload 0, 3, 4, [], .null) :: x107_4
theorem ox107_3 : sx_oks 107 x107_3 := ⟨Or.inr ⟨_, (sx_dd bb_107 dX7_heldWithin99_3), rfl, rfl⟩, ox107_4⟩
def x107_1 : List sx_E := (.nop, 1, 3, [], .int (nI 99)) :: x107_3
theorem ox107_1 : sx_oks 107 x107_1 := ⟨sx_k_bipush (sx_dd bb_107 dX7_heldWithin99_1) (by decide +kernel), ox107_3⟩
def x107_0 : List sx_E := (.nop, 0, 1, [], .int (nI 0)) :: x107_1
theorem ox107_0 : sx_oks 107 x107_0 := ⟨sx_k_iconst (sx_dd bb_107 dX7_heldWithin99_0) (by decide +kernel), ox107_1⟩
theorem m107 : sx_mok 107 x107_0 := ⟨ox107_0, by decide +kernel⟩
theorem bb_108 : sx_by 108 = cX7_countedBehind := rfl
theorem oo_108 : (sx_nm 108).cls = "StrawGarrison" := rfl
theorem mm_108 : sx_ml 108 = 3 := rfl
theorem rr_108 : sx_rt 108 = (some .int) := rfl
def x108_28 : List sx_E := (.ireturn, 28, 29, [0], .null) :: []
theorem ox108_28 : sx_oks 108 x108_28 := ⟨sx_q_iret0 (sx_dd bb_108 dX7_countedBehind_28) rr_108, trivial⟩
def x108_25 : List sx_E := (.invokevirtual 159, 25, 28, [14, 1, 0, 0, 1], .null) :: x108_28
theorem ox108_25 : sx_oks 108 x108_25 := ⟨sx_q_V (w := (RX1, TX1, 11)) (sx_dd bb_108 dX7_countedBehind_25) oo_108 lk_StrawGarrison_159_V ft_14_h (Nat.le_of_ble_eq_true rfl) rfl rfl, ox108_28⟩
def x108_22 : List sx_E := (.getfield 19, 22, 25, [6, 3, 1], .null) :: x108_25
theorem ox108_22 : sx_oks 108 x108_22 := ⟨sx_q_get (w := (RX7, TX7, 12)) (sx_dd bb_108 dX7_countedBehind_22) rfl rfl (Nat.le_of_ble_eq_true rfl) cu_6 (sx_ow3 oo_108 fl_StrawGarrison_19) (by decide +kernel), ox108_25⟩
def x108_21 : List sx_E := (.aload 0, 21, 22, [], .null) :: x108_22
theorem ox108_21 : sx_oks 108 x108_21 := ⟨Or.inr ⟨_, (sx_dd bb_108 dX7_countedBehind_21), rfl, rfl⟩, ox108_22⟩
def x108_18 : List sx_E := (.goto (-16), 18, 21, [2], .null) :: x108_21
theorem ox108_18 : sx_oks 108 x108_18 := ⟨⟨(sx_dd bb_108 dX7_countedBehind_18), sx_t1 (by decide +kernel)⟩, ox108_21⟩
def x108_15 : List sx_E := (.iinc 2 (1), 15, 18, [], .int (nI 1)) :: x108_18
theorem ox108_15 : sx_oks 108 x108_15 := ⟨⟨sx_lt mm_108 (Nat.le_of_ble_eq_true rfl), (sx_dd bb_108 dX7_countedBehind_15), rfl, by decide +kernel⟩, ox108_18⟩
def x108_14 : List sx_E := (.pop, 14, 15, [], .null) :: x108_15
theorem ox108_14 : sx_oks 108 x108_14 := ⟨⟨(sx_dd bb_108 dX7_countedBehind_14), rfl⟩, ox108_15⟩
def x108_11 : List sx_E := (.invokevirtual 152, 11, 14, [19, 1, 0, 0, 1], .null) :: x108_14
theorem ox108_11 : sx_oks 108 x108_11 := ⟨sx_q_V (w := (RX1, TX1, 11)) (sx_dd bb_108 dX7_countedBehind_11) oo_108 lk_StrawGarrison_152_V ft_19_h (Nat.le_of_ble_eq_true rfl) rfl rfl, ox108_14⟩
def x108_8 : List sx_E := (.getfield 19, 8, 11, [6, 3, 1], .null) :: x108_11
theorem ox108_8 : sx_oks 108 x108_8 := ⟨sx_q_get (w := (RX7, TX7, 12)) (sx_dd bb_108 dX7_countedBehind_8) rfl rfl (Nat.le_of_ble_eq_true rfl) cu_6 (sx_ow3 oo_108 fl_StrawGarrison_19) (by decide +kernel), ox108_11⟩
def x108_7 : List sx_E := (.aload 0, 7, 8, [], .null) :: x108_8
theorem ox108_7 : sx_oks 108 x108_7 := ⟨Or.inr ⟨_, (sx_dd bb_108 dX7_countedBehind_7), rfl, rfl⟩, ox108_8⟩
def x108_4 : List sx_E := (.if_icmp .ge (17), 4, 7, [21], .null) :: x108_7
theorem ox108_4 : sx_oks 108 x108_4 := ⟨⟨(sx_dd bb_108 dX7_countedBehind_4), rfl, sx_t1 (by decide +kernel)⟩, ox108_7⟩
def x108_3 : List sx_E := (.iload 1, 3, 4, [], .null) :: x108_4
theorem ox108_3 : sx_oks 108 x108_3 := ⟨Or.inr ⟨_, (sx_dd bb_108 dX7_countedBehind_3), rfl, rfl⟩, ox108_4⟩
def x108_2 : List sx_E := (.iload 2, 2, 3, [], .null) :: x108_3
theorem ox108_2 : sx_oks 108 x108_2 := ⟨Or.inr ⟨_, (sx_dd bb_108 dX7_countedBehind_2), rfl, rfl⟩, ox108_3⟩
def x108_2h : List sx_E := (.monitorenter, 2, 2, [0, 1, 2], .null) :: x108_2
theorem ox108_2h : sx_oks 108 x108_2h := ⟨trivial, ox108_2⟩
def x108_1 : List sx_E := (.istore 2, 1, 2, [], .null) :: x108_2h
theorem ox108_1 : sx_oks 108 x108_1 := ⟨⟨sx_lt mm_108 (Nat.le_of_ble_eq_true rfl), Or.inr ⟨_, (sx_dd bb_108 dX7_countedBehind_1), rfl, rfl⟩⟩, ox108_2h⟩
def x108_0 : List sx_E := (.nop, 0, 1, [], .int (nI 0)) :: x108_1
theorem ox108_0 : sx_oks 108 x108_0 := ⟨sx_k_iconst (sx_dd bb_108 dX7_countedBehind_0) (by decide +kernel), ox108_1⟩
theorem m108 : sx_mok 108 x108_0 := ⟨ox108_0, by decide +kernel⟩
theorem bb_109 : sx_by 109 = cX7_firstRaid := rfl
theorem oo_109 : (sx_nm 109).cls = "StrawGarrison" := rfl
theorem mm_109 : sx_ml 109 = 3 := rfl
theorem rr_109 : sx_rt 109 = (some .int) := rfl
def x109_26 : List sx_E := (.ireturn, 26, 27, [0], .null) :: []
theorem ox109_26 : sx_oks 109 x109_26 := ⟨sx_q_iret0 (sx_dd bb_109 dX7_firstRaid_26) rr_109, trivial⟩
def x109_25 : List sx_E := (.nop, 25, 26, [], .int (nI 0)) :: x109_26
theorem ox109_25 : sx_oks 109 x109_25 := ⟨sx_k_iconst (sx_dd bb_109 dX7_firstRaid_25) (by decide +kernel), ox109_26⟩
def x109_22 : List sx_E := (.goto (-20), 22, 25, [2], .null) :: x109_25
theorem ox109_22 : sx_oks 109 x109_22 := ⟨⟨(sx_dd bb_109 dX7_firstRaid_22), sx_t1 (by decide +kernel)⟩, ox109_25⟩
def x109_19 : List sx_E := (.iinc 2 (1), 19, 22, [], .int (nI 1)) :: x109_22
theorem ox109_19 : sx_oks 109 x109_19 := ⟨⟨sx_lt mm_109 (Nat.le_of_ble_eq_true rfl), (sx_dd bb_109 dX7_firstRaid_19), rfl, by decide +kernel⟩, ox109_22⟩
def x109_18 : List sx_E := (.ireturn, 18, 19, [0], .null) :: x109_19
theorem ox109_18 : sx_oks 109 x109_18 := ⟨sx_q_iret0 (sx_dd bb_109 dX7_firstRaid_18) rr_109, ox109_19⟩
def x109_17 : List sx_E := (.iload 2, 17, 18, [], .null) :: x109_18
theorem ox109_17 : sx_oks 109 x109_17 := ⟨Or.inr ⟨_, (sx_dd bb_109 dX7_firstRaid_17), rfl, rfl⟩, ox109_18⟩
def x109_14 : List sx_E := (.ifCond .eq (5), 14, 17, [19], .null) :: x109_17
theorem ox109_14 : sx_oks 109 x109_14 := ⟨⟨(sx_dd bb_109 dX7_firstRaid_14), rfl, sx_t1 (by decide +kernel)⟩, ox109_17⟩
def x109_11 : List sx_E := (.invokevirtual 152, 11, 14, [19, 1, 0, 0, 1], .null) :: x109_14
theorem ox109_11 : sx_oks 109 x109_11 := ⟨sx_q_V (w := (RX1, TX1, 11)) (sx_dd bb_109 dX7_firstRaid_11) oo_109 lk_StrawGarrison_152_V ft_19_h (Nat.le_of_ble_eq_true rfl) rfl rfl, ox109_14⟩
def x109_8 : List sx_E := (.getfield 19, 8, 11, [6, 3, 1], .null) :: x109_11
theorem ox109_8 : sx_oks 109 x109_8 := ⟨sx_q_get (w := (RX7, TX7, 12)) (sx_dd bb_109 dX7_firstRaid_8) rfl rfl (Nat.le_of_ble_eq_true rfl) cu_6 (sx_ow3 oo_109 fl_StrawGarrison_19) (by decide +kernel), ox109_11⟩
def x109_7 : List sx_E := (.aload 0, 7, 8, [], .null) :: x109_8
theorem ox109_7 : sx_oks 109 x109_7 := ⟨Or.inr ⟨_, (sx_dd bb_109 dX7_firstRaid_7), rfl, rfl⟩, ox109_8⟩
def x109_4 : List sx_E := (.if_icmp .gt (21), 4, 7, [25], .null) :: x109_7
theorem ox109_4 : sx_oks 109 x109_4 := ⟨⟨(sx_dd bb_109 dX7_firstRaid_4), rfl, sx_t1 (by decide +kernel)⟩, ox109_7⟩
def x109_3 : List sx_E := (.iload 1, 3, 4, [], .null) :: x109_4
theorem ox109_3 : sx_oks 109 x109_3 := ⟨Or.inr ⟨_, (sx_dd bb_109 dX7_firstRaid_3), rfl, rfl⟩, ox109_4⟩
def x109_2 : List sx_E := (.iload 2, 2, 3, [], .null) :: x109_3
theorem ox109_2 : sx_oks 109 x109_2 := ⟨Or.inr ⟨_, (sx_dd bb_109 dX7_firstRaid_2), rfl, rfl⟩, ox109_3⟩
def x109_2h : List sx_E := (.monitorenter, 2, 2, [0, 1, 2], .null) :: x109_2
theorem ox109_2h : sx_oks 109 x109_2h := ⟨trivial, ox109_2⟩
def x109_1 : List sx_E := (.istore 2, 1, 2, [], .null) :: x109_2h
theorem ox109_1 : sx_oks 109 x109_1 := ⟨⟨sx_lt mm_109 (Nat.le_of_ble_eq_true rfl), Or.inr ⟨_, (sx_dd bb_109 dX7_firstRaid_1), rfl, rfl⟩⟩, ox109_2h⟩
def x109_0 : List sx_E := (.nop, 0, 1, [], .int (nI 1)) :: x109_1
theorem ox109_0 : sx_oks 109 x109_0 := ⟨sx_k_iconst (sx_dd bb_109 dX7_firstRaid_0) (by decide +kernel), ox109_1⟩
theorem m109 : sx_mok 109 x109_0 := ⟨ox109_0, by decide +kernel⟩
theorem bb_110 : sx_by 110 = cX7_sumDifferences := rfl
theorem oo_110 : (sx_nm 110).cls = "StrawGarrison" := rfl
theorem mm_110 : sx_ml 110 = 4 := rfl
theorem rr_110 : sx_rt 110 = none := rfl
def x110_98 : List sx_E := (.return_, 98, 99, [], .null) :: []
theorem ox110_98 : sx_oks 110 x110_98 := ⟨⟨(sx_dd bb_110 dX7_sumDifferences_98), rr_110⟩, trivial⟩
def x110_95 : List sx_E := (.goto (-74), 95, 98, [21], .null) :: x110_98
theorem ox110_95 : sx_oks 110 x110_95 := ⟨⟨(sx_dd bb_110 dX7_sumDifferences_95), sx_t1 (by decide +kernel)⟩, ox110_98⟩
def x110_92 : List sx_E := (.iinc 2 (1), 92, 95, [], .int (nI 1)) :: x110_95
theorem ox110_92 : sx_oks 110 x110_92 := ⟨⟨sx_lt mm_110 (Nat.le_of_ble_eq_true rfl), (sx_dd bb_110 dX7_sumDifferences_92), rfl, by decide +kernel⟩, ox110_95⟩
def x110_91 : List sx_E := (.pop, 91, 92, [], .null) :: x110_92
theorem ox110_91 : sx_oks 110 x110_91 := ⟨⟨(sx_dd bb_110 dX7_sumDifferences_91), rfl⟩, ox110_92⟩
def x110_88 : List sx_E := (.invokevirtual 152, 88, 91, [19, 1, 0, 0, 1], .null) :: x110_91
theorem ox110_88 : sx_oks 110 x110_88 := ⟨sx_q_V (w := (RX1, TX1, 11)) (sx_dd bb_110 dX7_sumDifferences_88) oo_110 lk_StrawGarrison_152_V ft_19_h (Nat.le_of_ble_eq_true rfl) rfl rfl, ox110_91⟩
def x110_85 : List sx_E := (.getfield 19, 85, 88, [6, 3, 1], .null) :: x110_88
theorem ox110_85 : sx_oks 110 x110_85 := ⟨sx_q_get (w := (RX7, TX7, 12)) (sx_dd bb_110 dX7_sumDifferences_85) rfl rfl (Nat.le_of_ble_eq_true rfl) cu_6 (sx_ow3 oo_110 fl_StrawGarrison_19) (by decide +kernel), ox110_88⟩
def x110_84 : List sx_E := (.aload 0, 84, 85, [], .null) :: x110_85
theorem ox110_84 : sx_oks 110 x110_84 := ⟨Or.inr ⟨_, (sx_dd bb_110 dX7_sumDifferences_84), rfl, rfl⟩, ox110_85⟩
def x110_81 : List sx_E := (.goto (-42), 81, 84, [39], .null) :: x110_84
theorem ox110_81 : sx_oks 110 x110_81 := ⟨⟨(sx_dd bb_110 dX7_sumDifferences_81), sx_t1 (by decide +kernel)⟩, ox110_84⟩
def x110_78 : List sx_E := (.iinc 3 (1), 78, 81, [], .int (nI 1)) :: x110_81
theorem ox110_78 : sx_oks 110 x110_78 := ⟨⟨sx_lt mm_110 (Nat.le_of_ble_eq_true rfl), (sx_dd bb_110 dX7_sumDifferences_78), rfl, by decide +kernel⟩, ox110_81⟩
def x110_77 : List sx_E := (.iastore, 77, 78, [], .null) :: x110_78
theorem ox110_77 : sx_oks 110 x110_77 := ⟨⟨(sx_dd bb_110 dX7_sumDifferences_77), rfl⟩, ox110_78⟩
def x110_76 : List sx_E := (.iadd, 76, 77, [], .null) :: x110_77
theorem ox110_76 : sx_oks 110 x110_76 := ⟨⟨(sx_dd bb_110 dX7_sumDifferences_76), rfl⟩, ox110_77⟩
def x110_73 : List sx_E := (.invokestatic 298, 73, 76, [212, 1, 0, 0], .null) :: x110_76
theorem ox110_73 : sx_oks 110 x110_73 := ⟨sx_q_S (sx_dd bb_110 dX7_sumDifferences_73) oo_110 lk_StrawGarrison_298_S ft_212_h, ox110_76⟩
def x110_72 : List sx_E := (.isub, 72, 73, [], .null) :: x110_73
theorem ox110_72 : sx_oks 110 x110_72 := ⟨⟨(sx_dd bb_110 dX7_sumDifferences_72), rfl⟩, ox110_73⟩
def x110_71 : List sx_E := (.iaload, 71, 72, [], .null) :: x110_72
theorem ox110_71 : sx_oks 110 x110_71 := ⟨⟨(sx_dd bb_110 dX7_sumDifferences_71), rfl⟩, ox110_72⟩
def x110_70 : List sx_E := (.iload 2, 70, 71, [], .null) :: x110_71
theorem ox110_70 : sx_oks 110 x110_70 := ⟨Or.inr ⟨_, (sx_dd bb_110 dX7_sumDifferences_70), rfl, rfl⟩, ox110_71⟩
def x110_67 : List sx_E := (.getfield 247, 67, 70, [3, 2, 1], .null) :: x110_70
theorem ox110_67 : sx_oks 110 x110_67 := ⟨sx_q_get (w := (RX4, TX4, 3)) (sx_dd bb_110 dX7_sumDifferences_67) rfl rfl (Nat.le_of_ble_eq_true rfl) cu_3 (sx_ow3 oo_110 fl_StrawGarrison_247) (by decide +kernel), ox110_70⟩
def x110_66 : List sx_E := (.aload 1, 66, 67, [], .null) :: x110_67
theorem ox110_66 : sx_oks 110 x110_66 := ⟨Or.inr ⟨_, (sx_dd bb_110 dX7_sumDifferences_66), rfl, rfl⟩, ox110_67⟩
def x110_65 : List sx_E := (.iaload, 65, 66, [], .null) :: x110_66
theorem ox110_65 : sx_oks 110 x110_65 := ⟨⟨(sx_dd bb_110 dX7_sumDifferences_65), rfl⟩, ox110_66⟩
def x110_64 : List sx_E := (.iload 3, 64, 65, [], .null) :: x110_65
theorem ox110_64 : sx_oks 110 x110_64 := ⟨Or.inr ⟨_, (sx_dd bb_110 dX7_sumDifferences_64), rfl, rfl⟩, ox110_65⟩
def x110_61 : List sx_E := (.getfield 103, 61, 64, [1, 5, 1], .null) :: x110_64
theorem ox110_61 : sx_oks 110 x110_61 := ⟨sx_q_get (w := (RX1, TX1, 11)) (sx_dd bb_110 dX7_sumDifferences_61) rfl rfl (Nat.le_of_ble_eq_true rfl) cu_1 (sx_ow3 oo_110 fl_StrawGarrison_103) (by decide +kernel), ox110_64⟩
def x110_58 : List sx_E := (.getfield 19, 58, 61, [6, 3, 1], .null) :: x110_61
theorem ox110_58 : sx_oks 110 x110_58 := ⟨sx_q_get (w := (RX7, TX7, 12)) (sx_dd bb_110 dX7_sumDifferences_58) rfl rfl (Nat.le_of_ble_eq_true rfl) cu_6 (sx_ow3 oo_110 fl_StrawGarrison_19) (by decide +kernel), ox110_61⟩
def x110_57 : List sx_E := (.aload 0, 57, 58, [], .null) :: x110_58
theorem ox110_57 : sx_oks 110 x110_57 := ⟨Or.inr ⟨_, (sx_dd bb_110 dX7_sumDifferences_57), rfl, rfl⟩, ox110_58⟩
def x110_56 : List sx_E := (.iaload, 56, 57, [], .null) :: x110_57
theorem ox110_56 : sx_oks 110 x110_56 := ⟨⟨(sx_dd bb_110 dX7_sumDifferences_56), rfl⟩, ox110_57⟩
def x110_55 : List sx_E := (.dup2, 55, 56, [], .null) :: x110_56
theorem ox110_55 : sx_oks 110 x110_55 := ⟨⟨(sx_dd bb_110 dX7_sumDifferences_55), rfl⟩, ox110_56⟩
def x110_54 : List sx_E := (.iload 3, 54, 55, [], .null) :: x110_55
theorem ox110_54 : sx_oks 110 x110_54 := ⟨Or.inr ⟨_, (sx_dd bb_110 dX7_sumDifferences_54), rfl, rfl⟩, ox110_55⟩
def x110_51 : List sx_E := (.getfield 60, 51, 54, [6, 0, 1], .null) :: x110_54
theorem ox110_51 : sx_oks 110 x110_51 := ⟨sx_q_get (w := (RX7, TX7, 12)) (sx_dd bb_110 dX7_sumDifferences_51) rfl rfl (Nat.le_of_ble_eq_true rfl) cu_6 (sx_ow3 oo_110 fl_StrawGarrison_60) (by decide +kernel), ox110_54⟩
def x110_50 : List sx_E := (.aload 0, 50, 51, [], .null) :: x110_51
theorem ox110_50 : sx_oks 110 x110_50 := ⟨Or.inr ⟨_, (sx_dd bb_110 dX7_sumDifferences_50), rfl, rfl⟩, ox110_51⟩
def x110_47 : List sx_E := (.if_icmp .ge (37), 47, 50, [84], .null) :: x110_50
theorem ox110_47 : sx_oks 110 x110_47 := ⟨⟨(sx_dd bb_110 dX7_sumDifferences_47), rfl, sx_t1 (by decide +kernel)⟩, ox110_50⟩
def x110_44 : List sx_E := (.getfield 83, 44, 47, [1, 1, 0], .null) :: x110_47
theorem ox110_44 : sx_oks 110 x110_44 := ⟨sx_q_get (w := (RX1, TX1, 11)) (sx_dd bb_110 dX7_sumDifferences_44) rfl rfl (Nat.le_of_ble_eq_true rfl) cu_1 (sx_ow3 oo_110 fl_StrawGarrison_83) (by decide +kernel), ox110_47⟩
def x110_41 : List sx_E := (.getfield 19, 41, 44, [6, 3, 1], .null) :: x110_44
theorem ox110_41 : sx_oks 110 x110_41 := ⟨sx_q_get (w := (RX7, TX7, 12)) (sx_dd bb_110 dX7_sumDifferences_41) rfl rfl (Nat.le_of_ble_eq_true rfl) cu_6 (sx_ow3 oo_110 fl_StrawGarrison_19) (by decide +kernel), ox110_44⟩
def x110_40 : List sx_E := (.aload 0, 40, 41, [], .null) :: x110_41
theorem ox110_40 : sx_oks 110 x110_40 := ⟨Or.inr ⟨_, (sx_dd bb_110 dX7_sumDifferences_40), rfl, rfl⟩, ox110_41⟩
def x110_39 : List sx_E := (.iload 3, 39, 40, [], .null) :: x110_40
theorem ox110_39 : sx_oks 110 x110_39 := ⟨Or.inr ⟨_, (sx_dd bb_110 dX7_sumDifferences_39), rfl, rfl⟩, ox110_40⟩
def x110_39h : List sx_E := (.monitorenter, 39, 39, [0, 1, 2, 3], .null) :: x110_39
theorem ox110_39h : sx_oks 110 x110_39h := ⟨trivial, ox110_39⟩
def x110_38 : List sx_E := (.istore 3, 38, 39, [], .null) :: x110_39h
theorem ox110_38 : sx_oks 110 x110_38 := ⟨⟨sx_lt mm_110 (Nat.le_of_ble_eq_true rfl), Or.inr ⟨_, (sx_dd bb_110 dX7_sumDifferences_38), rfl, rfl⟩⟩, ox110_39h⟩
def x110_37 : List sx_E := (.nop, 37, 38, [], .int (nI 0)) :: x110_38
theorem ox110_37 : sx_oks 110 x110_37 := ⟨sx_k_iconst (sx_dd bb_110 dX7_sumDifferences_37) (by decide +kernel), ox110_38⟩
def x110_34 : List sx_E := (.ifCond .eq (50), 34, 37, [84], .null) :: x110_37
theorem ox110_34 : sx_oks 110 x110_34 := ⟨⟨(sx_dd bb_110 dX7_sumDifferences_34), rfl, sx_t1 (by decide +kernel)⟩, ox110_37⟩
def x110_31 : List sx_E := (.invokevirtual 252, 31, 34, [54, 2, 0, 0, 3], .null) :: x110_34
theorem ox110_31 : sx_oks 110 x110_31 := ⟨sx_q_V (w := (RX4, TX4, 3)) (sx_dd bb_110 dX7_sumDifferences_31) oo_110 lk_StrawGarrison_252_V ft_54_h (Nat.le_of_ble_eq_true rfl) rfl rfl, ox110_34⟩
def x110_30 : List sx_E := (.iload 2, 30, 31, [], .null) :: x110_31
theorem ox110_30 : sx_oks 110 x110_30 := ⟨Or.inr ⟨_, (sx_dd bb_110 dX7_sumDifferences_30), rfl, rfl⟩, ox110_31⟩
def x110_29 : List sx_E := (.aload 1, 29, 30, [], .null) :: x110_30
theorem ox110_29 : sx_oks 110 x110_29 := ⟨Or.inr ⟨_, (sx_dd bb_110 dX7_sumDifferences_29), rfl, rfl⟩, ox110_30⟩
def x110_26 : List sx_E := (.if_icmp .ge (72), 26, 29, [98], .null) :: x110_29
theorem ox110_26 : sx_oks 110 x110_26 := ⟨⟨(sx_dd bb_110 dX7_sumDifferences_26), rfl, sx_t1 (by decide +kernel)⟩, ox110_29⟩
def x110_23 : List sx_E := (.getfield 243, 23, 26, [3, 1, 0], .null) :: x110_26
theorem ox110_23 : sx_oks 110 x110_23 := ⟨sx_q_get (w := (RX4, TX4, 3)) (sx_dd bb_110 dX7_sumDifferences_23) rfl rfl (Nat.le_of_ble_eq_true rfl) cu_3 (sx_ow3 oo_110 fl_StrawGarrison_243) (by decide +kernel), ox110_26⟩
def x110_22 : List sx_E := (.aload 1, 22, 23, [], .null) :: x110_23
theorem ox110_22 : sx_oks 110 x110_22 := ⟨Or.inr ⟨_, (sx_dd bb_110 dX7_sumDifferences_22), rfl, rfl⟩, ox110_23⟩
def x110_21 : List sx_E := (.iload 2, 21, 22, [], .null) :: x110_22
theorem ox110_21 : sx_oks 110 x110_21 := ⟨Or.inr ⟨_, (sx_dd bb_110 dX7_sumDifferences_21), rfl, rfl⟩, ox110_22⟩
def x110_21h : List sx_E := (.monitorenter, 21, 21, [0, 1, 2], .null) :: x110_21
theorem ox110_21h : sx_oks 110 x110_21h := ⟨trivial, ox110_21⟩
def x110_20 : List sx_E := (.istore 2, 20, 21, [], .null) :: x110_21h
theorem ox110_20 : sx_oks 110 x110_20 := ⟨⟨sx_lt mm_110 (Nat.le_of_ble_eq_true rfl), Or.inr ⟨_, (sx_dd bb_110 dX7_sumDifferences_20), rfl, rfl⟩⟩, ox110_21h⟩
def x110_19 : List sx_E := (.nop, 19, 20, [], .int (nI 0)) :: x110_20
theorem ox110_19 : sx_oks 110 x110_19 := ⟨sx_k_iconst (sx_dd bb_110 dX7_sumDifferences_19) (by decide +kernel), ox110_20⟩
def x110_16 : List sx_E := (.invokevirtual 178, 16, 19, [6, 2, 0, 0, 1], .null) :: x110_19
theorem ox110_16 : sx_oks 110 x110_16 := ⟨sx_q_V (w := (RX1, TX1, 11)) (sx_dd bb_110 dX7_sumDifferences_16) oo_110 lk_StrawGarrison_178_V ft_6_h (Nat.le_of_ble_eq_true rfl) rfl rfl, ox110_19⟩
def x110_13 : List sx_E := (.getfield 10, 13, 16, [6, 1, 1], .null) :: x110_16
theorem ox110_13 : sx_oks 110 x110_13 := ⟨sx_q_get (w := (RX7, TX7, 12)) (sx_dd bb_110 dX7_sumDifferences_13) rfl rfl (Nat.le_of_ble_eq_true rfl) cu_6 (sx_ow3 oo_110 fl_StrawGarrison_10) (by decide +kernel), ox110_16⟩
def x110_12 : List sx_E := (.aload 0, 12, 13, [], .null) :: x110_13
theorem ox110_12 : sx_oks 110 x110_12 := ⟨Or.inr ⟨_, (sx_dd bb_110 dX7_sumDifferences_12), rfl, rfl⟩, ox110_13⟩
def x110_9 : List sx_E := (.getfield 19, 9, 12, [6, 3, 1], .null) :: x110_12
theorem ox110_9 : sx_oks 110 x110_9 := ⟨sx_q_get (w := (RX7, TX7, 12)) (sx_dd bb_110 dX7_sumDifferences_9) rfl rfl (Nat.le_of_ble_eq_true rfl) cu_6 (sx_ow3 oo_110 fl_StrawGarrison_19) (by decide +kernel), ox110_12⟩
def x110_8 : List sx_E := (.aload 0, 8, 9, [], .null) :: x110_9
theorem ox110_8 : sx_oks 110 x110_8 := ⟨Or.inr ⟨_, (sx_dd bb_110 dX7_sumDifferences_8), rfl, rfl⟩, ox110_9⟩
def x110_5 : List sx_E := (.invokestatic 292, 5, 8, [226, 2, 0, 0], .null) :: x110_8
theorem ox110_5 : sx_oks 110 x110_5 := ⟨sx_q_S (sx_dd bb_110 dX7_sumDifferences_5) oo_110 lk_StrawGarrison_292_S ft_226_h, ox110_8⟩
def x110_4 : List sx_E := (.nop, 4, 5, [], .int (nI 0)) :: x110_5
theorem ox110_4 : sx_oks 110 x110_4 := ⟨sx_k_iconst (sx_dd bb_110 dX7_sumDifferences_4) (by decide +kernel), ox110_5⟩
def x110_1 : List sx_E := (.getfield 60, 1, 4, [6, 0, 1], .null) :: x110_4
theorem ox110_1 : sx_oks 110 x110_1 := ⟨sx_q_get (w := (RX7, TX7, 12)) (sx_dd bb_110 dX7_sumDifferences_1) rfl rfl (Nat.le_of_ble_eq_true rfl) cu_6 (sx_ow3 oo_110 fl_StrawGarrison_60) (by decide +kernel), ox110_4⟩
def x110_0 : List sx_E := (.aload 0, 0, 1, [], .null) :: x110_1
theorem ox110_0 : sx_oks 110 x110_0 := ⟨Or.inr ⟨_, (sx_dd bb_110 dX7_sumDifferences_0), rfl, rfl⟩, ox110_1⟩
theorem m110 : sx_mok 110 x110_0 := ⟨ox110_0, by decide +kernel⟩
theorem bb_111 : sx_by 111 = cX7_tapeNumber := rfl
theorem oo_111 : (sx_nm 111).cls = "StrawGarrison" := rfl
theorem mm_111 : sx_ml 111 = 3 := rfl
theorem rr_111 : sx_rt 111 = none := rfl
def x111_45 : List sx_E := (.return_, 45, 46, [], .null) :: []
theorem ox111_45 : sx_oks 111 x111_45 := ⟨⟨(sx_dd bb_111 dX7_tapeNumber_45), rr_111⟩, trivial⟩
def x111_42 : List sx_E := (.goto (-39), 42, 45, [3], .null) :: x111_45
theorem ox111_42 : sx_oks 111 x111_42 := ⟨⟨(sx_dd bb_111 dX7_tapeNumber_42), sx_t1 (by decide +kernel)⟩, ox111_45⟩
def x111_39 : List sx_E := (.iinc 2 (-8), 39, 42, [], .int ((-8))) :: x111_42
theorem ox111_39 : sx_oks 111 x111_39 := ⟨⟨sx_lt mm_111 (Nat.le_of_ble_eq_true rfl), (sx_dd bb_111 dX7_tapeNumber_39), rfl, by decide +kernel⟩, ox111_42⟩
def x111_36 : List sx_E := (.putfield 37, 36, 39, [6, 7, 0], .null) :: x111_39
theorem ox111_36 : sx_oks 111 x111_36 := ⟨sx_q_put (w := (RX7, TX7, 12)) (ty0 := tyX7) (sx_dd bb_111 dX7_tapeNumber_36) rfl (Nat.le_of_ble_eq_true rfl) cu_6 (sx_ow3 oo_111 fl_StrawGarrison_37) (by decide +kernel) tyX7_ok nmX7 (Or.inl rfl) (fun _ => rfl) (fun h => absurd h (by decide)) (fun h => absurd h (by decide)), ox111_39⟩
def x111_35 : List sx_E := (.iadd, 35, 36, [], .null) :: x111_36
theorem ox111_35 : sx_oks 111 x111_35 := ⟨⟨(sx_dd bb_111 dX7_tapeNumber_35), rfl⟩, ox111_36⟩
def x111_34 : List sx_E := (.nop, 34, 35, [], .int (nI 1)) :: x111_35
theorem ox111_34 : sx_oks 111 x111_34 := ⟨sx_k_iconst (sx_dd bb_111 dX7_tapeNumber_34) (by decide +kernel), ox111_35⟩
def x111_31 : List sx_E := (.getfield 37, 31, 34, [6, 7, 0], .null) :: x111_34
theorem ox111_31 : sx_oks 111 x111_31 := ⟨sx_q_get (w := (RX7, TX7, 12)) (sx_dd bb_111 dX7_tapeNumber_31) rfl rfl (Nat.le_of_ble_eq_true rfl) cu_6 (sx_ow3 oo_111 fl_StrawGarrison_37) (by decide +kernel), ox111_34⟩
def x111_30 : List sx_E := (.dup, 30, 31, [], .null) :: x111_31
theorem ox111_30 : sx_oks 111 x111_30 := ⟨⟨(sx_dd bb_111 dX7_tapeNumber_30), rfl⟩, ox111_31⟩
def x111_29 : List sx_E := (.aload 0, 29, 30, [], .null) :: x111_30
theorem ox111_29 : sx_oks 111 x111_29 := ⟨Or.inr ⟨_, (sx_dd bb_111 dX7_tapeNumber_29), rfl, rfl⟩, ox111_30⟩
def x111_28 : List sx_E := (.bastore, 28, 29, [], .null) :: x111_29
theorem ox111_28 : sx_oks 111 x111_28 := ⟨⟨(sx_dd bb_111 dX7_tapeNumber_28), rfl⟩, ox111_29⟩
def x111_27 : List sx_E := (.i2b, 27, 28, [], .null) :: x111_28
theorem ox111_27 : sx_oks 111 x111_27 := ⟨⟨(sx_dd bb_111 dX7_tapeNumber_27), rfl⟩, ox111_28⟩
def x111_26 : List sx_E := (.iushr, 26, 27, [], .null) :: x111_27
theorem ox111_26 : sx_oks 111 x111_26 := ⟨⟨(sx_dd bb_111 dX7_tapeNumber_26), rfl⟩, ox111_27⟩
def x111_25 : List sx_E := (.iload 2, 25, 26, [], .null) :: x111_26
theorem ox111_25 : sx_oks 111 x111_25 := ⟨Or.inr ⟨_, (sx_dd bb_111 dX7_tapeNumber_25), rfl, rfl⟩, ox111_26⟩
def x111_24 : List sx_E := (.iload 1, 24, 25, [], .null) :: x111_25
theorem ox111_24 : sx_oks 111 x111_24 := ⟨Or.inr ⟨_, (sx_dd bb_111 dX7_tapeNumber_24), rfl, rfl⟩, ox111_25⟩
def x111_21 : List sx_E := (.getfield 37, 21, 24, [6, 7, 0], .null) :: x111_24
theorem ox111_21 : sx_oks 111 x111_21 := ⟨sx_q_get (w := (RX7, TX7, 12)) (sx_dd bb_111 dX7_tapeNumber_21) rfl rfl (Nat.le_of_ble_eq_true rfl) cu_6 (sx_ow3 oo_111 fl_StrawGarrison_37) (by decide +kernel), ox111_24⟩
def x111_20 : List sx_E := (.aload 0, 20, 21, [], .null) :: x111_21
theorem ox111_20 : sx_oks 111 x111_20 := ⟨Or.inr ⟨_, (sx_dd bb_111 dX7_tapeNumber_20), rfl, rfl⟩, ox111_21⟩
def x111_17 : List sx_E := (.getfield 33, 17, 20, [6, 6, 1], .null) :: x111_20
theorem ox111_17 : sx_oks 111 x111_17 := ⟨sx_q_get (w := (RX7, TX7, 12)) (sx_dd bb_111 dX7_tapeNumber_17) rfl rfl (Nat.le_of_ble_eq_true rfl) cu_6 (sx_ow3 oo_111 fl_StrawGarrison_33) (by decide +kernel), ox111_20⟩
def x111_16 : List sx_E := (.aload 0, 16, 17, [], .null) :: x111_17
theorem ox111_16 : sx_oks 111 x111_16 := ⟨Or.inr ⟨_, (sx_dd bb_111 dX7_tapeNumber_16), rfl, rfl⟩, ox111_17⟩
def x111_13 : List sx_E := (.if_icmp .ge (32), 13, 16, [45], .null) :: x111_16
theorem ox111_13 : sx_oks 111 x111_13 := ⟨⟨(sx_dd bb_111 dX7_tapeNumber_13), rfl, sx_t1 (by decide +kernel)⟩, ox111_16⟩
def x111_11 : List sx_E := (.nop, 11, 13, [], .int (nI 96)) :: x111_13
theorem ox111_11 : sx_oks 111 x111_11 := ⟨sx_k_bipush (sx_dd bb_111 dX7_tapeNumber_11) (by decide +kernel), ox111_13⟩
def x111_8 : List sx_E := (.getfield 37, 8, 11, [6, 7, 0], .null) :: x111_11
theorem ox111_8 : sx_oks 111 x111_8 := ⟨sx_q_get (w := (RX7, TX7, 12)) (sx_dd bb_111 dX7_tapeNumber_8) rfl rfl (Nat.le_of_ble_eq_true rfl) cu_6 (sx_ow3 oo_111 fl_StrawGarrison_37) (by decide +kernel), ox111_11⟩
def x111_7 : List sx_E := (.aload 0, 7, 8, [], .null) :: x111_8
theorem ox111_7 : sx_oks 111 x111_7 := ⟨Or.inr ⟨_, (sx_dd bb_111 dX7_tapeNumber_7), rfl, rfl⟩, ox111_8⟩
def x111_4 : List sx_E := (.ifCond .lt (41), 4, 7, [45], .null) :: x111_7
theorem ox111_4 : sx_oks 111 x111_4 := ⟨⟨(sx_dd bb_111 dX7_tapeNumber_4), rfl, sx_t1 (by decide +kernel)⟩, ox111_7⟩
def x111_3 : List sx_E := (.iload 2, 3, 4, [], .null) :: x111_4
theorem ox111_3 : sx_oks 111 x111_3 := ⟨Or.inr ⟨_, (sx_dd bb_111 dX7_tapeNumber_3), rfl, rfl⟩, ox111_4⟩
def x111_3h : List sx_E := (.monitorenter, 3, 3, [0, 1, 2], .null) :: x111_3
theorem ox111_3h : sx_oks 111 x111_3h := ⟨trivial, ox111_3⟩
def x111_2 : List sx_E := (.istore 2, 2, 3, [], .null) :: x111_3h
theorem ox111_2 : sx_oks 111 x111_2 := ⟨⟨sx_lt mm_111 (Nat.le_of_ble_eq_true rfl), Or.inr ⟨_, (sx_dd bb_111 dX7_tapeNumber_2), rfl, rfl⟩⟩, ox111_3h⟩
def x111_0 : List sx_E := (.nop, 0, 2, [], .int (nI 24)) :: x111_2
theorem ox111_0 : sx_oks 111 x111_0 := ⟨sx_k_bipush (sx_dd bb_111 dX7_tapeNumber_0) (by decide +kernel), ox111_2⟩
theorem m111 : sx_mok 111 x111_0 := ⟨ox111_0, by decide +kernel⟩
theorem bb_112 : sx_by 112 = cX8_init := rfl
theorem oo_112 : (sx_nm 112).cls = "StrawGarrisonModel" := rfl
theorem mm_112 : sx_ml 112 = 2 := rfl
theorem rr_112 : sx_rt 112 = none := rfl
theorem cc_112 : sx_ct 112 := rfl
def x112_207 : List sx_E := (.return_, 207, 208, [], .null) :: []
theorem ox112_207 : sx_oks 112 x112_207 := ⟨⟨(sx_dd bb_112 dX8_init_207), rr_112⟩, trivial⟩
def x112_204 : List sx_E := (.goto (-15), 204, 207, [189], .null) :: x112_207
theorem ox112_204 : sx_oks 112 x112_204 := ⟨⟨(sx_dd bb_112 dX8_init_204), sx_t1 (by decide +kernel)⟩, ox112_207⟩
def x112_201 : List sx_E := (.iinc 1 (1), 201, 204, [], .int (nI 1)) :: x112_204
theorem ox112_201 : sx_oks 112 x112_201 := ⟨⟨sx_lt mm_112 (Nat.le_of_ble_eq_true rfl), (sx_dd bb_112 dX8_init_201), rfl, by decide +kernel⟩, ox112_204⟩
def x112_200 : List sx_E := (.iastore, 200, 201, [], .null) :: x112_201
theorem ox112_200 : sx_oks 112 x112_200 := ⟨⟨(sx_dd bb_112 dX8_init_200), rfl⟩, ox112_201⟩
def x112_199 : List sx_E := (.nop, 199, 200, [], .int ((-1))) :: x112_200
theorem ox112_199 : sx_oks 112 x112_199 := ⟨sx_k_iconst (sx_dd bb_112 dX8_init_199) (by decide +kernel), ox112_200⟩
def x112_198 : List sx_E := (.iload 1, 198, 199, [], .null) :: x112_199
theorem ox112_198 : sx_oks 112 x112_198 := ⟨Or.inr ⟨_, (sx_dd bb_112 dX8_init_198), rfl, rfl⟩, ox112_199⟩
def x112_195 : List sx_E := (.getfield 19, 195, 198, [7, 4, 1], .null) :: x112_198
theorem ox112_195 : sx_oks 112 x112_195 := ⟨sx_q_get (w := (RX8, TX8, 31)) (sx_dd bb_112 dX8_init_195) rfl rfl (Nat.le_of_ble_eq_true rfl) cu_7 (sx_ow3 oo_112 fl_StrawGarrisonModel_19) (by decide +kernel), ox112_198⟩
def x112_194 : List sx_E := (.aload 0, 194, 195, [], .null) :: x112_195
theorem ox112_194 : sx_oks 112 x112_194 := ⟨Or.inr ⟨_, (sx_dd bb_112 dX8_init_194), rfl, rfl⟩, ox112_195⟩
def x112_191 : List sx_E := (.if_icmp .ge (16), 191, 194, [207], .null) :: x112_194
theorem ox112_191 : sx_oks 112 x112_191 := ⟨⟨(sx_dd bb_112 dX8_init_191), rfl, sx_t1 (by decide +kernel)⟩, ox112_194⟩
def x112_190 : List sx_E := (.nop, 190, 191, [], .int (nI 4)) :: x112_191
theorem ox112_190 : sx_oks 112 x112_190 := ⟨sx_k_iconst (sx_dd bb_112 dX8_init_190) (by decide +kernel), ox112_191⟩
def x112_189 : List sx_E := (.iload 1, 189, 190, [], .null) :: x112_190
theorem ox112_189 : sx_oks 112 x112_189 := ⟨Or.inr ⟨_, (sx_dd bb_112 dX8_init_189), rfl, rfl⟩, ox112_190⟩
def x112_189h : List sx_E := (.monitorenter, 189, 189, [0, 1], .null) :: x112_189
theorem ox112_189h : sx_oks 112 x112_189h := ⟨trivial, ox112_189⟩
def x112_188 : List sx_E := (.istore 1, 188, 189, [], .null) :: x112_189h
theorem ox112_188 : sx_oks 112 x112_188 := ⟨⟨sx_lt mm_112 (Nat.le_of_ble_eq_true rfl), Or.inr ⟨_, (sx_dd bb_112 dX8_init_188), rfl, rfl⟩⟩, ox112_189h⟩
def x112_187 : List sx_E := (.nop, 187, 188, [], .int (nI 0)) :: x112_188
theorem ox112_187 : sx_oks 112 x112_187 := ⟨sx_k_iconst (sx_dd bb_112 dX8_init_187) (by decide +kernel), ox112_188⟩
def x112_186 : List sx_E := (.iastore, 186, 187, [], .null) :: x112_187
theorem ox112_186 : sx_oks 112 x112_186 := ⟨⟨(sx_dd bb_112 dX8_init_186), rfl⟩, ox112_187⟩
def x112_184 : List sx_E := (.nop, 184, 186, [], .int (nI 20)) :: x112_186
theorem ox112_184 : sx_oks 112 x112_184 := ⟨sx_k_bipush (sx_dd bb_112 dX8_init_184) (by decide +kernel), ox112_186⟩
def x112_182 : List sx_E := (.nop, 182, 184, [], .int (nI 6)) :: x112_184
theorem ox112_182 : sx_oks 112 x112_182 := ⟨sx_k_bipush (sx_dd bb_112 dX8_init_182) (by decide +kernel), ox112_184⟩
def x112_179 : List sx_E := (.getfield 7, 179, 182, [7, 0, 1], .null) :: x112_182
theorem ox112_179 : sx_oks 112 x112_179 := ⟨sx_q_get (w := (RX8, TX8, 31)) (sx_dd bb_112 dX8_init_179) rfl rfl (Nat.le_of_ble_eq_true rfl) cu_7 (sx_ow3 oo_112 fl_StrawGarrisonModel_7) (by decide +kernel), ox112_182⟩
def x112_178 : List sx_E := (.aload 0, 178, 179, [], .null) :: x112_179
theorem ox112_178 : sx_oks 112 x112_178 := ⟨Or.inr ⟨_, (sx_dd bb_112 dX8_init_178), rfl, rfl⟩, ox112_179⟩
def x112_177 : List sx_E := (.iastore, 177, 178, [], .null) :: x112_178
theorem ox112_177 : sx_oks 112 x112_177 := ⟨⟨(sx_dd bb_112 dX8_init_177), rfl⟩, ox112_178⟩
def x112_174 : List sx_E := (.nop, 174, 177, [], .int (nI 200)) :: x112_177
theorem ox112_174 : sx_oks 112 x112_174 := ⟨sx_k_sipush (sx_dd bb_112 dX8_init_174) (by decide +kernel), ox112_177⟩
def x112_173 : List sx_E := (.nop, 173, 174, [], .int (nI 5)) :: x112_174
theorem ox112_173 : sx_oks 112 x112_173 := ⟨sx_k_iconst (sx_dd bb_112 dX8_init_173) (by decide +kernel), ox112_174⟩
def x112_170 : List sx_E := (.getfield 7, 170, 173, [7, 0, 1], .null) :: x112_173
theorem ox112_170 : sx_oks 112 x112_170 := ⟨sx_q_get (w := (RX8, TX8, 31)) (sx_dd bb_112 dX8_init_170) rfl rfl (Nat.le_of_ble_eq_true rfl) cu_7 (sx_ow3 oo_112 fl_StrawGarrisonModel_7) (by decide +kernel), ox112_173⟩
def x112_169 : List sx_E := (.aload 0, 169, 170, [], .null) :: x112_170
theorem ox112_169 : sx_oks 112 x112_169 := ⟨Or.inr ⟨_, (sx_dd bb_112 dX8_init_169), rfl, rfl⟩, ox112_170⟩
def x112_168 : List sx_E := (.iastore, 168, 169, [], .null) :: x112_169
theorem ox112_168 : sx_oks 112 x112_168 := ⟨⟨(sx_dd bb_112 dX8_init_168), rfl⟩, ox112_169⟩
def x112_166 : List sx_E := (.nop, 166, 168, [], .int (nI 30)) :: x112_168
theorem ox112_166 : sx_oks 112 x112_166 := ⟨sx_k_bipush (sx_dd bb_112 dX8_init_166) (by decide +kernel), ox112_168⟩
def x112_165 : List sx_E := (.nop, 165, 166, [], .int (nI 4)) :: x112_166
theorem ox112_165 : sx_oks 112 x112_165 := ⟨sx_k_iconst (sx_dd bb_112 dX8_init_165) (by decide +kernel), ox112_166⟩
def x112_162 : List sx_E := (.getfield 7, 162, 165, [7, 0, 1], .null) :: x112_165
theorem ox112_162 : sx_oks 112 x112_162 := ⟨sx_q_get (w := (RX8, TX8, 31)) (sx_dd bb_112 dX8_init_162) rfl rfl (Nat.le_of_ble_eq_true rfl) cu_7 (sx_ow3 oo_112 fl_StrawGarrisonModel_7) (by decide +kernel), ox112_165⟩
def x112_161 : List sx_E := (.aload 0, 161, 162, [], .null) :: x112_162
theorem ox112_161 : sx_oks 112 x112_161 := ⟨Or.inr ⟨_, (sx_dd bb_112 dX8_init_161), rfl, rfl⟩, ox112_162⟩
def x112_160 : List sx_E := (.iastore, 160, 161, [], .null) :: x112_161
theorem ox112_160 : sx_oks 112 x112_160 := ⟨⟨(sx_dd bb_112 dX8_init_160), rfl⟩, ox112_161⟩
def x112_159 : List sx_E := (.nop, 159, 160, [], .int (nI 3)) :: x112_160
theorem ox112_159 : sx_oks 112 x112_159 := ⟨sx_k_iconst (sx_dd bb_112 dX8_init_159) (by decide +kernel), ox112_160⟩
def x112_158 : List sx_E := (.nop, 158, 159, [], .int (nI 3)) :: x112_159
theorem ox112_158 : sx_oks 112 x112_158 := ⟨sx_k_iconst (sx_dd bb_112 dX8_init_158) (by decide +kernel), ox112_159⟩
def x112_155 : List sx_E := (.getfield 7, 155, 158, [7, 0, 1], .null) :: x112_158
theorem ox112_155 : sx_oks 112 x112_155 := ⟨sx_q_get (w := (RX8, TX8, 31)) (sx_dd bb_112 dX8_init_155) rfl rfl (Nat.le_of_ble_eq_true rfl) cu_7 (sx_ow3 oo_112 fl_StrawGarrisonModel_7) (by decide +kernel), ox112_158⟩
def x112_154 : List sx_E := (.aload 0, 154, 155, [], .null) :: x112_155
theorem ox112_154 : sx_oks 112 x112_154 := ⟨Or.inr ⟨_, (sx_dd bb_112 dX8_init_154), rfl, rfl⟩, ox112_155⟩
def x112_153 : List sx_E := (.iastore, 153, 154, [], .null) :: x112_154
theorem ox112_153 : sx_oks 112 x112_153 := ⟨⟨(sx_dd bb_112 dX8_init_153), rfl⟩, ox112_154⟩
def x112_152 : List sx_E := (.nop, 152, 153, [], .int (nI 1)) :: x112_153
theorem ox112_152 : sx_oks 112 x112_152 := ⟨sx_k_iconst (sx_dd bb_112 dX8_init_152) (by decide +kernel), ox112_153⟩
def x112_150 : List sx_E := (.nop, 150, 152, [], .int (nI 11)) :: x112_152
theorem ox112_150 : sx_oks 112 x112_150 := ⟨sx_k_bipush (sx_dd bb_112 dX8_init_150) (by decide +kernel), ox112_152⟩
def x112_147 : List sx_E := (.getfield 7, 147, 150, [7, 0, 1], .null) :: x112_150
theorem ox112_147 : sx_oks 112 x112_147 := ⟨sx_q_get (w := (RX8, TX8, 31)) (sx_dd bb_112 dX8_init_147) rfl rfl (Nat.le_of_ble_eq_true rfl) cu_7 (sx_ow3 oo_112 fl_StrawGarrisonModel_7) (by decide +kernel), ox112_150⟩
def x112_146 : List sx_E := (.aload 0, 146, 147, [], .null) :: x112_147
theorem ox112_146 : sx_oks 112 x112_146 := ⟨Or.inr ⟨_, (sx_dd bb_112 dX8_init_146), rfl, rfl⟩, ox112_147⟩
def x112_143 : List sx_E := (.putfield 61, 143, 146, [7, 30, 1], .null) :: x112_146
theorem ox112_143 : sx_oks 112 x112_143 := ⟨sx_q_put (w := (RX8, TX8, 31)) (ty0 := tyX8) (sx_dd bb_112 dX8_init_143) rfl (Nat.le_of_ble_eq_true rfl) cu_7 (sx_ow3 oo_112 fl_StrawGarrisonModel_61) (by decide +kernel) tyX8_ok nmX8 (Or.inr ⟨rfl, cc_112, sx_ow0 oo_112 rfl⟩) (fun h => absurd h (by decide)) (fun h => absurd h (by decide)) (fun _ => Or.inr ⟨_, rfl⟩), ox112_146⟩
def x112_141 : List sx_E := (.newarray .int, 141, 143, [0, 60], .null) :: x112_143
theorem ox112_141 : sx_oks 112 x112_141 := ⟨sx_q_newa (sx_dd bb_112 dX8_init_141) (Nat.le_of_ble_eq_true rfl) (Or.inl ⟨rfl, rfl⟩) ca_0, ox112_143⟩
def x112_139 : List sx_E := (.nop, 139, 141, [], .int (nI 60)) :: x112_141
theorem ox112_139 : sx_oks 112 x112_139 := ⟨sx_k_bipush (sx_dd bb_112 dX8_init_139) (by decide +kernel), ox112_141⟩
def x112_138 : List sx_E := (.aload 0, 138, 139, [], .null) :: x112_139
theorem ox112_138 : sx_oks 112 x112_138 := ⟨Or.inr ⟨_, (sx_dd bb_112 dX8_init_138), rfl, rfl⟩, ox112_139⟩
def x112_135 : List sx_E := (.putfield 58, 135, 138, [7, 28, 1], .null) :: x112_138
theorem ox112_135 : sx_oks 112 x112_135 := ⟨sx_q_put (w := (RX8, TX8, 31)) (ty0 := tyX8) (sx_dd bb_112 dX8_init_135) rfl (Nat.le_of_ble_eq_true rfl) cu_7 (sx_ow3 oo_112 fl_StrawGarrisonModel_58) (by decide +kernel) tyX8_ok nmX8 (Or.inr ⟨rfl, cc_112, sx_ow0 oo_112 rfl⟩) (fun h => absurd h (by decide)) (fun h => absurd h (by decide)) (fun _ => Or.inr ⟨_, rfl⟩), ox112_138⟩
def x112_133 : List sx_E := (.newarray .int, 133, 135, [0, 60], .null) :: x112_135
theorem ox112_133 : sx_oks 112 x112_133 := ⟨sx_q_newa (sx_dd bb_112 dX8_init_133) (Nat.le_of_ble_eq_true rfl) (Or.inl ⟨rfl, rfl⟩) ca_0, ox112_135⟩
def x112_131 : List sx_E := (.nop, 131, 133, [], .int (nI 60)) :: x112_133
theorem ox112_131 : sx_oks 112 x112_131 := ⟨sx_k_bipush (sx_dd bb_112 dX8_init_131) (by decide +kernel), ox112_133⟩
def x112_130 : List sx_E := (.aload 0, 130, 131, [], .null) :: x112_131
theorem ox112_130 : sx_oks 112 x112_130 := ⟨Or.inr ⟨_, (sx_dd bb_112 dX8_init_130), rfl, rfl⟩, ox112_131⟩
def x112_127 : List sx_E := (.putfield 55, 127, 130, [7, 27, 1], .null) :: x112_130
theorem ox112_127 : sx_oks 112 x112_127 := ⟨sx_q_put (w := (RX8, TX8, 31)) (ty0 := tyX8) (sx_dd bb_112 dX8_init_127) rfl (Nat.le_of_ble_eq_true rfl) cu_7 (sx_ow3 oo_112 fl_StrawGarrisonModel_55) (by decide +kernel) tyX8_ok nmX8 (Or.inr ⟨rfl, cc_112, sx_ow0 oo_112 rfl⟩) (fun h => absurd h (by decide)) (fun h => absurd h (by decide)) (fun _ => Or.inr ⟨_, rfl⟩), ox112_130⟩
def x112_125 : List sx_E := (.newarray .int, 125, 127, [0, 24], .null) :: x112_127
theorem ox112_125 : sx_oks 112 x112_125 := ⟨sx_q_newa (sx_dd bb_112 dX8_init_125) (Nat.le_of_ble_eq_true rfl) (Or.inl ⟨rfl, rfl⟩) ca_0, ox112_127⟩
def x112_123 : List sx_E := (.nop, 123, 125, [], .int (nI 24)) :: x112_125
theorem ox112_123 : sx_oks 112 x112_123 := ⟨sx_k_bipush (sx_dd bb_112 dX8_init_123) (by decide +kernel), ox112_125⟩
def x112_122 : List sx_E := (.aload 0, 122, 123, [], .null) :: x112_123
theorem ox112_122 : sx_oks 112 x112_122 := ⟨Or.inr ⟨_, (sx_dd bb_112 dX8_init_122), rfl, rfl⟩, ox112_123⟩
def x112_119 : List sx_E := (.putfield 52, 119, 122, [7, 26, 1], .null) :: x112_122
theorem ox112_119 : sx_oks 112 x112_119 := ⟨sx_q_put (w := (RX8, TX8, 31)) (ty0 := tyX8) (sx_dd bb_112 dX8_init_119) rfl (Nat.le_of_ble_eq_true rfl) cu_7 (sx_ow3 oo_112 fl_StrawGarrisonModel_52) (by decide +kernel) tyX8_ok nmX8 (Or.inr ⟨rfl, cc_112, sx_ow0 oo_112 rfl⟩) (fun h => absurd h (by decide)) (fun h => absurd h (by decide)) (fun _ => Or.inr ⟨_, rfl⟩), ox112_122⟩
def x112_117 : List sx_E := (.newarray .int, 117, 119, [0, 100], .null) :: x112_119
theorem ox112_117 : sx_oks 112 x112_117 := ⟨sx_q_newa (sx_dd bb_112 dX8_init_117) (Nat.le_of_ble_eq_true rfl) (Or.inl ⟨rfl, rfl⟩) ca_0, ox112_119⟩
def x112_115 : List sx_E := (.nop, 115, 117, [], .int (nI 100)) :: x112_117
theorem ox112_115 : sx_oks 112 x112_115 := ⟨sx_k_bipush (sx_dd bb_112 dX8_init_115) (by decide +kernel), ox112_117⟩
def x112_114 : List sx_E := (.aload 0, 114, 115, [], .null) :: x112_115
theorem ox112_114 : sx_oks 112 x112_114 := ⟨Or.inr ⟨_, (sx_dd bb_112 dX8_init_114), rfl, rfl⟩, ox112_115⟩
def x112_111 : List sx_E := (.putfield 49, 111, 114, [7, 25, 1], .null) :: x112_114
theorem ox112_111 : sx_oks 112 x112_111 := ⟨sx_q_put (w := (RX8, TX8, 31)) (ty0 := tyX8) (sx_dd bb_112 dX8_init_111) rfl (Nat.le_of_ble_eq_true rfl) cu_7 (sx_ow3 oo_112 fl_StrawGarrisonModel_49) (by decide +kernel) tyX8_ok nmX8 (Or.inr ⟨rfl, cc_112, sx_ow0 oo_112 rfl⟩) (fun h => absurd h (by decide)) (fun h => absurd h (by decide)) (fun _ => Or.inr ⟨_, rfl⟩), ox112_114⟩
def x112_109 : List sx_E := (.newarray .int, 109, 111, [0, 128], .null) :: x112_111
theorem ox112_109 : sx_oks 112 x112_109 := ⟨sx_q_newa (sx_dd bb_112 dX8_init_109) (Nat.le_of_ble_eq_true rfl) (Or.inl ⟨rfl, rfl⟩) ca_0, ox112_111⟩
def x112_106 : List sx_E := (.nop, 106, 109, [], .int (nI 128)) :: x112_109
theorem ox112_106 : sx_oks 112 x112_106 := ⟨sx_k_sipush (sx_dd bb_112 dX8_init_106) (by decide +kernel), ox112_109⟩
def x112_105 : List sx_E := (.aload 0, 105, 106, [], .null) :: x112_106
theorem ox112_105 : sx_oks 112 x112_105 := ⟨Or.inr ⟨_, (sx_dd bb_112 dX8_init_105), rfl, rfl⟩, ox112_106⟩
def x112_102 : List sx_E := (.putfield 46, 102, 105, [7, 13, 1], .null) :: x112_105
theorem ox112_102 : sx_oks 112 x112_102 := ⟨sx_q_put (w := (RX8, TX8, 31)) (ty0 := tyX8) (sx_dd bb_112 dX8_init_102) rfl (Nat.le_of_ble_eq_true rfl) cu_7 (sx_ow3 oo_112 fl_StrawGarrisonModel_46) (by decide +kernel) tyX8_ok nmX8 (Or.inr ⟨rfl, cc_112, sx_ow0 oo_112 rfl⟩) (fun h => absurd h (by decide)) (fun h => absurd h (by decide)) (fun _ => Or.inr ⟨_, rfl⟩), ox112_105⟩
def x112_100 : List sx_E := (.newarray .int, 100, 102, [0, 96], .null) :: x112_102
theorem ox112_100 : sx_oks 112 x112_100 := ⟨sx_q_newa (sx_dd bb_112 dX8_init_100) (Nat.le_of_ble_eq_true rfl) (Or.inl ⟨rfl, rfl⟩) ca_0, ox112_102⟩
def x112_98 : List sx_E := (.nop, 98, 100, [], .int (nI 96)) :: x112_100
theorem ox112_98 : sx_oks 112 x112_98 := ⟨sx_k_bipush (sx_dd bb_112 dX8_init_98) (by decide +kernel), ox112_100⟩
def x112_97 : List sx_E := (.aload 0, 97, 98, [], .null) :: x112_98
theorem ox112_97 : sx_oks 112 x112_97 := ⟨Or.inr ⟨_, (sx_dd bb_112 dX8_init_97), rfl, rfl⟩, ox112_98⟩
def x112_94 : List sx_E := (.putfield 43, 94, 97, [7, 12, 1], .null) :: x112_97
theorem ox112_94 : sx_oks 112 x112_94 := ⟨sx_q_put (w := (RX8, TX8, 31)) (ty0 := tyX8) (sx_dd bb_112 dX8_init_94) rfl (Nat.le_of_ble_eq_true rfl) cu_7 (sx_ow3 oo_112 fl_StrawGarrisonModel_43) (by decide +kernel) tyX8_ok nmX8 (Or.inr ⟨rfl, cc_112, sx_ow0 oo_112 rfl⟩) (fun h => absurd h (by decide)) (fun h => absurd h (by decide)) (fun _ => Or.inr ⟨_, rfl⟩), ox112_97⟩
def x112_92 : List sx_E := (.newarray .int, 92, 94, [0, 62], .null) :: x112_94
theorem ox112_92 : sx_oks 112 x112_92 := ⟨sx_q_newa (sx_dd bb_112 dX8_init_92) (Nat.le_of_ble_eq_true rfl) (Or.inl ⟨rfl, rfl⟩) ca_0, ox112_94⟩
def x112_90 : List sx_E := (.nop, 90, 92, [], .int (nI 62)) :: x112_92
theorem ox112_90 : sx_oks 112 x112_90 := ⟨sx_k_bipush (sx_dd bb_112 dX8_init_90) (by decide +kernel), ox112_92⟩
def x112_89 : List sx_E := (.aload 0, 89, 90, [], .null) :: x112_90
theorem ox112_89 : sx_oks 112 x112_89 := ⟨Or.inr ⟨_, (sx_dd bb_112 dX8_init_89), rfl, rfl⟩, ox112_90⟩
def x112_86 : List sx_E := (.putfield 40, 86, 89, [7, 11, 1], .null) :: x112_89
theorem ox112_86 : sx_oks 112 x112_86 := ⟨sx_q_put (w := (RX8, TX8, 31)) (ty0 := tyX8) (sx_dd bb_112 dX8_init_86) rfl (Nat.le_of_ble_eq_true rfl) cu_7 (sx_ow3 oo_112 fl_StrawGarrisonModel_40) (by decide +kernel) tyX8_ok nmX8 (Or.inr ⟨rfl, cc_112, sx_ow0 oo_112 rfl⟩) (fun h => absurd h (by decide)) (fun h => absurd h (by decide)) (fun _ => Or.inr ⟨_, rfl⟩), ox112_89⟩
def x112_84 : List sx_E := (.newarray .int, 84, 86, [0, 120], .null) :: x112_86
theorem ox112_84 : sx_oks 112 x112_84 := ⟨sx_q_newa (sx_dd bb_112 dX8_init_84) (Nat.le_of_ble_eq_true rfl) (Or.inl ⟨rfl, rfl⟩) ca_0, ox112_86⟩
def x112_82 : List sx_E := (.nop, 82, 84, [], .int (nI 120)) :: x112_84
theorem ox112_82 : sx_oks 112 x112_82 := ⟨sx_k_bipush (sx_dd bb_112 dX8_init_82) (by decide +kernel), ox112_84⟩
def x112_81 : List sx_E := (.aload 0, 81, 82, [], .null) :: x112_82
theorem ox112_81 : sx_oks 112 x112_81 := ⟨Or.inr ⟨_, (sx_dd bb_112 dX8_init_81), rfl, rfl⟩, ox112_82⟩
def x112_78 : List sx_E := (.putfield 37, 78, 81, [7, 10, 1], .null) :: x112_81
theorem ox112_78 : sx_oks 112 x112_78 := ⟨sx_q_put (w := (RX8, TX8, 31)) (ty0 := tyX8) (sx_dd bb_112 dX8_init_78) rfl (Nat.le_of_ble_eq_true rfl) cu_7 (sx_ow3 oo_112 fl_StrawGarrisonModel_37) (by decide +kernel) tyX8_ok nmX8 (Or.inr ⟨rfl, cc_112, sx_ow0 oo_112 rfl⟩) (fun h => absurd h (by decide)) (fun h => absurd h (by decide)) (fun _ => Or.inr ⟨_, rfl⟩), ox112_81⟩
def x112_76 : List sx_E := (.newarray .int, 76, 78, [0, 5], .null) :: x112_78
theorem ox112_76 : sx_oks 112 x112_76 := ⟨sx_q_newa (sx_dd bb_112 dX8_init_76) (Nat.le_of_ble_eq_true rfl) (Or.inl ⟨rfl, rfl⟩) ca_0, ox112_78⟩
def x112_75 : List sx_E := (.nop, 75, 76, [], .int (nI 5)) :: x112_76
theorem ox112_75 : sx_oks 112 x112_75 := ⟨sx_k_iconst (sx_dd bb_112 dX8_init_75) (by decide +kernel), ox112_76⟩
def x112_74 : List sx_E := (.aload 0, 74, 75, [], .null) :: x112_75
theorem ox112_74 : sx_oks 112 x112_74 := ⟨Or.inr ⟨_, (sx_dd bb_112 dX8_init_74), rfl, rfl⟩, ox112_75⟩
def x112_71 : List sx_E := (.putfield 34, 71, 74, [7, 9, 1], .null) :: x112_74
theorem ox112_71 : sx_oks 112 x112_71 := ⟨sx_q_put (w := (RX8, TX8, 31)) (ty0 := tyX8) (sx_dd bb_112 dX8_init_71) rfl (Nat.le_of_ble_eq_true rfl) cu_7 (sx_ow3 oo_112 fl_StrawGarrisonModel_34) (by decide +kernel) tyX8_ok nmX8 (Or.inr ⟨rfl, cc_112, sx_ow0 oo_112 rfl⟩) (fun h => absurd h (by decide)) (fun h => absurd h (by decide)) (fun _ => Or.inr ⟨_, rfl⟩), ox112_74⟩
def x112_69 : List sx_E := (.newarray .int, 69, 71, [0, 5], .null) :: x112_71
theorem ox112_69 : sx_oks 112 x112_69 := ⟨sx_q_newa (sx_dd bb_112 dX8_init_69) (Nat.le_of_ble_eq_true rfl) (Or.inl ⟨rfl, rfl⟩) ca_0, ox112_71⟩
def x112_68 : List sx_E := (.nop, 68, 69, [], .int (nI 5)) :: x112_69
theorem ox112_68 : sx_oks 112 x112_68 := ⟨sx_k_iconst (sx_dd bb_112 dX8_init_68) (by decide +kernel), ox112_69⟩
def x112_67 : List sx_E := (.aload 0, 67, 68, [], .null) :: x112_68
theorem ox112_67 : sx_oks 112 x112_67 := ⟨Or.inr ⟨_, (sx_dd bb_112 dX8_init_67), rfl, rfl⟩, ox112_68⟩
def x112_64 : List sx_E := (.putfield 31, 64, 67, [7, 8, 1], .null) :: x112_67
theorem ox112_64 : sx_oks 112 x112_64 := ⟨sx_q_put (w := (RX8, TX8, 31)) (ty0 := tyX8) (sx_dd bb_112 dX8_init_64) rfl (Nat.le_of_ble_eq_true rfl) cu_7 (sx_ow3 oo_112 fl_StrawGarrisonModel_31) (by decide +kernel) tyX8_ok nmX8 (Or.inr ⟨rfl, cc_112, sx_ow0 oo_112 rfl⟩) (fun h => absurd h (by decide)) (fun h => absurd h (by decide)) (fun _ => Or.inr ⟨_, rfl⟩), ox112_67⟩
def x112_62 : List sx_E := (.newarray .int, 62, 64, [0, 5], .null) :: x112_64
theorem ox112_62 : sx_oks 112 x112_62 := ⟨sx_q_newa (sx_dd bb_112 dX8_init_62) (Nat.le_of_ble_eq_true rfl) (Or.inl ⟨rfl, rfl⟩) ca_0, ox112_64⟩
def x112_61 : List sx_E := (.nop, 61, 62, [], .int (nI 5)) :: x112_62
theorem ox112_61 : sx_oks 112 x112_61 := ⟨sx_k_iconst (sx_dd bb_112 dX8_init_61) (by decide +kernel), ox112_62⟩
def x112_60 : List sx_E := (.aload 0, 60, 61, [], .null) :: x112_61
theorem ox112_60 : sx_oks 112 x112_60 := ⟨Or.inr ⟨_, (sx_dd bb_112 dX8_init_60), rfl, rfl⟩, ox112_61⟩
def x112_57 : List sx_E := (.putfield 28, 57, 60, [7, 7, 1], .null) :: x112_60
theorem ox112_57 : sx_oks 112 x112_57 := ⟨sx_q_put (w := (RX8, TX8, 31)) (ty0 := tyX8) (sx_dd bb_112 dX8_init_57) rfl (Nat.le_of_ble_eq_true rfl) cu_7 (sx_ow3 oo_112 fl_StrawGarrisonModel_28) (by decide +kernel) tyX8_ok nmX8 (Or.inr ⟨rfl, cc_112, sx_ow0 oo_112 rfl⟩) (fun h => absurd h (by decide)) (fun h => absurd h (by decide)) (fun _ => Or.inr ⟨_, rfl⟩), ox112_60⟩
def x112_55 : List sx_E := (.newarray .int, 55, 57, [0, 5], .null) :: x112_57
theorem ox112_55 : sx_oks 112 x112_55 := ⟨sx_q_newa (sx_dd bb_112 dX8_init_55) (Nat.le_of_ble_eq_true rfl) (Or.inl ⟨rfl, rfl⟩) ca_0, ox112_57⟩
def x112_54 : List sx_E := (.nop, 54, 55, [], .int (nI 5)) :: x112_55
theorem ox112_54 : sx_oks 112 x112_54 := ⟨sx_k_iconst (sx_dd bb_112 dX8_init_54) (by decide +kernel), ox112_55⟩
def x112_53 : List sx_E := (.aload 0, 53, 54, [], .null) :: x112_54
theorem ox112_53 : sx_oks 112 x112_53 := ⟨Or.inr ⟨_, (sx_dd bb_112 dX8_init_53), rfl, rfl⟩, ox112_54⟩
def x112_50 : List sx_E := (.putfield 25, 50, 53, [7, 6, 1], .null) :: x112_53
theorem ox112_50 : sx_oks 112 x112_50 := ⟨sx_q_put (w := (RX8, TX8, 31)) (ty0 := tyX8) (sx_dd bb_112 dX8_init_50) rfl (Nat.le_of_ble_eq_true rfl) cu_7 (sx_ow3 oo_112 fl_StrawGarrisonModel_25) (by decide +kernel) tyX8_ok nmX8 (Or.inr ⟨rfl, cc_112, sx_ow0 oo_112 rfl⟩) (fun h => absurd h (by decide)) (fun h => absurd h (by decide)) (fun _ => Or.inr ⟨_, rfl⟩), ox112_53⟩
def x112_48 : List sx_E := (.newarray .int, 48, 50, [0, 96], .null) :: x112_50
theorem ox112_48 : sx_oks 112 x112_48 := ⟨sx_q_newa (sx_dd bb_112 dX8_init_48) (Nat.le_of_ble_eq_true rfl) (Or.inl ⟨rfl, rfl⟩) ca_0, ox112_50⟩
def x112_46 : List sx_E := (.nop, 46, 48, [], .int (nI 96)) :: x112_48
theorem ox112_46 : sx_oks 112 x112_46 := ⟨sx_k_bipush (sx_dd bb_112 dX8_init_46) (by decide +kernel), ox112_48⟩
def x112_45 : List sx_E := (.aload 0, 45, 46, [], .null) :: x112_46
theorem ox112_45 : sx_oks 112 x112_45 := ⟨Or.inr ⟨_, (sx_dd bb_112 dX8_init_45), rfl, rfl⟩, ox112_46⟩
def x112_42 : List sx_E := (.putfield 22, 42, 45, [7, 5, 1], .null) :: x112_45
theorem ox112_42 : sx_oks 112 x112_42 := ⟨sx_q_put (w := (RX8, TX8, 31)) (ty0 := tyX8) (sx_dd bb_112 dX8_init_42) rfl (Nat.le_of_ble_eq_true rfl) cu_7 (sx_ow3 oo_112 fl_StrawGarrisonModel_22) (by decide +kernel) tyX8_ok nmX8 (Or.inr ⟨rfl, cc_112, sx_ow0 oo_112 rfl⟩) (fun h => absurd h (by decide)) (fun h => absurd h (by decide)) (fun _ => Or.inr ⟨_, rfl⟩), ox112_45⟩
def x112_40 : List sx_E := (.newarray .int, 40, 42, [0, 4], .null) :: x112_42
theorem ox112_40 : sx_oks 112 x112_40 := ⟨sx_q_newa (sx_dd bb_112 dX8_init_40) (Nat.le_of_ble_eq_true rfl) (Or.inl ⟨rfl, rfl⟩) ca_0, ox112_42⟩
def x112_39 : List sx_E := (.nop, 39, 40, [], .int (nI 4)) :: x112_40
theorem ox112_39 : sx_oks 112 x112_39 := ⟨sx_k_iconst (sx_dd bb_112 dX8_init_39) (by decide +kernel), ox112_40⟩
def x112_38 : List sx_E := (.aload 0, 38, 39, [], .null) :: x112_39
theorem ox112_38 : sx_oks 112 x112_38 := ⟨Or.inr ⟨_, (sx_dd bb_112 dX8_init_38), rfl, rfl⟩, ox112_39⟩
def x112_35 : List sx_E := (.putfield 19, 35, 38, [7, 4, 1], .null) :: x112_38
theorem ox112_35 : sx_oks 112 x112_35 := ⟨sx_q_put (w := (RX8, TX8, 31)) (ty0 := tyX8) (sx_dd bb_112 dX8_init_35) rfl (Nat.le_of_ble_eq_true rfl) cu_7 (sx_ow3 oo_112 fl_StrawGarrisonModel_19) (by decide +kernel) tyX8_ok nmX8 (Or.inr ⟨rfl, cc_112, sx_ow0 oo_112 rfl⟩) (fun h => absurd h (by decide)) (fun h => absurd h (by decide)) (fun _ => Or.inr ⟨_, rfl⟩), ox112_38⟩
def x112_33 : List sx_E := (.newarray .int, 33, 35, [0, 4], .null) :: x112_35
theorem ox112_33 : sx_oks 112 x112_33 := ⟨sx_q_newa (sx_dd bb_112 dX8_init_33) (Nat.le_of_ble_eq_true rfl) (Or.inl ⟨rfl, rfl⟩) ca_0, ox112_35⟩
def x112_32 : List sx_E := (.nop, 32, 33, [], .int (nI 4)) :: x112_33
theorem ox112_32 : sx_oks 112 x112_32 := ⟨sx_k_iconst (sx_dd bb_112 dX8_init_32) (by decide +kernel), ox112_33⟩
def x112_31 : List sx_E := (.aload 0, 31, 32, [], .null) :: x112_32
theorem ox112_31 : sx_oks 112 x112_31 := ⟨Or.inr ⟨_, (sx_dd bb_112 dX8_init_31), rfl, rfl⟩, ox112_32⟩
def x112_28 : List sx_E := (.putfield 16, 28, 31, [7, 2, 1], .null) :: x112_31
theorem ox112_28 : sx_oks 112 x112_28 := ⟨sx_q_put (w := (RX8, TX8, 31)) (ty0 := tyX8) (sx_dd bb_112 dX8_init_28) rfl (Nat.le_of_ble_eq_true rfl) cu_7 (sx_ow3 oo_112 fl_StrawGarrisonModel_16) (by decide +kernel) tyX8_ok nmX8 (Or.inr ⟨rfl, cc_112, sx_ow0 oo_112 rfl⟩) (fun h => absurd h (by decide)) (fun h => absurd h (by decide)) (fun _ => Or.inr ⟨_, rfl⟩), ox112_31⟩
def x112_26 : List sx_E := (.newarray .int, 26, 28, [0, 3062], .null) :: x112_28
theorem ox112_26 : sx_oks 112 x112_26 := ⟨sx_q_newa (sx_dd bb_112 dX8_init_26) (Nat.le_of_ble_eq_true rfl) (Or.inl ⟨rfl, rfl⟩) ca_0, ox112_28⟩
def x112_23 : List sx_E := (.nop, 23, 26, [], .int (nI 3062)) :: x112_26
theorem ox112_23 : sx_oks 112 x112_23 := ⟨sx_k_sipush (sx_dd bb_112 dX8_init_23) (by decide +kernel), ox112_26⟩
def x112_22 : List sx_E := (.aload 0, 22, 23, [], .null) :: x112_23
theorem ox112_22 : sx_oks 112 x112_22 := ⟨Or.inr ⟨_, (sx_dd bb_112 dX8_init_22), rfl, rfl⟩, ox112_23⟩
def x112_19 : List sx_E := (.putfield 13, 19, 22, [7, 1, 1], .null) :: x112_22
theorem ox112_19 : sx_oks 112 x112_19 := ⟨sx_q_put (w := (RX8, TX8, 31)) (ty0 := tyX8) (sx_dd bb_112 dX8_init_19) rfl (Nat.le_of_ble_eq_true rfl) cu_7 (sx_ow3 oo_112 fl_StrawGarrisonModel_13) (by decide +kernel) tyX8_ok nmX8 (Or.inr ⟨rfl, cc_112, sx_ow0 oo_112 rfl⟩) (fun h => absurd h (by decide)) (fun h => absurd h (by decide)) (fun _ => Or.inr ⟨_, rfl⟩), ox112_22⟩
def x112_17 : List sx_E := (.newarray .int, 17, 19, [0, 3062], .null) :: x112_19
theorem ox112_17 : sx_oks 112 x112_17 := ⟨sx_q_newa (sx_dd bb_112 dX8_init_17) (Nat.le_of_ble_eq_true rfl) (Or.inl ⟨rfl, rfl⟩) ca_0, ox112_19⟩
def x112_14 : List sx_E := (.nop, 14, 17, [], .int (nI 3062)) :: x112_17
theorem ox112_14 : sx_oks 112 x112_14 := ⟨sx_k_sipush (sx_dd bb_112 dX8_init_14) (by decide +kernel), ox112_17⟩
def x112_13 : List sx_E := (.aload 0, 13, 14, [], .null) :: x112_14
theorem ox112_13 : sx_oks 112 x112_13 := ⟨Or.inr ⟨_, (sx_dd bb_112 dX8_init_13), rfl, rfl⟩, ox112_14⟩
def x112_10 : List sx_E := (.putfield 7, 10, 13, [7, 0, 1], .null) :: x112_13
theorem ox112_10 : sx_oks 112 x112_10 := ⟨sx_q_put (w := (RX8, TX8, 31)) (ty0 := tyX8) (sx_dd bb_112 dX8_init_10) rfl (Nat.le_of_ble_eq_true rfl) cu_7 (sx_ow3 oo_112 fl_StrawGarrisonModel_7) (by decide +kernel) tyX8_ok nmX8 (Or.inr ⟨rfl, cc_112, sx_ow0 oo_112 rfl⟩) (fun h => absurd h (by decide)) (fun h => absurd h (by decide)) (fun _ => Or.inr ⟨_, rfl⟩), ox112_13⟩
def x112_8 : List sx_E := (.newarray .int, 8, 10, [0, 3062], .null) :: x112_10
theorem ox112_8 : sx_oks 112 x112_8 := ⟨sx_q_newa (sx_dd bb_112 dX8_init_8) (Nat.le_of_ble_eq_true rfl) (Or.inl ⟨rfl, rfl⟩) ca_0, ox112_10⟩
def x112_5 : List sx_E := (.nop, 5, 8, [], .int (nI 3062)) :: x112_8
theorem ox112_5 : sx_oks 112 x112_5 := ⟨sx_k_sipush (sx_dd bb_112 dX8_init_5) (by decide +kernel), ox112_8⟩
def x112_4 : List sx_E := (.aload 0, 4, 5, [], .null) :: x112_5
theorem ox112_4 : sx_oks 112 x112_4 := ⟨Or.inr ⟨_, (sx_dd bb_112 dX8_init_4), rfl, rfl⟩, ox112_5⟩
def x112_1 : List sx_E := (.jsr 0, 1, 4, [], .null) :: x112_4
theorem ox112_1 : sx_oks 112 x112_1 := ⟨⟨1, (sx_dd bb_112 dX8_init_1), rfl, sx_ow5 oo_112 ob_StrawGarrisonModel_1, ob_i, ob_c⟩, ox112_4⟩
def x112_0 : List sx_E := (.aload 0, 0, 1, [], .null) :: x112_1
theorem ox112_0 : sx_oks 112 x112_0 := ⟨Or.inr ⟨_, (sx_dd bb_112 dX8_init_0), rfl, rfl⟩, ox112_1⟩
theorem m112 : sx_mok 112 x112_0 := ⟨ox112_0, by decide +kernel⟩
theorem bb_113 : sx_by 113 = cX8_isIn := rfl
theorem oo_113 : (sx_nm 113).cls = "StrawGarrisonModel" := rfl
theorem mm_113 : sx_ml 113 = 6 := rfl
theorem rr_113 : sx_rt 113 = (some .boolean) := rfl
def x113_18 : List sx_E := (.ireturn, 18, 19, [1], .null) :: []
theorem ox113_18 : sx_oks 113 x113_18 := ⟨sx_q_iret1 (sx_dd bb_113 dX8_isIn_18) rr_113, trivial⟩
def x113_17 : List sx_E := (.nop, 17, 18, [], .int (nI 0)) :: x113_18
theorem ox113_17 : sx_oks 113 x113_17 := ⟨sx_k_iconst (sx_dd bb_113 dX8_isIn_17) (by decide +kernel), ox113_18⟩
def x113_14 : List sx_E := (.goto (4), 14, 17, [18], .null) :: x113_17
theorem ox113_14 : sx_oks 113 x113_14 := ⟨⟨(sx_dd bb_113 dX8_isIn_14), sx_t1 (by decide +kernel)⟩, ox113_17⟩
def x113_13 : List sx_E := (.nop, 13, 14, [], .int (nI 1)) :: x113_14
theorem ox113_13 : sx_oks 113 x113_13 := ⟨sx_k_iconst (sx_dd bb_113 dX8_isIn_13) (by decide +kernel), ox113_14⟩
def x113_10 : List sx_E := (.ifCond .gt (7), 10, 13, [17], .null) :: x113_13
theorem ox113_10 : sx_oks 113 x113_10 := ⟨⟨(sx_dd bb_113 dX8_isIn_10), rfl, sx_t1 (by decide +kernel)⟩, ox113_13⟩
def x113_9 : List sx_E := (.lcmp, 9, 10, [], .null) :: x113_10
theorem ox113_9 : sx_oks 113 x113_9 := ⟨⟨(sx_dd bb_113 dX8_isIn_9), rfl⟩, ox113_10⟩
def x113_7 : List sx_E := (.lload 4, 7, 9, [], .null) :: x113_9
theorem ox113_7 : sx_oks 113 x113_7 := ⟨Or.inl ⟨(sx_dd bb_113 dX8_isIn_7), rfl⟩, ox113_9⟩
def x113_6 : List sx_E := (.lload 0, 6, 7, [], .null) :: x113_7
theorem ox113_6 : sx_oks 113 x113_6 := ⟨Or.inr ⟨_, (sx_dd bb_113 dX8_isIn_6), rfl, rfl⟩, ox113_7⟩
def x113_3 : List sx_E := (.ifCond .lt (14), 3, 6, [17], .null) :: x113_6
theorem ox113_3 : sx_oks 113 x113_3 := ⟨⟨(sx_dd bb_113 dX8_isIn_3), rfl, sx_t1 (by decide +kernel)⟩, ox113_6⟩
def x113_2 : List sx_E := (.lcmp, 2, 3, [], .null) :: x113_3
theorem ox113_2 : sx_oks 113 x113_2 := ⟨⟨(sx_dd bb_113 dX8_isIn_2), rfl⟩, ox113_3⟩
def x113_1 : List sx_E := (.lload 2, 1, 2, [], .null) :: x113_2
theorem ox113_1 : sx_oks 113 x113_1 := ⟨Or.inr ⟨_, (sx_dd bb_113 dX8_isIn_1), rfl, rfl⟩, ox113_2⟩
def x113_0 : List sx_E := (.lload 0, 0, 1, [], .null) :: x113_1
theorem ox113_0 : sx_oks 113 x113_0 := ⟨Or.inr ⟨_, (sx_dd bb_113 dX8_isIn_0), rfl, rfl⟩, ox113_1⟩
theorem m113 : sx_mok 113 x113_0 := ⟨ox113_0, by decide +kernel⟩
theorem bb_114 : sx_by 114 = cX8_orNone := rfl
theorem oo_114 : (sx_nm 114).cls = "StrawGarrisonModel" := rfl
theorem mm_114 : sx_ml 114 = 1 := rfl
theorem rr_114 : sx_rt 114 = (some .int) := rfl
def x114_10 : List sx_E := (.ireturn, 10, 11, [0], .null) :: []
theorem ox114_10 : sx_oks 114 x114_10 := ⟨sx_q_iret0 (sx_dd bb_114 dX8_orNone_10) rr_114, trivial⟩
def x114_9 : List sx_E := (.iload 0, 9, 10, [], .null) :: x114_10
theorem ox114_9 : sx_oks 114 x114_9 := ⟨Or.inr ⟨_, (sx_dd bb_114 dX8_orNone_9), rfl, rfl⟩, ox114_10⟩
def x114_6 : List sx_E := (.goto (4), 6, 9, [10], .null) :: x114_9
theorem ox114_6 : sx_oks 114 x114_6 := ⟨⟨(sx_dd bb_114 dX8_orNone_6), sx_t1 (by decide +kernel)⟩, ox114_9⟩
def x114_4 : List sx_E := (.nop, 4, 6, [], .int ((-1000000005))) :: x114_6
theorem ox114_4 : sx_oks 114 x114_4 := ⟨sx_k_ldc (sx_dd bb_114 dX8_orNone_4) (sx_ow1 oo_114 kc_StrawGarrisonModel_64), ox114_6⟩
def x114_1 : List sx_E := (.ifCond .ge (8), 1, 4, [9], .null) :: x114_4
theorem ox114_1 : sx_oks 114 x114_1 := ⟨⟨(sx_dd bb_114 dX8_orNone_1), rfl, sx_t1 (by decide +kernel)⟩, ox114_4⟩
def x114_0 : List sx_E := (.iload 0, 0, 1, [], .null) :: x114_1
theorem ox114_0 : sx_oks 114 x114_0 := ⟨Or.inr ⟨_, (sx_dd bb_114 dX8_orNone_0), rfl, rfl⟩, ox114_1⟩
theorem m114 : sx_mok 114 x114_0 := ⟨ox114_0, by decide +kernel⟩
theorem bb_115 : sx_by 115 = cX8_within := rfl
theorem oo_115 : (sx_nm 115).cls = "StrawGarrisonModel" := rfl
theorem mm_115 : sx_ml 115 = 2 := rfl
theorem rr_115 : sx_rt 115 = (some .int) := rfl
def x115_18 : List sx_E := (.ireturn, 18, 19, [0], .null) :: []
theorem ox115_18 : sx_oks 115 x115_18 := ⟨sx_q_iret0 (sx_dd bb_115 dX8_within_18) rr_115, trivial⟩
def x115_17 : List sx_E := (.iload 0, 17, 18, [], .null) :: x115_18
theorem ox115_17 : sx_oks 115 x115_17 := ⟨Or.inr ⟨_, (sx_dd bb_115 dX8_within_17), rfl, rfl⟩, ox115_18⟩
def x115_14 : List sx_E := (.goto (4), 14, 17, [18], .null) :: x115_17
theorem ox115_14 : sx_oks 115 x115_14 := ⟨⟨(sx_dd bb_115 dX8_within_14), sx_t1 (by decide +kernel)⟩, ox115_17⟩
def x115_13 : List sx_E := (.iload 1, 13, 14, [], .null) :: x115_14
theorem ox115_13 : sx_oks 115 x115_13 := ⟨Or.inr ⟨_, (sx_dd bb_115 dX8_within_13), rfl, rfl⟩, ox115_14⟩
def x115_10 : List sx_E := (.if_icmp .le (7), 10, 13, [17], .null) :: x115_13
theorem ox115_10 : sx_oks 115 x115_10 := ⟨⟨(sx_dd bb_115 dX8_within_10), rfl, sx_t1 (by decide +kernel)⟩, ox115_13⟩
def x115_9 : List sx_E := (.iload 1, 9, 10, [], .null) :: x115_10
theorem ox115_9 : sx_oks 115 x115_9 := ⟨Or.inr ⟨_, (sx_dd bb_115 dX8_within_9), rfl, rfl⟩, ox115_10⟩
def x115_8 : List sx_E := (.iload 0, 8, 9, [], .null) :: x115_9
theorem ox115_8 : sx_oks 115 x115_8 := ⟨Or.inr ⟨_, (sx_dd bb_115 dX8_within_8), rfl, rfl⟩, ox115_9⟩
def x115_5 : List sx_E := (.goto (13), 5, 8, [18], .null) :: x115_8
theorem ox115_5 : sx_oks 115 x115_5 := ⟨⟨(sx_dd bb_115 dX8_within_5), sx_t1 (by decide +kernel)⟩, ox115_8⟩
def x115_4 : List sx_E := (.nop, 4, 5, [], .int (nI 0)) :: x115_5
theorem ox115_4 : sx_oks 115 x115_4 := ⟨sx_k_iconst (sx_dd bb_115 dX8_within_4) (by decide +kernel), ox115_5⟩
def x115_1 : List sx_E := (.ifCond .ge (7), 1, 4, [8], .null) :: x115_4
theorem ox115_1 : sx_oks 115 x115_1 := ⟨⟨(sx_dd bb_115 dX8_within_1), rfl, sx_t1 (by decide +kernel)⟩, ox115_4⟩
def x115_0 : List sx_E := (.iload 0, 0, 1, [], .null) :: x115_1
theorem ox115_0 : sx_oks 115 x115_0 := ⟨Or.inr ⟨_, (sx_dd bb_115 dX8_within_0), rfl, rfl⟩, ox115_1⟩
theorem m115 : sx_mok 115 x115_0 := ⟨ox115_0, by decide +kernel⟩
theorem bb_116 : sx_by 116 = cX8_off := rfl
theorem oo_116 : (sx_nm 116).cls = "StrawGarrisonModel" := rfl
theorem mm_116 : sx_ml 116 = 2 := rfl
theorem rr_116 : sx_rt 116 = (some .int) := rfl
def x116_14 : List sx_E := (.ireturn, 14, 15, [0], .null) :: []
theorem ox116_14 : sx_oks 116 x116_14 := ⟨sx_q_iret0 (sx_dd bb_116 dX8_off_14) rr_116, trivial⟩
def x116_13 : List sx_E := (.isub, 13, 14, [], .null) :: x116_14
theorem ox116_13 : sx_oks 116 x116_13 := ⟨⟨(sx_dd bb_116 dX8_off_13), rfl⟩, ox116_14⟩
def x116_12 : List sx_E := (.iload 1, 12, 13, [], .null) :: x116_13
theorem ox116_12 : sx_oks 116 x116_12 := ⟨Or.inr ⟨_, (sx_dd bb_116 dX8_off_12), rfl, rfl⟩, ox116_13⟩
def x116_11 : List sx_E := (.iload 0, 11, 12, [], .null) :: x116_12
theorem ox116_11 : sx_oks 116 x116_11 := ⟨Or.inr ⟨_, (sx_dd bb_116 dX8_off_11), rfl, rfl⟩, ox116_12⟩
def x116_8 : List sx_E := (.goto (6), 8, 11, [14], .null) :: x116_11
theorem ox116_8 : sx_oks 116 x116_8 := ⟨⟨(sx_dd bb_116 dX8_off_8), sx_t1 (by decide +kernel)⟩, ox116_11⟩
def x116_7 : List sx_E := (.isub, 7, 8, [], .null) :: x116_8
theorem ox116_7 : sx_oks 116 x116_7 := ⟨⟨(sx_dd bb_116 dX8_off_7), rfl⟩, ox116_8⟩
def x116_6 : List sx_E := (.iload 0, 6, 7, [], .null) :: x116_7
theorem ox116_6 : sx_oks 116 x116_6 := ⟨Or.inr ⟨_, (sx_dd bb_116 dX8_off_6), rfl, rfl⟩, ox116_7⟩
def x116_5 : List sx_E := (.iload 1, 5, 6, [], .null) :: x116_6
theorem ox116_5 : sx_oks 116 x116_5 := ⟨Or.inr ⟨_, (sx_dd bb_116 dX8_off_5), rfl, rfl⟩, ox116_6⟩
def x116_2 : List sx_E := (.if_icmp .ge (9), 2, 5, [11], .null) :: x116_5
theorem ox116_2 : sx_oks 116 x116_2 := ⟨⟨(sx_dd bb_116 dX8_off_2), rfl, sx_t1 (by decide +kernel)⟩, ox116_5⟩
def x116_1 : List sx_E := (.iload 1, 1, 2, [], .null) :: x116_2
theorem ox116_1 : sx_oks 116 x116_1 := ⟨Or.inr ⟨_, (sx_dd bb_116 dX8_off_1), rfl, rfl⟩, ox116_2⟩
def x116_0 : List sx_E := (.iload 0, 0, 1, [], .null) :: x116_1
theorem ox116_0 : sx_oks 116 x116_0 := ⟨Or.inr ⟨_, (sx_dd bb_116 dX8_off_0), rfl, rfl⟩, ox116_1⟩
theorem m116 : sx_mok 116 x116_0 := ⟨ox116_0, by decide +kernel⟩
theorem bb_117 : sx_by 117 = cX8_changes := rfl
theorem oo_117 : (sx_nm 117).cls = "StrawGarrisonModel" := rfl
theorem mm_117 : sx_ml 117 = 4 := rfl
theorem rr_117 : sx_rt 117 = (some .int) := rfl
def x117_15 : List sx_E := (.ireturn, 15, 16, [0], .null) :: []
theorem ox117_15 : sx_oks 117 x117_15 := ⟨sx_q_iret0 (sx_dd bb_117 dX8_changes_15) rr_117, trivial⟩
def x117_14 : List sx_E := (.iload 3, 14, 15, [], .null) :: x117_15
theorem ox117_14 : sx_oks 117 x117_14 := ⟨Or.inr ⟨_, (sx_dd bb_117 dX8_changes_14), rfl, rfl⟩, ox117_15⟩
def x117_13 : List sx_E := (.iastore, 13, 14, [], .null) :: x117_14
theorem ox117_13 : sx_oks 117 x117_13 := ⟨⟨(sx_dd bb_117 dX8_changes_13), rfl⟩, ox117_14⟩
def x117_12 : List sx_E := (.iload 2, 12, 13, [], .null) :: x117_13
theorem ox117_12 : sx_oks 117 x117_12 := ⟨Or.inr ⟨_, (sx_dd bb_117 dX8_changes_12), rfl, rfl⟩, ox117_13⟩
def x117_11 : List sx_E := (.iload 1, 11, 12, [], .null) :: x117_12
theorem ox117_11 : sx_oks 117 x117_11 := ⟨Or.inr ⟨_, (sx_dd bb_117 dX8_changes_11), rfl, rfl⟩, ox117_12⟩
def x117_8 : List sx_E := (.getfield 7, 8, 11, [7, 0, 1], .null) :: x117_11
theorem ox117_8 : sx_oks 117 x117_8 := ⟨sx_q_get (w := (RX8, TX8, 31)) (sx_dd bb_117 dX8_changes_8) rfl rfl (Nat.le_of_ble_eq_true rfl) cu_7 (sx_ow3 oo_117 fl_StrawGarrisonModel_7) (by decide +kernel), ox117_11⟩
def x117_7 : List sx_E := (.aload 0, 7, 8, [], .null) :: x117_8
theorem ox117_7 : sx_oks 117 x117_7 := ⟨Or.inr ⟨_, (sx_dd bb_117 dX8_changes_7), rfl, rfl⟩, ox117_8⟩
def x117_6 : List sx_E := (.istore 3, 6, 7, [], .null) :: x117_7
theorem ox117_6 : sx_oks 117 x117_6 := ⟨⟨sx_lt mm_117 (Nat.le_of_ble_eq_true rfl), Or.inr ⟨_, (sx_dd bb_117 dX8_changes_6), rfl, rfl⟩⟩, ox117_7⟩
def x117_5 : List sx_E := (.iaload, 5, 6, [], .null) :: x117_6
theorem ox117_5 : sx_oks 117 x117_5 := ⟨⟨(sx_dd bb_117 dX8_changes_5), rfl⟩, ox117_6⟩
def x117_4 : List sx_E := (.iload 1, 4, 5, [], .null) :: x117_5
theorem ox117_4 : sx_oks 117 x117_4 := ⟨Or.inr ⟨_, (sx_dd bb_117 dX8_changes_4), rfl, rfl⟩, ox117_5⟩
def x117_1 : List sx_E := (.getfield 7, 1, 4, [7, 0, 1], .null) :: x117_4
theorem ox117_1 : sx_oks 117 x117_1 := ⟨sx_q_get (w := (RX8, TX8, 31)) (sx_dd bb_117 dX8_changes_1) rfl rfl (Nat.le_of_ble_eq_true rfl) cu_7 (sx_ow3 oo_117 fl_StrawGarrisonModel_7) (by decide +kernel), ox117_4⟩
def x117_0 : List sx_E := (.aload 0, 0, 1, [], .null) :: x117_1
theorem ox117_0 : sx_oks 117 x117_0 := ⟨Or.inr ⟨_, (sx_dd bb_117 dX8_changes_0), rfl, rfl⟩, ox117_1⟩
theorem m117 : sx_mok 117 x117_0 := ⟨ox117_0, by decide +kernel⟩
theorem bb_118 : sx_by 118 = cX8_textAt := rfl
theorem oo_118 : (sx_nm 118).cls = "StrawGarrisonModel" := rfl
theorem mm_118 : sx_ml 118 = 2 := rfl
theorem rr_118 : sx_rt 118 = (some .int) := rfl
def x118_8 : List sx_E := (.ireturn, 8, 9, [0], .null) :: []
theorem ox118_8 : sx_oks 118 x118_8 := ⟨sx_q_iret0 (sx_dd bb_118 dX8_textAt_8) rr_118, trivial⟩
def x118_7 : List sx_E := (.iadd, 7, 8, [], .null) :: x118_8
theorem ox118_7 : sx_oks 118 x118_7 := ⟨⟨(sx_dd bb_118 dX8_textAt_7), rfl⟩, ox118_8⟩
def x118_6 : List sx_E := (.imul, 6, 7, [], .null) :: x118_7
theorem ox118_6 : sx_oks 118 x118_6 := ⟨⟨(sx_dd bb_118 dX8_textAt_6), rfl⟩, ox118_7⟩
def x118_5 : List sx_E := (.iload 1, 5, 6, [], .null) :: x118_6
theorem ox118_5 : sx_oks 118 x118_5 := ⟨Or.inr ⟨_, (sx_dd bb_118 dX8_textAt_5), rfl, rfl⟩, ox118_6⟩
def x118_2 : List sx_E := (.nop, 2, 5, [], .int (nI 200)) :: x118_5
theorem ox118_2 : sx_oks 118 x118_2 := ⟨sx_k_sipush (sx_dd bb_118 dX8_textAt_2) (by decide +kernel), ox118_5⟩
def x118_0 : List sx_E := (.nop, 0, 2, [], .int (nI 62)) :: x118_2
theorem ox118_0 : sx_oks 118 x118_0 := ⟨sx_k_bipush (sx_dd bb_118 dX8_textAt_0) (by decide +kernel), ox118_2⟩
theorem m118 : sx_mok 118 x118_0 := ⟨ox118_0, by decide +kernel⟩
theorem bb_119 : sx_by 119 = cX8_of := rfl
theorem oo_119 : (sx_nm 119).cls = "StrawGarrisonModel" := rfl
theorem mm_119 : sx_ml 119 = 3 := rfl
theorem rr_119 : sx_rt 119 = (some .int) := rfl
def x119_13 : List sx_E := (.ireturn, 13, 14, [0], .null) :: []
theorem ox119_13 : sx_oks 119 x119_13 := ⟨sx_q_iret0 (sx_dd bb_119 dX8_of_13) rr_119, trivial⟩
def x119_12 : List sx_E := (.iaload, 12, 13, [], .null) :: x119_13
theorem ox119_12 : sx_oks 119 x119_12 := ⟨⟨(sx_dd bb_119 dX8_of_12), rfl⟩, ox119_13⟩
def x119_11 : List sx_E := (.iadd, 11, 12, [], .null) :: x119_12
theorem ox119_11 : sx_oks 119 x119_11 := ⟨⟨(sx_dd bb_119 dX8_of_11), rfl⟩, ox119_12⟩
def x119_10 : List sx_E := (.iload 2, 10, 11, [], .null) :: x119_11
theorem ox119_10 : sx_oks 119 x119_10 := ⟨Or.inr ⟨_, (sx_dd bb_119 dX8_of_10), rfl, rfl⟩, ox119_11⟩
def x119_9 : List sx_E := (.iadd, 9, 10, [], .null) :: x119_10
theorem ox119_9 : sx_oks 119 x119_9 := ⟨⟨(sx_dd bb_119 dX8_of_9), rfl⟩, ox119_10⟩
def x119_8 : List sx_E := (.imul, 8, 9, [], .null) :: x119_9
theorem ox119_8 : sx_oks 119 x119_8 := ⟨⟨(sx_dd bb_119 dX8_of_8), rfl⟩, ox119_9⟩
def x119_7 : List sx_E := (.iload 1, 7, 8, [], .null) :: x119_8
theorem ox119_7 : sx_oks 119 x119_7 := ⟨Or.inr ⟨_, (sx_dd bb_119 dX8_of_7), rfl, rfl⟩, ox119_8⟩
def x119_6 : List sx_E := (.nop, 6, 7, [], .int (nI 5)) :: x119_7
theorem ox119_6 : sx_oks 119 x119_6 := ⟨sx_k_iconst (sx_dd bb_119 dX8_of_6) (by decide +kernel), ox119_7⟩
def x119_4 : List sx_E := (.nop, 4, 6, [], .int (nI 12)) :: x119_6
theorem ox119_4 : sx_oks 119 x119_4 := ⟨sx_k_bipush (sx_dd bb_119 dX8_of_4) (by decide +kernel), ox119_6⟩
def x119_1 : List sx_E := (.getfield 7, 1, 4, [7, 0, 1], .null) :: x119_4
theorem ox119_1 : sx_oks 119 x119_1 := ⟨sx_q_get (w := (RX8, TX8, 31)) (sx_dd bb_119 dX8_of_1) rfl rfl (Nat.le_of_ble_eq_true rfl) cu_7 (sx_ow3 oo_119 fl_StrawGarrisonModel_7) (by decide +kernel), ox119_4⟩
def x119_0 : List sx_E := (.aload 0, 0, 1, [], .null) :: x119_1
theorem ox119_0 : sx_oks 119 x119_0 := ⟨Or.inr ⟨_, (sx_dd bb_119 dX8_of_0), rfl, rfl⟩, ox119_1⟩
theorem m119 : sx_mok 119 x119_0 := ⟨ox119_0, by decide +kernel⟩
theorem bb_120 : sx_by 120 = cX8_sets := rfl
theorem oo_120 : (sx_nm 120).cls = "StrawGarrisonModel" := rfl
theorem mm_120 : sx_ml 120 = 4 := rfl
theorem rr_120 : sx_rt 120 = none := rfl
def x120_14 : List sx_E := (.return_, 14, 15, [], .null) :: []
theorem ox120_14 : sx_oks 120 x120_14 := ⟨⟨(sx_dd bb_120 dX8_sets_14), rr_120⟩, trivial⟩
def x120_13 : List sx_E := (.iastore, 13, 14, [], .null) :: x120_14
theorem ox120_13 : sx_oks 120 x120_13 := ⟨⟨(sx_dd bb_120 dX8_sets_13), rfl⟩, ox120_14⟩
def x120_12 : List sx_E := (.iload 3, 12, 13, [], .null) :: x120_13
theorem ox120_12 : sx_oks 120 x120_12 := ⟨Or.inr ⟨_, (sx_dd bb_120 dX8_sets_12), rfl, rfl⟩, ox120_13⟩
def x120_11 : List sx_E := (.iadd, 11, 12, [], .null) :: x120_12
theorem ox120_11 : sx_oks 120 x120_11 := ⟨⟨(sx_dd bb_120 dX8_sets_11), rfl⟩, ox120_12⟩
def x120_10 : List sx_E := (.iload 2, 10, 11, [], .null) :: x120_11
theorem ox120_10 : sx_oks 120 x120_10 := ⟨Or.inr ⟨_, (sx_dd bb_120 dX8_sets_10), rfl, rfl⟩, ox120_11⟩
def x120_9 : List sx_E := (.iadd, 9, 10, [], .null) :: x120_10
theorem ox120_9 : sx_oks 120 x120_9 := ⟨⟨(sx_dd bb_120 dX8_sets_9), rfl⟩, ox120_10⟩
def x120_8 : List sx_E := (.imul, 8, 9, [], .null) :: x120_9
theorem ox120_8 : sx_oks 120 x120_8 := ⟨⟨(sx_dd bb_120 dX8_sets_8), rfl⟩, ox120_9⟩
def x120_7 : List sx_E := (.iload 1, 7, 8, [], .null) :: x120_8
theorem ox120_7 : sx_oks 120 x120_7 := ⟨Or.inr ⟨_, (sx_dd bb_120 dX8_sets_7), rfl, rfl⟩, ox120_8⟩
def x120_6 : List sx_E := (.nop, 6, 7, [], .int (nI 5)) :: x120_7
theorem ox120_6 : sx_oks 120 x120_6 := ⟨sx_k_iconst (sx_dd bb_120 dX8_sets_6) (by decide +kernel), ox120_7⟩
def x120_4 : List sx_E := (.nop, 4, 6, [], .int (nI 12)) :: x120_6
theorem ox120_4 : sx_oks 120 x120_4 := ⟨sx_k_bipush (sx_dd bb_120 dX8_sets_4) (by decide +kernel), ox120_6⟩
def x120_1 : List sx_E := (.getfield 7, 1, 4, [7, 0, 1], .null) :: x120_4
theorem ox120_1 : sx_oks 120 x120_1 := ⟨sx_q_get (w := (RX8, TX8, 31)) (sx_dd bb_120 dX8_sets_1) rfl rfl (Nat.le_of_ble_eq_true rfl) cu_7 (sx_ow3 oo_120 fl_StrawGarrisonModel_7) (by decide +kernel), ox120_4⟩
def x120_0 : List sx_E := (.aload 0, 0, 1, [], .null) :: x120_1
theorem ox120_0 : sx_oks 120 x120_0 := ⟨Or.inr ⟨_, (sx_dd bb_120 dX8_sets_0), rfl, rfl⟩, ox120_1⟩
theorem m120 : sx_mok 120 x120_0 := ⟨ox120_0, by decide +kernel⟩
theorem bb_121 : sx_by 121 = cX8_isGuard := rfl
theorem oo_121 : (sx_nm 121).cls = "StrawGarrisonModel" := rfl
theorem mm_121 : sx_ml 121 = 2 := rfl
theorem rr_121 : sx_rt 121 = (some .boolean) := rfl
def x121_15 : List sx_E := (.ireturn, 15, 16, [1], .null) :: []
theorem ox121_15 : sx_oks 121 x121_15 := ⟨sx_q_iret1 (sx_dd bb_121 dX8_isGuard_15) rr_121, trivial⟩
def x121_12 : List sx_E := (.invokestatic 65, 12, 15, [113, 3, 0, 0], .null) :: x121_15
theorem ox121_12 : sx_oks 121 x121_12 := ⟨sx_q_S (sx_dd bb_121 dX8_isGuard_12) oo_121 lk_StrawGarrisonModel_65_S ft_113_h, ox121_15⟩
def x121_11 : List sx_E := (.i2l, 11, 12, [], .null) :: x121_12
theorem ox121_11 : sx_oks 121 x121_11 := ⟨⟨(sx_dd bb_121 dX8_isGuard_11), rfl⟩, ox121_12⟩
def x121_10 : List sx_E := (.isub, 10, 11, [], .null) :: x121_11
theorem ox121_10 : sx_oks 121 x121_10 := ⟨⟨(sx_dd bb_121 dX8_isGuard_10), rfl⟩, ox121_11⟩
def x121_9 : List sx_E := (.nop, 9, 10, [], .int (nI 1)) :: x121_10
theorem ox121_9 : sx_oks 121 x121_9 := ⟨sx_k_iconst (sx_dd bb_121 dX8_isGuard_9) (by decide +kernel), ox121_10⟩
def x121_8 : List sx_E := (.iaload, 8, 9, [], .null) :: x121_9
theorem ox121_8 : sx_oks 121 x121_8 := ⟨⟨(sx_dd bb_121 dX8_isGuard_8), rfl⟩, ox121_9⟩
def x121_7 : List sx_E := (.nop, 7, 8, [], .int (nI 0)) :: x121_8
theorem ox121_7 : sx_oks 121 x121_7 := ⟨sx_k_iconst (sx_dd bb_121 dX8_isGuard_7) (by decide +kernel), ox121_8⟩
def x121_4 : List sx_E := (.getfield 7, 4, 7, [7, 0, 1], .null) :: x121_7
theorem ox121_4 : sx_oks 121 x121_4 := ⟨sx_q_get (w := (RX8, TX8, 31)) (sx_dd bb_121 dX8_isGuard_4) rfl rfl (Nat.le_of_ble_eq_true rfl) cu_7 (sx_ow3 oo_121 fl_StrawGarrisonModel_7) (by decide +kernel), ox121_7⟩
def x121_3 : List sx_E := (.aload 0, 3, 4, [], .null) :: x121_4
theorem ox121_3 : sx_oks 121 x121_3 := ⟨Or.inr ⟨_, (sx_dd bb_121 dX8_isGuard_3), rfl, rfl⟩, ox121_4⟩
def x121_2 : List sx_E := (.nop, 2, 3, [], .long (0)) :: x121_3
theorem ox121_2 : sx_oks 121 x121_2 := ⟨sx_k_lconst (sx_dd bb_121 dX8_isGuard_2) (by decide +kernel), ox121_3⟩
def x121_1 : List sx_E := (.i2l, 1, 2, [], .null) :: x121_2
theorem ox121_1 : sx_oks 121 x121_1 := ⟨⟨(sx_dd bb_121 dX8_isGuard_1), rfl⟩, ox121_2⟩
def x121_0 : List sx_E := (.iload 1, 0, 1, [], .null) :: x121_1
theorem ox121_0 : sx_oks 121 x121_0 := ⟨Or.inr ⟨_, (sx_dd bb_121 dX8_isGuard_0), rfl, rfl⟩, ox121_1⟩
theorem m121 : sx_mok 121 x121_0 := ⟨ox121_0, by decide +kernel⟩
theorem bb_122 : sx_by 122 = cX8_isText := rfl
theorem oo_122 : (sx_nm 122).cls = "StrawGarrisonModel" := rfl
theorem mm_122 : sx_ml 122 = 2 := rfl
theorem rr_122 : sx_rt 122 = (some .boolean) := rfl
def x122_15 : List sx_E := (.ireturn, 15, 16, [1], .null) :: []
theorem ox122_15 : sx_oks 122 x122_15 := ⟨sx_q_iret1 (sx_dd bb_122 dX8_isText_15) rr_122, trivial⟩
def x122_12 : List sx_E := (.invokestatic 65, 12, 15, [113, 3, 0, 0], .null) :: x122_15
theorem ox122_12 : sx_oks 122 x122_12 := ⟨sx_q_S (sx_dd bb_122 dX8_isText_12) oo_122 lk_StrawGarrisonModel_65_S ft_113_h, ox122_15⟩
def x122_11 : List sx_E := (.i2l, 11, 12, [], .null) :: x122_12
theorem ox122_11 : sx_oks 122 x122_11 := ⟨⟨(sx_dd bb_122 dX8_isText_11), rfl⟩, ox122_12⟩
def x122_10 : List sx_E := (.isub, 10, 11, [], .null) :: x122_11
theorem ox122_10 : sx_oks 122 x122_10 := ⟨⟨(sx_dd bb_122 dX8_isText_10), rfl⟩, ox122_11⟩
def x122_9 : List sx_E := (.nop, 9, 10, [], .int (nI 1)) :: x122_10
theorem ox122_9 : sx_oks 122 x122_9 := ⟨sx_k_iconst (sx_dd bb_122 dX8_isText_9) (by decide +kernel), ox122_10⟩
def x122_8 : List sx_E := (.iaload, 8, 9, [], .null) :: x122_9
theorem ox122_8 : sx_oks 122 x122_8 := ⟨⟨(sx_dd bb_122 dX8_isText_8), rfl⟩, ox122_9⟩
def x122_7 : List sx_E := (.nop, 7, 8, [], .int (nI 1)) :: x122_8
theorem ox122_7 : sx_oks 122 x122_7 := ⟨sx_k_iconst (sx_dd bb_122 dX8_isText_7) (by decide +kernel), ox122_8⟩
def x122_4 : List sx_E := (.getfield 7, 4, 7, [7, 0, 1], .null) :: x122_7
theorem ox122_4 : sx_oks 122 x122_4 := ⟨sx_q_get (w := (RX8, TX8, 31)) (sx_dd bb_122 dX8_isText_4) rfl rfl (Nat.le_of_ble_eq_true rfl) cu_7 (sx_ow3 oo_122 fl_StrawGarrisonModel_7) (by decide +kernel), ox122_7⟩
def x122_3 : List sx_E := (.aload 0, 3, 4, [], .null) :: x122_4
theorem ox122_3 : sx_oks 122 x122_3 := ⟨Or.inr ⟨_, (sx_dd bb_122 dX8_isText_3), rfl, rfl⟩, ox122_4⟩
def x122_2 : List sx_E := (.nop, 2, 3, [], .long (0)) :: x122_3
theorem ox122_2 : sx_oks 122 x122_2 := ⟨sx_k_lconst (sx_dd bb_122 dX8_isText_2) (by decide +kernel), ox122_3⟩
def x122_1 : List sx_E := (.i2l, 1, 2, [], .null) :: x122_2
theorem ox122_1 : sx_oks 122 x122_1 := ⟨⟨(sx_dd bb_122 dX8_isText_1), rfl⟩, ox122_2⟩
def x122_0 : List sx_E := (.iload 1, 0, 1, [], .null) :: x122_1
theorem ox122_0 : sx_oks 122 x122_0 := ⟨Or.inr ⟨_, (sx_dd bb_122 dX8_isText_0), rfl, rfl⟩, ox122_1⟩
theorem m122 : sx_mok 122 x122_0 := ⟨ox122_0, by decide +kernel⟩
theorem bb_123 : sx_by 123 = cX8_drawn := rfl
theorem oo_123 : (sx_nm 123).cls = "StrawGarrisonModel" := rfl
theorem mm_123 : sx_ml 123 = 1 := rfl
theorem rr_123 : sx_rt 123 = (some .int) := rfl
def x123_31 : List sx_E := (.ireturn, 31, 32, [0], .null) :: []
theorem ox123_31 : sx_oks 123 x123_31 := ⟨sx_q_iret0 (sx_dd bb_123 dX8_drawn_31) rr_123, trivial⟩
def x123_30 : List sx_E := (.iushr, 30, 31, [], .null) :: x123_31
theorem ox123_30 : sx_oks 123 x123_30 := ⟨⟨(sx_dd bb_123 dX8_drawn_30), rfl⟩, ox123_31⟩
def x123_28 : List sx_E := (.nop, 28, 30, [], .int (nI 8)) :: x123_30
theorem ox123_28 : sx_oks 123 x123_28 := ⟨sx_k_bipush (sx_dd bb_123 dX8_drawn_28) (by decide +kernel), ox123_30⟩
def x123_27 : List sx_E := (.iaload, 27, 28, [], .null) :: x123_28
theorem ox123_27 : sx_oks 123 x123_27 := ⟨⟨(sx_dd bb_123 dX8_drawn_27), rfl⟩, ox123_28⟩
def x123_25 : List sx_E := (.nop, 25, 27, [], .int (nI 11)) :: x123_27
theorem ox123_25 : sx_oks 123 x123_25 := ⟨sx_k_bipush (sx_dd bb_123 dX8_drawn_25) (by decide +kernel), ox123_27⟩
def x123_22 : List sx_E := (.getfield 7, 22, 25, [7, 0, 1], .null) :: x123_25
theorem ox123_22 : sx_oks 123 x123_22 := ⟨sx_q_get (w := (RX8, TX8, 31)) (sx_dd bb_123 dX8_drawn_22) rfl rfl (Nat.le_of_ble_eq_true rfl) cu_7 (sx_ow3 oo_123 fl_StrawGarrisonModel_7) (by decide +kernel), ox123_25⟩
def x123_21 : List sx_E := (.aload 0, 21, 22, [], .null) :: x123_22
theorem ox123_21 : sx_oks 123 x123_21 := ⟨Or.inr ⟨_, (sx_dd bb_123 dX8_drawn_21), rfl, rfl⟩, ox123_22⟩
def x123_20 : List sx_E := (.iastore, 20, 21, [], .null) :: x123_21
theorem ox123_20 : sx_oks 123 x123_20 := ⟨⟨(sx_dd bb_123 dX8_drawn_20), rfl⟩, ox123_21⟩
def x123_19 : List sx_E := (.iadd, 19, 20, [], .null) :: x123_20
theorem ox123_19 : sx_oks 123 x123_19 := ⟨⟨(sx_dd bb_123 dX8_drawn_19), rfl⟩, ox123_20⟩
def x123_16 : List sx_E := (.nop, 16, 19, [], .int (nI 12345)) :: x123_19
theorem ox123_16 : sx_oks 123 x123_16 := ⟨sx_k_sipush (sx_dd bb_123 dX8_drawn_16) (by decide +kernel), ox123_19⟩
def x123_15 : List sx_E := (.imul, 15, 16, [], .null) :: x123_16
theorem ox123_15 : sx_oks 123 x123_15 := ⟨⟨(sx_dd bb_123 dX8_drawn_15), rfl⟩, ox123_16⟩
def x123_13 : List sx_E := (.nop, 13, 15, [], .int (nI 1103515245)) :: x123_15
theorem ox123_13 : sx_oks 123 x123_13 := ⟨sx_k_ldc (sx_dd bb_123 dX8_drawn_13) (sx_ow1 oo_123 kc_StrawGarrisonModel_69), ox123_15⟩
def x123_12 : List sx_E := (.iaload, 12, 13, [], .null) :: x123_13
theorem ox123_12 : sx_oks 123 x123_12 := ⟨⟨(sx_dd bb_123 dX8_drawn_12), rfl⟩, ox123_13⟩
def x123_10 : List sx_E := (.nop, 10, 12, [], .int (nI 11)) :: x123_12
theorem ox123_10 : sx_oks 123 x123_10 := ⟨sx_k_bipush (sx_dd bb_123 dX8_drawn_10) (by decide +kernel), ox123_12⟩
def x123_7 : List sx_E := (.getfield 7, 7, 10, [7, 0, 1], .null) :: x123_10
theorem ox123_7 : sx_oks 123 x123_7 := ⟨sx_q_get (w := (RX8, TX8, 31)) (sx_dd bb_123 dX8_drawn_7) rfl rfl (Nat.le_of_ble_eq_true rfl) cu_7 (sx_ow3 oo_123 fl_StrawGarrisonModel_7) (by decide +kernel), ox123_10⟩
def x123_6 : List sx_E := (.aload 0, 6, 7, [], .null) :: x123_7
theorem ox123_6 : sx_oks 123 x123_6 := ⟨Or.inr ⟨_, (sx_dd bb_123 dX8_drawn_6), rfl, rfl⟩, ox123_7⟩
def x123_4 : List sx_E := (.nop, 4, 6, [], .int (nI 11)) :: x123_6
theorem ox123_4 : sx_oks 123 x123_4 := ⟨sx_k_bipush (sx_dd bb_123 dX8_drawn_4) (by decide +kernel), ox123_6⟩
def x123_1 : List sx_E := (.getfield 7, 1, 4, [7, 0, 1], .null) :: x123_4
theorem ox123_1 : sx_oks 123 x123_1 := ⟨sx_q_get (w := (RX8, TX8, 31)) (sx_dd bb_123 dX8_drawn_1) rfl rfl (Nat.le_of_ble_eq_true rfl) cu_7 (sx_ow3 oo_123 fl_StrawGarrisonModel_7) (by decide +kernel), ox123_4⟩
def x123_0 : List sx_E := (.aload 0, 0, 1, [], .null) :: x123_1
theorem ox123_0 : sx_oks 123 x123_0 := ⟨Or.inr ⟨_, (sx_dd bb_123 dX8_drawn_0), rfl, rfl⟩, ox123_1⟩
theorem m123 : sx_mok 123 x123_0 := ⟨ox123_0, by decide +kernel⟩
theorem bb_124 : sx_by 124 = cX8_isOf := rfl
theorem oo_124 : (sx_nm 124).cls = "StrawGarrisonModel" := rfl
theorem mm_124 : sx_ml 124 = 2 := rfl
theorem rr_124 : sx_rt 124 = (some .boolean) := rfl
def x124_34 : List sx_E := (.ireturn, 34, 35, [1], .null) :: []
theorem ox124_34 : sx_oks 124 x124_34 := ⟨sx_q_iret1 (sx_dd bb_124 dX8_isOf_34) rr_124, trivial⟩
def x124_33 : List sx_E := (.nop, 33, 34, [], .int (nI 0)) :: x124_34
theorem ox124_33 : sx_oks 124 x124_33 := ⟨sx_k_iconst (sx_dd bb_124 dX8_isOf_33) (by decide +kernel), ox124_34⟩
def x124_30 : List sx_E := (.goto (4), 30, 33, [34], .null) :: x124_33
theorem ox124_30 : sx_oks 124 x124_30 := ⟨⟨(sx_dd bb_124 dX8_isOf_30), sx_t1 (by decide +kernel)⟩, ox124_33⟩
def x124_29 : List sx_E := (.nop, 29, 30, [], .int (nI 1)) :: x124_30
theorem ox124_29 : sx_oks 124 x124_29 := ⟨sx_k_iconst (sx_dd bb_124 dX8_isOf_29) (by decide +kernel), ox124_30⟩
def x124_26 : List sx_E := (.if_icmp .ne (7), 26, 29, [33], .null) :: x124_29
theorem ox124_26 : sx_oks 124 x124_26 := ⟨⟨(sx_dd bb_124 dX8_isOf_26), rfl, sx_t1 (by decide +kernel)⟩, ox124_29⟩
def x124_25 : List sx_E := (.nop, 25, 26, [], .int (nI 4)) :: x124_26
theorem ox124_25 : sx_oks 124 x124_25 := ⟨sx_k_iconst (sx_dd bb_124 dX8_isOf_25) (by decide +kernel), ox124_26⟩
def x124_24 : List sx_E := (.iload 0, 24, 25, [], .null) :: x124_25
theorem ox124_24 : sx_oks 124 x124_24 := ⟨Or.inr ⟨_, (sx_dd bb_124 dX8_isOf_24), rfl, rfl⟩, ox124_25⟩
def x124_21 : List sx_E := (.if_icmp .ne (12), 21, 24, [33], .null) :: x124_24
theorem ox124_21 : sx_oks 124 x124_21 := ⟨⟨(sx_dd bb_124 dX8_isOf_21), rfl, sx_t1 (by decide +kernel)⟩, ox124_24⟩
def x124_20 : List sx_E := (.nop, 20, 21, [], .int (nI 2)) :: x124_21
theorem ox124_20 : sx_oks 124 x124_20 := ⟨sx_k_iconst (sx_dd bb_124 dX8_isOf_20) (by decide +kernel), ox124_21⟩
def x124_19 : List sx_E := (.iload 1, 19, 20, [], .null) :: x124_20
theorem ox124_19 : sx_oks 124 x124_19 := ⟨Or.inr ⟨_, (sx_dd bb_124 dX8_isOf_19), rfl, rfl⟩, ox124_20⟩
def x124_16 : List sx_E := (.if_icmp .eq (13), 16, 19, [29], .null) :: x124_19
theorem ox124_16 : sx_oks 124 x124_16 := ⟨⟨(sx_dd bb_124 dX8_isOf_16), rfl, sx_t1 (by decide +kernel)⟩, ox124_19⟩
def x124_15 : List sx_E := (.nop, 15, 16, [], .int (nI 3)) :: x124_16
theorem ox124_15 : sx_oks 124 x124_15 := ⟨sx_k_iconst (sx_dd bb_124 dX8_isOf_15) (by decide +kernel), ox124_16⟩
def x124_14 : List sx_E := (.iload 0, 14, 15, [], .null) :: x124_15
theorem ox124_14 : sx_oks 124 x124_14 := ⟨Or.inr ⟨_, (sx_dd bb_124 dX8_isOf_14), rfl, rfl⟩, ox124_15⟩
def x124_11 : List sx_E := (.if_icmp .ne (8), 11, 14, [19], .null) :: x124_14
theorem ox124_11 : sx_oks 124 x124_11 := ⟨⟨(sx_dd bb_124 dX8_isOf_11), rfl, sx_t1 (by decide +kernel)⟩, ox124_14⟩
def x124_10 : List sx_E := (.nop, 10, 11, [], .int (nI 1)) :: x124_11
theorem ox124_10 : sx_oks 124 x124_10 := ⟨sx_k_iconst (sx_dd bb_124 dX8_isOf_10) (by decide +kernel), ox124_11⟩
def x124_9 : List sx_E := (.iload 1, 9, 10, [], .null) :: x124_10
theorem ox124_9 : sx_oks 124 x124_9 := ⟨Or.inr ⟨_, (sx_dd bb_124 dX8_isOf_9), rfl, rfl⟩, ox124_10⟩
def x124_6 : List sx_E := (.ifCond .eq (23), 6, 9, [29], .null) :: x124_9
theorem ox124_6 : sx_oks 124 x124_6 := ⟨⟨(sx_dd bb_124 dX8_isOf_6), rfl, sx_t1 (by decide +kernel)⟩, ox124_9⟩
def x124_5 : List sx_E := (.iload 1, 5, 6, [], .null) :: x124_6
theorem ox124_5 : sx_oks 124 x124_5 := ⟨Or.inr ⟨_, (sx_dd bb_124 dX8_isOf_5), rfl, rfl⟩, ox124_6⟩
def x124_2 : List sx_E := (.if_icmp .eq (27), 2, 5, [29], .null) :: x124_5
theorem ox124_2 : sx_oks 124 x124_2 := ⟨⟨(sx_dd bb_124 dX8_isOf_2), rfl, sx_t1 (by decide +kernel)⟩, ox124_5⟩
def x124_1 : List sx_E := (.iload 1, 1, 2, [], .null) :: x124_2
theorem ox124_1 : sx_oks 124 x124_1 := ⟨Or.inr ⟨_, (sx_dd bb_124 dX8_isOf_1), rfl, rfl⟩, ox124_2⟩
def x124_0 : List sx_E := (.iload 0, 0, 1, [], .null) :: x124_1
theorem ox124_0 : sx_oks 124 x124_0 := ⟨Or.inr ⟨_, (sx_dd bb_124 dX8_isOf_0), rfl, rfl⟩, ox124_1⟩
theorem m124 : sx_mok 124 x124_0 := ⟨ox124_0, by decide +kernel⟩
theorem bb_125 : sx_by 125 = cX8_isPost := rfl
theorem oo_125 : (sx_nm 125).cls = "StrawGarrisonModel" := rfl
theorem mm_125 : sx_ml 125 = 1 := rfl
theorem rr_125 : sx_rt 125 = (some .boolean) := rfl
def x125_9 : List sx_E := (.ireturn, 9, 10, [1], .null) :: []
theorem ox125_9 : sx_oks 125 x125_9 := ⟨sx_q_iret1 (sx_dd bb_125 dX8_isPost_9) rr_125, trivial⟩
def x125_6 : List sx_E := (.invokestatic 65, 6, 9, [113, 3, 0, 0], .null) :: x125_9
theorem ox125_6 : sx_oks 125 x125_6 := ⟨sx_q_S (sx_dd bb_125 dX8_isPost_6) oo_125 lk_StrawGarrisonModel_65_S ft_113_h, ox125_9⟩
def x125_3 : List sx_E := (.nop, 3, 6, [], .long (19)) :: x125_6
theorem ox125_3 : sx_oks 125 x125_3 := ⟨sx_k_ldc2 (sx_dd bb_125 dX8_isPost_3) (sx_ow2 oo_125 kl_StrawGarrisonModel_70), ox125_6⟩
def x125_2 : List sx_E := (.nop, 2, 3, [], .long (0)) :: x125_3
theorem ox125_2 : sx_oks 125 x125_2 := ⟨sx_k_lconst (sx_dd bb_125 dX8_isPost_2) (by decide +kernel), ox125_3⟩
def x125_1 : List sx_E := (.i2l, 1, 2, [], .null) :: x125_2
theorem ox125_1 : sx_oks 125 x125_1 := ⟨⟨(sx_dd bb_125 dX8_isPost_1), rfl⟩, ox125_2⟩
def x125_0 : List sx_E := (.iload 0, 0, 1, [], .null) :: x125_1
theorem ox125_0 : sx_oks 125 x125_0 := ⟨Or.inr ⟨_, (sx_dd bb_125 dX8_isPost_0), rfl, rfl⟩, ox125_1⟩
theorem m125 : sx_mok 125 x125_0 := ⟨ox125_0, by decide +kernel⟩
theorem bb_126 : sx_by 126 = cX8_whose := rfl
theorem oo_126 : (sx_nm 126).cls = "StrawGarrisonModel" := rfl
theorem mm_126 : sx_ml 126 = 3 := rfl
theorem rr_126 : sx_rt 126 = (some .int) := rfl
def x126_43 : List sx_E := (.ireturn, 43, 44, [0], .null) :: []
theorem ox126_43 : sx_oks 126 x126_43 := ⟨sx_q_iret0 (sx_dd bb_126 dX8_whose_43) rr_126, trivial⟩
def x126_42 : List sx_E := (.nop, 42, 43, [], .int ((-1))) :: x126_43
theorem ox126_42 : sx_oks 126 x126_42 := ⟨sx_k_iconst (sx_dd bb_126 dX8_whose_42) (by decide +kernel), ox126_43⟩
def x126_39 : List sx_E := (.goto (4), 39, 42, [43], .null) :: x126_42
theorem ox126_39 : sx_oks 126 x126_39 := ⟨⟨(sx_dd bb_126 dX8_whose_39), sx_t1 (by decide +kernel)⟩, ox126_42⟩
def x126_38 : List sx_E := (.iload 2, 38, 39, [], .null) :: x126_39
theorem ox126_38 : sx_oks 126 x126_38 := ⟨Or.inr ⟨_, (sx_dd bb_126 dX8_whose_38), rfl, rfl⟩, ox126_39⟩
def x126_35 : List sx_E := (.if_icmp .ge (7), 35, 38, [42], .null) :: x126_38
theorem ox126_35 : sx_oks 126 x126_35 := ⟨⟨(sx_dd bb_126 dX8_whose_35), rfl, sx_t1 (by decide +kernel)⟩, ox126_38⟩
def x126_34 : List sx_E := (.iaload, 34, 35, [], .null) :: x126_35
theorem ox126_34 : sx_oks 126 x126_34 := ⟨⟨(sx_dd bb_126 dX8_whose_34), rfl⟩, ox126_35⟩
def x126_33 : List sx_E := (.nop, 33, 34, [], .int (nI 0)) :: x126_34
theorem ox126_33 : sx_oks 126 x126_33 := ⟨sx_k_iconst (sx_dd bb_126 dX8_whose_33) (by decide +kernel), ox126_34⟩
def x126_30 : List sx_E := (.getfield 7, 30, 33, [7, 0, 1], .null) :: x126_33
theorem ox126_30 : sx_oks 126 x126_30 := ⟨sx_q_get (w := (RX8, TX8, 31)) (sx_dd bb_126 dX8_whose_30) rfl rfl (Nat.le_of_ble_eq_true rfl) cu_7 (sx_ow3 oo_126 fl_StrawGarrisonModel_7) (by decide +kernel), ox126_33⟩
def x126_29 : List sx_E := (.aload 0, 29, 30, [], .null) :: x126_30
theorem ox126_29 : sx_oks 126 x126_29 := ⟨Or.inr ⟨_, (sx_dd bb_126 dX8_whose_29), rfl, rfl⟩, ox126_30⟩
def x126_28 : List sx_E := (.iload 2, 28, 29, [], .null) :: x126_29
theorem ox126_28 : sx_oks 126 x126_28 := ⟨Or.inr ⟨_, (sx_dd bb_126 dX8_whose_28), rfl, rfl⟩, ox126_29⟩
def x126_25 : List sx_E := (.goto (-23), 25, 28, [2], .null) :: x126_28
theorem ox126_25 : sx_oks 126 x126_25 := ⟨⟨(sx_dd bb_126 dX8_whose_25), sx_t1 (by decide +kernel)⟩, ox126_28⟩
def x126_22 : List sx_E := (.iinc 2 (1), 22, 25, [], .int (nI 1)) :: x126_25
theorem ox126_22 : sx_oks 126 x126_22 := ⟨⟨sx_lt mm_126 (Nat.le_of_ble_eq_true rfl), (sx_dd bb_126 dX8_whose_22), rfl, by decide +kernel⟩, ox126_25⟩
def x126_19 : List sx_E := (.if_icmp .eq (9), 19, 22, [28], .null) :: x126_22
theorem ox126_19 : sx_oks 126 x126_19 := ⟨⟨(sx_dd bb_126 dX8_whose_19), rfl, sx_t1 (by decide +kernel)⟩, ox126_22⟩
def x126_18 : List sx_E := (.iload 1, 18, 19, [], .null) :: x126_19
theorem ox126_18 : sx_oks 126 x126_18 := ⟨Or.inr ⟨_, (sx_dd bb_126 dX8_whose_18), rfl, rfl⟩, ox126_19⟩
def x126_15 : List sx_E := (.invokevirtual 72, 15, 18, [119, 3, 0, 0, 7], .null) :: x126_18
theorem ox126_15 : sx_oks 126 x126_15 := ⟨sx_q_V (w := (RX8, TX8, 31)) (sx_dd bb_126 dX8_whose_15) oo_126 lk_StrawGarrisonModel_72_V ft_119_h (Nat.le_of_ble_eq_true rfl) rfl rfl, ox126_18⟩
def x126_14 : List sx_E := (.nop, 14, 15, [], .int (nI 1)) :: x126_15
theorem ox126_14 : sx_oks 126 x126_14 := ⟨sx_k_iconst (sx_dd bb_126 dX8_whose_14) (by decide +kernel), ox126_15⟩
def x126_13 : List sx_E := (.iload 2, 13, 14, [], .null) :: x126_14
theorem ox126_13 : sx_oks 126 x126_13 := ⟨Or.inr ⟨_, (sx_dd bb_126 dX8_whose_13), rfl, rfl⟩, ox126_14⟩
def x126_12 : List sx_E := (.aload 0, 12, 13, [], .null) :: x126_13
theorem ox126_12 : sx_oks 126 x126_12 := ⟨Or.inr ⟨_, (sx_dd bb_126 dX8_whose_12), rfl, rfl⟩, ox126_13⟩
def x126_9 : List sx_E := (.if_icmp .ge (19), 9, 12, [28], .null) :: x126_12
theorem ox126_9 : sx_oks 126 x126_9 := ⟨⟨(sx_dd bb_126 dX8_whose_9), rfl, sx_t1 (by decide +kernel)⟩, ox126_12⟩
def x126_8 : List sx_E := (.iaload, 8, 9, [], .null) :: x126_9
theorem ox126_8 : sx_oks 126 x126_8 := ⟨⟨(sx_dd bb_126 dX8_whose_8), rfl⟩, ox126_9⟩
def x126_7 : List sx_E := (.nop, 7, 8, [], .int (nI 0)) :: x126_8
theorem ox126_7 : sx_oks 126 x126_7 := ⟨sx_k_iconst (sx_dd bb_126 dX8_whose_7) (by decide +kernel), ox126_8⟩
def x126_4 : List sx_E := (.getfield 7, 4, 7, [7, 0, 1], .null) :: x126_7
theorem ox126_4 : sx_oks 126 x126_4 := ⟨sx_q_get (w := (RX8, TX8, 31)) (sx_dd bb_126 dX8_whose_4) rfl rfl (Nat.le_of_ble_eq_true rfl) cu_7 (sx_ow3 oo_126 fl_StrawGarrisonModel_7) (by decide +kernel), ox126_7⟩
def x126_3 : List sx_E := (.aload 0, 3, 4, [], .null) :: x126_4
theorem ox126_3 : sx_oks 126 x126_3 := ⟨Or.inr ⟨_, (sx_dd bb_126 dX8_whose_3), rfl, rfl⟩, ox126_4⟩
def x126_2 : List sx_E := (.iload 2, 2, 3, [], .null) :: x126_3
theorem ox126_2 : sx_oks 126 x126_2 := ⟨Or.inr ⟨_, (sx_dd bb_126 dX8_whose_2), rfl, rfl⟩, ox126_3⟩
def x126_2h : List sx_E := (.monitorenter, 2, 2, [0, 1, 2], .null) :: x126_2
theorem ox126_2h : sx_oks 126 x126_2h := ⟨trivial, ox126_2⟩
def x126_1 : List sx_E := (.istore 2, 1, 2, [], .null) :: x126_2h
theorem ox126_1 : sx_oks 126 x126_1 := ⟨⟨sx_lt mm_126 (Nat.le_of_ble_eq_true rfl), Or.inr ⟨_, (sx_dd bb_126 dX8_whose_1), rfl, rfl⟩⟩, ox126_2h⟩
def x126_0 : List sx_E := (.nop, 0, 1, [], .int (nI 0)) :: x126_1
theorem ox126_0 : sx_oks 126 x126_0 := ⟨sx_k_iconst (sx_dd bb_126 dX8_whose_0) (by decide +kernel), ox126_1⟩
theorem m126 : sx_mok 126 x126_0 := ⟨ox126_0, by decide +kernel⟩
theorem bb_127 : sx_by 127 = cX8_comes := rfl
theorem oo_127 : (sx_nm 127).cls = "StrawGarrisonModel" := rfl
theorem mm_127 : sx_ml 127 = 5 := rfl
theorem rr_127 : sx_rt 127 = none := rfl
def x127_58 : List sx_E := (.return_, 58, 59, [], .null) :: []
theorem ox127_58 : sx_oks 127 x127_58 := ⟨⟨(sx_dd bb_127 dX8_comes_58), rr_127⟩, trivial⟩
def x127_55 : List sx_E := (.invokevirtual 76, 55, 58, [120, 4, 0, 0, 7], .null) :: x127_58
theorem ox127_55 : sx_oks 127 x127_55 := ⟨sx_q_V (w := (RX8, TX8, 31)) (sx_dd bb_127 dX8_comes_55) oo_127 lk_StrawGarrisonModel_76_V ft_120_h (Nat.le_of_ble_eq_true rfl) rfl rfl, ox127_58⟩
def x127_54 : List sx_E := (.nop, 54, 55, [], .int (nI 1)) :: x127_55
theorem ox127_54 : sx_oks 127 x127_54 := ⟨sx_k_iconst (sx_dd bb_127 dX8_comes_54) (by decide +kernel), ox127_55⟩
def x127_53 : List sx_E := (.nop, 53, 54, [], .int (nI 4)) :: x127_54
theorem ox127_53 : sx_oks 127 x127_53 := ⟨sx_k_iconst (sx_dd bb_127 dX8_comes_53) (by decide +kernel), ox127_54⟩
def x127_51 : List sx_E := (.iload 4, 51, 53, [], .null) :: x127_53
theorem ox127_51 : sx_oks 127 x127_51 := ⟨Or.inl ⟨(sx_dd bb_127 dX8_comes_51), rfl⟩, ox127_53⟩
def x127_50 : List sx_E := (.aload 0, 50, 51, [], .null) :: x127_51
theorem ox127_50 : sx_oks 127 x127_50 := ⟨Or.inr ⟨_, (sx_dd bb_127 dX8_comes_50), rfl, rfl⟩, ox127_51⟩
def x127_47 : List sx_E := (.invokevirtual 76, 47, 50, [120, 4, 0, 0, 7], .null) :: x127_50
theorem ox127_47 : sx_oks 127 x127_47 := ⟨sx_q_V (w := (RX8, TX8, 31)) (sx_dd bb_127 dX8_comes_47) oo_127 lk_StrawGarrisonModel_76_V ft_120_h (Nat.le_of_ble_eq_true rfl) rfl rfl, ox127_50⟩
def x127_46 : List sx_E := (.nop, 46, 47, [], .int (nI 0)) :: x127_47
theorem ox127_46 : sx_oks 127 x127_46 := ⟨sx_k_iconst (sx_dd bb_127 dX8_comes_46) (by decide +kernel), ox127_47⟩
def x127_45 : List sx_E := (.nop, 45, 46, [], .int (nI 3)) :: x127_46
theorem ox127_45 : sx_oks 127 x127_45 := ⟨sx_k_iconst (sx_dd bb_127 dX8_comes_45) (by decide +kernel), ox127_46⟩
def x127_43 : List sx_E := (.iload 4, 43, 45, [], .null) :: x127_45
theorem ox127_43 : sx_oks 127 x127_43 := ⟨Or.inl ⟨(sx_dd bb_127 dX8_comes_43), rfl⟩, ox127_45⟩
def x127_42 : List sx_E := (.aload 0, 42, 43, [], .null) :: x127_43
theorem ox127_42 : sx_oks 127 x127_42 := ⟨Or.inr ⟨_, (sx_dd bb_127 dX8_comes_42), rfl, rfl⟩, ox127_43⟩
def x127_39 : List sx_E := (.invokevirtual 76, 39, 42, [120, 4, 0, 0, 7], .null) :: x127_42
theorem ox127_39 : sx_oks 127 x127_39 := ⟨sx_q_V (w := (RX8, TX8, 31)) (sx_dd bb_127 dX8_comes_39) oo_127 lk_StrawGarrisonModel_76_V ft_120_h (Nat.le_of_ble_eq_true rfl) rfl rfl, ox127_42⟩
def x127_38 : List sx_E := (.iload 3, 38, 39, [], .null) :: x127_39
theorem ox127_38 : sx_oks 127 x127_38 := ⟨Or.inr ⟨_, (sx_dd bb_127 dX8_comes_38), rfl, rfl⟩, ox127_39⟩
def x127_37 : List sx_E := (.nop, 37, 38, [], .int (nI 2)) :: x127_38
theorem ox127_37 : sx_oks 127 x127_37 := ⟨sx_k_iconst (sx_dd bb_127 dX8_comes_37) (by decide +kernel), ox127_38⟩
def x127_35 : List sx_E := (.iload 4, 35, 37, [], .null) :: x127_37
theorem ox127_35 : sx_oks 127 x127_35 := ⟨Or.inl ⟨(sx_dd bb_127 dX8_comes_35), rfl⟩, ox127_37⟩
def x127_34 : List sx_E := (.aload 0, 34, 35, [], .null) :: x127_35
theorem ox127_34 : sx_oks 127 x127_34 := ⟨Or.inr ⟨_, (sx_dd bb_127 dX8_comes_34), rfl, rfl⟩, ox127_35⟩
def x127_31 : List sx_E := (.invokevirtual 76, 31, 34, [120, 4, 0, 0, 7], .null) :: x127_34
theorem ox127_31 : sx_oks 127 x127_31 := ⟨sx_q_V (w := (RX8, TX8, 31)) (sx_dd bb_127 dX8_comes_31) oo_127 lk_StrawGarrisonModel_76_V ft_120_h (Nat.le_of_ble_eq_true rfl) rfl rfl, ox127_34⟩
def x127_30 : List sx_E := (.iload 2, 30, 31, [], .null) :: x127_31
theorem ox127_30 : sx_oks 127 x127_30 := ⟨Or.inr ⟨_, (sx_dd bb_127 dX8_comes_30), rfl, rfl⟩, ox127_31⟩
def x127_29 : List sx_E := (.nop, 29, 30, [], .int (nI 1)) :: x127_30
theorem ox127_29 : sx_oks 127 x127_29 := ⟨sx_k_iconst (sx_dd bb_127 dX8_comes_29) (by decide +kernel), ox127_30⟩
def x127_27 : List sx_E := (.iload 4, 27, 29, [], .null) :: x127_29
theorem ox127_27 : sx_oks 127 x127_27 := ⟨Or.inl ⟨(sx_dd bb_127 dX8_comes_27), rfl⟩, ox127_29⟩
def x127_26 : List sx_E := (.aload 0, 26, 27, [], .null) :: x127_27
theorem ox127_26 : sx_oks 127 x127_26 := ⟨Or.inr ⟨_, (sx_dd bb_127 dX8_comes_26), rfl, rfl⟩, ox127_27⟩
def x127_23 : List sx_E := (.invokevirtual 76, 23, 26, [120, 4, 0, 0, 7], .null) :: x127_26
theorem ox127_23 : sx_oks 127 x127_23 := ⟨sx_q_V (w := (RX8, TX8, 31)) (sx_dd bb_127 dX8_comes_23) oo_127 lk_StrawGarrisonModel_76_V ft_120_h (Nat.le_of_ble_eq_true rfl) rfl rfl, ox127_26⟩
def x127_22 : List sx_E := (.iload 1, 22, 23, [], .null) :: x127_23
theorem ox127_22 : sx_oks 127 x127_22 := ⟨Or.inr ⟨_, (sx_dd bb_127 dX8_comes_22), rfl, rfl⟩, ox127_23⟩
def x127_21 : List sx_E := (.nop, 21, 22, [], .int (nI 0)) :: x127_22
theorem ox127_21 : sx_oks 127 x127_21 := ⟨sx_k_iconst (sx_dd bb_127 dX8_comes_21) (by decide +kernel), ox127_22⟩
def x127_19 : List sx_E := (.iload 4, 19, 21, [], .null) :: x127_21
theorem ox127_19 : sx_oks 127 x127_19 := ⟨Or.inl ⟨(sx_dd bb_127 dX8_comes_19), rfl⟩, ox127_21⟩
def x127_18 : List sx_E := (.aload 0, 18, 19, [], .null) :: x127_19
theorem ox127_18 : sx_oks 127 x127_18 := ⟨Or.inr ⟨_, (sx_dd bb_127 dX8_comes_18), rfl, rfl⟩, ox127_19⟩
def x127_17 : List sx_E := (.iastore, 17, 18, [], .null) :: x127_18
theorem ox127_17 : sx_oks 127 x127_17 := ⟨⟨(sx_dd bb_127 dX8_comes_17), rfl⟩, ox127_18⟩
def x127_16 : List sx_E := (.iadd, 16, 17, [], .null) :: x127_17
theorem ox127_16 : sx_oks 127 x127_16 := ⟨⟨(sx_dd bb_127 dX8_comes_16), rfl⟩, ox127_17⟩
def x127_15 : List sx_E := (.nop, 15, 16, [], .int (nI 1)) :: x127_16
theorem ox127_15 : sx_oks 127 x127_15 := ⟨sx_k_iconst (sx_dd bb_127 dX8_comes_15) (by decide +kernel), ox127_16⟩
def x127_14 : List sx_E := (.iaload, 14, 15, [], .null) :: x127_15
theorem ox127_14 : sx_oks 127 x127_14 := ⟨⟨(sx_dd bb_127 dX8_comes_14), rfl⟩, ox127_15⟩
def x127_13 : List sx_E := (.dup2, 13, 14, [], .null) :: x127_14
theorem ox127_13 : sx_oks 127 x127_13 := ⟨⟨(sx_dd bb_127 dX8_comes_13), rfl⟩, ox127_14⟩
def x127_12 : List sx_E := (.nop, 12, 13, [], .int (nI 0)) :: x127_13
theorem ox127_12 : sx_oks 127 x127_12 := ⟨sx_k_iconst (sx_dd bb_127 dX8_comes_12) (by decide +kernel), ox127_13⟩
def x127_9 : List sx_E := (.getfield 7, 9, 12, [7, 0, 1], .null) :: x127_12
theorem ox127_9 : sx_oks 127 x127_9 := ⟨sx_q_get (w := (RX8, TX8, 31)) (sx_dd bb_127 dX8_comes_9) rfl rfl (Nat.le_of_ble_eq_true rfl) cu_7 (sx_ow3 oo_127 fl_StrawGarrisonModel_7) (by decide +kernel), ox127_12⟩
def x127_8 : List sx_E := (.aload 0, 8, 9, [], .null) :: x127_9
theorem ox127_8 : sx_oks 127 x127_8 := ⟨Or.inr ⟨_, (sx_dd bb_127 dX8_comes_8), rfl, rfl⟩, ox127_9⟩
def x127_6 : List sx_E := (.istore 4, 6, 8, [], .null) :: x127_8
theorem ox127_6 : sx_oks 127 x127_6 := ⟨⟨sx_lt mm_127 (Nat.le_of_ble_eq_true rfl), Or.inl ⟨(sx_dd bb_127 dX8_comes_6), rfl⟩⟩, ox127_8⟩
def x127_5 : List sx_E := (.iaload, 5, 6, [], .null) :: x127_6
theorem ox127_5 : sx_oks 127 x127_5 := ⟨⟨(sx_dd bb_127 dX8_comes_5), rfl⟩, ox127_6⟩
def x127_4 : List sx_E := (.nop, 4, 5, [], .int (nI 0)) :: x127_5
theorem ox127_4 : sx_oks 127 x127_4 := ⟨sx_k_iconst (sx_dd bb_127 dX8_comes_4) (by decide +kernel), ox127_5⟩
def x127_1 : List sx_E := (.getfield 7, 1, 4, [7, 0, 1], .null) :: x127_4
theorem ox127_1 : sx_oks 127 x127_1 := ⟨sx_q_get (w := (RX8, TX8, 31)) (sx_dd bb_127 dX8_comes_1) rfl rfl (Nat.le_of_ble_eq_true rfl) cu_7 (sx_ow3 oo_127 fl_StrawGarrisonModel_7) (by decide +kernel), ox127_4⟩
def x127_0 : List sx_E := (.aload 0, 0, 1, [], .null) :: x127_1
theorem ox127_0 : sx_oks 127 x127_0 := ⟨Or.inr ⟨_, (sx_dd bb_127 dX8_comes_0), rfl, rfl⟩, ox127_1⟩
theorem m127 : sx_mok 127 x127_0 := ⟨ox127_0, by decide +kernel⟩
theorem bb_128 : sx_by 128 = cX8_guard := rfl
theorem oo_128 : (sx_nm 128).cls = "StrawGarrisonModel" := rfl
theorem mm_128 : sx_ml 128 = 4 := rfl
theorem rr_128 : sx_rt 128 = (some .int) := rfl
def x128_74 : List sx_E := (.ireturn, 74, 75, [0], .null) :: []
theorem ox128_74 : sx_oks 128 x128_74 := ⟨sx_q_iret0 (sx_dd bb_128 dX8_guard_74) rr_128, trivial⟩
def x128_73 : List sx_E := (.isub, 73, 74, [], .null) :: x128_74
theorem ox128_73 : sx_oks 128 x128_73 := ⟨⟨(sx_dd bb_128 dX8_guard_73), rfl⟩, ox128_74⟩
def x128_72 : List sx_E := (.nop, 72, 73, [], .int (nI 1)) :: x128_73
theorem ox128_72 : sx_oks 128 x128_72 := ⟨sx_k_iconst (sx_dd bb_128 dX8_guard_72) (by decide +kernel), ox128_73⟩
def x128_71 : List sx_E := (.iaload, 71, 72, [], .null) :: x128_72
theorem ox128_71 : sx_oks 128 x128_71 := ⟨⟨(sx_dd bb_128 dX8_guard_71), rfl⟩, ox128_72⟩
def x128_70 : List sx_E := (.nop, 70, 71, [], .int (nI 0)) :: x128_71
theorem ox128_70 : sx_oks 128 x128_70 := ⟨sx_k_iconst (sx_dd bb_128 dX8_guard_70) (by decide +kernel), ox128_71⟩
def x128_67 : List sx_E := (.getfield 7, 67, 70, [7, 0, 1], .null) :: x128_70
theorem ox128_67 : sx_oks 128 x128_67 := ⟨sx_q_get (w := (RX8, TX8, 31)) (sx_dd bb_128 dX8_guard_67) rfl rfl (Nat.le_of_ble_eq_true rfl) cu_7 (sx_ow3 oo_128 fl_StrawGarrisonModel_7) (by decide +kernel), ox128_70⟩
def x128_66 : List sx_E := (.aload 0, 66, 67, [], .null) :: x128_67
theorem ox128_66 : sx_oks 128 x128_66 := ⟨Or.inr ⟨_, (sx_dd bb_128 dX8_guard_66), rfl, rfl⟩, ox128_67⟩
def x128_63 : List sx_E := (.invokevirtual 95, 63, 66, [127, 4, 0, 0, 7], .null) :: x128_66
theorem ox128_63 : sx_oks 128 x128_63 := ⟨sx_q_V (w := (RX8, TX8, 31)) (sx_dd bb_128 dX8_guard_63) oo_128 lk_StrawGarrisonModel_95_V ft_127_h (Nat.le_of_ble_eq_true rfl) rfl rfl, ox128_66⟩
def x128_62 : List sx_E := (.iload 3, 62, 63, [], .null) :: x128_63
theorem ox128_62 : sx_oks 128 x128_62 := ⟨Or.inr ⟨_, (sx_dd bb_128 dX8_guard_62), rfl, rfl⟩, ox128_63⟩
def x128_61 : List sx_E := (.iload 2, 61, 62, [], .null) :: x128_62
theorem ox128_61 : sx_oks 128 x128_61 := ⟨Or.inr ⟨_, (sx_dd bb_128 dX8_guard_61), rfl, rfl⟩, ox128_62⟩
def x128_60 : List sx_E := (.iload 1, 60, 61, [], .null) :: x128_61
theorem ox128_60 : sx_oks 128 x128_60 := ⟨Or.inr ⟨_, (sx_dd bb_128 dX8_guard_60), rfl, rfl⟩, ox128_61⟩
def x128_59 : List sx_E := (.aload 0, 59, 60, [], .null) :: x128_60
theorem ox128_59 : sx_oks 128 x128_59 := ⟨Or.inr ⟨_, (sx_dd bb_128 dX8_guard_59), rfl, rfl⟩, ox128_60⟩
def x128_58 : List sx_E := (.ireturn, 58, 59, [0], .null) :: x128_59
theorem ox128_58 : sx_oks 128 x128_58 := ⟨sx_q_iret0 (sx_dd bb_128 dX8_guard_58) rr_128, ox128_59⟩
def x128_56 : List sx_E := (.nop, 56, 58, [], .int ((-1000000003))) :: x128_58
theorem ox128_56 : sx_oks 128 x128_56 := ⟨sx_k_ldc (sx_dd bb_128 dX8_guard_56) (sx_ow1 oo_128 kc_StrawGarrisonModel_94), ox128_58⟩
def x128_53 : List sx_E := (.if_icmp .ne (6), 53, 56, [59], .null) :: x128_56
theorem ox128_53 : sx_oks 128 x128_53 := ⟨⟨(sx_dd bb_128 dX8_guard_53), rfl, sx_t1 (by decide +kernel)⟩, ox128_56⟩
def x128_51 : List sx_E := (.nop, 51, 53, [], .int (nI 10)) :: x128_53
theorem ox128_51 : sx_oks 128 x128_51 := ⟨sx_k_bipush (sx_dd bb_128 dX8_guard_51) (by decide +kernel), ox128_53⟩
def x128_50 : List sx_E := (.iaload, 50, 51, [], .null) :: x128_51
theorem ox128_50 : sx_oks 128 x128_50 := ⟨⟨(sx_dd bb_128 dX8_guard_50), rfl⟩, ox128_51⟩
def x128_49 : List sx_E := (.nop, 49, 50, [], .int (nI 0)) :: x128_50
theorem ox128_49 : sx_oks 128 x128_49 := ⟨sx_k_iconst (sx_dd bb_128 dX8_guard_49) (by decide +kernel), ox128_50⟩
def x128_46 : List sx_E := (.getfield 7, 46, 49, [7, 0, 1], .null) :: x128_49
theorem ox128_46 : sx_oks 128 x128_46 := ⟨sx_q_get (w := (RX8, TX8, 31)) (sx_dd bb_128 dX8_guard_46) rfl rfl (Nat.le_of_ble_eq_true rfl) cu_7 (sx_ow3 oo_128 fl_StrawGarrisonModel_7) (by decide +kernel), ox128_49⟩
def x128_45 : List sx_E := (.aload 0, 45, 46, [], .null) :: x128_46
theorem ox128_45 : sx_oks 128 x128_45 := ⟨Or.inr ⟨_, (sx_dd bb_128 dX8_guard_45), rfl, rfl⟩, ox128_46⟩
def x128_44 : List sx_E := (.ireturn, 44, 45, [0], .null) :: x128_45
theorem ox128_44 : sx_oks 128 x128_44 := ⟨sx_q_iret0 (sx_dd bb_128 dX8_guard_44) rr_128, ox128_45⟩
def x128_42 : List sx_E := (.nop, 42, 44, [], .int ((-1000000002))) :: x128_44
theorem ox128_42 : sx_oks 128 x128_42 := ⟨sx_k_ldc (sx_dd bb_128 dX8_guard_42) (sx_ow1 oo_128 kc_StrawGarrisonModel_93), ox128_44⟩
def x128_39 : List sx_E := (.ifCond .lt (6), 39, 42, [45], .null) :: x128_42
theorem ox128_39 : sx_oks 128 x128_39 := ⟨⟨(sx_dd bb_128 dX8_guard_39), rfl, sx_t1 (by decide +kernel)⟩, ox128_42⟩
def x128_36 : List sx_E := (.invokevirtual 89, 36, 39, [126, 2, 0, 0, 7], .null) :: x128_39
theorem ox128_36 : sx_oks 128 x128_36 := ⟨sx_q_V (w := (RX8, TX8, 31)) (sx_dd bb_128 dX8_guard_36) oo_128 lk_StrawGarrisonModel_89_V ft_126_h (Nat.le_of_ble_eq_true rfl) rfl rfl, ox128_39⟩
def x128_35 : List sx_E := (.iload 2, 35, 36, [], .null) :: x128_36
theorem ox128_35 : sx_oks 128 x128_35 := ⟨Or.inr ⟨_, (sx_dd bb_128 dX8_guard_35), rfl, rfl⟩, ox128_36⟩
def x128_34 : List sx_E := (.aload 0, 34, 35, [], .null) :: x128_35
theorem ox128_34 : sx_oks 128 x128_34 := ⟨Or.inr ⟨_, (sx_dd bb_128 dX8_guard_34), rfl, rfl⟩, ox128_35⟩
def x128_33 : List sx_E := (.ireturn, 33, 34, [0], .null) :: x128_34
theorem ox128_33 : sx_oks 128 x128_33 := ⟨sx_q_iret0 (sx_dd bb_128 dX8_guard_33) rr_128, ox128_34⟩
def x128_31 : List sx_E := (.nop, 31, 33, [], .int ((-1000000001))) :: x128_33
theorem ox128_31 : sx_oks 128 x128_31 := ⟨sx_k_ldc (sx_dd bb_128 dX8_guard_31) (sx_ow1 oo_128 kc_StrawGarrisonModel_88), ox128_33⟩
def x128_28 : List sx_E := (.ifCond .ne (6), 28, 31, [34], .null) :: x128_31
theorem ox128_28 : sx_oks 128 x128_28 := ⟨⟨(sx_dd bb_128 dX8_guard_28), rfl, sx_t1 (by decide +kernel)⟩, ox128_31⟩
def x128_25 : List sx_E := (.invokestatic 65, 25, 28, [113, 3, 0, 0], .null) :: x128_28
theorem ox128_25 : sx_oks 128 x128_25 := ⟨sx_q_S (sx_dd bb_128 dX8_guard_25) oo_128 lk_StrawGarrisonModel_65_S ft_113_h, ox128_28⟩
def x128_22 : List sx_E := (.nop, 22, 25, [], .long (99)) :: x128_25
theorem ox128_22 : sx_oks 128 x128_22 := ⟨sx_k_ldc2 (sx_dd bb_128 dX8_guard_22) (sx_ow2 oo_128 kl_StrawGarrisonModel_86), ox128_25⟩
def x128_21 : List sx_E := (.nop, 21, 22, [], .long (0)) :: x128_22
theorem ox128_21 : sx_oks 128 x128_21 := ⟨sx_k_lconst (sx_dd bb_128 dX8_guard_21) (by decide +kernel), ox128_22⟩
def x128_20 : List sx_E := (.i2l, 20, 21, [], .null) :: x128_21
theorem ox128_20 : sx_oks 128 x128_20 := ⟨⟨(sx_dd bb_128 dX8_guard_20), rfl⟩, ox128_21⟩
def x128_19 : List sx_E := (.iload 3, 19, 20, [], .null) :: x128_20
theorem ox128_19 : sx_oks 128 x128_19 := ⟨Or.inr ⟨_, (sx_dd bb_128 dX8_guard_19), rfl, rfl⟩, ox128_20⟩
def x128_16 : List sx_E := (.ifCond .eq (15), 16, 19, [31], .null) :: x128_19
theorem ox128_16 : sx_oks 128 x128_16 := ⟨⟨(sx_dd bb_128 dX8_guard_16), rfl, sx_t1 (by decide +kernel)⟩, ox128_19⟩
def x128_13 : List sx_E := (.invokestatic 82, 13, 16, [125, 1, 0, 0], .null) :: x128_16
theorem ox128_13 : sx_oks 128 x128_13 := ⟨sx_q_S (sx_dd bb_128 dX8_guard_13) oo_128 lk_StrawGarrisonModel_82_S ft_125_h, ox128_16⟩
def x128_12 : List sx_E := (.iload 2, 12, 13, [], .null) :: x128_13
theorem ox128_12 : sx_oks 128 x128_12 := ⟨Or.inr ⟨_, (sx_dd bb_128 dX8_guard_12), rfl, rfl⟩, ox128_13⟩
def x128_9 : List sx_E := (.ifCond .eq (22), 9, 12, [31], .null) :: x128_12
theorem ox128_9 : sx_oks 128 x128_9 := ⟨⟨(sx_dd bb_128 dX8_guard_9), rfl, sx_t1 (by decide +kernel)⟩, ox128_12⟩
def x128_6 : List sx_E := (.invokestatic 65, 6, 9, [113, 3, 0, 0], .null) :: x128_9
theorem ox128_6 : sx_oks 128 x128_6 := ⟨sx_q_S (sx_dd bb_128 dX8_guard_6) oo_128 lk_StrawGarrisonModel_65_S ft_113_h, ox128_9⟩
def x128_3 : List sx_E := (.nop, 3, 6, [], .long (5)) :: x128_6
theorem ox128_3 : sx_oks 128 x128_3 := ⟨sx_k_ldc2 (sx_dd bb_128 dX8_guard_3) (sx_ow2 oo_128 kl_StrawGarrisonModel_80), ox128_6⟩
def x128_2 : List sx_E := (.nop, 2, 3, [], .long (0)) :: x128_3
theorem ox128_2 : sx_oks 128 x128_2 := ⟨sx_k_lconst (sx_dd bb_128 dX8_guard_2) (by decide +kernel), ox128_3⟩
def x128_1 : List sx_E := (.i2l, 1, 2, [], .null) :: x128_2
theorem ox128_1 : sx_oks 128 x128_1 := ⟨⟨(sx_dd bb_128 dX8_guard_1), rfl⟩, ox128_2⟩
def x128_0 : List sx_E := (.iload 1, 0, 1, [], .null) :: x128_1
theorem ox128_0 : sx_oks 128 x128_0 := ⟨Or.inr ⟨_, (sx_dd bb_128 dX8_guard_0), rfl, rfl⟩, ox128_1⟩
theorem m128 : sx_mok 128 x128_0 := ⟨ox128_0, by decide +kernel⟩
theorem bb_129 : sx_by 129 = cX8_plain := rfl
theorem oo_129 : (sx_nm 129).cls = "StrawGarrisonModel" := rfl
theorem mm_129 : sx_ml 129 = 3 := rfl
theorem rr_129 : sx_rt 129 = (some .int) := rfl
def x129_71 : List sx_E := (.ireturn, 71, 72, [0], .null) :: []
theorem ox129_71 : sx_oks 129 x129_71 := ⟨sx_q_iret0 (sx_dd bb_129 dX8_plain_71) rr_129, trivial⟩
def x129_68 : List sx_E := (.invokestatic 104, 68, 71, [115, 2, 0, 0], .null) :: x129_71
theorem ox129_68 : sx_oks 129 x129_68 := ⟨sx_q_S (sx_dd bb_129 dX8_plain_68) oo_129 lk_StrawGarrisonModel_104_S ft_115_h, ox129_71⟩
def x129_66 : List sx_E := (.nop, 66, 68, [], .int (nI 99)) :: x129_68
theorem ox129_66 : sx_oks 129 x129_66 := ⟨sx_k_bipush (sx_dd bb_129 dX8_plain_66) (by decide +kernel), ox129_68⟩
def x129_63 : List sx_E := (.invokevirtual 101, 63, 66, [192, 2, 0, 0, 7], .null) :: x129_66
theorem ox129_63 : sx_oks 129 x129_63 := ⟨sx_q_V (w := (RX8, TX8, 31)) (sx_dd bb_129 dX8_plain_63) oo_129 lk_StrawGarrisonModel_101_V ft_192_h (Nat.le_of_ble_eq_true rfl) rfl rfl, ox129_66⟩
def x129_62 : List sx_E := (.iload 2, 62, 63, [], .null) :: x129_63
theorem ox129_62 : sx_oks 129 x129_62 := ⟨Or.inr ⟨_, (sx_dd bb_129 dX8_plain_62), rfl, rfl⟩, ox129_63⟩
def x129_61 : List sx_E := (.aload 0, 61, 62, [], .null) :: x129_62
theorem ox129_61 : sx_oks 129 x129_61 := ⟨Or.inr ⟨_, (sx_dd bb_129 dX8_plain_61), rfl, rfl⟩, ox129_62⟩
def x129_60 : List sx_E := (.iastore, 60, 61, [], .null) :: x129_61
theorem ox129_60 : sx_oks 129 x129_60 := ⟨⟨(sx_dd bb_129 dX8_plain_60), rfl⟩, ox129_61⟩
def x129_57 : List sx_E := (.invokevirtual 72, 57, 60, [119, 3, 0, 0, 7], .null) :: x129_60
theorem ox129_57 : sx_oks 129 x129_57 := ⟨sx_q_V (w := (RX8, TX8, 31)) (sx_dd bb_129 dX8_plain_57) oo_129 lk_StrawGarrisonModel_72_V ft_119_h (Nat.le_of_ble_eq_true rfl) rfl rfl, ox129_60⟩
def x129_56 : List sx_E := (.nop, 56, 57, [], .int (nI 1)) :: x129_57
theorem ox129_56 : sx_oks 129 x129_56 := ⟨sx_k_iconst (sx_dd bb_129 dX8_plain_56) (by decide +kernel), ox129_57⟩
def x129_55 : List sx_E := (.iload 1, 55, 56, [], .null) :: x129_56
theorem ox129_55 : sx_oks 129 x129_55 := ⟨Or.inr ⟨_, (sx_dd bb_129 dX8_plain_55), rfl, rfl⟩, ox129_56⟩
def x129_54 : List sx_E := (.aload 0, 54, 55, [], .null) :: x129_55
theorem ox129_54 : sx_oks 129 x129_54 := ⟨Or.inr ⟨_, (sx_dd bb_129 dX8_plain_54), rfl, rfl⟩, ox129_55⟩
def x129_52 : List sx_E := (.nop, 52, 54, [], .int (nI 112)) :: x129_54
theorem ox129_52 : sx_oks 129 x129_52 := ⟨sx_k_bipush (sx_dd bb_129 dX8_plain_52) (by decide +kernel), ox129_54⟩
def x129_49 : List sx_E := (.getfield 49, 49, 52, [7, 25, 1], .null) :: x129_52
theorem ox129_49 : sx_oks 129 x129_49 := ⟨sx_q_get (w := (RX8, TX8, 31)) (sx_dd bb_129 dX8_plain_49) rfl rfl (Nat.le_of_ble_eq_true rfl) cu_7 (sx_ow3 oo_129 fl_StrawGarrisonModel_49) (by decide +kernel), ox129_52⟩
def x129_48 : List sx_E := (.aload 0, 48, 49, [], .null) :: x129_49
theorem ox129_48 : sx_oks 129 x129_48 := ⟨Or.inr ⟨_, (sx_dd bb_129 dX8_plain_48), rfl, rfl⟩, ox129_49⟩
def x129_47 : List sx_E := (.iastore, 47, 48, [], .null) :: x129_48
theorem ox129_47 : sx_oks 129 x129_47 := ⟨⟨(sx_dd bb_129 dX8_plain_47), rfl⟩, ox129_48⟩
def x129_44 : List sx_E := (.invokevirtual 72, 44, 47, [119, 3, 0, 0, 7], .null) :: x129_47
theorem ox129_44 : sx_oks 129 x129_44 := ⟨sx_q_V (w := (RX8, TX8, 31)) (sx_dd bb_129 dX8_plain_44) oo_129 lk_StrawGarrisonModel_72_V ft_119_h (Nat.le_of_ble_eq_true rfl) rfl rfl, ox129_47⟩
def x129_43 : List sx_E := (.nop, 43, 44, [], .int (nI 3)) :: x129_44
theorem ox129_43 : sx_oks 129 x129_43 := ⟨sx_k_iconst (sx_dd bb_129 dX8_plain_43) (by decide +kernel), ox129_44⟩
def x129_42 : List sx_E := (.iload 1, 42, 43, [], .null) :: x129_43
theorem ox129_42 : sx_oks 129 x129_42 := ⟨Or.inr ⟨_, (sx_dd bb_129 dX8_plain_42), rfl, rfl⟩, ox129_43⟩
def x129_41 : List sx_E := (.aload 0, 41, 42, [], .null) :: x129_42
theorem ox129_41 : sx_oks 129 x129_41 := ⟨Or.inr ⟨_, (sx_dd bb_129 dX8_plain_41), rfl, rfl⟩, ox129_42⟩
def x129_39 : List sx_E := (.nop, 39, 41, [], .int (nI 100)) :: x129_41
theorem ox129_39 : sx_oks 129 x129_39 := ⟨sx_k_bipush (sx_dd bb_129 dX8_plain_39) (by decide +kernel), ox129_41⟩
def x129_36 : List sx_E := (.getfield 49, 36, 39, [7, 25, 1], .null) :: x129_39
theorem ox129_36 : sx_oks 129 x129_36 := ⟨sx_q_get (w := (RX8, TX8, 31)) (sx_dd bb_129 dX8_plain_36) rfl rfl (Nat.le_of_ble_eq_true rfl) cu_7 (sx_ow3 oo_129 fl_StrawGarrisonModel_49) (by decide +kernel), ox129_39⟩
def x129_35 : List sx_E := (.aload 0, 35, 36, [], .null) :: x129_36
theorem ox129_35 : sx_oks 129 x129_35 := ⟨Or.inr ⟨_, (sx_dd bb_129 dX8_plain_35), rfl, rfl⟩, ox129_36⟩
def x129_34 : List sx_E := (.iastore, 34, 35, [], .null) :: x129_35
theorem ox129_34 : sx_oks 129 x129_34 := ⟨⟨(sx_dd bb_129 dX8_plain_34), rfl⟩, ox129_35⟩
def x129_31 : List sx_E := (.invokevirtual 72, 31, 34, [119, 3, 0, 0, 7], .null) :: x129_34
theorem ox129_31 : sx_oks 129 x129_31 := ⟨sx_q_V (w := (RX8, TX8, 31)) (sx_dd bb_129 dX8_plain_31) oo_129 lk_StrawGarrisonModel_72_V ft_119_h (Nat.le_of_ble_eq_true rfl) rfl rfl, ox129_34⟩
def x129_30 : List sx_E := (.nop, 30, 31, [], .int (nI 2)) :: x129_31
theorem ox129_30 : sx_oks 129 x129_30 := ⟨sx_k_iconst (sx_dd bb_129 dX8_plain_30) (by decide +kernel), ox129_31⟩
def x129_29 : List sx_E := (.iload 1, 29, 30, [], .null) :: x129_30
theorem ox129_29 : sx_oks 129 x129_29 := ⟨Or.inr ⟨_, (sx_dd bb_129 dX8_plain_29), rfl, rfl⟩, ox129_30⟩
def x129_28 : List sx_E := (.aload 0, 28, 29, [], .null) :: x129_29
theorem ox129_28 : sx_oks 129 x129_28 := ⟨Or.inr ⟨_, (sx_dd bb_129 dX8_plain_28), rfl, rfl⟩, ox129_29⟩
def x129_26 : List sx_E := (.nop, 26, 28, [], .int (nI 119)) :: x129_28
theorem ox129_26 : sx_oks 129 x129_26 := ⟨sx_k_bipush (sx_dd bb_129 dX8_plain_26) (by decide +kernel), ox129_28⟩
def x129_23 : List sx_E := (.getfield 49, 23, 26, [7, 25, 1], .null) :: x129_26
theorem ox129_23 : sx_oks 129 x129_23 := ⟨sx_q_get (w := (RX8, TX8, 31)) (sx_dd bb_129 dX8_plain_23) rfl rfl (Nat.le_of_ble_eq_true rfl) cu_7 (sx_ow3 oo_129 fl_StrawGarrisonModel_49) (by decide +kernel), ox129_26⟩
def x129_22 : List sx_E := (.aload 0, 22, 23, [], .null) :: x129_23
theorem ox129_22 : sx_oks 129 x129_22 := ⟨Or.inr ⟨_, (sx_dd bb_129 dX8_plain_22), rfl, rfl⟩, ox129_23⟩
def x129_21 : List sx_E := (.ireturn, 21, 22, [0], .null) :: x129_22
theorem ox129_21 : sx_oks 129 x129_21 := ⟨sx_q_iret0 (sx_dd bb_129 dX8_plain_21) rr_129, ox129_22⟩
def x129_20 : List sx_E := (.isub, 20, 21, [], .null) :: x129_21
theorem ox129_20 : sx_oks 129 x129_20 := ⟨⟨(sx_dd bb_129 dX8_plain_20), rfl⟩, ox129_21⟩
def x129_19 : List sx_E := (.idiv, 19, 20, [], .null) :: x129_20
theorem ox129_19 : sx_oks 129 x129_19 := ⟨⟨(sx_dd bb_129 dX8_plain_19), rfl⟩, ox129_20⟩
def x129_18 : List sx_E := (.nop, 18, 19, [], .int (nI 2)) :: x129_19
theorem ox129_18 : sx_oks 129 x129_18 := ⟨sx_k_iconst (sx_dd bb_129 dX8_plain_18) (by decide +kernel), ox129_19⟩
def x129_15 : List sx_E := (.invokevirtual 72, 15, 18, [119, 3, 0, 0, 7], .null) :: x129_18
theorem ox129_15 : sx_oks 129 x129_15 := ⟨sx_q_V (w := (RX8, TX8, 31)) (sx_dd bb_129 dX8_plain_15) oo_129 lk_StrawGarrisonModel_72_V ft_119_h (Nat.le_of_ble_eq_true rfl) rfl rfl, ox129_18⟩
def x129_14 : List sx_E := (.nop, 14, 15, [], .int (nI 2)) :: x129_15
theorem ox129_14 : sx_oks 129 x129_14 := ⟨sx_k_iconst (sx_dd bb_129 dX8_plain_14) (by decide +kernel), ox129_15⟩
def x129_13 : List sx_E := (.iload 1, 13, 14, [], .null) :: x129_14
theorem ox129_13 : sx_oks 129 x129_13 := ⟨Or.inr ⟨_, (sx_dd bb_129 dX8_plain_13), rfl, rfl⟩, ox129_14⟩
def x129_12 : List sx_E := (.aload 0, 12, 13, [], .null) :: x129_13
theorem ox129_12 : sx_oks 129 x129_12 := ⟨Or.inr ⟨_, (sx_dd bb_129 dX8_plain_12), rfl, rfl⟩, ox129_13⟩
def x129_10 : List sx_E := (.nop, 10, 12, [], .int (nI 60)) :: x129_12
theorem ox129_10 : sx_oks 129 x129_10 := ⟨sx_k_bipush (sx_dd bb_129 dX8_plain_10) (by decide +kernel), ox129_12⟩
def x129_7 : List sx_E := (.ifCond .ge (15), 7, 10, [22], .null) :: x129_10
theorem ox129_7 : sx_oks 129 x129_7 := ⟨⟨(sx_dd bb_129 dX8_plain_7), rfl, sx_t1 (by decide +kernel)⟩, ox129_10⟩
def x129_6 : List sx_E := (.iload 2, 6, 7, [], .null) :: x129_7
theorem ox129_6 : sx_oks 129 x129_6 := ⟨Or.inr ⟨_, (sx_dd bb_129 dX8_plain_6), rfl, rfl⟩, ox129_7⟩
def x129_5 : List sx_E := (.istore 2, 5, 6, [], .null) :: x129_6
theorem ox129_5 : sx_oks 129 x129_5 := ⟨⟨sx_lt mm_129 (Nat.le_of_ble_eq_true rfl), Or.inr ⟨_, (sx_dd bb_129 dX8_plain_5), rfl, rfl⟩⟩, ox129_6⟩
def x129_2 : List sx_E := (.invokevirtual 98, 2, 5, [189, 2, 0, 0, 7], .null) :: x129_5
theorem ox129_2 : sx_oks 129 x129_2 := ⟨sx_q_V (w := (RX8, TX8, 31)) (sx_dd bb_129 dX8_plain_2) oo_129 lk_StrawGarrisonModel_98_V ft_189_h (Nat.le_of_ble_eq_true rfl) rfl rfl, ox129_5⟩
def x129_1 : List sx_E := (.nop, 1, 2, [], .int (nI 0)) :: x129_2
theorem ox129_1 : sx_oks 129 x129_1 := ⟨sx_k_iconst (sx_dd bb_129 dX8_plain_1) (by decide +kernel), ox129_2⟩
def x129_0 : List sx_E := (.aload 0, 0, 1, [], .null) :: x129_1
theorem ox129_0 : sx_oks 129 x129_0 := ⟨Or.inr ⟨_, (sx_dd bb_129 dX8_plain_0), rfl, rfl⟩, ox129_1⟩
theorem m129 : sx_mok 129 x129_0 := ⟨ox129_0, by decide +kernel⟩
theorem bb_130 : sx_by 130 = cX8_looks := rfl
theorem oo_130 : (sx_nm 130).cls = "StrawGarrisonModel" := rfl
theorem mm_130 : sx_ml 130 = 2 := rfl
theorem rr_130 : sx_rt 130 = (some .int) := rfl
def x130_86 : List sx_E := (.ireturn, 86, 87, [0], .null) :: []
theorem ox130_86 : sx_oks 130 x130_86 := ⟨sx_q_iret0 (sx_dd bb_130 dX8_looks_86) rr_130, trivial⟩
def x130_83 : List sx_E := (.invokevirtual 107, 83, 86, [129, 2, 0, 0, 7], .null) :: x130_86
theorem ox130_83 : sx_oks 130 x130_83 := ⟨sx_q_V (w := (RX8, TX8, 31)) (sx_dd bb_130 dX8_looks_83) oo_130 lk_StrawGarrisonModel_107_V ft_129_h (Nat.le_of_ble_eq_true rfl) rfl rfl, ox130_86⟩
def x130_82 : List sx_E := (.iload 1, 82, 83, [], .null) :: x130_83
theorem ox130_82 : sx_oks 130 x130_82 := ⟨Or.inr ⟨_, (sx_dd bb_130 dX8_looks_82), rfl, rfl⟩, ox130_83⟩
def x130_81 : List sx_E := (.aload 0, 81, 82, [], .null) :: x130_82
theorem ox130_81 : sx_oks 130 x130_81 := ⟨Or.inr ⟨_, (sx_dd bb_130 dX8_looks_81), rfl, rfl⟩, ox130_82⟩
def x130_80 : List sx_E := (.ireturn, 80, 81, [0], .null) :: x130_81
theorem ox130_80 : sx_oks 130 x130_80 := ⟨sx_q_iret0 (sx_dd bb_130 dX8_looks_80) rr_130, ox130_81⟩
def x130_79 : List sx_E := (.iadd, 79, 80, [], .null) :: x130_80
theorem ox130_79 : sx_oks 130 x130_79 := ⟨⟨(sx_dd bb_130 dX8_looks_79), rfl⟩, ox130_80⟩
def x130_78 : List sx_E := (.imul, 78, 79, [], .null) :: x130_79
theorem ox130_78 : sx_oks 130 x130_78 := ⟨⟨(sx_dd bb_130 dX8_looks_78), rfl⟩, ox130_79⟩
def x130_77 : List sx_E := (.irem, 77, 78, [], .null) :: x130_78
theorem ox130_77 : sx_oks 130 x130_77 := ⟨⟨(sx_dd bb_130 dX8_looks_77), rfl⟩, ox130_78⟩
def x130_76 : List sx_E := (.nop, 76, 77, [], .int (nI 2)) :: x130_77
theorem ox130_76 : sx_oks 130 x130_76 := ⟨sx_k_iconst (sx_dd bb_130 dX8_looks_76) (by decide +kernel), ox130_77⟩
def x130_75 : List sx_E := (.iaload, 75, 76, [], .null) :: x130_76
theorem ox130_75 : sx_oks 130 x130_75 := ⟨⟨(sx_dd bb_130 dX8_looks_75), rfl⟩, ox130_76⟩
def x130_74 : List sx_E := (.nop, 74, 75, [], .int (nI 2)) :: x130_75
theorem ox130_74 : sx_oks 130 x130_74 := ⟨sx_k_iconst (sx_dd bb_130 dX8_looks_74) (by decide +kernel), ox130_75⟩
def x130_71 : List sx_E := (.getfield 7, 71, 74, [7, 0, 1], .null) :: x130_74
theorem ox130_71 : sx_oks 130 x130_71 := ⟨sx_q_get (w := (RX8, TX8, 31)) (sx_dd bb_130 dX8_looks_71) rfl rfl (Nat.le_of_ble_eq_true rfl) cu_7 (sx_ow3 oo_130 fl_StrawGarrisonModel_7) (by decide +kernel), ox130_74⟩
def x130_70 : List sx_E := (.aload 0, 70, 71, [], .null) :: x130_71
theorem ox130_70 : sx_oks 130 x130_70 := ⟨Or.inr ⟨_, (sx_dd bb_130 dX8_looks_70), rfl, rfl⟩, ox130_71⟩
def x130_68 : List sx_E := (.nop, 68, 70, [], .int (nI 20)) :: x130_70
theorem ox130_68 : sx_oks 130 x130_68 := ⟨sx_k_bipush (sx_dd bb_130 dX8_looks_68) (by decide +kernel), ox130_70⟩
def x130_65 : List sx_E := (.invokevirtual 107, 65, 68, [129, 2, 0, 0, 7], .null) :: x130_68
theorem ox130_65 : sx_oks 130 x130_65 := ⟨sx_q_V (w := (RX8, TX8, 31)) (sx_dd bb_130 dX8_looks_65) oo_130 lk_StrawGarrisonModel_107_V ft_129_h (Nat.le_of_ble_eq_true rfl) rfl rfl, ox130_68⟩
def x130_64 : List sx_E := (.iload 1, 64, 65, [], .null) :: x130_65
theorem ox130_64 : sx_oks 130 x130_64 := ⟨Or.inr ⟨_, (sx_dd bb_130 dX8_looks_64), rfl, rfl⟩, ox130_65⟩
def x130_63 : List sx_E := (.aload 0, 63, 64, [], .null) :: x130_64
theorem ox130_63 : sx_oks 130 x130_63 := ⟨Or.inr ⟨_, (sx_dd bb_130 dX8_looks_63), rfl, rfl⟩, ox130_64⟩
def x130_62 : List sx_E := (.ireturn, 62, 63, [0], .null) :: x130_63
theorem ox130_62 : sx_oks 130 x130_62 := ⟨sx_q_iret0 (sx_dd bb_130 dX8_looks_62) rr_130, ox130_63⟩
def x130_60 : List sx_E := (.nop, 60, 62, [], .int (nI 99)) :: x130_62
theorem ox130_60 : sx_oks 130 x130_60 := ⟨sx_k_bipush (sx_dd bb_130 dX8_looks_60) (by decide +kernel), ox130_62⟩
def x130_59 : List sx_E := (.ireturn, 59, 60, [0], .null) :: x130_60
theorem ox130_59 : sx_oks 130 x130_59 := ⟨sx_q_iret0 (sx_dd bb_130 dX8_looks_59) rr_130, ox130_60⟩
def x130_58 : List sx_E := (.imul, 58, 59, [], .null) :: x130_59
theorem ox130_58 : sx_oks 130 x130_58 := ⟨⟨(sx_dd bb_130 dX8_looks_58), rfl⟩, ox130_59⟩
def x130_57 : List sx_E := (.iadd, 57, 58, [], .null) :: x130_58
theorem ox130_57 : sx_oks 130 x130_57 := ⟨⟨(sx_dd bb_130 dX8_looks_57), rfl⟩, ox130_58⟩
def x130_55 : List sx_E := (.nop, 55, 57, [], .int (nI 12)) :: x130_57
theorem ox130_55 : sx_oks 130 x130_55 := ⟨sx_k_bipush (sx_dd bb_130 dX8_looks_55) (by decide +kernel), ox130_57⟩
def x130_52 : List sx_E := (.invokevirtual 107, 52, 55, [129, 2, 0, 0, 7], .null) :: x130_55
theorem ox130_52 : sx_oks 130 x130_52 := ⟨sx_q_V (w := (RX8, TX8, 31)) (sx_dd bb_130 dX8_looks_52) oo_130 lk_StrawGarrisonModel_107_V ft_129_h (Nat.le_of_ble_eq_true rfl) rfl rfl, ox130_55⟩
def x130_51 : List sx_E := (.iload 1, 51, 52, [], .null) :: x130_52
theorem ox130_51 : sx_oks 130 x130_51 := ⟨Or.inr ⟨_, (sx_dd bb_130 dX8_looks_51), rfl, rfl⟩, ox130_52⟩
def x130_50 : List sx_E := (.aload 0, 50, 51, [], .null) :: x130_51
theorem ox130_50 : sx_oks 130 x130_50 := ⟨Or.inr ⟨_, (sx_dd bb_130 dX8_looks_50), rfl, rfl⟩, ox130_51⟩
def x130_49 : List sx_E := (.nop, 49, 50, [], .int (nI 2)) :: x130_50
theorem ox130_49 : sx_oks 130 x130_49 := ⟨sx_k_iconst (sx_dd bb_130 dX8_looks_49) (by decide +kernel), ox130_50⟩
def x130_48 : List sx_E := (.ireturn, 48, 49, [0], .null) :: x130_49
theorem ox130_48 : sx_oks 130 x130_48 := ⟨sx_q_iret0 (sx_dd bb_130 dX8_looks_48) rr_130, ox130_49⟩
def x130_47 : List sx_E := (.iadd, 47, 48, [], .null) :: x130_48
theorem ox130_47 : sx_oks 130 x130_47 := ⟨⟨(sx_dd bb_130 dX8_looks_47), rfl⟩, ox130_48⟩
def x130_45 : List sx_E := (.nop, 45, 47, [], .int (nI 12)) :: x130_47
theorem ox130_45 : sx_oks 130 x130_45 := ⟨sx_k_bipush (sx_dd bb_130 dX8_looks_45) (by decide +kernel), ox130_47⟩
def x130_42 : List sx_E := (.invokevirtual 107, 42, 45, [129, 2, 0, 0, 7], .null) :: x130_45
theorem ox130_42 : sx_oks 130 x130_42 := ⟨sx_q_V (w := (RX8, TX8, 31)) (sx_dd bb_130 dX8_looks_42) oo_130 lk_StrawGarrisonModel_107_V ft_129_h (Nat.le_of_ble_eq_true rfl) rfl rfl, ox130_45⟩
def x130_41 : List sx_E := (.iload 1, 41, 42, [], .null) :: x130_42
theorem ox130_41 : sx_oks 130 x130_41 := ⟨Or.inr ⟨_, (sx_dd bb_130 dX8_looks_41), rfl, rfl⟩, ox130_42⟩
def x130_40 : List sx_E := (.aload 0, 40, 41, [], .null) :: x130_41
theorem ox130_40 : sx_oks 130 x130_40 := ⟨Or.inr ⟨_, (sx_dd bb_130 dX8_looks_40), rfl, rfl⟩, ox130_41⟩
def x130_6 : List sx_E := (.tableswitch 75 1 5 #[34, 54, 43, 54, 57], 6, 40, [1, 81, 40, 60, 49, 60, 63], .null) :: x130_40
theorem ox130_6 : sx_oks 130 x130_6 := ⟨⟨⟨_, (sx_dd bb_130 dX8_looks_6)⟩, sx_t2 (by decide +kernel) (by decide +kernel) (Nat.le_of_ble_eq_true rfl) (by decide +kernel) (by decide +kernel)⟩, ox130_40⟩
def x130_3 : List sx_E := (.invokevirtual 72, 3, 6, [119, 3, 0, 0, 7], .null) :: x130_6
theorem ox130_3 : sx_oks 130 x130_3 := ⟨sx_q_V (w := (RX8, TX8, 31)) (sx_dd bb_130 dX8_looks_3) oo_130 lk_StrawGarrisonModel_72_V ft_119_h (Nat.le_of_ble_eq_true rfl) rfl rfl, ox130_6⟩
def x130_2 : List sx_E := (.nop, 2, 3, [], .int (nI 0)) :: x130_3
theorem ox130_2 : sx_oks 130 x130_2 := ⟨sx_k_iconst (sx_dd bb_130 dX8_looks_2) (by decide +kernel), ox130_3⟩
def x130_1 : List sx_E := (.iload 1, 1, 2, [], .null) :: x130_2
theorem ox130_1 : sx_oks 130 x130_1 := ⟨Or.inr ⟨_, (sx_dd bb_130 dX8_looks_1), rfl, rfl⟩, ox130_2⟩
def x130_0 : List sx_E := (.aload 0, 0, 1, [], .null) :: x130_1
theorem ox130_0 : sx_oks 130 x130_0 := ⟨Or.inr ⟨_, (sx_dd bb_130 dX8_looks_0), rfl, rfl⟩, ox130_1⟩
theorem m130 : sx_mok 130 x130_0 := ⟨ox130_0, by decide +kernel⟩
theorem bb_131 : sx_by 131 = cX8_lives := rfl
theorem oo_131 : (sx_nm 131).cls = "StrawGarrisonModel" := rfl
theorem mm_131 : sx_ml 131 = 2 := rfl
theorem rr_131 : sx_rt 131 = (some .boolean) := rfl
def x131_25 : List sx_E := (.ireturn, 25, 26, [1], .null) :: []
theorem ox131_25 : sx_oks 131 x131_25 := ⟨sx_q_iret1 (sx_dd bb_131 dX8_lives_25) rr_131, trivial⟩
def x131_24 : List sx_E := (.nop, 24, 25, [], .int (nI 0)) :: x131_25
theorem ox131_24 : sx_oks 131 x131_24 := ⟨sx_k_iconst (sx_dd bb_131 dX8_lives_24) (by decide +kernel), ox131_25⟩
def x131_21 : List sx_E := (.goto (4), 21, 24, [25], .null) :: x131_24
theorem ox131_21 : sx_oks 131 x131_21 := ⟨⟨(sx_dd bb_131 dX8_lives_21), sx_t1 (by decide +kernel)⟩, ox131_24⟩
def x131_20 : List sx_E := (.nop, 20, 21, [], .int (nI 1)) :: x131_21
theorem ox131_20 : sx_oks 131 x131_20 := ⟨sx_k_iconst (sx_dd bb_131 dX8_lives_20) (by decide +kernel), ox131_21⟩
def x131_17 : List sx_E := (.if_icmp .ne (7), 17, 20, [24], .null) :: x131_20
theorem ox131_17 : sx_oks 131 x131_17 := ⟨⟨(sx_dd bb_131 dX8_lives_17), rfl, sx_t1 (by decide +kernel)⟩, ox131_20⟩
def x131_16 : List sx_E := (.nop, 16, 17, [], .int (nI 4)) :: x131_17
theorem ox131_16 : sx_oks 131 x131_16 := ⟨sx_k_iconst (sx_dd bb_131 dX8_lives_16) (by decide +kernel), ox131_17⟩
def x131_13 : List sx_E := (.invokevirtual 72, 13, 16, [119, 3, 0, 0, 7], .null) :: x131_16
theorem ox131_13 : sx_oks 131 x131_13 := ⟨sx_q_V (w := (RX8, TX8, 31)) (sx_dd bb_131 dX8_lives_13) oo_131 lk_StrawGarrisonModel_72_V ft_119_h (Nat.le_of_ble_eq_true rfl) rfl rfl, ox131_16⟩
def x131_12 : List sx_E := (.nop, 12, 13, [], .int (nI 0)) :: x131_13
theorem ox131_12 : sx_oks 131 x131_12 := ⟨sx_k_iconst (sx_dd bb_131 dX8_lives_12) (by decide +kernel), ox131_13⟩
def x131_11 : List sx_E := (.iload 1, 11, 12, [], .null) :: x131_12
theorem ox131_11 : sx_oks 131 x131_11 := ⟨Or.inr ⟨_, (sx_dd bb_131 dX8_lives_11), rfl, rfl⟩, ox131_12⟩
def x131_10 : List sx_E := (.aload 0, 10, 11, [], .null) :: x131_11
theorem ox131_10 : sx_oks 131 x131_10 := ⟨Or.inr ⟨_, (sx_dd bb_131 dX8_lives_10), rfl, rfl⟩, ox131_11⟩
def x131_7 : List sx_E := (.if_icmp .eq (13), 7, 10, [20], .null) :: x131_10
theorem ox131_7 : sx_oks 131 x131_7 := ⟨⟨(sx_dd bb_131 dX8_lives_7), rfl, sx_t1 (by decide +kernel)⟩, ox131_10⟩
def x131_6 : List sx_E := (.nop, 6, 7, [], .int (nI 2)) :: x131_7
theorem ox131_6 : sx_oks 131 x131_6 := ⟨sx_k_iconst (sx_dd bb_131 dX8_lives_6) (by decide +kernel), ox131_7⟩
def x131_3 : List sx_E := (.invokevirtual 72, 3, 6, [119, 3, 0, 0, 7], .null) :: x131_6
theorem ox131_3 : sx_oks 131 x131_3 := ⟨sx_q_V (w := (RX8, TX8, 31)) (sx_dd bb_131 dX8_lives_3) oo_131 lk_StrawGarrisonModel_72_V ft_119_h (Nat.le_of_ble_eq_true rfl) rfl rfl, ox131_6⟩
def x131_2 : List sx_E := (.nop, 2, 3, [], .int (nI 0)) :: x131_3
theorem ox131_2 : sx_oks 131 x131_2 := ⟨sx_k_iconst (sx_dd bb_131 dX8_lives_2) (by decide +kernel), ox131_3⟩
def x131_1 : List sx_E := (.iload 1, 1, 2, [], .null) :: x131_2
theorem ox131_1 : sx_oks 131 x131_1 := ⟨Or.inr ⟨_, (sx_dd bb_131 dX8_lives_1), rfl, rfl⟩, ox131_2⟩
def x131_0 : List sx_E := (.aload 0, 0, 1, [], .null) :: x131_1
theorem ox131_0 : sx_oks 131 x131_0 := ⟨Or.inr ⟨_, (sx_dd bb_131 dX8_lives_0), rfl, rfl⟩, ox131_1⟩
theorem m131 : sx_mok 131 x131_0 := ⟨ox131_0, by decide +kernel⟩
theorem bb_132 : sx_by 132 = cX8_falls := rfl
theorem oo_132 : (sx_nm 132).cls = "StrawGarrisonModel" := rfl
theorem mm_132 : sx_ml 132 = 3 := rfl
theorem rr_132 : sx_rt 132 = (some .int) := rfl
def x132_59 : List sx_E := (.ireturn, 59, 60, [0], .null) :: []
theorem ox132_59 : sx_oks 132 x132_59 := ⟨sx_q_iret0 (sx_dd bb_132 dX8_falls_59) rr_132, trivial⟩
def x132_58 : List sx_E := (.iload 2, 58, 59, [], .null) :: x132_59
theorem ox132_58 : sx_oks 132 x132_58 := ⟨Or.inr ⟨_, (sx_dd bb_132 dX8_falls_58), rfl, rfl⟩, ox132_59⟩
def x132_57 : List sx_E := (.ireturn, 57, 58, [0], .null) :: x132_58
theorem ox132_57 : sx_oks 132 x132_57 := ⟨sx_q_iret0 (sx_dd bb_132 dX8_falls_57) rr_132, ox132_58⟩
def x132_56 : List sx_E := (.imul, 56, 57, [], .null) :: x132_57
theorem ox132_56 : sx_oks 132 x132_56 := ⟨⟨(sx_dd bb_132 dX8_falls_56), rfl⟩, ox132_57⟩
def x132_55 : List sx_E := (.iload 2, 55, 56, [], .null) :: x132_56
theorem ox132_55 : sx_oks 132 x132_55 := ⟨Or.inr ⟨_, (sx_dd bb_132 dX8_falls_55), rfl, rfl⟩, ox132_56⟩
def x132_54 : List sx_E := (.nop, 54, 55, [], .int (nI 2)) :: x132_55
theorem ox132_54 : sx_oks 132 x132_54 := ⟨sx_k_iconst (sx_dd bb_132 dX8_falls_54) (by decide +kernel), ox132_55⟩
def x132_53 : List sx_E := (.ireturn, 53, 54, [0], .null) :: x132_54
theorem ox132_53 : sx_oks 132 x132_53 := ⟨sx_q_iret0 (sx_dd bb_132 dX8_falls_53) rr_132, ox132_54⟩
def x132_52 : List sx_E := (.nop, 52, 53, [], .int (nI 0)) :: x132_53
theorem ox132_52 : sx_oks 132 x132_52 := ⟨sx_k_iconst (sx_dd bb_132 dX8_falls_52) (by decide +kernel), ox132_53⟩
def x132_51 : List sx_E := (.ireturn, 51, 52, [0], .null) :: x132_52
theorem ox132_51 : sx_oks 132 x132_51 := ⟨sx_q_iret0 (sx_dd bb_132 dX8_falls_51) rr_132, ox132_52⟩
def x132_50 : List sx_E := (.iadd, 50, 51, [], .null) :: x132_51
theorem ox132_50 : sx_oks 132 x132_50 := ⟨⟨(sx_dd bb_132 dX8_falls_50), rfl⟩, ox132_51⟩
def x132_49 : List sx_E := (.nop, 49, 50, [], .int (nI 4)) :: x132_50
theorem ox132_49 : sx_oks 132 x132_49 := ⟨sx_k_iconst (sx_dd bb_132 dX8_falls_49) (by decide +kernel), ox132_50⟩
def x132_48 : List sx_E := (.iload 2, 48, 49, [], .null) :: x132_49
theorem ox132_48 : sx_oks 132 x132_48 := ⟨Or.inr ⟨_, (sx_dd bb_132 dX8_falls_48), rfl, rfl⟩, ox132_49⟩
def x132_15 : List sx_E := (.tableswitch 43 1 5 #[33, 37, 33, 37, 39], 15, 48, [1, 58, 48, 52, 48, 52, 54], .null) :: x132_48
theorem ox132_15 : sx_oks 132 x132_15 := ⟨⟨⟨_, (sx_dd bb_132 dX8_falls_15)⟩, sx_t2 (by decide +kernel) (by decide +kernel) (Nat.le_of_ble_eq_true rfl) (by decide +kernel) (by decide +kernel)⟩, ox132_48⟩
def x132_12 : List sx_E := (.invokevirtual 72, 12, 15, [119, 3, 0, 0, 7], .null) :: x132_15
theorem ox132_12 : sx_oks 132 x132_12 := ⟨sx_q_V (w := (RX8, TX8, 31)) (sx_dd bb_132 dX8_falls_12) oo_132 lk_StrawGarrisonModel_72_V ft_119_h (Nat.le_of_ble_eq_true rfl) rfl rfl, ox132_15⟩
def x132_11 : List sx_E := (.nop, 11, 12, [], .int (nI 0)) :: x132_12
theorem ox132_11 : sx_oks 132 x132_11 := ⟨sx_k_iconst (sx_dd bb_132 dX8_falls_11) (by decide +kernel), ox132_12⟩
def x132_10 : List sx_E := (.iload 1, 10, 11, [], .null) :: x132_11
theorem ox132_10 : sx_oks 132 x132_10 := ⟨Or.inr ⟨_, (sx_dd bb_132 dX8_falls_10), rfl, rfl⟩, ox132_11⟩
def x132_9 : List sx_E := (.aload 0, 9, 10, [], .null) :: x132_10
theorem ox132_9 : sx_oks 132 x132_9 := ⟨Or.inr ⟨_, (sx_dd bb_132 dX8_falls_9), rfl, rfl⟩, ox132_10⟩
def x132_8 : List sx_E := (.istore 2, 8, 9, [], .null) :: x132_9
theorem ox132_8 : sx_oks 132 x132_8 := ⟨⟨sx_lt mm_132 (Nat.le_of_ble_eq_true rfl), Or.inr ⟨_, (sx_dd bb_132 dX8_falls_8), rfl, rfl⟩⟩, ox132_9⟩
def x132_7 : List sx_E := (.idiv, 7, 8, [], .null) :: x132_8
theorem ox132_7 : sx_oks 132 x132_7 := ⟨⟨(sx_dd bb_132 dX8_falls_7), rfl⟩, ox132_8⟩
def x132_6 : List sx_E := (.nop, 6, 7, [], .int (nI 2)) :: x132_7
theorem ox132_6 : sx_oks 132 x132_6 := ⟨sx_k_iconst (sx_dd bb_132 dX8_falls_6) (by decide +kernel), ox132_7⟩
def x132_3 : List sx_E := (.invokevirtual 72, 3, 6, [119, 3, 0, 0, 7], .null) :: x132_6
theorem ox132_3 : sx_oks 132 x132_3 := ⟨sx_q_V (w := (RX8, TX8, 31)) (sx_dd bb_132 dX8_falls_3) oo_132 lk_StrawGarrisonModel_72_V ft_119_h (Nat.le_of_ble_eq_true rfl) rfl rfl, ox132_6⟩
def x132_2 : List sx_E := (.nop, 2, 3, [], .int (nI 2)) :: x132_3
theorem ox132_2 : sx_oks 132 x132_2 := ⟨sx_k_iconst (sx_dd bb_132 dX8_falls_2) (by decide +kernel), ox132_3⟩
def x132_1 : List sx_E := (.iload 1, 1, 2, [], .null) :: x132_2
theorem ox132_1 : sx_oks 132 x132_1 := ⟨Or.inr ⟨_, (sx_dd bb_132 dX8_falls_1), rfl, rfl⟩, ox132_2⟩
def x132_0 : List sx_E := (.aload 0, 0, 1, [], .null) :: x132_1
theorem ox132_0 : sx_oks 132 x132_0 := ⟨Or.inr ⟨_, (sx_dd bb_132 dX8_falls_0), rfl, rfl⟩, ox132_1⟩
theorem m132 : sx_mok 132 x132_0 := ⟨ox132_0, by decide +kernel⟩
theorem bb_133 : sx_by 133 = cX8_fights := rfl
theorem oo_133 : (sx_nm 133).cls = "StrawGarrisonModel" := rfl
theorem mm_133 : sx_ml 133 = 2 := rfl
theorem rr_133 : sx_rt 133 = (some .int) := rfl
def x133_31 : List sx_E := (.ireturn, 31, 32, [0], .null) :: []
theorem ox133_31 : sx_oks 133 x133_31 := ⟨sx_q_iret0 (sx_dd bb_133 dX8_fights_31) rr_133, trivial⟩
def x133_30 : List sx_E := (.nop, 30, 31, [], .int (nI 0)) :: x133_31
theorem ox133_30 : sx_oks 133 x133_30 := ⟨sx_k_iconst (sx_dd bb_133 dX8_fights_30) (by decide +kernel), ox133_31⟩
def x133_27 : List sx_E := (.goto (4), 27, 30, [31], .null) :: x133_30
theorem ox133_27 : sx_oks 133 x133_27 := ⟨⟨(sx_dd bb_133 dX8_fights_27), sx_t1 (by decide +kernel)⟩, ox133_30⟩
def x133_25 : List sx_E := (.nop, 25, 27, [], .int (nI 15)) :: x133_27
theorem ox133_25 : sx_oks 133 x133_25 := ⟨sx_k_bipush (sx_dd bb_133 dX8_fights_25) (by decide +kernel), ox133_27⟩
def x133_22 : List sx_E := (.if_icmp .ne (8), 22, 25, [30], .null) :: x133_25
theorem ox133_22 : sx_oks 133 x133_22 := ⟨⟨(sx_dd bb_133 dX8_fights_22), rfl, sx_t1 (by decide +kernel)⟩, ox133_25⟩
def x133_21 : List sx_E := (.nop, 21, 22, [], .int (nI 4)) :: x133_22
theorem ox133_21 : sx_oks 133 x133_21 := ⟨sx_k_iconst (sx_dd bb_133 dX8_fights_21) (by decide +kernel), ox133_22⟩
def x133_18 : List sx_E := (.invokevirtual 72, 18, 21, [119, 3, 0, 0, 7], .null) :: x133_21
theorem ox133_18 : sx_oks 133 x133_18 := ⟨sx_q_V (w := (RX8, TX8, 31)) (sx_dd bb_133 dX8_fights_18) oo_133 lk_StrawGarrisonModel_72_V ft_119_h (Nat.le_of_ble_eq_true rfl) rfl rfl, ox133_21⟩
def x133_17 : List sx_E := (.nop, 17, 18, [], .int (nI 0)) :: x133_18
theorem ox133_17 : sx_oks 133 x133_17 := ⟨sx_k_iconst (sx_dd bb_133 dX8_fights_17) (by decide +kernel), ox133_18⟩
def x133_16 : List sx_E := (.iload 1, 16, 17, [], .null) :: x133_17
theorem ox133_16 : sx_oks 133 x133_16 := ⟨Or.inr ⟨_, (sx_dd bb_133 dX8_fights_16), rfl, rfl⟩, ox133_17⟩
def x133_15 : List sx_E := (.aload 0, 15, 16, [], .null) :: x133_16
theorem ox133_15 : sx_oks 133 x133_15 := ⟨Or.inr ⟨_, (sx_dd bb_133 dX8_fights_15), rfl, rfl⟩, ox133_16⟩
def x133_12 : List sx_E := (.goto (19), 12, 15, [31], .null) :: x133_15
theorem ox133_12 : sx_oks 133 x133_12 := ⟨⟨(sx_dd bb_133 dX8_fights_12), sx_t1 (by decide +kernel)⟩, ox133_15⟩
def x133_10 : List sx_E := (.nop, 10, 12, [], .int (nI 10)) :: x133_12
theorem ox133_10 : sx_oks 133 x133_10 := ⟨sx_k_bipush (sx_dd bb_133 dX8_fights_10) (by decide +kernel), ox133_12⟩
def x133_7 : List sx_E := (.if_icmp .ne (8), 7, 10, [15], .null) :: x133_10
theorem ox133_7 : sx_oks 133 x133_7 := ⟨⟨(sx_dd bb_133 dX8_fights_7), rfl, sx_t1 (by decide +kernel)⟩, ox133_10⟩
def x133_6 : List sx_E := (.nop, 6, 7, [], .int (nI 2)) :: x133_7
theorem ox133_6 : sx_oks 133 x133_6 := ⟨sx_k_iconst (sx_dd bb_133 dX8_fights_6) (by decide +kernel), ox133_7⟩
def x133_3 : List sx_E := (.invokevirtual 72, 3, 6, [119, 3, 0, 0, 7], .null) :: x133_6
theorem ox133_3 : sx_oks 133 x133_3 := ⟨sx_q_V (w := (RX8, TX8, 31)) (sx_dd bb_133 dX8_fights_3) oo_133 lk_StrawGarrisonModel_72_V ft_119_h (Nat.le_of_ble_eq_true rfl) rfl rfl, ox133_6⟩
def x133_2 : List sx_E := (.nop, 2, 3, [], .int (nI 0)) :: x133_3
theorem ox133_2 : sx_oks 133 x133_2 := ⟨sx_k_iconst (sx_dd bb_133 dX8_fights_2) (by decide +kernel), ox133_3⟩
def x133_1 : List sx_E := (.iload 1, 1, 2, [], .null) :: x133_2
theorem ox133_1 : sx_oks 133 x133_1 := ⟨Or.inr ⟨_, (sx_dd bb_133 dX8_fights_1), rfl, rfl⟩, ox133_2⟩
def x133_0 : List sx_E := (.aload 0, 0, 1, [], .null) :: x133_1
theorem ox133_0 : sx_oks 133 x133_0 := ⟨Or.inr ⟨_, (sx_dd bb_133 dX8_fights_0), rfl, rfl⟩, ox133_1⟩
theorem m133 : sx_mok 133 x133_0 := ⟨ox133_0, by decide +kernel⟩
theorem bb_134 : sx_by 134 = cX8_worth := rfl
theorem oo_134 : (sx_nm 134).cls = "StrawGarrisonModel" := rfl
theorem mm_134 : sx_ml 134 = 3 := rfl
theorem rr_134 : sx_rt 134 = (some .int) := rfl
def x134_75 : List sx_E := (.ireturn, 75, 76, [0], .null) :: []
theorem ox134_75 : sx_oks 134 x134_75 := ⟨sx_q_iret0 (sx_dd bb_134 dX8_worth_75) rr_134, trivial⟩
def x134_74 : List sx_E := (.iload 2, 74, 75, [], .null) :: x134_75
theorem ox134_74 : sx_oks 134 x134_74 := ⟨Or.inr ⟨_, (sx_dd bb_134 dX8_worth_74), rfl, rfl⟩, ox134_75⟩
def x134_73 : List sx_E := (.ireturn, 73, 74, [0], .null) :: x134_74
theorem ox134_73 : sx_oks 134 x134_73 := ⟨sx_q_iret0 (sx_dd bb_134 dX8_worth_73) rr_134, ox134_74⟩
def x134_71 : List sx_E := (.nop, 71, 73, [], .int (nI 8)) :: x134_73
theorem ox134_71 : sx_oks 134 x134_71 := ⟨sx_k_bipush (sx_dd bb_134 dX8_worth_71) (by decide +kernel), ox134_73⟩
def x134_70 : List sx_E := (.ireturn, 70, 71, [0], .null) :: x134_71
theorem ox134_70 : sx_oks 134 x134_70 := ⟨sx_q_iret0 (sx_dd bb_134 dX8_worth_70) rr_134, ox134_71⟩
def x134_69 : List sx_E := (.isub, 69, 70, [], .null) :: x134_70
theorem ox134_69 : sx_oks 134 x134_69 := ⟨⟨(sx_dd bb_134 dX8_worth_69), rfl⟩, ox134_70⟩
def x134_67 : List sx_E := (.nop, 67, 69, [], .int (nI 7)) :: x134_69
theorem ox134_67 : sx_oks 134 x134_67 := ⟨sx_k_bipush (sx_dd bb_134 dX8_worth_67) (by decide +kernel), ox134_69⟩
def x134_66 : List sx_E := (.isub, 66, 67, [], .null) :: x134_67
theorem ox134_66 : sx_oks 134 x134_66 := ⟨⟨(sx_dd bb_134 dX8_worth_66), rfl⟩, ox134_67⟩
def x134_65 : List sx_E := (.iload 2, 65, 66, [], .null) :: x134_66
theorem ox134_65 : sx_oks 134 x134_65 := ⟨Or.inr ⟨_, (sx_dd bb_134 dX8_worth_65), rfl, rfl⟩, ox134_66⟩
def x134_63 : List sx_E := (.nop, 63, 65, [], .int (nI 99)) :: x134_65
theorem ox134_63 : sx_oks 134 x134_63 := ⟨sx_k_bipush (sx_dd bb_134 dX8_worth_63) (by decide +kernel), ox134_65⟩
def x134_62 : List sx_E := (.ireturn, 62, 63, [0], .null) :: x134_63
theorem ox134_62 : sx_oks 134 x134_62 := ⟨sx_q_iret0 (sx_dd bb_134 dX8_worth_62) rr_134, ox134_63⟩
def x134_61 : List sx_E := (.isub, 61, 62, [], .null) :: x134_62
theorem ox134_61 : sx_oks 134 x134_61 := ⟨⟨(sx_dd bb_134 dX8_worth_61), rfl⟩, ox134_62⟩
def x134_60 : List sx_E := (.iload 2, 60, 61, [], .null) :: x134_61
theorem ox134_60 : sx_oks 134 x134_60 := ⟨Or.inr ⟨_, (sx_dd bb_134 dX8_worth_60), rfl, rfl⟩, ox134_61⟩
def x134_58 : List sx_E := (.nop, 58, 60, [], .int (nI 99)) :: x134_60
theorem ox134_58 : sx_oks 134 x134_58 := ⟨sx_k_bipush (sx_dd bb_134 dX8_worth_58) (by decide +kernel), ox134_60⟩
def x134_57 : List sx_E := (.ireturn, 57, 58, [0], .null) :: x134_58
theorem ox134_57 : sx_oks 134 x134_57 := ⟨sx_q_iret0 (sx_dd bb_134 dX8_worth_57) rr_134, ox134_58⟩
def x134_56 : List sx_E := (.imul, 56, 57, [], .null) :: x134_57
theorem ox134_56 : sx_oks 134 x134_56 := ⟨⟨(sx_dd bb_134 dX8_worth_56), rfl⟩, ox134_57⟩
def x134_55 : List sx_E := (.iadd, 55, 56, [], .null) :: x134_56
theorem ox134_55 : sx_oks 134 x134_55 := ⟨⟨(sx_dd bb_134 dX8_worth_55), rfl⟩, ox134_56⟩
def x134_54 : List sx_E := (.nop, 54, 55, [], .int (nI 5)) :: x134_55
theorem ox134_54 : sx_oks 134 x134_54 := ⟨sx_k_iconst (sx_dd bb_134 dX8_worth_54) (by decide +kernel), ox134_55⟩
def x134_53 : List sx_E := (.iload 2, 53, 54, [], .null) :: x134_54
theorem ox134_53 : sx_oks 134 x134_53 := ⟨Or.inr ⟨_, (sx_dd bb_134 dX8_worth_53), rfl, rfl⟩, ox134_54⟩
def x134_52 : List sx_E := (.nop, 52, 53, [], .int (nI 2)) :: x134_53
theorem ox134_52 : sx_oks 134 x134_52 := ⟨sx_k_iconst (sx_dd bb_134 dX8_worth_52) (by decide +kernel), ox134_53⟩
def x134_51 : List sx_E := (.ireturn, 51, 52, [0], .null) :: x134_52
theorem ox134_51 : sx_oks 134 x134_51 := ⟨sx_q_iret0 (sx_dd bb_134 dX8_worth_51) rr_134, ox134_52⟩
def x134_50 : List sx_E := (.iadd, 50, 51, [], .null) :: x134_51
theorem ox134_50 : sx_oks 134 x134_50 := ⟨⟨(sx_dd bb_134 dX8_worth_50), rfl⟩, ox134_51⟩
def x134_49 : List sx_E := (.nop, 49, 50, [], .int (nI 5)) :: x134_50
theorem ox134_49 : sx_oks 134 x134_49 := ⟨sx_k_iconst (sx_dd bb_134 dX8_worth_49) (by decide +kernel), ox134_50⟩
def x134_48 : List sx_E := (.iload 2, 48, 49, [], .null) :: x134_49
theorem ox134_48 : sx_oks 134 x134_48 := ⟨Or.inr ⟨_, (sx_dd bb_134 dX8_worth_48), rfl, rfl⟩, ox134_49⟩
def x134_13 : List sx_E := (.tableswitch 61 1 5 #[35, 45, 39, 50, 58], 13, 48, [1, 74, 48, 58, 52, 63, 71], .null) :: x134_48
theorem ox134_13 : sx_oks 134 x134_13 := ⟨⟨⟨_, (sx_dd bb_134 dX8_worth_13)⟩, sx_t2 (by decide +kernel) (by decide +kernel) (Nat.le_of_ble_eq_true rfl) (by decide +kernel) (by decide +kernel)⟩, ox134_48⟩
def x134_10 : List sx_E := (.invokevirtual 72, 10, 13, [119, 3, 0, 0, 7], .null) :: x134_13
theorem ox134_10 : sx_oks 134 x134_10 := ⟨sx_q_V (w := (RX8, TX8, 31)) (sx_dd bb_134 dX8_worth_10) oo_134 lk_StrawGarrisonModel_72_V ft_119_h (Nat.le_of_ble_eq_true rfl) rfl rfl, ox134_13⟩
def x134_9 : List sx_E := (.nop, 9, 10, [], .int (nI 0)) :: x134_10
theorem ox134_9 : sx_oks 134 x134_9 := ⟨sx_k_iconst (sx_dd bb_134 dX8_worth_9) (by decide +kernel), ox134_10⟩
def x134_8 : List sx_E := (.iload 1, 8, 9, [], .null) :: x134_9
theorem ox134_8 : sx_oks 134 x134_8 := ⟨Or.inr ⟨_, (sx_dd bb_134 dX8_worth_8), rfl, rfl⟩, ox134_9⟩
def x134_7 : List sx_E := (.aload 0, 7, 8, [], .null) :: x134_8
theorem ox134_7 : sx_oks 134 x134_7 := ⟨Or.inr ⟨_, (sx_dd bb_134 dX8_worth_7), rfl, rfl⟩, ox134_8⟩
def x134_6 : List sx_E := (.istore 2, 6, 7, [], .null) :: x134_7
theorem ox134_6 : sx_oks 134 x134_6 := ⟨⟨sx_lt mm_134 (Nat.le_of_ble_eq_true rfl), Or.inr ⟨_, (sx_dd bb_134 dX8_worth_6), rfl, rfl⟩⟩, ox134_7⟩
def x134_3 : List sx_E := (.invokevirtual 72, 3, 6, [119, 3, 0, 0, 7], .null) :: x134_6
theorem ox134_3 : sx_oks 134 x134_3 := ⟨sx_q_V (w := (RX8, TX8, 31)) (sx_dd bb_134 dX8_worth_3) oo_134 lk_StrawGarrisonModel_72_V ft_119_h (Nat.le_of_ble_eq_true rfl) rfl rfl, ox134_6⟩
def x134_2 : List sx_E := (.nop, 2, 3, [], .int (nI 2)) :: x134_3
theorem ox134_2 : sx_oks 134 x134_2 := ⟨sx_k_iconst (sx_dd bb_134 dX8_worth_2) (by decide +kernel), ox134_3⟩
def x134_1 : List sx_E := (.iload 1, 1, 2, [], .null) :: x134_2
theorem ox134_1 : sx_oks 134 x134_1 := ⟨Or.inr ⟨_, (sx_dd bb_134 dX8_worth_1), rfl, rfl⟩, ox134_2⟩
def x134_0 : List sx_E := (.aload 0, 0, 1, [], .null) :: x134_1
theorem ox134_0 : sx_oks 134 x134_0 := ⟨Or.inr ⟨_, (sx_dd bb_134 dX8_worth_0), rfl, rfl⟩, ox134_1⟩
theorem m134 : sx_mok 134 x134_0 := ⟨ox134_0, by decide +kernel⟩
theorem bb_135 : sx_by 135 = cX8_told := rfl
theorem oo_135 : (sx_nm 135).cls = "StrawGarrisonModel" := rfl
theorem mm_135 : sx_ml 135 = 3 := rfl
theorem rr_135 : sx_rt 135 = (some .int) := rfl
def x135_86 : List sx_E := (.ireturn, 86, 87, [0], .null) :: []
theorem ox135_86 : sx_oks 135 x135_86 := ⟨sx_q_iret0 (sx_dd bb_135 dX8_told_86) rr_135, trivial⟩
def x135_83 : List sx_E := (.invokevirtual 72, 83, 86, [119, 3, 0, 0, 7], .null) :: x135_86
theorem ox135_83 : sx_oks 135 x135_83 := ⟨sx_q_V (w := (RX8, TX8, 31)) (sx_dd bb_135 dX8_told_83) oo_135 lk_StrawGarrisonModel_72_V ft_119_h (Nat.le_of_ble_eq_true rfl) rfl rfl, ox135_86⟩
def x135_82 : List sx_E := (.iload 2, 82, 83, [], .null) :: x135_83
theorem ox135_82 : sx_oks 135 x135_82 := ⟨Or.inr ⟨_, (sx_dd bb_135 dX8_told_82), rfl, rfl⟩, ox135_83⟩
def x135_81 : List sx_E := (.iload 1, 81, 82, [], .null) :: x135_82
theorem ox135_81 : sx_oks 135 x135_81 := ⟨Or.inr ⟨_, (sx_dd bb_135 dX8_told_81), rfl, rfl⟩, ox135_82⟩
def x135_80 : List sx_E := (.aload 0, 80, 81, [], .null) :: x135_81
theorem ox135_80 : sx_oks 135 x135_80 := ⟨Or.inr ⟨_, (sx_dd bb_135 dX8_told_80), rfl, rfl⟩, ox135_81⟩
def x135_79 : List sx_E := (.ireturn, 79, 80, [0], .null) :: x135_80
theorem ox135_79 : sx_oks 135 x135_79 := ⟨sx_q_iret0 (sx_dd bb_135 dX8_told_79) rr_135, ox135_80⟩
def x135_76 : List sx_E := (.invokevirtual 124, 76, 79, [134, 2, 0, 0, 7], .null) :: x135_79
theorem ox135_76 : sx_oks 135 x135_76 := ⟨sx_q_V (w := (RX8, TX8, 31)) (sx_dd bb_135 dX8_told_76) oo_135 lk_StrawGarrisonModel_124_V ft_134_h (Nat.le_of_ble_eq_true rfl) rfl rfl, ox135_79⟩
def x135_75 : List sx_E := (.iload 1, 75, 76, [], .null) :: x135_76
theorem ox135_75 : sx_oks 135 x135_75 := ⟨Or.inr ⟨_, (sx_dd bb_135 dX8_told_75), rfl, rfl⟩, ox135_76⟩
def x135_74 : List sx_E := (.aload 0, 74, 75, [], .null) :: x135_75
theorem ox135_74 : sx_oks 135 x135_74 := ⟨Or.inr ⟨_, (sx_dd bb_135 dX8_told_74), rfl, rfl⟩, ox135_75⟩
def x135_73 : List sx_E := (.ireturn, 73, 74, [0], .null) :: x135_74
theorem ox135_73 : sx_oks 135 x135_73 := ⟨sx_q_iret0 (sx_dd bb_135 dX8_told_73) rr_135, ox135_74⟩
def x135_70 : List sx_E := (.invokevirtual 121, 70, 73, [133, 2, 0, 0, 7], .null) :: x135_73
theorem ox135_70 : sx_oks 135 x135_70 := ⟨sx_q_V (w := (RX8, TX8, 31)) (sx_dd bb_135 dX8_told_70) oo_135 lk_StrawGarrisonModel_121_V ft_133_h (Nat.le_of_ble_eq_true rfl) rfl rfl, ox135_73⟩
def x135_69 : List sx_E := (.iload 1, 69, 70, [], .null) :: x135_70
theorem ox135_69 : sx_oks 135 x135_69 := ⟨Or.inr ⟨_, (sx_dd bb_135 dX8_told_69), rfl, rfl⟩, ox135_70⟩
def x135_68 : List sx_E := (.aload 0, 68, 69, [], .null) :: x135_69
theorem ox135_68 : sx_oks 135 x135_68 := ⟨Or.inr ⟨_, (sx_dd bb_135 dX8_told_68), rfl, rfl⟩, ox135_69⟩
def x135_67 : List sx_E := (.ireturn, 67, 68, [0], .null) :: x135_68
theorem ox135_67 : sx_oks 135 x135_67 := ⟨sx_q_iret0 (sx_dd bb_135 dX8_told_67) rr_135, ox135_68⟩
def x135_64 : List sx_E := (.invokevirtual 118, 64, 67, [132, 2, 0, 0, 7], .null) :: x135_67
theorem ox135_64 : sx_oks 135 x135_64 := ⟨sx_q_V (w := (RX8, TX8, 31)) (sx_dd bb_135 dX8_told_64) oo_135 lk_StrawGarrisonModel_118_V ft_132_h (Nat.le_of_ble_eq_true rfl) rfl rfl, ox135_67⟩
def x135_63 : List sx_E := (.iload 1, 63, 64, [], .null) :: x135_64
theorem ox135_63 : sx_oks 135 x135_63 := ⟨Or.inr ⟨_, (sx_dd bb_135 dX8_told_63), rfl, rfl⟩, ox135_64⟩
def x135_62 : List sx_E := (.aload 0, 62, 63, [], .null) :: x135_63
theorem ox135_62 : sx_oks 135 x135_62 := ⟨Or.inr ⟨_, (sx_dd bb_135 dX8_told_62), rfl, rfl⟩, ox135_63⟩
def x135_61 : List sx_E := (.ireturn, 61, 62, [0], .null) :: x135_62
theorem ox135_61 : sx_oks 135 x135_61 := ⟨sx_q_iret0 (sx_dd bb_135 dX8_told_61) rr_135, ox135_62⟩
def x135_58 : List sx_E := (.invokevirtual 115, 58, 61, [130, 2, 0, 0, 7], .null) :: x135_61
theorem ox135_58 : sx_oks 135 x135_58 := ⟨sx_q_V (w := (RX8, TX8, 31)) (sx_dd bb_135 dX8_told_58) oo_135 lk_StrawGarrisonModel_115_V ft_130_h (Nat.le_of_ble_eq_true rfl) rfl rfl, ox135_61⟩
def x135_57 : List sx_E := (.iload 1, 57, 58, [], .null) :: x135_58
theorem ox135_57 : sx_oks 135 x135_57 := ⟨Or.inr ⟨_, (sx_dd bb_135 dX8_told_57), rfl, rfl⟩, ox135_58⟩
def x135_56 : List sx_E := (.aload 0, 56, 57, [], .null) :: x135_57
theorem ox135_56 : sx_oks 135 x135_56 := ⟨Or.inr ⟨_, (sx_dd bb_135 dX8_told_56), rfl, rfl⟩, ox135_57⟩
def x135_24 : List sx_E := (.tableswitch 56 5 8 #[32, 38, 44, 50], 24, 56, [5, 80, 56, 62, 68, 74], .null) :: x135_56
theorem ox135_24 : sx_oks 135 x135_24 := ⟨⟨⟨_, (sx_dd bb_135 dX8_told_24)⟩, sx_t2 (by decide +kernel) (by decide +kernel) (Nat.le_of_ble_eq_true rfl) (by decide +kernel) (by decide +kernel)⟩, ox135_56⟩
def x135_23 : List sx_E := (.iload 2, 23, 24, [], .null) :: x135_24
theorem ox135_23 : sx_oks 135 x135_23 := ⟨Or.inr ⟨_, (sx_dd bb_135 dX8_told_23), rfl, rfl⟩, ox135_24⟩
def x135_22 : List sx_E := (.ireturn, 22, 23, [0], .null) :: x135_23
theorem ox135_22 : sx_oks 135 x135_22 := ⟨sx_q_iret0 (sx_dd bb_135 dX8_told_22) rr_135, ox135_23⟩
def x135_20 : List sx_E := (.nop, 20, 22, [], .int ((-1000000001))) :: x135_22
theorem ox135_20 : sx_oks 135 x135_20 := ⟨sx_k_ldc (sx_dd bb_135 dX8_told_20) (sx_ow1 oo_135 kc_StrawGarrisonModel_88), ox135_22⟩
def x135_17 : List sx_E := (.ifCond .ne (6), 17, 20, [23], .null) :: x135_20
theorem ox135_17 : sx_oks 135 x135_17 := ⟨⟨(sx_dd bb_135 dX8_told_17), rfl, sx_t1 (by decide +kernel)⟩, ox135_20⟩
def x135_14 : List sx_E := (.invokestatic 65, 14, 17, [113, 3, 0, 0], .null) :: x135_17
theorem ox135_14 : sx_oks 135 x135_14 := ⟨sx_q_S (sx_dd bb_135 dX8_told_14) oo_135 lk_StrawGarrisonModel_65_S ft_113_h, ox135_17⟩
def x135_11 : List sx_E := (.nop, 11, 14, [], .long (8)) :: x135_14
theorem ox135_11 : sx_oks 135 x135_11 := ⟨sx_k_ldc2 (sx_dd bb_135 dX8_told_11) (sx_ow2 oo_135 kl_StrawGarrisonModel_113), ox135_14⟩
def x135_10 : List sx_E := (.nop, 10, 11, [], .long (0)) :: x135_11
theorem ox135_10 : sx_oks 135 x135_10 := ⟨sx_k_lconst (sx_dd bb_135 dX8_told_10) (by decide +kernel), ox135_11⟩
def x135_9 : List sx_E := (.i2l, 9, 10, [], .null) :: x135_10
theorem ox135_9 : sx_oks 135 x135_9 := ⟨⟨(sx_dd bb_135 dX8_told_9), rfl⟩, ox135_10⟩
def x135_8 : List sx_E := (.iload 2, 8, 9, [], .null) :: x135_9
theorem ox135_8 : sx_oks 135 x135_8 := ⟨Or.inr ⟨_, (sx_dd bb_135 dX8_told_8), rfl, rfl⟩, ox135_9⟩
def x135_5 : List sx_E := (.ifCond .eq (15), 5, 8, [20], .null) :: x135_8
theorem ox135_5 : sx_oks 135 x135_5 := ⟨⟨(sx_dd bb_135 dX8_told_5), rfl, sx_t1 (by decide +kernel)⟩, ox135_8⟩
def x135_2 : List sx_E := (.invokevirtual 110, 2, 5, [121, 2, 0, 0, 7], .null) :: x135_5
theorem ox135_2 : sx_oks 135 x135_2 := ⟨sx_q_V (w := (RX8, TX8, 31)) (sx_dd bb_135 dX8_told_2) oo_135 lk_StrawGarrisonModel_110_V ft_121_h (Nat.le_of_ble_eq_true rfl) rfl rfl, ox135_5⟩
def x135_1 : List sx_E := (.iload 1, 1, 2, [], .null) :: x135_2
theorem ox135_1 : sx_oks 135 x135_1 := ⟨Or.inr ⟨_, (sx_dd bb_135 dX8_told_1), rfl, rfl⟩, ox135_2⟩
def x135_0 : List sx_E := (.aload 0, 0, 1, [], .null) :: x135_1
theorem ox135_0 : sx_oks 135 x135_0 := ⟨Or.inr ⟨_, (sx_dd bb_135 dX8_told_0), rfl, rfl⟩, ox135_1⟩
theorem m135 : sx_mok 135 x135_0 := ⟨ox135_0, by decide +kernel⟩
theorem bb_136 : sx_by 136 = cX8_as := rfl
theorem oo_136 : (sx_nm 136).cls = "StrawGarrisonModel" := rfl
theorem mm_136 : sx_ml 136 = 3 := rfl
theorem rr_136 : sx_rt 136 = (some .int) := rfl
def x136_47 : List sx_E := (.ireturn, 47, 48, [0], .null) :: []
theorem ox136_47 : sx_oks 136 x136_47 := ⟨sx_q_iret0 (sx_dd bb_136 dX8_as_47) rr_136, trivial⟩
def x136_45 : List sx_E := (.nop, 45, 47, [], .int ((-1000000012))) :: x136_47
theorem ox136_45 : sx_oks 136 x136_45 := ⟨sx_k_ldc (sx_dd bb_136 dX8_as_45) (sx_ow1 oo_136 kc_StrawGarrisonModel_131), ox136_47⟩
def x136_42 : List sx_E := (.goto (5), 42, 45, [47], .null) :: x136_45
theorem ox136_42 : sx_oks 136 x136_42 := ⟨⟨(sx_dd bb_136 dX8_as_42), sx_t1 (by decide +kernel)⟩, ox136_45⟩
def x136_39 : List sx_E := (.invokevirtual 72, 39, 42, [119, 3, 0, 0, 7], .null) :: x136_42
theorem ox136_39 : sx_oks 136 x136_39 := ⟨sx_q_V (w := (RX8, TX8, 31)) (sx_dd bb_136 dX8_as_39) oo_136 lk_StrawGarrisonModel_72_V ft_119_h (Nat.le_of_ble_eq_true rfl) rfl rfl, ox136_42⟩
def x136_38 : List sx_E := (.nop, 38, 39, [], .int (nI 2)) :: x136_39
theorem ox136_38 : sx_oks 136 x136_38 := ⟨sx_k_iconst (sx_dd bb_136 dX8_as_38) (by decide +kernel), ox136_39⟩
def x136_37 : List sx_E := (.iload 1, 37, 38, [], .null) :: x136_38
theorem ox136_37 : sx_oks 136 x136_37 := ⟨Or.inr ⟨_, (sx_dd bb_136 dX8_as_37), rfl, rfl⟩, ox136_38⟩
def x136_36 : List sx_E := (.aload 0, 36, 37, [], .null) :: x136_37
theorem ox136_36 : sx_oks 136 x136_36 := ⟨Or.inr ⟨_, (sx_dd bb_136 dX8_as_36), rfl, rfl⟩, ox136_37⟩
def x136_33 : List sx_E := (.ifCond .eq (12), 33, 36, [45], .null) :: x136_36
theorem ox136_33 : sx_oks 136 x136_33 := ⟨⟨(sx_dd bb_136 dX8_as_33), rfl, sx_t1 (by decide +kernel)⟩, ox136_36⟩
def x136_30 : List sx_E := (.invokestatic 127, 30, 33, [124, 2, 0, 0], .null) :: x136_33
theorem ox136_30 : sx_oks 136 x136_30 := ⟨sx_q_S (sx_dd bb_136 dX8_as_30) oo_136 lk_StrawGarrisonModel_127_S ft_124_h, ox136_33⟩
def x136_29 : List sx_E := (.iload 2, 29, 30, [], .null) :: x136_30
theorem ox136_29 : sx_oks 136 x136_29 := ⟨Or.inr ⟨_, (sx_dd bb_136 dX8_as_29), rfl, rfl⟩, ox136_30⟩
def x136_26 : List sx_E := (.invokevirtual 72, 26, 29, [119, 3, 0, 0, 7], .null) :: x136_29
theorem ox136_26 : sx_oks 136 x136_26 := ⟨sx_q_V (w := (RX8, TX8, 31)) (sx_dd bb_136 dX8_as_26) oo_136 lk_StrawGarrisonModel_72_V ft_119_h (Nat.le_of_ble_eq_true rfl) rfl rfl, ox136_29⟩
def x136_25 : List sx_E := (.nop, 25, 26, [], .int (nI 0)) :: x136_26
theorem ox136_25 : sx_oks 136 x136_25 := ⟨sx_k_iconst (sx_dd bb_136 dX8_as_25) (by decide +kernel), ox136_26⟩
def x136_24 : List sx_E := (.iload 1, 24, 25, [], .null) :: x136_25
theorem ox136_24 : sx_oks 136 x136_24 := ⟨Or.inr ⟨_, (sx_dd bb_136 dX8_as_24), rfl, rfl⟩, ox136_25⟩
def x136_23 : List sx_E := (.aload 0, 23, 24, [], .null) :: x136_24
theorem ox136_23 : sx_oks 136 x136_23 := ⟨Or.inr ⟨_, (sx_dd bb_136 dX8_as_23), rfl, rfl⟩, ox136_24⟩
def x136_22 : List sx_E := (.ireturn, 22, 23, [0], .null) :: x136_23
theorem ox136_22 : sx_oks 136 x136_22 := ⟨sx_q_iret0 (sx_dd bb_136 dX8_as_22) rr_136, ox136_23⟩
def x136_20 : List sx_E := (.nop, 20, 22, [], .int ((-1000000001))) :: x136_22
theorem ox136_20 : sx_oks 136 x136_20 := ⟨sx_k_ldc (sx_dd bb_136 dX8_as_20) (sx_ow1 oo_136 kc_StrawGarrisonModel_88), ox136_22⟩
def x136_17 : List sx_E := (.ifCond .ne (6), 17, 20, [23], .null) :: x136_20
theorem ox136_17 : sx_oks 136 x136_17 := ⟨⟨(sx_dd bb_136 dX8_as_17), rfl, sx_t1 (by decide +kernel)⟩, ox136_20⟩
def x136_14 : List sx_E := (.invokestatic 65, 14, 17, [113, 3, 0, 0], .null) :: x136_17
theorem ox136_14 : sx_oks 136 x136_14 := ⟨sx_q_S (sx_dd bb_136 dX8_as_14) oo_136 lk_StrawGarrisonModel_65_S ft_113_h, ox136_17⟩
def x136_11 : List sx_E := (.nop, 11, 14, [], .long (5)) :: x136_14
theorem ox136_11 : sx_oks 136 x136_11 := ⟨sx_k_ldc2 (sx_dd bb_136 dX8_as_11) (sx_ow2 oo_136 kl_StrawGarrisonModel_80), ox136_14⟩
def x136_10 : List sx_E := (.nop, 10, 11, [], .long (0)) :: x136_11
theorem ox136_10 : sx_oks 136 x136_10 := ⟨sx_k_lconst (sx_dd bb_136 dX8_as_10) (by decide +kernel), ox136_11⟩
def x136_9 : List sx_E := (.i2l, 9, 10, [], .null) :: x136_10
theorem ox136_9 : sx_oks 136 x136_9 := ⟨⟨(sx_dd bb_136 dX8_as_9), rfl⟩, ox136_10⟩
def x136_8 : List sx_E := (.iload 2, 8, 9, [], .null) :: x136_9
theorem ox136_8 : sx_oks 136 x136_8 := ⟨Or.inr ⟨_, (sx_dd bb_136 dX8_as_8), rfl, rfl⟩, ox136_9⟩
def x136_5 : List sx_E := (.ifCond .eq (15), 5, 8, [20], .null) :: x136_8
theorem ox136_5 : sx_oks 136 x136_5 := ⟨⟨(sx_dd bb_136 dX8_as_5), rfl, sx_t1 (by decide +kernel)⟩, ox136_8⟩
def x136_2 : List sx_E := (.invokevirtual 110, 2, 5, [121, 2, 0, 0, 7], .null) :: x136_5
theorem ox136_2 : sx_oks 136 x136_2 := ⟨sx_q_V (w := (RX8, TX8, 31)) (sx_dd bb_136 dX8_as_2) oo_136 lk_StrawGarrisonModel_110_V ft_121_h (Nat.le_of_ble_eq_true rfl) rfl rfl, ox136_5⟩
def x136_1 : List sx_E := (.iload 1, 1, 2, [], .null) :: x136_2
theorem ox136_1 : sx_oks 136 x136_1 := ⟨Or.inr ⟨_, (sx_dd bb_136 dX8_as_1), rfl, rfl⟩, ox136_2⟩
def x136_0 : List sx_E := (.aload 0, 0, 1, [], .null) :: x136_1
theorem ox136_0 : sx_oks 136 x136_0 := ⟨Or.inr ⟨_, (sx_dd bb_136 dX8_as_0), rfl, rfl⟩, ox136_1⟩
theorem m136 : sx_mok 136 x136_0 := ⟨ox136_0, by decide +kernel⟩
theorem bb_137 : sx_by 137 = cX8_turns := rfl
theorem oo_137 : (sx_nm 137).cls = "StrawGarrisonModel" := rfl
theorem mm_137 : sx_ml 137 = 3 := rfl
theorem rr_137 : sx_rt 137 = (some .int) := rfl
def x137_36 : List sx_E := (.ireturn, 36, 37, [0], .null) :: []
theorem ox137_36 : sx_oks 137 x137_36 := ⟨sx_q_iret0 (sx_dd bb_137 dX8_turns_36) rr_137, trivial⟩
def x137_34 : List sx_E := (.nop, 34, 36, [], .int ((-1000000001))) :: x137_36
theorem ox137_34 : sx_oks 137 x137_34 := ⟨sx_k_ldc (sx_dd bb_137 dX8_turns_34) (sx_ow1 oo_137 kc_StrawGarrisonModel_88), ox137_36⟩
def x137_31 : List sx_E := (.goto (5), 31, 34, [36], .null) :: x137_34
theorem ox137_31 : sx_oks 137 x137_31 := ⟨⟨(sx_dd bb_137 dX8_turns_31), sx_t1 (by decide +kernel)⟩, ox137_34⟩
def x137_28 : List sx_E := (.invokevirtual 132, 28, 31, [117, 3, 0, 0, 7], .null) :: x137_31
theorem ox137_28 : sx_oks 137 x137_28 := ⟨sx_q_V (w := (RX8, TX8, 31)) (sx_dd bb_137 dX8_turns_28) oo_137 lk_StrawGarrisonModel_132_V ft_117_h (Nat.le_of_ble_eq_true rfl) rfl rfl, ox137_31⟩
def x137_27 : List sx_E := (.iload 2, 27, 28, [], .null) :: x137_28
theorem ox137_27 : sx_oks 137 x137_27 := ⟨Or.inr ⟨_, (sx_dd bb_137 dX8_turns_27), rfl, rfl⟩, ox137_28⟩
def x137_26 : List sx_E := (.iadd, 26, 27, [], .null) :: x137_27
theorem ox137_26 : sx_oks 137 x137_26 := ⟨⟨(sx_dd bb_137 dX8_turns_26), rfl⟩, ox137_27⟩
def x137_25 : List sx_E := (.imul, 25, 26, [], .null) :: x137_26
theorem ox137_25 : sx_oks 137 x137_25 := ⟨⟨(sx_dd bb_137 dX8_turns_25), rfl⟩, ox137_26⟩
def x137_24 : List sx_E := (.iload 1, 24, 25, [], .null) :: x137_25
theorem ox137_24 : sx_oks 137 x137_24 := ⟨Or.inr ⟨_, (sx_dd bb_137 dX8_turns_24), rfl, rfl⟩, ox137_25⟩
def x137_23 : List sx_E := (.nop, 23, 24, [], .int (nI 5)) :: x137_24
theorem ox137_23 : sx_oks 137 x137_23 := ⟨sx_k_iconst (sx_dd bb_137 dX8_turns_23) (by decide +kernel), ox137_24⟩
def x137_21 : List sx_E := (.nop, 21, 23, [], .int (nI 12)) :: x137_23
theorem ox137_21 : sx_oks 137 x137_21 := ⟨sx_k_bipush (sx_dd bb_137 dX8_turns_21) (by decide +kernel), ox137_23⟩
def x137_20 : List sx_E := (.aload 0, 20, 21, [], .null) :: x137_21
theorem ox137_20 : sx_oks 137 x137_20 := ⟨Or.inr ⟨_, (sx_dd bb_137 dX8_turns_20), rfl, rfl⟩, ox137_21⟩
def x137_17 : List sx_E := (.ifCond .eq (17), 17, 20, [34], .null) :: x137_20
theorem ox137_17 : sx_oks 137 x137_17 := ⟨⟨(sx_dd bb_137 dX8_turns_17), rfl, sx_t1 (by decide +kernel)⟩, ox137_20⟩
def x137_14 : List sx_E := (.invokestatic 65, 14, 17, [113, 3, 0, 0], .null) :: x137_17
theorem ox137_14 : sx_oks 137 x137_14 := ⟨sx_q_S (sx_dd bb_137 dX8_turns_14) oo_137 lk_StrawGarrisonModel_65_S ft_113_h, ox137_17⟩
def x137_11 : List sx_E := (.nop, 11, 14, [], .long (5)) :: x137_14
theorem ox137_11 : sx_oks 137 x137_11 := ⟨sx_k_ldc2 (sx_dd bb_137 dX8_turns_11) (sx_ow2 oo_137 kl_StrawGarrisonModel_80), ox137_14⟩
def x137_10 : List sx_E := (.nop, 10, 11, [], .long (0)) :: x137_11
theorem ox137_10 : sx_oks 137 x137_10 := ⟨sx_k_lconst (sx_dd bb_137 dX8_turns_10) (by decide +kernel), ox137_11⟩
def x137_9 : List sx_E := (.i2l, 9, 10, [], .null) :: x137_10
theorem ox137_9 : sx_oks 137 x137_9 := ⟨⟨(sx_dd bb_137 dX8_turns_9), rfl⟩, ox137_10⟩
def x137_8 : List sx_E := (.iload 2, 8, 9, [], .null) :: x137_9
theorem ox137_8 : sx_oks 137 x137_8 := ⟨Or.inr ⟨_, (sx_dd bb_137 dX8_turns_8), rfl, rfl⟩, ox137_9⟩
def x137_5 : List sx_E := (.ifCond .eq (29), 5, 8, [34], .null) :: x137_8
theorem ox137_5 : sx_oks 137 x137_5 := ⟨⟨(sx_dd bb_137 dX8_turns_5), rfl, sx_t1 (by decide +kernel)⟩, ox137_8⟩
def x137_2 : List sx_E := (.invokevirtual 110, 2, 5, [121, 2, 0, 0, 7], .null) :: x137_5
theorem ox137_2 : sx_oks 137 x137_2 := ⟨sx_q_V (w := (RX8, TX8, 31)) (sx_dd bb_137 dX8_turns_2) oo_137 lk_StrawGarrisonModel_110_V ft_121_h (Nat.le_of_ble_eq_true rfl) rfl rfl, ox137_5⟩
def x137_1 : List sx_E := (.iload 1, 1, 2, [], .null) :: x137_2
theorem ox137_1 : sx_oks 137 x137_1 := ⟨Or.inr ⟨_, (sx_dd bb_137 dX8_turns_1), rfl, rfl⟩, ox137_2⟩
def x137_0 : List sx_E := (.aload 0, 0, 1, [], .null) :: x137_1
theorem ox137_0 : sx_oks 137 x137_0 := ⟨Or.inr ⟨_, (sx_dd bb_137 dX8_turns_0), rfl, rfl⟩, ox137_1⟩
theorem m137 : sx_mok 137 x137_0 := ⟨ox137_0, by decide +kernel⟩
theorem bb_138 : sx_by 138 = cX8_set := rfl
theorem oo_138 : (sx_nm 138).cls = "StrawGarrisonModel" := rfl
theorem mm_138 : sx_ml 138 = 4 := rfl
theorem rr_138 : sx_rt 138 = (some .int) := rfl
def x138_59 : List sx_E := (.ireturn, 59, 60, [0], .null) :: []
theorem ox138_59 : sx_oks 138 x138_59 := ⟨sx_q_iret0 (sx_dd bb_138 dX8_set_59) rr_138, trivial⟩
def x138_56 : List sx_E := (.invokevirtual 132, 56, 59, [117, 3, 0, 0, 7], .null) :: x138_59
theorem ox138_56 : sx_oks 138 x138_56 := ⟨sx_q_V (w := (RX8, TX8, 31)) (sx_dd bb_138 dX8_set_56) oo_138 lk_StrawGarrisonModel_132_V ft_117_h (Nat.le_of_ble_eq_true rfl) rfl rfl, ox138_59⟩
def x138_55 : List sx_E := (.iload 3, 55, 56, [], .null) :: x138_56
theorem ox138_55 : sx_oks 138 x138_55 := ⟨Or.inr ⟨_, (sx_dd bb_138 dX8_set_55), rfl, rfl⟩, ox138_56⟩
def x138_54 : List sx_E := (.iadd, 54, 55, [], .null) :: x138_55
theorem ox138_54 : sx_oks 138 x138_54 := ⟨⟨(sx_dd bb_138 dX8_set_54), rfl⟩, ox138_55⟩
def x138_53 : List sx_E := (.iload 2, 53, 54, [], .null) :: x138_54
theorem ox138_53 : sx_oks 138 x138_53 := ⟨Or.inr ⟨_, (sx_dd bb_138 dX8_set_53), rfl, rfl⟩, ox138_54⟩
def x138_52 : List sx_E := (.iadd, 52, 53, [], .null) :: x138_53
theorem ox138_52 : sx_oks 138 x138_52 := ⟨⟨(sx_dd bb_138 dX8_set_52), rfl⟩, ox138_53⟩
def x138_51 : List sx_E := (.imul, 51, 52, [], .null) :: x138_52
theorem ox138_51 : sx_oks 138 x138_51 := ⟨⟨(sx_dd bb_138 dX8_set_51), rfl⟩, ox138_52⟩
def x138_50 : List sx_E := (.iload 1, 50, 51, [], .null) :: x138_51
theorem ox138_50 : sx_oks 138 x138_50 := ⟨Or.inr ⟨_, (sx_dd bb_138 dX8_set_50), rfl, rfl⟩, ox138_51⟩
def x138_49 : List sx_E := (.nop, 49, 50, [], .int (nI 5)) :: x138_50
theorem ox138_49 : sx_oks 138 x138_49 := ⟨sx_k_iconst (sx_dd bb_138 dX8_set_49) (by decide +kernel), ox138_50⟩
def x138_47 : List sx_E := (.nop, 47, 49, [], .int (nI 12)) :: x138_49
theorem ox138_47 : sx_oks 138 x138_47 := ⟨sx_k_bipush (sx_dd bb_138 dX8_set_47) (by decide +kernel), ox138_49⟩
def x138_46 : List sx_E := (.aload 0, 46, 47, [], .null) :: x138_47
theorem ox138_46 : sx_oks 138 x138_46 := ⟨Or.inr ⟨_, (sx_dd bb_138 dX8_set_46), rfl, rfl⟩, ox138_47⟩
def x138_45 : List sx_E := (.ireturn, 45, 46, [0], .null) :: x138_46
theorem ox138_45 : sx_oks 138 x138_45 := ⟨sx_q_iret0 (sx_dd bb_138 dX8_set_45) rr_138, ox138_46⟩
def x138_43 : List sx_E := (.nop, 43, 45, [], .int ((-1000000001))) :: x138_45
theorem ox138_43 : sx_oks 138 x138_43 := ⟨sx_k_ldc (sx_dd bb_138 dX8_set_43) (sx_ow1 oo_138 kc_StrawGarrisonModel_88), ox138_45⟩
def x138_40 : List sx_E := (.ifCond .ne (6), 40, 43, [46], .null) :: x138_43
theorem ox138_40 : sx_oks 138 x138_40 := ⟨⟨(sx_dd bb_138 dX8_set_40), rfl, sx_t1 (by decide +kernel)⟩, ox138_43⟩
def x138_37 : List sx_E := (.invokestatic 65, 37, 40, [113, 3, 0, 0], .null) :: x138_40
theorem ox138_37 : sx_oks 138 x138_37 := ⟨sx_q_S (sx_dd bb_138 dX8_set_37) oo_138 lk_StrawGarrisonModel_65_S ft_113_h, ox138_40⟩
def x138_34 : List sx_E := (.nop, 34, 37, [], .long (99)) :: x138_37
theorem ox138_34 : sx_oks 138 x138_34 := ⟨sx_k_ldc2 (sx_dd bb_138 dX8_set_34) (sx_ow2 oo_138 kl_StrawGarrisonModel_86), ox138_37⟩
def x138_31 : List sx_E := (.goto (6), 31, 34, [37], .null) :: x138_34
theorem ox138_31 : sx_oks 138 x138_31 := ⟨⟨(sx_dd bb_138 dX8_set_31), sx_t1 (by decide +kernel)⟩, ox138_34⟩
def x138_30 : List sx_E := (.nop, 30, 31, [], .long (1)) :: x138_31
theorem ox138_30 : sx_oks 138 x138_30 := ⟨sx_k_lconst (sx_dd bb_138 dX8_set_30) (by decide +kernel), ox138_31⟩
def x138_27 : List sx_E := (.if_icmp .ne (7), 27, 30, [34], .null) :: x138_30
theorem ox138_27 : sx_oks 138 x138_27 := ⟨⟨(sx_dd bb_138 dX8_set_27), rfl, sx_t1 (by decide +kernel)⟩, ox138_30⟩
def x138_26 : List sx_E := (.nop, 26, 27, [], .int (nI 4)) :: x138_27
theorem ox138_26 : sx_oks 138 x138_26 := ⟨sx_k_iconst (sx_dd bb_138 dX8_set_26) (by decide +kernel), ox138_27⟩
def x138_25 : List sx_E := (.iload 2, 25, 26, [], .null) :: x138_26
theorem ox138_25 : sx_oks 138 x138_25 := ⟨Or.inr ⟨_, (sx_dd bb_138 dX8_set_25), rfl, rfl⟩, ox138_26⟩
def x138_24 : List sx_E := (.nop, 24, 25, [], .long (0)) :: x138_25
theorem ox138_24 : sx_oks 138 x138_24 := ⟨sx_k_lconst (sx_dd bb_138 dX8_set_24) (by decide +kernel), ox138_25⟩
def x138_23 : List sx_E := (.i2l, 23, 24, [], .null) :: x138_24
theorem ox138_23 : sx_oks 138 x138_23 := ⟨⟨(sx_dd bb_138 dX8_set_23), rfl⟩, ox138_24⟩
def x138_22 : List sx_E := (.iload 3, 22, 23, [], .null) :: x138_23
theorem ox138_22 : sx_oks 138 x138_22 := ⟨Or.inr ⟨_, (sx_dd bb_138 dX8_set_22), rfl, rfl⟩, ox138_23⟩
def x138_19 : List sx_E := (.ifCond .eq (24), 19, 22, [43], .null) :: x138_22
theorem ox138_19 : sx_oks 138 x138_19 := ⟨⟨(sx_dd bb_138 dX8_set_19), rfl, sx_t1 (by decide +kernel)⟩, ox138_22⟩
def x138_16 : List sx_E := (.invokestatic 65, 16, 19, [113, 3, 0, 0], .null) :: x138_19
theorem ox138_16 : sx_oks 138 x138_16 := ⟨sx_q_S (sx_dd bb_138 dX8_set_16) oo_138 lk_StrawGarrisonModel_65_S ft_113_h, ox138_19⟩
def x138_13 : List sx_E := (.nop, 13, 16, [], .long (4)) :: x138_16
theorem ox138_13 : sx_oks 138 x138_13 := ⟨sx_k_ldc2 (sx_dd bb_138 dX8_set_13) (sx_ow2 oo_138 kl_StrawGarrisonModel_137), ox138_16⟩
def x138_10 : List sx_E := (.nop, 10, 13, [], .long (2)) :: x138_13
theorem ox138_10 : sx_oks 138 x138_10 := ⟨sx_k_ldc2 (sx_dd bb_138 dX8_set_10) (sx_ow2 oo_138 kl_StrawGarrisonModel_135), ox138_13⟩
def x138_9 : List sx_E := (.i2l, 9, 10, [], .null) :: x138_10
theorem ox138_9 : sx_oks 138 x138_9 := ⟨⟨(sx_dd bb_138 dX8_set_9), rfl⟩, ox138_10⟩
def x138_8 : List sx_E := (.iload 2, 8, 9, [], .null) :: x138_9
theorem ox138_8 : sx_oks 138 x138_8 := ⟨Or.inr ⟨_, (sx_dd bb_138 dX8_set_8), rfl, rfl⟩, ox138_9⟩
def x138_5 : List sx_E := (.ifCond .eq (38), 5, 8, [43], .null) :: x138_8
theorem ox138_5 : sx_oks 138 x138_5 := ⟨⟨(sx_dd bb_138 dX8_set_5), rfl, sx_t1 (by decide +kernel)⟩, ox138_8⟩
def x138_2 : List sx_E := (.invokevirtual 110, 2, 5, [121, 2, 0, 0, 7], .null) :: x138_5
theorem ox138_2 : sx_oks 138 x138_2 := ⟨sx_q_V (w := (RX8, TX8, 31)) (sx_dd bb_138 dX8_set_2) oo_138 lk_StrawGarrisonModel_110_V ft_121_h (Nat.le_of_ble_eq_true rfl) rfl rfl, ox138_5⟩
def x138_1 : List sx_E := (.iload 1, 1, 2, [], .null) :: x138_2
theorem ox138_1 : sx_oks 138 x138_1 := ⟨Or.inr ⟨_, (sx_dd bb_138 dX8_set_1), rfl, rfl⟩, ox138_2⟩
def x138_0 : List sx_E := (.aload 0, 0, 1, [], .null) :: x138_1
theorem ox138_0 : sx_oks 138 x138_0 := ⟨Or.inr ⟨_, (sx_dd bb_138 dX8_set_0), rfl, rfl⟩, ox138_1⟩
theorem m138 : sx_mok 138 x138_0 := ⟨ox138_0, by decide +kernel⟩
theorem bb_139 : sx_by 139 = cX8_moves := rfl
theorem oo_139 : (sx_nm 139).cls = "StrawGarrisonModel" := rfl
theorem mm_139 : sx_ml 139 = 3 := rfl
theorem rr_139 : sx_rt 139 = (some .int) := rfl
def x139_44 : List sx_E := (.ireturn, 44, 45, [0], .null) :: []
theorem ox139_44 : sx_oks 139 x139_44 := ⟨sx_q_iret0 (sx_dd bb_139 dX8_moves_44) rr_139, trivial⟩
def x139_42 : List sx_E := (.nop, 42, 44, [], .int ((-1000000002))) :: x139_44
theorem ox139_42 : sx_oks 139 x139_42 := ⟨sx_k_ldc (sx_dd bb_139 dX8_moves_42) (sx_ow1 oo_139 kc_StrawGarrisonModel_93), ox139_44⟩
def x139_39 : List sx_E := (.goto (5), 39, 42, [44], .null) :: x139_42
theorem ox139_39 : sx_oks 139 x139_39 := ⟨⟨(sx_dd bb_139 dX8_moves_39), sx_t1 (by decide +kernel)⟩, ox139_42⟩
def x139_36 : List sx_E := (.invokevirtual 132, 36, 39, [117, 3, 0, 0, 7], .null) :: x139_39
theorem ox139_36 : sx_oks 139 x139_36 := ⟨sx_q_V (w := (RX8, TX8, 31)) (sx_dd bb_139 dX8_moves_36) oo_139 lk_StrawGarrisonModel_132_V ft_117_h (Nat.le_of_ble_eq_true rfl) rfl rfl, ox139_39⟩
def x139_35 : List sx_E := (.iload 2, 35, 36, [], .null) :: x139_36
theorem ox139_35 : sx_oks 139 x139_35 := ⟨Or.inr ⟨_, (sx_dd bb_139 dX8_moves_35), rfl, rfl⟩, ox139_36⟩
def x139_34 : List sx_E := (.iadd, 34, 35, [], .null) :: x139_35
theorem ox139_34 : sx_oks 139 x139_34 := ⟨⟨(sx_dd bb_139 dX8_moves_34), rfl⟩, ox139_35⟩
def x139_33 : List sx_E := (.nop, 33, 34, [], .int (nI 1)) :: x139_34
theorem ox139_33 : sx_oks 139 x139_33 := ⟨sx_k_iconst (sx_dd bb_139 dX8_moves_33) (by decide +kernel), ox139_34⟩
def x139_32 : List sx_E := (.iadd, 32, 33, [], .null) :: x139_33
theorem ox139_32 : sx_oks 139 x139_32 := ⟨⟨(sx_dd bb_139 dX8_moves_32), rfl⟩, ox139_33⟩
def x139_31 : List sx_E := (.imul, 31, 32, [], .null) :: x139_32
theorem ox139_31 : sx_oks 139 x139_31 := ⟨⟨(sx_dd bb_139 dX8_moves_31), rfl⟩, ox139_32⟩
def x139_30 : List sx_E := (.iload 1, 30, 31, [], .null) :: x139_31
theorem ox139_30 : sx_oks 139 x139_30 := ⟨Or.inr ⟨_, (sx_dd bb_139 dX8_moves_30), rfl, rfl⟩, ox139_31⟩
def x139_29 : List sx_E := (.nop, 29, 30, [], .int (nI 5)) :: x139_30
theorem ox139_29 : sx_oks 139 x139_29 := ⟨sx_k_iconst (sx_dd bb_139 dX8_moves_29) (by decide +kernel), ox139_30⟩
def x139_27 : List sx_E := (.nop, 27, 29, [], .int (nI 12)) :: x139_29
theorem ox139_27 : sx_oks 139 x139_27 := ⟨sx_k_bipush (sx_dd bb_139 dX8_moves_27) (by decide +kernel), ox139_29⟩
def x139_26 : List sx_E := (.aload 0, 26, 27, [], .null) :: x139_27
theorem ox139_26 : sx_oks 139 x139_26 := ⟨Or.inr ⟨_, (sx_dd bb_139 dX8_moves_26), rfl, rfl⟩, ox139_27⟩
def x139_23 : List sx_E := (.ifCond .ge (19), 23, 26, [42], .null) :: x139_26
theorem ox139_23 : sx_oks 139 x139_23 := ⟨⟨(sx_dd bb_139 dX8_moves_23), rfl, sx_t1 (by decide +kernel)⟩, ox139_26⟩
def x139_20 : List sx_E := (.invokevirtual 89, 20, 23, [126, 2, 0, 0, 7], .null) :: x139_23
theorem ox139_20 : sx_oks 139 x139_20 := ⟨sx_q_V (w := (RX8, TX8, 31)) (sx_dd bb_139 dX8_moves_20) oo_139 lk_StrawGarrisonModel_89_V ft_126_h (Nat.le_of_ble_eq_true rfl) rfl rfl, ox139_23⟩
def x139_19 : List sx_E := (.iload 2, 19, 20, [], .null) :: x139_20
theorem ox139_19 : sx_oks 139 x139_19 := ⟨Or.inr ⟨_, (sx_dd bb_139 dX8_moves_19), rfl, rfl⟩, ox139_20⟩
def x139_18 : List sx_E := (.aload 0, 18, 19, [], .null) :: x139_19
theorem ox139_18 : sx_oks 139 x139_18 := ⟨Or.inr ⟨_, (sx_dd bb_139 dX8_moves_18), rfl, rfl⟩, ox139_19⟩
def x139_17 : List sx_E := (.ireturn, 17, 18, [0], .null) :: x139_18
theorem ox139_17 : sx_oks 139 x139_17 := ⟨sx_q_iret0 (sx_dd bb_139 dX8_moves_17) rr_139, ox139_18⟩
def x139_15 : List sx_E := (.nop, 15, 17, [], .int ((-1000000001))) :: x139_17
theorem ox139_15 : sx_oks 139 x139_15 := ⟨sx_k_ldc (sx_dd bb_139 dX8_moves_15) (sx_ow1 oo_139 kc_StrawGarrisonModel_88), ox139_17⟩
def x139_12 : List sx_E := (.ifCond .ne (6), 12, 15, [18], .null) :: x139_15
theorem ox139_12 : sx_oks 139 x139_12 := ⟨⟨(sx_dd bb_139 dX8_moves_12), rfl, sx_t1 (by decide +kernel)⟩, ox139_15⟩
def x139_9 : List sx_E := (.invokestatic 82, 9, 12, [125, 1, 0, 0], .null) :: x139_12
theorem ox139_9 : sx_oks 139 x139_9 := ⟨sx_q_S (sx_dd bb_139 dX8_moves_9) oo_139 lk_StrawGarrisonModel_82_S ft_125_h, ox139_12⟩
def x139_8 : List sx_E := (.iload 2, 8, 9, [], .null) :: x139_9
theorem ox139_8 : sx_oks 139 x139_8 := ⟨Or.inr ⟨_, (sx_dd bb_139 dX8_moves_8), rfl, rfl⟩, ox139_9⟩
def x139_5 : List sx_E := (.ifCond .eq (10), 5, 8, [15], .null) :: x139_8
theorem ox139_5 : sx_oks 139 x139_5 := ⟨⟨(sx_dd bb_139 dX8_moves_5), rfl, sx_t1 (by decide +kernel)⟩, ox139_8⟩
def x139_2 : List sx_E := (.invokevirtual 110, 2, 5, [121, 2, 0, 0, 7], .null) :: x139_5
theorem ox139_2 : sx_oks 139 x139_2 := ⟨sx_q_V (w := (RX8, TX8, 31)) (sx_dd bb_139 dX8_moves_2) oo_139 lk_StrawGarrisonModel_110_V ft_121_h (Nat.le_of_ble_eq_true rfl) rfl rfl, ox139_5⟩
def x139_1 : List sx_E := (.iload 1, 1, 2, [], .null) :: x139_2
theorem ox139_1 : sx_oks 139 x139_1 := ⟨Or.inr ⟨_, (sx_dd bb_139 dX8_moves_1), rfl, rfl⟩, ox139_2⟩
def x139_0 : List sx_E := (.aload 0, 0, 1, [], .null) :: x139_1
theorem ox139_0 : sx_oks 139 x139_0 := ⟨Or.inr ⟨_, (sx_dd bb_139 dX8_moves_0), rfl, rfl⟩, ox139_1⟩
theorem m139 : sx_mok 139 x139_0 := ⟨ox139_0, by decide +kernel⟩
theorem bb_140 : sx_by 140 = cX8_at := rfl
theorem oo_140 : (sx_nm 140).cls = "StrawGarrisonModel" := rfl
theorem mm_140 : sx_ml 140 = 2 := rfl
theorem rr_140 : sx_rt 140 = (some .int) := rfl
def x140_20 : List sx_E := (.ireturn, 20, 21, [0], .null) :: []
theorem ox140_20 : sx_oks 140 x140_20 := ⟨sx_q_iret0 (sx_dd bb_140 dX8_at_20) rr_140, trivial⟩
def x140_18 : List sx_E := (.nop, 18, 20, [], .int ((-1000000001))) :: x140_20
theorem ox140_18 : sx_oks 140 x140_18 := ⟨sx_k_ldc (sx_dd bb_140 dX8_at_18) (sx_ow1 oo_140 kc_StrawGarrisonModel_88), ox140_20⟩
def x140_15 : List sx_E := (.goto (5), 15, 18, [20], .null) :: x140_18
theorem ox140_15 : sx_oks 140 x140_15 := ⟨⟨(sx_dd bb_140 dX8_at_15), sx_t1 (by decide +kernel)⟩, ox140_18⟩
def x140_12 : List sx_E := (.invokestatic 139, 12, 15, [114, 1, 0, 0], .null) :: x140_15
theorem ox140_12 : sx_oks 140 x140_12 := ⟨sx_q_S (sx_dd bb_140 dX8_at_12) oo_140 lk_StrawGarrisonModel_139_S ft_114_h, ox140_15⟩
def x140_9 : List sx_E := (.invokevirtual 89, 9, 12, [126, 2, 0, 0, 7], .null) :: x140_12
theorem ox140_9 : sx_oks 140 x140_9 := ⟨sx_q_V (w := (RX8, TX8, 31)) (sx_dd bb_140 dX8_at_9) oo_140 lk_StrawGarrisonModel_89_V ft_126_h (Nat.le_of_ble_eq_true rfl) rfl rfl, ox140_12⟩
def x140_8 : List sx_E := (.iload 1, 8, 9, [], .null) :: x140_9
theorem ox140_8 : sx_oks 140 x140_8 := ⟨Or.inr ⟨_, (sx_dd bb_140 dX8_at_8), rfl, rfl⟩, ox140_9⟩
def x140_7 : List sx_E := (.aload 0, 7, 8, [], .null) :: x140_8
theorem ox140_7 : sx_oks 140 x140_7 := ⟨Or.inr ⟨_, (sx_dd bb_140 dX8_at_7), rfl, rfl⟩, ox140_8⟩
def x140_4 : List sx_E := (.ifCond .eq (14), 4, 7, [18], .null) :: x140_7
theorem ox140_4 : sx_oks 140 x140_4 := ⟨⟨(sx_dd bb_140 dX8_at_4), rfl, sx_t1 (by decide +kernel)⟩, ox140_7⟩
def x140_1 : List sx_E := (.invokestatic 82, 1, 4, [125, 1, 0, 0], .null) :: x140_4
theorem ox140_1 : sx_oks 140 x140_1 := ⟨sx_q_S (sx_dd bb_140 dX8_at_1) oo_140 lk_StrawGarrisonModel_82_S ft_125_h, ox140_4⟩
def x140_0 : List sx_E := (.iload 1, 0, 1, [], .null) :: x140_1
theorem ox140_0 : sx_oks 140 x140_0 := ⟨Or.inr ⟨_, (sx_dd bb_140 dX8_at_0), rfl, rfl⟩, ox140_1⟩
theorem m140 : sx_mok 140 x140_0 := ⟨ox140_0, by decide +kernel⟩
theorem bb_141 : sx_by 141 = cX8_rule := rfl
theorem oo_141 : (sx_nm 141).cls = "StrawGarrisonModel" := rfl
theorem mm_141 : sx_ml 141 = 3 := rfl
theorem rr_141 : sx_rt 141 = (some .int) := rfl
def x141_56 : List sx_E := (.ireturn, 56, 57, [0], .null) :: []
theorem ox141_56 : sx_oks 141 x141_56 := ⟨sx_q_iret0 (sx_dd bb_141 dX8_rule_56) rr_141, trivial⟩
def x141_53 : List sx_E := (.invokevirtual 132, 53, 56, [117, 3, 0, 0, 7], .null) :: x141_56
theorem ox141_53 : sx_oks 141 x141_53 := ⟨sx_q_V (w := (RX8, TX8, 31)) (sx_dd bb_141 dX8_rule_53) oo_141 lk_StrawGarrisonModel_132_V ft_117_h (Nat.le_of_ble_eq_true rfl) rfl rfl, ox141_56⟩
def x141_52 : List sx_E := (.iload 2, 52, 53, [], .null) :: x141_53
theorem ox141_52 : sx_oks 141 x141_52 := ⟨Or.inr ⟨_, (sx_dd bb_141 dX8_rule_52), rfl, rfl⟩, ox141_53⟩
def x141_51 : List sx_E := (.iadd, 51, 52, [], .null) :: x141_52
theorem ox141_51 : sx_oks 141 x141_51 := ⟨⟨(sx_dd bb_141 dX8_rule_51), rfl⟩, ox141_52⟩
def x141_50 : List sx_E := (.iload 1, 50, 51, [], .null) :: x141_51
theorem ox141_50 : sx_oks 141 x141_50 := ⟨Or.inr ⟨_, (sx_dd bb_141 dX8_rule_50), rfl, rfl⟩, ox141_51⟩
def x141_49 : List sx_E := (.nop, 49, 50, [], .int (nI 3)) :: x141_50
theorem ox141_49 : sx_oks 141 x141_49 := ⟨sx_k_iconst (sx_dd bb_141 dX8_rule_49) (by decide +kernel), ox141_50⟩
def x141_48 : List sx_E := (.aload 0, 48, 49, [], .null) :: x141_49
theorem ox141_48 : sx_oks 141 x141_48 := ⟨Or.inr ⟨_, (sx_dd bb_141 dX8_rule_48), rfl, rfl⟩, ox141_49⟩
def x141_47 : List sx_E := (.ireturn, 47, 48, [0], .null) :: x141_48
theorem ox141_47 : sx_oks 141 x141_47 := ⟨sx_q_iret0 (sx_dd bb_141 dX8_rule_47) rr_141, ox141_48⟩
def x141_45 : List sx_E := (.nop, 45, 47, [], .int ((-1000000001))) :: x141_47
theorem ox141_45 : sx_oks 141 x141_45 := ⟨sx_k_ldc (sx_dd bb_141 dX8_rule_45) (sx_ow1 oo_141 kc_StrawGarrisonModel_88), ox141_47⟩
def x141_42 : List sx_E := (.ifCond .ne (6), 42, 45, [48], .null) :: x141_45
theorem ox141_42 : sx_oks 141 x141_42 := ⟨⟨(sx_dd bb_141 dX8_rule_42), rfl, sx_t1 (by decide +kernel)⟩, ox141_45⟩
def x141_39 : List sx_E := (.invokestatic 65, 39, 42, [113, 3, 0, 0], .null) :: x141_42
theorem ox141_39 : sx_oks 141 x141_39 := ⟨sx_q_S (sx_dd bb_141 dX8_rule_39) oo_141 lk_StrawGarrisonModel_65_S ft_113_h, ox141_42⟩
def x141_36 : List sx_E := (.nop, 36, 39, [], .long (999)) :: x141_39
theorem ox141_36 : sx_oks 141 x141_36 := ⟨sx_k_ldc2 (sx_dd bb_141 dX8_rule_36) (sx_ow2 oo_141 kl_StrawGarrisonModel_146), ox141_39⟩
def x141_33 : List sx_E := (.goto (6), 33, 36, [39], .null) :: x141_36
theorem ox141_33 : sx_oks 141 x141_33 := ⟨⟨(sx_dd bb_141 dX8_rule_33), sx_t1 (by decide +kernel)⟩, ox141_36⟩
def x141_30 : List sx_E := (.nop, 30, 33, [], .long (100)) :: x141_33
theorem ox141_30 : sx_oks 141 x141_30 := ⟨sx_k_ldc2 (sx_dd bb_141 dX8_rule_30) (sx_ow2 oo_141 kl_StrawGarrisonModel_144), ox141_33⟩
def x141_27 : List sx_E := (.if_icmp .ne (9), 27, 30, [36], .null) :: x141_30
theorem ox141_27 : sx_oks 141 x141_27 := ⟨⟨(sx_dd bb_141 dX8_rule_27), rfl, sx_t1 (by decide +kernel)⟩, ox141_30⟩
def x141_26 : List sx_E := (.nop, 26, 27, [], .int (nI 1)) :: x141_27
theorem ox141_26 : sx_oks 141 x141_26 := ⟨sx_k_iconst (sx_dd bb_141 dX8_rule_26) (by decide +kernel), ox141_27⟩
def x141_25 : List sx_E := (.iload 1, 25, 26, [], .null) :: x141_26
theorem ox141_25 : sx_oks 141 x141_25 := ⟨Or.inr ⟨_, (sx_dd bb_141 dX8_rule_25), rfl, rfl⟩, ox141_26⟩
def x141_22 : List sx_E := (.goto (17), 22, 25, [39], .null) :: x141_25
theorem ox141_22 : sx_oks 141 x141_22 := ⟨⟨(sx_dd bb_141 dX8_rule_22), sx_t1 (by decide +kernel)⟩, ox141_25⟩
def x141_19 : List sx_E := (.nop, 19, 22, [], .long (19)) :: x141_22
theorem ox141_19 : sx_oks 141 x141_19 := ⟨sx_k_ldc2 (sx_dd bb_141 dX8_rule_19) (sx_ow2 oo_141 kl_StrawGarrisonModel_70), ox141_22⟩
def x141_16 : List sx_E := (.ifCond .ne (9), 16, 19, [25], .null) :: x141_19
theorem ox141_16 : sx_oks 141 x141_16 := ⟨⟨(sx_dd bb_141 dX8_rule_16), rfl, sx_t1 (by decide +kernel)⟩, ox141_19⟩
def x141_15 : List sx_E := (.iload 1, 15, 16, [], .null) :: x141_16
theorem ox141_15 : sx_oks 141 x141_15 := ⟨Or.inr ⟨_, (sx_dd bb_141 dX8_rule_15), rfl, rfl⟩, ox141_16⟩
def x141_14 : List sx_E := (.nop, 14, 15, [], .long (0)) :: x141_15
theorem ox141_14 : sx_oks 141 x141_14 := ⟨sx_k_lconst (sx_dd bb_141 dX8_rule_14) (by decide +kernel), ox141_15⟩
def x141_13 : List sx_E := (.i2l, 13, 14, [], .null) :: x141_14
theorem ox141_13 : sx_oks 141 x141_13 := ⟨⟨(sx_dd bb_141 dX8_rule_13), rfl⟩, ox141_14⟩
def x141_12 : List sx_E := (.iload 2, 12, 13, [], .null) :: x141_13
theorem ox141_12 : sx_oks 141 x141_12 := ⟨Or.inr ⟨_, (sx_dd bb_141 dX8_rule_12), rfl, rfl⟩, ox141_13⟩
def x141_9 : List sx_E := (.ifCond .eq (36), 9, 12, [45], .null) :: x141_12
theorem ox141_9 : sx_oks 141 x141_9 := ⟨⟨(sx_dd bb_141 dX8_rule_9), rfl, sx_t1 (by decide +kernel)⟩, ox141_12⟩
def x141_6 : List sx_E := (.invokestatic 65, 6, 9, [113, 3, 0, 0], .null) :: x141_9
theorem ox141_6 : sx_oks 141 x141_6 := ⟨sx_q_S (sx_dd bb_141 dX8_rule_6) oo_141 lk_StrawGarrisonModel_65_S ft_113_h, ox141_9⟩
def x141_3 : List sx_E := (.nop, 3, 6, [], .long (3)) :: x141_6
theorem ox141_3 : sx_oks 141 x141_3 := ⟨sx_k_ldc2 (sx_dd bb_141 dX8_rule_3) (sx_ow2 oo_141 kl_StrawGarrisonModel_142), ox141_6⟩
def x141_2 : List sx_E := (.nop, 2, 3, [], .long (0)) :: x141_3
theorem ox141_2 : sx_oks 141 x141_2 := ⟨sx_k_lconst (sx_dd bb_141 dX8_rule_2) (by decide +kernel), ox141_3⟩
def x141_1 : List sx_E := (.i2l, 1, 2, [], .null) :: x141_2
theorem ox141_1 : sx_oks 141 x141_1 := ⟨⟨(sx_dd bb_141 dX8_rule_1), rfl⟩, ox141_2⟩
def x141_0 : List sx_E := (.iload 1, 0, 1, [], .null) :: x141_1
theorem ox141_0 : sx_oks 141 x141_0 := ⟨Or.inr ⟨_, (sx_dd bb_141 dX8_rule_0), rfl, rfl⟩, ox141_1⟩
theorem m141 : sx_mok 141 x141_0 := ⟨ox141_0, by decide +kernel⟩
theorem bb_142 : sx_by 142 = cX8_deal := rfl
theorem oo_142 : (sx_nm 142).cls = "StrawGarrisonModel" := rfl
theorem mm_142 : sx_ml 142 = 5 := rfl
theorem rr_142 : sx_rt 142 = (some .int) := rfl
def x142_92 : List sx_E := (.ireturn, 92, 93, [0], .null) :: []
theorem ox142_92 : sx_oks 142 x142_92 := ⟨sx_q_iret0 (sx_dd bb_142 dX8_deal_92) rr_142, trivial⟩
def x142_91 : List sx_E := (.iload 2, 91, 92, [], .null) :: x142_92
theorem ox142_91 : sx_oks 142 x142_91 := ⟨Or.inr ⟨_, (sx_dd bb_142 dX8_deal_91), rfl, rfl⟩, ox142_92⟩
def x142_88 : List sx_E := (.goto (-71), 88, 91, [17], .null) :: x142_91
theorem ox142_88 : sx_oks 142 x142_88 := ⟨⟨(sx_dd bb_142 dX8_deal_88), sx_t1 (by decide +kernel)⟩, ox142_91⟩
def x142_85 : List sx_E := (.iinc 2 (1), 85, 88, [], .int (nI 1)) :: x142_88
theorem ox142_85 : sx_oks 142 x142_85 := ⟨⟨sx_lt mm_142 (Nat.le_of_ble_eq_true rfl), (sx_dd bb_142 dX8_deal_85), rfl, by decide +kernel⟩, ox142_88⟩
def x142_82 : List sx_E := (.invokevirtual 95, 82, 85, [127, 4, 0, 0, 7], .null) :: x142_85
theorem ox142_82 : sx_oks 142 x142_82 := ⟨sx_q_V (w := (RX8, TX8, 31)) (sx_dd bb_142 dX8_deal_82) oo_142 lk_StrawGarrisonModel_95_V ft_127_h (Nat.le_of_ble_eq_true rfl) rfl rfl, ox142_85⟩
def x142_81 : List sx_E := (.irem, 81, 82, [], .null) :: x142_82
theorem ox142_81 : sx_oks 142 x142_81 := ⟨⟨(sx_dd bb_142 dX8_deal_81), rfl⟩, ox142_82⟩
def x142_79 : List sx_E := (.nop, 79, 81, [], .int (nI 60)) :: x142_81
theorem ox142_79 : sx_oks 142 x142_79 := ⟨sx_k_bipush (sx_dd bb_142 dX8_deal_79) (by decide +kernel), ox142_81⟩
def x142_76 : List sx_E := (.invokevirtual 150, 76, 79, [123, 1, 0, 0, 7], .null) :: x142_79
theorem ox142_76 : sx_oks 142 x142_76 := ⟨sx_q_V (w := (RX8, TX8, 31)) (sx_dd bb_142 dX8_deal_76) oo_142 lk_StrawGarrisonModel_150_V ft_123_h (Nat.le_of_ble_eq_true rfl) rfl rfl, ox142_79⟩
def x142_75 : List sx_E := (.aload 0, 75, 76, [], .null) :: x142_76
theorem ox142_75 : sx_oks 142 x142_75 := ⟨Or.inr ⟨_, (sx_dd bb_142 dX8_deal_75), rfl, rfl⟩, ox142_76⟩
def x142_73 : List sx_E := (.iload 4, 73, 75, [], .null) :: x142_75
theorem ox142_73 : sx_oks 142 x142_73 := ⟨Or.inl ⟨(sx_dd bb_142 dX8_deal_73), rfl⟩, ox142_75⟩
def x142_72 : List sx_E := (.iload 3, 72, 73, [], .null) :: x142_73
theorem ox142_72 : sx_oks 142 x142_72 := ⟨Or.inr ⟨_, (sx_dd bb_142 dX8_deal_72), rfl, rfl⟩, ox142_73⟩
def x142_71 : List sx_E := (.aload 0, 71, 72, [], .null) :: x142_72
theorem ox142_71 : sx_oks 142 x142_71 := ⟨Or.inr ⟨_, (sx_dd bb_142 dX8_deal_71), rfl, rfl⟩, ox142_72⟩
def x142_68 : List sx_E := (.goto (-18), 68, 71, [50], .null) :: x142_71
theorem ox142_68 : sx_oks 142 x142_68 := ⟨⟨(sx_dd bb_142 dX8_deal_68), sx_t1 (by decide +kernel)⟩, ox142_71⟩
def x142_66 : List sx_E := (.istore 4, 66, 68, [], .null) :: x142_68
theorem ox142_66 : sx_oks 142 x142_66 := ⟨⟨sx_lt mm_142 (Nat.le_of_ble_eq_true rfl), Or.inl ⟨(sx_dd bb_142 dX8_deal_66), rfl⟩⟩, ox142_68⟩
def x142_65 : List sx_E := (.irem, 65, 66, [], .null) :: x142_66
theorem ox142_65 : sx_oks 142 x142_65 := ⟨⟨(sx_dd bb_142 dX8_deal_65), rfl⟩, ox142_66⟩
def x142_63 : List sx_E := (.nop, 63, 65, [], .int (nI 20)) :: x142_65
theorem ox142_63 : sx_oks 142 x142_63 := ⟨sx_k_bipush (sx_dd bb_142 dX8_deal_63) (by decide +kernel), ox142_65⟩
def x142_62 : List sx_E := (.iadd, 62, 63, [], .null) :: x142_63
theorem ox142_62 : sx_oks 142 x142_62 := ⟨⟨(sx_dd bb_142 dX8_deal_62), rfl⟩, ox142_63⟩
def x142_61 : List sx_E := (.nop, 61, 62, [], .int (nI 1)) :: x142_62
theorem ox142_61 : sx_oks 142 x142_61 := ⟨sx_k_iconst (sx_dd bb_142 dX8_deal_61) (by decide +kernel), ox142_62⟩
def x142_59 : List sx_E := (.iload 4, 59, 61, [], .null) :: x142_61
theorem ox142_59 : sx_oks 142 x142_59 := ⟨Or.inl ⟨(sx_dd bb_142 dX8_deal_59), rfl⟩, ox142_61⟩
def x142_56 : List sx_E := (.ifCond .lt (15), 56, 59, [71], .null) :: x142_59
theorem ox142_56 : sx_oks 142 x142_56 := ⟨⟨(sx_dd bb_142 dX8_deal_56), rfl, sx_t1 (by decide +kernel)⟩, ox142_59⟩
def x142_53 : List sx_E := (.invokevirtual 89, 53, 56, [126, 2, 0, 0, 7], .null) :: x142_56
theorem ox142_53 : sx_oks 142 x142_53 := ⟨sx_q_V (w := (RX8, TX8, 31)) (sx_dd bb_142 dX8_deal_53) oo_142 lk_StrawGarrisonModel_89_V ft_126_h (Nat.le_of_ble_eq_true rfl) rfl rfl, ox142_56⟩
def x142_51 : List sx_E := (.iload 4, 51, 53, [], .null) :: x142_53
theorem ox142_51 : sx_oks 142 x142_51 := ⟨Or.inl ⟨(sx_dd bb_142 dX8_deal_51), rfl⟩, ox142_53⟩
def x142_50 : List sx_E := (.aload 0, 50, 51, [], .null) :: x142_51
theorem ox142_50 : sx_oks 142 x142_50 := ⟨Or.inr ⟨_, (sx_dd bb_142 dX8_deal_50), rfl, rfl⟩, ox142_51⟩
def x142_50h : List sx_E := (.monitorenter, 50, 50, [0, 1, 2, 3, 4], .null) :: x142_50
theorem ox142_50h : sx_oks 142 x142_50h := ⟨trivial, ox142_50⟩
def x142_48 : List sx_E := (.istore 4, 48, 50, [], .null) :: x142_50h
theorem ox142_48 : sx_oks 142 x142_48 := ⟨⟨sx_lt mm_142 (Nat.le_of_ble_eq_true rfl), Or.inl ⟨(sx_dd bb_142 dX8_deal_48), rfl⟩⟩, ox142_50h⟩
def x142_47 : List sx_E := (.irem, 47, 48, [], .null) :: x142_48
theorem ox142_47 : sx_oks 142 x142_47 := ⟨⟨(sx_dd bb_142 dX8_deal_47), rfl⟩, ox142_48⟩
def x142_45 : List sx_E := (.nop, 45, 47, [], .int (nI 20)) :: x142_47
theorem ox142_45 : sx_oks 142 x142_45 := ⟨sx_k_bipush (sx_dd bb_142 dX8_deal_45) (by decide +kernel), ox142_47⟩
def x142_42 : List sx_E := (.invokevirtual 150, 42, 45, [123, 1, 0, 0, 7], .null) :: x142_45
theorem ox142_42 : sx_oks 142 x142_42 := ⟨sx_q_V (w := (RX8, TX8, 31)) (sx_dd bb_142 dX8_deal_42) oo_142 lk_StrawGarrisonModel_150_V ft_123_h (Nat.le_of_ble_eq_true rfl) rfl rfl, ox142_45⟩
def x142_41 : List sx_E := (.aload 0, 41, 42, [], .null) :: x142_42
theorem ox142_41 : sx_oks 142 x142_41 := ⟨Or.inr ⟨_, (sx_dd bb_142 dX8_deal_41), rfl, rfl⟩, ox142_42⟩
def x142_40 : List sx_E := (.istore 3, 40, 41, [], .null) :: x142_41
theorem ox142_40 : sx_oks 142 x142_40 := ⟨⟨sx_lt mm_142 (Nat.le_of_ble_eq_true rfl), Or.inr ⟨_, (sx_dd bb_142 dX8_deal_40), rfl, rfl⟩⟩, ox142_41⟩
def x142_39 : List sx_E := (.irem, 39, 40, [], .null) :: x142_40
theorem ox142_39 : sx_oks 142 x142_39 := ⟨⟨(sx_dd bb_142 dX8_deal_39), rfl⟩, ox142_40⟩
def x142_37 : List sx_E := (.nop, 37, 39, [], .int (nI 6)) :: x142_39
theorem ox142_37 : sx_oks 142 x142_37 := ⟨sx_k_bipush (sx_dd bb_142 dX8_deal_37) (by decide +kernel), ox142_39⟩
def x142_34 : List sx_E := (.invokevirtual 150, 34, 37, [123, 1, 0, 0, 7], .null) :: x142_37
theorem ox142_34 : sx_oks 142 x142_34 := ⟨sx_q_V (w := (RX8, TX8, 31)) (sx_dd bb_142 dX8_deal_34) oo_142 lk_StrawGarrisonModel_150_V ft_123_h (Nat.le_of_ble_eq_true rfl) rfl rfl, ox142_37⟩
def x142_33 : List sx_E := (.aload 0, 33, 34, [], .null) :: x142_34
theorem ox142_33 : sx_oks 142 x142_33 := ⟨Or.inr ⟨_, (sx_dd bb_142 dX8_deal_33), rfl, rfl⟩, ox142_34⟩
def x142_30 : List sx_E := (.if_icmp .ge (61), 30, 33, [91], .null) :: x142_33
theorem ox142_30 : sx_oks 142 x142_30 := ⟨⟨(sx_dd bb_142 dX8_deal_30), rfl, sx_t1 (by decide +kernel)⟩, ox142_33⟩
def x142_28 : List sx_E := (.nop, 28, 30, [], .int (nI 10)) :: x142_30
theorem ox142_28 : sx_oks 142 x142_28 := ⟨sx_k_bipush (sx_dd bb_142 dX8_deal_28) (by decide +kernel), ox142_30⟩
def x142_27 : List sx_E := (.iaload, 27, 28, [], .null) :: x142_28
theorem ox142_27 : sx_oks 142 x142_27 := ⟨⟨(sx_dd bb_142 dX8_deal_27), rfl⟩, ox142_28⟩
def x142_26 : List sx_E := (.nop, 26, 27, [], .int (nI 0)) :: x142_27
theorem ox142_26 : sx_oks 142 x142_26 := ⟨sx_k_iconst (sx_dd bb_142 dX8_deal_26) (by decide +kernel), ox142_27⟩
def x142_23 : List sx_E := (.getfield 7, 23, 26, [7, 0, 1], .null) :: x142_26
theorem ox142_23 : sx_oks 142 x142_23 := ⟨sx_q_get (w := (RX8, TX8, 31)) (sx_dd bb_142 dX8_deal_23) rfl rfl (Nat.le_of_ble_eq_true rfl) cu_7 (sx_ow3 oo_142 fl_StrawGarrisonModel_7) (by decide +kernel), ox142_26⟩
def x142_22 : List sx_E := (.aload 0, 22, 23, [], .null) :: x142_23
theorem ox142_22 : sx_oks 142 x142_22 := ⟨Or.inr ⟨_, (sx_dd bb_142 dX8_deal_22), rfl, rfl⟩, ox142_23⟩
def x142_19 : List sx_E := (.if_icmp .ge (72), 19, 22, [91], .null) :: x142_22
theorem ox142_19 : sx_oks 142 x142_19 := ⟨⟨(sx_dd bb_142 dX8_deal_19), rfl, sx_t1 (by decide +kernel)⟩, ox142_22⟩
def x142_18 : List sx_E := (.iload 1, 18, 19, [], .null) :: x142_19
theorem ox142_18 : sx_oks 142 x142_18 := ⟨Or.inr ⟨_, (sx_dd bb_142 dX8_deal_18), rfl, rfl⟩, ox142_19⟩
def x142_17 : List sx_E := (.iload 2, 17, 18, [], .null) :: x142_18
theorem ox142_17 : sx_oks 142 x142_17 := ⟨Or.inr ⟨_, (sx_dd bb_142 dX8_deal_17), rfl, rfl⟩, ox142_18⟩
def x142_17h : List sx_E := (.monitorenter, 17, 17, [0, 1, 2], .null) :: x142_17
theorem ox142_17h : sx_oks 142 x142_17h := ⟨trivial, ox142_17⟩
def x142_16 : List sx_E := (.istore 2, 16, 17, [], .null) :: x142_17h
theorem ox142_16 : sx_oks 142 x142_16 := ⟨⟨sx_lt mm_142 (Nat.le_of_ble_eq_true rfl), Or.inr ⟨_, (sx_dd bb_142 dX8_deal_16), rfl, rfl⟩⟩, ox142_17h⟩
def x142_15 : List sx_E := (.nop, 15, 16, [], .int (nI 0)) :: x142_16
theorem ox142_15 : sx_oks 142 x142_15 := ⟨sx_k_iconst (sx_dd bb_142 dX8_deal_15) (by decide +kernel), ox142_16⟩
def x142_14 : List sx_E := (.ireturn, 14, 15, [0], .null) :: x142_15
theorem ox142_14 : sx_oks 142 x142_14 := ⟨sx_q_iret0 (sx_dd bb_142 dX8_deal_14) rr_142, ox142_15⟩
def x142_12 : List sx_E := (.nop, 12, 14, [], .int ((-1000000001))) :: x142_14
theorem ox142_12 : sx_oks 142 x142_12 := ⟨sx_k_ldc (sx_dd bb_142 dX8_deal_12) (sx_ow1 oo_142 kc_StrawGarrisonModel_88), ox142_14⟩
def x142_9 : List sx_E := (.ifCond .ne (6), 9, 12, [15], .null) :: x142_12
theorem ox142_9 : sx_oks 142 x142_9 := ⟨⟨(sx_dd bb_142 dX8_deal_9), rfl, sx_t1 (by decide +kernel)⟩, ox142_12⟩
def x142_6 : List sx_E := (.invokestatic 65, 6, 9, [113, 3, 0, 0], .null) :: x142_9
theorem ox142_6 : sx_oks 142 x142_6 := ⟨sx_q_S (sx_dd bb_142 dX8_deal_6) oo_142 lk_StrawGarrisonModel_65_S ft_113_h, ox142_9⟩
def x142_3 : List sx_E := (.nop, 3, 6, [], .long (10)) :: x142_6
theorem ox142_3 : sx_oks 142 x142_3 := ⟨sx_k_ldc2 (sx_dd bb_142 dX8_deal_3) (sx_ow2 oo_142 kl_StrawGarrisonModel_148), ox142_6⟩
def x142_2 : List sx_E := (.nop, 2, 3, [], .long (1)) :: x142_3
theorem ox142_2 : sx_oks 142 x142_2 := ⟨sx_k_lconst (sx_dd bb_142 dX8_deal_2) (by decide +kernel), ox142_3⟩
def x142_1 : List sx_E := (.i2l, 1, 2, [], .null) :: x142_2
theorem ox142_1 : sx_oks 142 x142_1 := ⟨⟨(sx_dd bb_142 dX8_deal_1), rfl⟩, ox142_2⟩
def x142_0 : List sx_E := (.iload 1, 0, 1, [], .null) :: x142_1
theorem ox142_0 : sx_oks 142 x142_0 := ⟨Or.inr ⟨_, (sx_dd bb_142 dX8_deal_0), rfl, rfl⟩, ox142_1⟩
theorem m142 : sx_mok 142 x142_0 := ⟨ox142_0, by decide +kernel⟩
theorem bb_143 : sx_by 143 = cX8_seed := rfl
theorem oo_143 : (sx_nm 143).cls = "StrawGarrisonModel" := rfl
theorem mm_143 : sx_ml 143 = 2 := rfl
theorem rr_143 : sx_rt 143 = (some .int) := rfl
def x143_7 : List sx_E := (.ireturn, 7, 8, [0], .null) :: []
theorem ox143_7 : sx_oks 143 x143_7 := ⟨sx_q_iret0 (sx_dd bb_143 dX8_seed_7) rr_143, trivial⟩
def x143_4 : List sx_E := (.invokevirtual 132, 4, 7, [117, 3, 0, 0, 7], .null) :: x143_7
theorem ox143_4 : sx_oks 143 x143_4 := ⟨sx_q_V (w := (RX8, TX8, 31)) (sx_dd bb_143 dX8_seed_4) oo_143 lk_StrawGarrisonModel_132_V ft_117_h (Nat.le_of_ble_eq_true rfl) rfl rfl, ox143_7⟩
def x143_3 : List sx_E := (.iload 1, 3, 4, [], .null) :: x143_4
theorem ox143_3 : sx_oks 143 x143_3 := ⟨Or.inr ⟨_, (sx_dd bb_143 dX8_seed_3), rfl, rfl⟩, ox143_4⟩
def x143_1 : List sx_E := (.nop, 1, 3, [], .int (nI 11)) :: x143_3
theorem ox143_1 : sx_oks 143 x143_1 := ⟨sx_k_bipush (sx_dd bb_143 dX8_seed_1) (by decide +kernel), ox143_3⟩
def x143_0 : List sx_E := (.aload 0, 0, 1, [], .null) :: x143_1
theorem ox143_0 : sx_oks 143 x143_0 := ⟨Or.inr ⟨_, (sx_dd bb_143 dX8_seed_0), rfl, rfl⟩, ox143_1⟩
theorem m143 : sx_mok 143 x143_0 := ⟨ox143_0, by decide +kernel⟩
theorem bb_144 : sx_by 144 = cX8_counted := rfl
theorem oo_144 : (sx_nm 144).cls = "StrawGarrisonModel" := rfl
theorem mm_144 : sx_ml 144 = 3 := rfl
theorem rr_144 : sx_rt 144 = (some .int) := rfl
def x144_54 : List sx_E := (.ireturn, 54, 55, [0], .null) :: []
theorem ox144_54 : sx_oks 144 x144_54 := ⟨sx_q_iret0 (sx_dd bb_144 dX8_counted_54) rr_144, trivial⟩
def x144_53 : List sx_E := (.iload 1, 53, 54, [], .null) :: x144_54
theorem ox144_53 : sx_oks 144 x144_53 := ⟨Or.inr ⟨_, (sx_dd bb_144 dX8_counted_53), rfl, rfl⟩, ox144_54⟩
def x144_50 : List sx_E := (.goto (-46), 50, 53, [4], .null) :: x144_53
theorem ox144_50 : sx_oks 144 x144_50 := ⟨⟨(sx_dd bb_144 dX8_counted_50), sx_t1 (by decide +kernel)⟩, ox144_53⟩
def x144_47 : List sx_E := (.iinc 2 (1), 47, 50, [], .int (nI 1)) :: x144_50
theorem ox144_47 : sx_oks 144 x144_47 := ⟨⟨sx_lt mm_144 (Nat.le_of_ble_eq_true rfl), (sx_dd bb_144 dX8_counted_47), rfl, by decide +kernel⟩, ox144_50⟩
def x144_46 : List sx_E := (.istore 1, 46, 47, [], .null) :: x144_47
theorem ox144_46 : sx_oks 144 x144_46 := ⟨⟨sx_lt mm_144 (Nat.le_of_ble_eq_true rfl), Or.inr ⟨_, (sx_dd bb_144 dX8_counted_46), rfl, rfl⟩⟩, ox144_47⟩
def x144_45 : List sx_E := (.iadd, 45, 46, [], .null) :: x144_46
theorem ox144_45 : sx_oks 144 x144_45 := ⟨⟨(sx_dd bb_144 dX8_counted_45), rfl⟩, ox144_46⟩
def x144_44 : List sx_E := (.nop, 44, 45, [], .int (nI 0)) :: x144_45
theorem ox144_44 : sx_oks 144 x144_44 := ⟨sx_k_iconst (sx_dd bb_144 dX8_counted_44) (by decide +kernel), ox144_45⟩
def x144_41 : List sx_E := (.goto (4), 41, 44, [45], .null) :: x144_44
theorem ox144_41 : sx_oks 144 x144_41 := ⟨⟨(sx_dd bb_144 dX8_counted_41), sx_t1 (by decide +kernel)⟩, ox144_44⟩
def x144_38 : List sx_E := (.invokevirtual 115, 38, 41, [130, 2, 0, 0, 7], .null) :: x144_41
theorem ox144_38 : sx_oks 144 x144_38 := ⟨sx_q_V (w := (RX8, TX8, 31)) (sx_dd bb_144 dX8_counted_38) oo_144 lk_StrawGarrisonModel_115_V ft_130_h (Nat.le_of_ble_eq_true rfl) rfl rfl, ox144_41⟩
def x144_37 : List sx_E := (.iload 2, 37, 38, [], .null) :: x144_38
theorem ox144_37 : sx_oks 144 x144_37 := ⟨Or.inr ⟨_, (sx_dd bb_144 dX8_counted_37), rfl, rfl⟩, ox144_38⟩
def x144_36 : List sx_E := (.aload 0, 36, 37, [], .null) :: x144_37
theorem ox144_36 : sx_oks 144 x144_36 := ⟨Or.inr ⟨_, (sx_dd bb_144 dX8_counted_36), rfl, rfl⟩, ox144_37⟩
def x144_33 : List sx_E := (.if_icmp .ge (11), 33, 36, [44], .null) :: x144_36
theorem ox144_33 : sx_oks 144 x144_33 := ⟨⟨(sx_dd bb_144 dX8_counted_33), rfl, sx_t1 (by decide +kernel)⟩, ox144_36⟩
def x144_31 : List sx_E := (.nop, 31, 33, [], .int (nI 50)) :: x144_33
theorem ox144_31 : sx_oks 144 x144_31 := ⟨sx_k_bipush (sx_dd bb_144 dX8_counted_31) (by decide +kernel), ox144_33⟩
def x144_28 : List sx_E := (.invokevirtual 72, 28, 31, [119, 3, 0, 0, 7], .null) :: x144_31
theorem ox144_28 : sx_oks 144 x144_28 := ⟨sx_q_V (w := (RX8, TX8, 31)) (sx_dd bb_144 dX8_counted_28) oo_144 lk_StrawGarrisonModel_72_V ft_119_h (Nat.le_of_ble_eq_true rfl) rfl rfl, ox144_31⟩
def x144_27 : List sx_E := (.nop, 27, 28, [], .int (nI 3)) :: x144_28
theorem ox144_27 : sx_oks 144 x144_27 := ⟨sx_k_iconst (sx_dd bb_144 dX8_counted_27) (by decide +kernel), ox144_28⟩
def x144_26 : List sx_E := (.iload 2, 26, 27, [], .null) :: x144_27
theorem ox144_26 : sx_oks 144 x144_26 := ⟨Or.inr ⟨_, (sx_dd bb_144 dX8_counted_26), rfl, rfl⟩, ox144_27⟩
def x144_25 : List sx_E := (.aload 0, 25, 26, [], .null) :: x144_26
theorem ox144_25 : sx_oks 144 x144_25 := ⟨Or.inr ⟨_, (sx_dd bb_144 dX8_counted_25), rfl, rfl⟩, ox144_26⟩
def x144_22 : List sx_E := (.if_icmp .ne (22), 22, 25, [44], .null) :: x144_25
theorem ox144_22 : sx_oks 144 x144_22 := ⟨⟨(sx_dd bb_144 dX8_counted_22), rfl, sx_t1 (by decide +kernel)⟩, ox144_25⟩
def x144_21 : List sx_E := (.nop, 21, 22, [], .int (nI 1)) :: x144_22
theorem ox144_21 : sx_oks 144 x144_21 := ⟨sx_k_iconst (sx_dd bb_144 dX8_counted_21) (by decide +kernel), ox144_22⟩
def x144_18 : List sx_E := (.invokevirtual 72, 18, 21, [119, 3, 0, 0, 7], .null) :: x144_21
theorem ox144_18 : sx_oks 144 x144_18 := ⟨sx_q_V (w := (RX8, TX8, 31)) (sx_dd bb_144 dX8_counted_18) oo_144 lk_StrawGarrisonModel_72_V ft_119_h (Nat.le_of_ble_eq_true rfl) rfl rfl, ox144_21⟩
def x144_17 : List sx_E := (.nop, 17, 18, [], .int (nI 4)) :: x144_18
theorem ox144_17 : sx_oks 144 x144_17 := ⟨sx_k_iconst (sx_dd bb_144 dX8_counted_17) (by decide +kernel), ox144_18⟩
def x144_16 : List sx_E := (.iload 2, 16, 17, [], .null) :: x144_17
theorem ox144_16 : sx_oks 144 x144_16 := ⟨Or.inr ⟨_, (sx_dd bb_144 dX8_counted_16), rfl, rfl⟩, ox144_17⟩
def x144_15 : List sx_E := (.aload 0, 15, 16, [], .null) :: x144_16
theorem ox144_15 : sx_oks 144 x144_15 := ⟨Or.inr ⟨_, (sx_dd bb_144 dX8_counted_15), rfl, rfl⟩, ox144_16⟩
def x144_14 : List sx_E := (.iload 1, 14, 15, [], .null) :: x144_15
theorem ox144_14 : sx_oks 144 x144_14 := ⟨Or.inr ⟨_, (sx_dd bb_144 dX8_counted_14), rfl, rfl⟩, ox144_15⟩
def x144_11 : List sx_E := (.if_icmp .ge (42), 11, 14, [53], .null) :: x144_14
theorem ox144_11 : sx_oks 144 x144_11 := ⟨⟨(sx_dd bb_144 dX8_counted_11), rfl, sx_t1 (by decide +kernel)⟩, ox144_14⟩
def x144_10 : List sx_E := (.iaload, 10, 11, [], .null) :: x144_11
theorem ox144_10 : sx_oks 144 x144_10 := ⟨⟨(sx_dd bb_144 dX8_counted_10), rfl⟩, ox144_11⟩
def x144_9 : List sx_E := (.nop, 9, 10, [], .int (nI 0)) :: x144_10
theorem ox144_9 : sx_oks 144 x144_9 := ⟨sx_k_iconst (sx_dd bb_144 dX8_counted_9) (by decide +kernel), ox144_10⟩
def x144_6 : List sx_E := (.getfield 7, 6, 9, [7, 0, 1], .null) :: x144_9
theorem ox144_6 : sx_oks 144 x144_6 := ⟨sx_q_get (w := (RX8, TX8, 31)) (sx_dd bb_144 dX8_counted_6) rfl rfl (Nat.le_of_ble_eq_true rfl) cu_7 (sx_ow3 oo_144 fl_StrawGarrisonModel_7) (by decide +kernel), ox144_9⟩
def x144_5 : List sx_E := (.aload 0, 5, 6, [], .null) :: x144_6
theorem ox144_5 : sx_oks 144 x144_5 := ⟨Or.inr ⟨_, (sx_dd bb_144 dX8_counted_5), rfl, rfl⟩, ox144_6⟩
def x144_4 : List sx_E := (.iload 2, 4, 5, [], .null) :: x144_5
theorem ox144_4 : sx_oks 144 x144_4 := ⟨Or.inr ⟨_, (sx_dd bb_144 dX8_counted_4), rfl, rfl⟩, ox144_5⟩
def x144_4h : List sx_E := (.monitorenter, 4, 4, [0, 1, 2], .null) :: x144_4
theorem ox144_4h : sx_oks 144 x144_4h := ⟨trivial, ox144_4⟩
def x144_3 : List sx_E := (.istore 2, 3, 4, [], .null) :: x144_4h
theorem ox144_3 : sx_oks 144 x144_3 := ⟨⟨sx_lt mm_144 (Nat.le_of_ble_eq_true rfl), Or.inr ⟨_, (sx_dd bb_144 dX8_counted_3), rfl, rfl⟩⟩, ox144_4h⟩
def x144_2 : List sx_E := (.nop, 2, 3, [], .int (nI 0)) :: x144_3
theorem ox144_2 : sx_oks 144 x144_2 := ⟨sx_k_iconst (sx_dd bb_144 dX8_counted_2) (by decide +kernel), ox144_3⟩
def x144_1 : List sx_E := (.istore 1, 1, 2, [], .null) :: x144_2
theorem ox144_1 : sx_oks 144 x144_1 := ⟨⟨sx_lt mm_144 (Nat.le_of_ble_eq_true rfl), Or.inr ⟨_, (sx_dd bb_144 dX8_counted_1), rfl, rfl⟩⟩, ox144_2⟩
def x144_0 : List sx_E := (.nop, 0, 1, [], .int (nI 0)) :: x144_1
theorem ox144_0 : sx_oks 144 x144_0 := ⟨sx_k_iconst (sx_dd bb_144 dX8_counted_0) (by decide +kernel), ox144_1⟩
theorem m144 : sx_mok 144 x144_0 := ⟨ox144_0, by decide +kernel⟩
theorem bb_145 : sx_by 145 = cX8_strength := rfl
theorem oo_145 : (sx_nm 145).cls = "StrawGarrisonModel" := rfl
theorem mm_145 : sx_ml 145 = 3 := rfl
theorem rr_145 : sx_rt 145 = (some .int) := rfl
def x145_43 : List sx_E := (.ireturn, 43, 44, [0], .null) :: []
theorem ox145_43 : sx_oks 145 x145_43 := ⟨sx_q_iret0 (sx_dd bb_145 dX8_strength_43) rr_145, trivial⟩
def x145_42 : List sx_E := (.iload 1, 42, 43, [], .null) :: x145_43
theorem ox145_42 : sx_oks 145 x145_42 := ⟨Or.inr ⟨_, (sx_dd bb_145 dX8_strength_42), rfl, rfl⟩, ox145_43⟩
def x145_39 : List sx_E := (.goto (-35), 39, 42, [4], .null) :: x145_42
theorem ox145_39 : sx_oks 145 x145_39 := ⟨⟨(sx_dd bb_145 dX8_strength_39), sx_t1 (by decide +kernel)⟩, ox145_42⟩
def x145_36 : List sx_E := (.iinc 2 (1), 36, 39, [], .int (nI 1)) :: x145_39
theorem ox145_36 : sx_oks 145 x145_36 := ⟨⟨sx_lt mm_145 (Nat.le_of_ble_eq_true rfl), (sx_dd bb_145 dX8_strength_36), rfl, by decide +kernel⟩, ox145_39⟩
def x145_35 : List sx_E := (.istore 1, 35, 36, [], .null) :: x145_36
theorem ox145_35 : sx_oks 145 x145_35 := ⟨⟨sx_lt mm_145 (Nat.le_of_ble_eq_true rfl), Or.inr ⟨_, (sx_dd bb_145 dX8_strength_35), rfl, rfl⟩⟩, ox145_36⟩
def x145_34 : List sx_E := (.iadd, 34, 35, [], .null) :: x145_35
theorem ox145_34 : sx_oks 145 x145_34 := ⟨⟨(sx_dd bb_145 dX8_strength_34), rfl⟩, ox145_35⟩
def x145_33 : List sx_E := (.nop, 33, 34, [], .int (nI 0)) :: x145_34
theorem ox145_33 : sx_oks 145 x145_33 := ⟨sx_k_iconst (sx_dd bb_145 dX8_strength_33) (by decide +kernel), ox145_34⟩
def x145_30 : List sx_E := (.goto (4), 30, 33, [34], .null) :: x145_33
theorem ox145_30 : sx_oks 145 x145_30 := ⟨⟨(sx_dd bb_145 dX8_strength_30), sx_t1 (by decide +kernel)⟩, ox145_33⟩
def x145_27 : List sx_E := (.invokevirtual 121, 27, 30, [133, 2, 0, 0, 7], .null) :: x145_30
theorem ox145_27 : sx_oks 145 x145_27 := ⟨sx_q_V (w := (RX8, TX8, 31)) (sx_dd bb_145 dX8_strength_27) oo_145 lk_StrawGarrisonModel_121_V ft_133_h (Nat.le_of_ble_eq_true rfl) rfl rfl, ox145_30⟩
def x145_26 : List sx_E := (.iload 2, 26, 27, [], .null) :: x145_27
theorem ox145_26 : sx_oks 145 x145_26 := ⟨Or.inr ⟨_, (sx_dd bb_145 dX8_strength_26), rfl, rfl⟩, ox145_27⟩
def x145_25 : List sx_E := (.aload 0, 25, 26, [], .null) :: x145_26
theorem ox145_25 : sx_oks 145 x145_25 := ⟨Or.inr ⟨_, (sx_dd bb_145 dX8_strength_25), rfl, rfl⟩, ox145_26⟩
def x145_22 : List sx_E := (.if_icmp .ne (11), 22, 25, [33], .null) :: x145_25
theorem ox145_22 : sx_oks 145 x145_22 := ⟨⟨(sx_dd bb_145 dX8_strength_22), rfl, sx_t1 (by decide +kernel)⟩, ox145_25⟩
def x145_21 : List sx_E := (.nop, 21, 22, [], .int (nI 1)) :: x145_22
theorem ox145_21 : sx_oks 145 x145_21 := ⟨sx_k_iconst (sx_dd bb_145 dX8_strength_21) (by decide +kernel), ox145_22⟩
def x145_18 : List sx_E := (.invokevirtual 72, 18, 21, [119, 3, 0, 0, 7], .null) :: x145_21
theorem ox145_18 : sx_oks 145 x145_18 := ⟨sx_q_V (w := (RX8, TX8, 31)) (sx_dd bb_145 dX8_strength_18) oo_145 lk_StrawGarrisonModel_72_V ft_119_h (Nat.le_of_ble_eq_true rfl) rfl rfl, ox145_21⟩
def x145_17 : List sx_E := (.nop, 17, 18, [], .int (nI 4)) :: x145_18
theorem ox145_17 : sx_oks 145 x145_17 := ⟨sx_k_iconst (sx_dd bb_145 dX8_strength_17) (by decide +kernel), ox145_18⟩
def x145_16 : List sx_E := (.iload 2, 16, 17, [], .null) :: x145_17
theorem ox145_16 : sx_oks 145 x145_16 := ⟨Or.inr ⟨_, (sx_dd bb_145 dX8_strength_16), rfl, rfl⟩, ox145_17⟩
def x145_15 : List sx_E := (.aload 0, 15, 16, [], .null) :: x145_16
theorem ox145_15 : sx_oks 145 x145_15 := ⟨Or.inr ⟨_, (sx_dd bb_145 dX8_strength_15), rfl, rfl⟩, ox145_16⟩
def x145_14 : List sx_E := (.iload 1, 14, 15, [], .null) :: x145_15
theorem ox145_14 : sx_oks 145 x145_14 := ⟨Or.inr ⟨_, (sx_dd bb_145 dX8_strength_14), rfl, rfl⟩, ox145_15⟩
def x145_11 : List sx_E := (.if_icmp .ge (31), 11, 14, [42], .null) :: x145_14
theorem ox145_11 : sx_oks 145 x145_11 := ⟨⟨(sx_dd bb_145 dX8_strength_11), rfl, sx_t1 (by decide +kernel)⟩, ox145_14⟩
def x145_10 : List sx_E := (.iaload, 10, 11, [], .null) :: x145_11
theorem ox145_10 : sx_oks 145 x145_10 := ⟨⟨(sx_dd bb_145 dX8_strength_10), rfl⟩, ox145_11⟩
def x145_9 : List sx_E := (.nop, 9, 10, [], .int (nI 0)) :: x145_10
theorem ox145_9 : sx_oks 145 x145_9 := ⟨sx_k_iconst (sx_dd bb_145 dX8_strength_9) (by decide +kernel), ox145_10⟩
def x145_6 : List sx_E := (.getfield 7, 6, 9, [7, 0, 1], .null) :: x145_9
theorem ox145_6 : sx_oks 145 x145_6 := ⟨sx_q_get (w := (RX8, TX8, 31)) (sx_dd bb_145 dX8_strength_6) rfl rfl (Nat.le_of_ble_eq_true rfl) cu_7 (sx_ow3 oo_145 fl_StrawGarrisonModel_7) (by decide +kernel), ox145_9⟩
def x145_5 : List sx_E := (.aload 0, 5, 6, [], .null) :: x145_6
theorem ox145_5 : sx_oks 145 x145_5 := ⟨Or.inr ⟨_, (sx_dd bb_145 dX8_strength_5), rfl, rfl⟩, ox145_6⟩
def x145_4 : List sx_E := (.iload 2, 4, 5, [], .null) :: x145_5
theorem ox145_4 : sx_oks 145 x145_4 := ⟨Or.inr ⟨_, (sx_dd bb_145 dX8_strength_4), rfl, rfl⟩, ox145_5⟩
def x145_4h : List sx_E := (.monitorenter, 4, 4, [0, 1, 2], .null) :: x145_4
theorem ox145_4h : sx_oks 145 x145_4h := ⟨trivial, ox145_4⟩
def x145_3 : List sx_E := (.istore 2, 3, 4, [], .null) :: x145_4h
theorem ox145_3 : sx_oks 145 x145_3 := ⟨⟨sx_lt mm_145 (Nat.le_of_ble_eq_true rfl), Or.inr ⟨_, (sx_dd bb_145 dX8_strength_3), rfl, rfl⟩⟩, ox145_4h⟩
def x145_2 : List sx_E := (.nop, 2, 3, [], .int (nI 0)) :: x145_3
theorem ox145_2 : sx_oks 145 x145_2 := ⟨sx_k_iconst (sx_dd bb_145 dX8_strength_2) (by decide +kernel), ox145_3⟩
def x145_1 : List sx_E := (.istore 1, 1, 2, [], .null) :: x145_2
theorem ox145_1 : sx_oks 145 x145_1 := ⟨⟨sx_lt mm_145 (Nat.le_of_ble_eq_true rfl), Or.inr ⟨_, (sx_dd bb_145 dX8_strength_1), rfl, rfl⟩⟩, ox145_2⟩
def x145_0 : List sx_E := (.nop, 0, 1, [], .int (nI 0)) :: x145_1
theorem ox145_0 : sx_oks 145 x145_0 := ⟨sx_k_iconst (sx_dd bb_145 dX8_strength_0) (by decide +kernel), ox145_1⟩
theorem m145 : sx_mok 145 x145_0 := ⟨ox145_0, by decide +kernel⟩
theorem bb_146 : sx_by 146 = cX8_blows := rfl
theorem oo_146 : (sx_nm 146).cls = "StrawGarrisonModel" := rfl
theorem mm_146 : sx_ml 146 = 3 := rfl
theorem rr_146 : sx_rt 146 = none := rfl
def x146_63 : List sx_E := (.return_, 63, 64, [], .null) :: []
theorem ox146_63 : sx_oks 146 x146_63 := ⟨⟨(sx_dd bb_146 dX8_blows_63), rr_146⟩, trivial⟩
def x146_60 : List sx_E := (.goto (-50), 60, 63, [10], .null) :: x146_63
theorem ox146_60 : sx_oks 146 x146_60 := ⟨⟨(sx_dd bb_146 dX8_blows_60), sx_t1 (by decide +kernel)⟩, ox146_63⟩
def x146_57 : List sx_E := (.iinc 2 (1), 57, 60, [], .int (nI 1)) :: x146_60
theorem ox146_57 : sx_oks 146 x146_57 := ⟨⟨sx_lt mm_146 (Nat.le_of_ble_eq_true rfl), (sx_dd bb_146 dX8_blows_57), rfl, by decide +kernel⟩, ox146_60⟩
def x146_56 : List sx_E := (.iastore, 56, 57, [], .null) :: x146_57
theorem ox146_56 : sx_oks 146 x146_56 := ⟨⟨(sx_dd bb_146 dX8_blows_56), rfl⟩, ox146_57⟩
def x146_55 : List sx_E := (.iadd, 55, 56, [], .null) :: x146_56
theorem ox146_55 : sx_oks 146 x146_55 := ⟨⟨(sx_dd bb_146 dX8_blows_55), rfl⟩, ox146_56⟩
def x146_54 : List sx_E := (.nop, 54, 55, [], .int (nI 1)) :: x146_55
theorem ox146_54 : sx_oks 146 x146_54 := ⟨sx_k_iconst (sx_dd bb_146 dX8_blows_54) (by decide +kernel), ox146_55⟩
def x146_53 : List sx_E := (.iaload, 53, 54, [], .null) :: x146_54
theorem ox146_53 : sx_oks 146 x146_53 := ⟨⟨(sx_dd bb_146 dX8_blows_53), rfl⟩, ox146_54⟩
def x146_52 : List sx_E := (.dup2, 52, 53, [], .null) :: x146_53
theorem ox146_52 : sx_oks 146 x146_52 := ⟨⟨(sx_dd bb_146 dX8_blows_52), rfl⟩, ox146_53⟩
def x146_50 : List sx_E := (.nop, 50, 52, [], .int (nI 7)) :: x146_52
theorem ox146_50 : sx_oks 146 x146_50 := ⟨sx_k_bipush (sx_dd bb_146 dX8_blows_50) (by decide +kernel), ox146_52⟩
def x146_47 : List sx_E := (.getfield 7, 47, 50, [7, 0, 1], .null) :: x146_50
theorem ox146_47 : sx_oks 146 x146_47 := ⟨sx_q_get (w := (RX8, TX8, 31)) (sx_dd bb_146 dX8_blows_47) rfl rfl (Nat.le_of_ble_eq_true rfl) cu_7 (sx_ow3 oo_146 fl_StrawGarrisonModel_7) (by decide +kernel), ox146_50⟩
def x146_46 : List sx_E := (.aload 0, 46, 47, [], .null) :: x146_47
theorem ox146_46 : sx_oks 146 x146_46 := ⟨Or.inr ⟨_, (sx_dd bb_146 dX8_blows_46), rfl, rfl⟩, ox146_47⟩
def x146_43 : List sx_E := (.invokevirtual 76, 43, 46, [120, 4, 0, 0, 7], .null) :: x146_46
theorem ox146_43 : sx_oks 146 x146_43 := ⟨sx_q_V (w := (RX8, TX8, 31)) (sx_dd bb_146 dX8_blows_43) oo_146 lk_StrawGarrisonModel_76_V ft_120_h (Nat.le_of_ble_eq_true rfl) rfl rfl, ox146_46⟩
def x146_42 : List sx_E := (.nop, 42, 43, [], .int (nI 0)) :: x146_43
theorem ox146_42 : sx_oks 146 x146_42 := ⟨sx_k_iconst (sx_dd bb_146 dX8_blows_42) (by decide +kernel), ox146_43⟩
def x146_41 : List sx_E := (.nop, 41, 42, [], .int (nI 4)) :: x146_42
theorem ox146_41 : sx_oks 146 x146_41 := ⟨sx_k_iconst (sx_dd bb_146 dX8_blows_41) (by decide +kernel), ox146_42⟩
def x146_40 : List sx_E := (.iload 2, 40, 41, [], .null) :: x146_41
theorem ox146_40 : sx_oks 146 x146_40 := ⟨Or.inr ⟨_, (sx_dd bb_146 dX8_blows_40), rfl, rfl⟩, ox146_41⟩
def x146_39 : List sx_E := (.aload 0, 39, 40, [], .null) :: x146_40
theorem ox146_39 : sx_oks 146 x146_39 := ⟨Or.inr ⟨_, (sx_dd bb_146 dX8_blows_39), rfl, rfl⟩, ox146_40⟩
def x146_36 : List sx_E := (.if_icmp .le (21), 36, 39, [57], .null) :: x146_39
theorem ox146_36 : sx_oks 146 x146_36 := ⟨⟨(sx_dd bb_146 dX8_blows_36), rfl, sx_t1 (by decide +kernel)⟩, ox146_39⟩
def x146_35 : List sx_E := (.iload 1, 35, 36, [], .null) :: x146_36
theorem ox146_35 : sx_oks 146 x146_35 := ⟨Or.inr ⟨_, (sx_dd bb_146 dX8_blows_35), rfl, rfl⟩, ox146_36⟩
def x146_32 : List sx_E := (.invokevirtual 118, 32, 35, [132, 2, 0, 0, 7], .null) :: x146_35
theorem ox146_32 : sx_oks 146 x146_32 := ⟨sx_q_V (w := (RX8, TX8, 31)) (sx_dd bb_146 dX8_blows_32) oo_146 lk_StrawGarrisonModel_118_V ft_132_h (Nat.le_of_ble_eq_true rfl) rfl rfl, ox146_35⟩
def x146_31 : List sx_E := (.iload 2, 31, 32, [], .null) :: x146_32
theorem ox146_31 : sx_oks 146 x146_31 := ⟨Or.inr ⟨_, (sx_dd bb_146 dX8_blows_31), rfl, rfl⟩, ox146_32⟩
def x146_30 : List sx_E := (.aload 0, 30, 31, [], .null) :: x146_31
theorem ox146_30 : sx_oks 146 x146_30 := ⟨Or.inr ⟨_, (sx_dd bb_146 dX8_blows_30), rfl, rfl⟩, ox146_31⟩
def x146_27 : List sx_E := (.if_icmp .ne (30), 27, 30, [57], .null) :: x146_30
theorem ox146_27 : sx_oks 146 x146_27 := ⟨⟨(sx_dd bb_146 dX8_blows_27), rfl, sx_t1 (by decide +kernel)⟩, ox146_30⟩
def x146_26 : List sx_E := (.nop, 26, 27, [], .int (nI 1)) :: x146_27
theorem ox146_26 : sx_oks 146 x146_26 := ⟨sx_k_iconst (sx_dd bb_146 dX8_blows_26) (by decide +kernel), ox146_27⟩
def x146_23 : List sx_E := (.invokevirtual 72, 23, 26, [119, 3, 0, 0, 7], .null) :: x146_26
theorem ox146_23 : sx_oks 146 x146_23 := ⟨sx_q_V (w := (RX8, TX8, 31)) (sx_dd bb_146 dX8_blows_23) oo_146 lk_StrawGarrisonModel_72_V ft_119_h (Nat.le_of_ble_eq_true rfl) rfl rfl, ox146_26⟩
def x146_22 : List sx_E := (.nop, 22, 23, [], .int (nI 4)) :: x146_23
theorem ox146_22 : sx_oks 146 x146_22 := ⟨sx_k_iconst (sx_dd bb_146 dX8_blows_22) (by decide +kernel), ox146_23⟩
def x146_21 : List sx_E := (.iload 2, 21, 22, [], .null) :: x146_22
theorem ox146_21 : sx_oks 146 x146_21 := ⟨Or.inr ⟨_, (sx_dd bb_146 dX8_blows_21), rfl, rfl⟩, ox146_22⟩
def x146_20 : List sx_E := (.aload 0, 20, 21, [], .null) :: x146_21
theorem ox146_20 : sx_oks 146 x146_20 := ⟨Or.inr ⟨_, (sx_dd bb_146 dX8_blows_20), rfl, rfl⟩, ox146_21⟩
def x146_17 : List sx_E := (.if_icmp .ge (46), 17, 20, [63], .null) :: x146_20
theorem ox146_17 : sx_oks 146 x146_17 := ⟨⟨(sx_dd bb_146 dX8_blows_17), rfl, sx_t1 (by decide +kernel)⟩, ox146_20⟩
def x146_16 : List sx_E := (.iaload, 16, 17, [], .null) :: x146_17
theorem ox146_16 : sx_oks 146 x146_16 := ⟨⟨(sx_dd bb_146 dX8_blows_16), rfl⟩, ox146_17⟩
def x146_15 : List sx_E := (.nop, 15, 16, [], .int (nI 0)) :: x146_16
theorem ox146_15 : sx_oks 146 x146_15 := ⟨sx_k_iconst (sx_dd bb_146 dX8_blows_15) (by decide +kernel), ox146_16⟩
def x146_12 : List sx_E := (.getfield 7, 12, 15, [7, 0, 1], .null) :: x146_15
theorem ox146_12 : sx_oks 146 x146_12 := ⟨sx_q_get (w := (RX8, TX8, 31)) (sx_dd bb_146 dX8_blows_12) rfl rfl (Nat.le_of_ble_eq_true rfl) cu_7 (sx_ow3 oo_146 fl_StrawGarrisonModel_7) (by decide +kernel), ox146_15⟩
def x146_11 : List sx_E := (.aload 0, 11, 12, [], .null) :: x146_12
theorem ox146_11 : sx_oks 146 x146_11 := ⟨Or.inr ⟨_, (sx_dd bb_146 dX8_blows_11), rfl, rfl⟩, ox146_12⟩
def x146_10 : List sx_E := (.iload 2, 10, 11, [], .null) :: x146_11
theorem ox146_10 : sx_oks 146 x146_10 := ⟨Or.inr ⟨_, (sx_dd bb_146 dX8_blows_10), rfl, rfl⟩, ox146_11⟩
def x146_10h : List sx_E := (.monitorenter, 10, 10, [0, 1, 2], .null) :: x146_10
theorem ox146_10h : sx_oks 146 x146_10h := ⟨trivial, ox146_10⟩
def x146_9 : List sx_E := (.istore 2, 9, 10, [], .null) :: x146_10h
theorem ox146_9 : sx_oks 146 x146_9 := ⟨⟨sx_lt mm_146 (Nat.le_of_ble_eq_true rfl), Or.inr ⟨_, (sx_dd bb_146 dX8_blows_9), rfl, rfl⟩⟩, ox146_10h⟩
def x146_8 : List sx_E := (.nop, 8, 9, [], .int (nI 0)) :: x146_9
theorem ox146_8 : sx_oks 146 x146_8 := ⟨sx_k_iconst (sx_dd bb_146 dX8_blows_8) (by decide +kernel), ox146_9⟩
def x146_7 : List sx_E := (.istore 1, 7, 8, [], .null) :: x146_8
theorem ox146_7 : sx_oks 146 x146_7 := ⟨⟨sx_lt mm_146 (Nat.le_of_ble_eq_true rfl), Or.inr ⟨_, (sx_dd bb_146 dX8_blows_7), rfl, rfl⟩⟩, ox146_8⟩
def x146_6 : List sx_E := (.irem, 6, 7, [], .null) :: x146_7
theorem ox146_6 : sx_oks 146 x146_6 := ⟨⟨(sx_dd bb_146 dX8_blows_6), rfl⟩, ox146_7⟩
def x146_4 : List sx_E := (.nop, 4, 6, [], .int (nI 100)) :: x146_6
theorem ox146_4 : sx_oks 146 x146_4 := ⟨sx_k_bipush (sx_dd bb_146 dX8_blows_4) (by decide +kernel), ox146_6⟩
def x146_1 : List sx_E := (.invokevirtual 150, 1, 4, [123, 1, 0, 0, 7], .null) :: x146_4
theorem ox146_1 : sx_oks 146 x146_1 := ⟨sx_q_V (w := (RX8, TX8, 31)) (sx_dd bb_146 dX8_blows_1) oo_146 lk_StrawGarrisonModel_150_V ft_123_h (Nat.le_of_ble_eq_true rfl) rfl rfl, ox146_4⟩
def x146_0 : List sx_E := (.aload 0, 0, 1, [], .null) :: x146_1
theorem ox146_0 : sx_oks 146 x146_0 := ⟨Or.inr ⟨_, (sx_dd bb_146 dX8_blows_0), rfl, rfl⟩, ox146_1⟩
theorem m146 : sx_mok 146 x146_0 := ⟨ox146_0, by decide +kernel⟩
