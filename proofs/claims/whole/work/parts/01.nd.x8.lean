theorem dX8_init_0 : decode cX8_init 0 = .ok (.aload_n 0, 1) := by decide +kernel
theorem dX8_init_1 : decode cX8_init 1 = .ok (.invokespecial 1, 3) := by decide +kernel
theorem dX8_init_4 : decode cX8_init 4 = .ok (.aload_n 0, 1) := by decide +kernel
theorem dX8_init_5 : decode cX8_init 5 = .ok (.iconst 4, 1) := by decide +kernel
theorem dX8_init_6 : decode cX8_init 6 = .ok (.newarray .int, 2) := by decide +kernel
theorem dX8_init_8 : decode cX8_init 8 = .ok (.dup, 1) := by decide +kernel
theorem dX8_init_9 : decode cX8_init 9 = .ok (.iconst 0, 1) := by decide +kernel
theorem dX8_init_10 : decode cX8_init 10 = .ok (.iconst (-1), 1) := by decide +kernel
theorem dX8_init_11 : decode cX8_init 11 = .ok (.iastore, 1) := by decide +kernel
theorem dX8_init_12 : decode cX8_init 12 = .ok (.dup, 1) := by decide +kernel
theorem dX8_init_13 : decode cX8_init 13 = .ok (.iconst 1, 1) := by decide +kernel
theorem dX8_init_14 : decode cX8_init 14 = .ok (.iconst (-1), 1) := by decide +kernel
theorem dX8_init_15 : decode cX8_init 15 = .ok (.iastore, 1) := by decide +kernel
theorem dX8_init_16 : decode cX8_init 16 = .ok (.dup, 1) := by decide +kernel
theorem dX8_init_17 : decode cX8_init 17 = .ok (.iconst 2, 1) := by decide +kernel
theorem dX8_init_18 : decode cX8_init 18 = .ok (.iconst (-1), 1) := by decide +kernel
theorem dX8_init_19 : decode cX8_init 19 = .ok (.iastore, 1) := by decide +kernel
theorem dX8_init_20 : decode cX8_init 20 = .ok (.dup, 1) := by decide +kernel
theorem dX8_init_21 : decode cX8_init 21 = .ok (.iconst 3, 1) := by decide +kernel
theorem dX8_init_22 : decode cX8_init 22 = .ok (.iconst (-1), 1) := by decide +kernel
theorem dX8_init_23 : decode cX8_init 23 = .ok (.iastore, 1) := by decide +kernel
theorem dX8_init_24 : decode cX8_init 24 = .ok (.putfield 7, 3) := by decide +kernel
theorem dX8_init_27 : decode cX8_init 27 = .ok (.aload_n 0, 1) := by decide +kernel
theorem dX8_init_28 : decode cX8_init 28 = .ok (.iconst 4, 1) := by decide +kernel
theorem dX8_init_29 : decode cX8_init 29 = .ok (.newarray .int, 2) := by decide +kernel
theorem dX8_init_31 : decode cX8_init 31 = .ok (.putfield 13, 3) := by decide +kernel
theorem dX8_init_34 : decode cX8_init 34 = .ok (.aload_n 0, 1) := by decide +kernel
theorem dX8_init_35 : decode cX8_init 35 = .ok (.bipush 80, 2) := by decide +kernel
theorem dX8_init_37 : decode cX8_init 37 = .ok (.newarray .long, 2) := by decide +kernel
theorem dX8_init_39 : decode cX8_init 39 = .ok (.putfield 16, 3) := by decide +kernel
theorem dX8_init_42 : decode cX8_init 42 = .ok (.aload_n 0, 1) := by decide +kernel
theorem dX8_init_43 : decode cX8_init 43 = .ok (.bipush 8, 2) := by decide +kernel
theorem dX8_init_45 : decode cX8_init 45 = .ok (.newarray .int, 2) := by decide +kernel
theorem dX8_init_47 : decode cX8_init 47 = .ok (.putfield 20, 3) := by decide +kernel
theorem dX8_init_50 : decode cX8_init 50 = .ok (.aload_n 0, 1) := by decide +kernel
theorem dX8_init_51 : decode cX8_init 51 = .ok (.bipush 8, 2) := by decide +kernel
theorem dX8_init_53 : decode cX8_init 53 = .ok (.newarray .int, 2) := by decide +kernel
theorem dX8_init_55 : decode cX8_init 55 = .ok (.putfield 23, 3) := by decide +kernel
theorem dX8_init_58 : decode cX8_init 58 = .ok (.aload_n 0, 1) := by decide +kernel
theorem dX8_init_59 : decode cX8_init 59 = .ok (.bipush 8, 2) := by decide +kernel
theorem dX8_init_61 : decode cX8_init 61 = .ok (.newarray .int, 2) := by decide +kernel
theorem dX8_init_63 : decode cX8_init 63 = .ok (.putfield 26, 3) := by decide +kernel
theorem dX8_init_66 : decode cX8_init 66 = .ok (.aload_n 0, 1) := by decide +kernel
theorem dX8_init_67 : decode cX8_init 67 = .ok (.bipush 8, 2) := by decide +kernel
theorem dX8_init_69 : decode cX8_init 69 = .ok (.newarray .int, 2) := by decide +kernel
theorem dX8_init_71 : decode cX8_init 71 = .ok (.putfield 29, 3) := by decide +kernel
theorem dX8_init_74 : decode cX8_init 74 = .ok (.aload_n 0, 1) := by decide +kernel
theorem dX8_init_75 : decode cX8_init 75 = .ok (.bipush 28, 2) := by decide +kernel
theorem dX8_init_77 : decode cX8_init 77 = .ok (.newarray .int, 2) := by decide +kernel
theorem dX8_init_79 : decode cX8_init 79 = .ok (.putfield 32, 3) := by decide +kernel
theorem dX8_init_82 : decode cX8_init 82 = .ok (.aload_n 0, 1) := by decide +kernel
theorem dX8_init_83 : decode cX8_init 83 = .ok (.bipush 28, 2) := by decide +kernel
theorem dX8_init_85 : decode cX8_init 85 = .ok (.newarray .int, 2) := by decide +kernel
theorem dX8_init_87 : decode cX8_init 87 = .ok (.putfield 35, 3) := by decide +kernel
theorem dX8_init_90 : decode cX8_init 90 = .ok (.aload_n 0, 1) := by decide +kernel
theorem dX8_init_91 : decode cX8_init 91 = .ok (.bipush 64, 2) := by decide +kernel
theorem dX8_init_93 : decode cX8_init 93 = .ok (.newarray .int, 2) := by decide +kernel
theorem dX8_init_95 : decode cX8_init 95 = .ok (.putfield 38, 3) := by decide +kernel
theorem dX8_init_98 : decode cX8_init 98 = .ok (.aload_n 0, 1) := by decide +kernel
theorem dX8_init_99 : decode cX8_init 99 = .ok (.bipush 28, 2) := by decide +kernel
theorem dX8_init_101 : decode cX8_init 101 = .ok (.newarray .int, 2) := by decide +kernel
theorem dX8_init_103 : decode cX8_init 103 = .ok (.putfield 41, 3) := by decide +kernel
theorem dX8_init_106 : decode cX8_init 106 = .ok (.aload_n 0, 1) := by decide +kernel
theorem dX8_init_107 : decode cX8_init 107 = .ok (.bipush 28, 2) := by decide +kernel
theorem dX8_init_109 : decode cX8_init 109 = .ok (.newarray .int, 2) := by decide +kernel
theorem dX8_init_111 : decode cX8_init 111 = .ok (.putfield 44, 3) := by decide +kernel
theorem dX8_init_114 : decode cX8_init 114 = .ok (.aload_n 0, 1) := by decide +kernel
theorem dX8_init_115 : decode cX8_init 115 = .ok (.sipush 2000, 3) := by decide +kernel
theorem dX8_init_118 : decode cX8_init 118 = .ok (.newarray .int, 2) := by decide +kernel
theorem dX8_init_120 : decode cX8_init 120 = .ok (.putfield 47, 3) := by decide +kernel
theorem dX8_init_123 : decode cX8_init 123 = .ok (.aload_n 0, 1) := by decide +kernel
theorem dX8_init_124 : decode cX8_init 124 = .ok (.sipush 2000, 3) := by decide +kernel
theorem dX8_init_127 : decode cX8_init 127 = .ok (.newarray .int, 2) := by decide +kernel
theorem dX8_init_129 : decode cX8_init 129 = .ok (.putfield 50, 3) := by decide +kernel
theorem dX8_init_132 : decode cX8_init 132 = .ok (.aload_n 0, 1) := by decide +kernel
theorem dX8_init_133 : decode cX8_init 133 = .ok (.bipush 10, 2) := by decide +kernel
theorem dX8_init_135 : decode cX8_init 135 = .ok (.newarray .int, 2) := by decide +kernel
theorem dX8_init_137 : decode cX8_init 137 = .ok (.putfield 53, 3) := by decide +kernel
theorem dX8_init_140 : decode cX8_init 140 = .ok (.aload_n 0, 1) := by decide +kernel
theorem dX8_init_141 : decode cX8_init 141 = .ok (.bipush 60, 2) := by decide +kernel
theorem dX8_init_143 : decode cX8_init 143 = .ok (.newarray .int, 2) := by decide +kernel
theorem dX8_init_145 : decode cX8_init 145 = .ok (.putfield 56, 3) := by decide +kernel
theorem dX8_init_148 : decode cX8_init 148 = .ok (.aload_n 0, 1) := by decide +kernel
theorem dX8_init_149 : decode cX8_init 149 = .ok (.bipush 60, 2) := by decide +kernel
theorem dX8_init_151 : decode cX8_init 151 = .ok (.newarray .int, 2) := by decide +kernel
theorem dX8_init_153 : decode cX8_init 153 = .ok (.putfield 59, 3) := by decide +kernel
theorem dX8_init_156 : decode cX8_init 156 = .ok (.aload_n 0, 1) := by decide +kernel
theorem dX8_init_157 : decode cX8_init 157 = .ok (.bipush 60, 2) := by decide +kernel
theorem dX8_init_159 : decode cX8_init 159 = .ok (.newarray .int, 2) := by decide +kernel
theorem dX8_init_161 : decode cX8_init 161 = .ok (.putfield 62, 3) := by decide +kernel
theorem dX8_init_164 : decode cX8_init 164 = .ok (.aload_n 0, 1) := by decide +kernel
theorem dX8_init_165 : decode cX8_init 165 = .ok (.sipush 2000, 3) := by decide +kernel
theorem dX8_init_168 : decode cX8_init 168 = .ok (.newarray .int, 2) := by decide +kernel
theorem dX8_init_170 : decode cX8_init 170 = .ok (.putfield 65, 3) := by decide +kernel
theorem dX8_init_173 : decode cX8_init 173 = .ok (.aload_n 0, 1) := by decide +kernel
theorem dX8_init_174 : decode cX8_init 174 = .ok (.sipush 2000, 3) := by decide +kernel
theorem dX8_init_177 : decode cX8_init 177 = .ok (.newarray .int, 2) := by decide +kernel
theorem dX8_init_179 : decode cX8_init 179 = .ok (.putfield 68, 3) := by decide +kernel
theorem dX8_init_182 : decode cX8_init 182 = .ok (.aload_n 0, 1) := by decide +kernel
theorem dX8_init_183 : decode cX8_init 183 = .ok (.bipush 29, 2) := by decide +kernel
theorem dX8_init_185 : decode cX8_init 185 = .ok (.newarray .int, 2) := by decide +kernel
theorem dX8_init_187 : decode cX8_init 187 = .ok (.putfield 71, 3) := by decide +kernel
theorem dX8_init_190 : decode cX8_init 190 = .ok (.return_, 1) := by decide +kernel
theorem dX8_in_0 : decode cX8_in 0 = .ok (.lload_n 0, 1) := by decide +kernel
theorem dX8_in_1 : decode cX8_in 1 = .ok (.lload_n 2, 1) := by decide +kernel
theorem dX8_in_2 : decode cX8_in 2 = .ok (.lcmp, 1) := by decide +kernel
theorem dX8_in_3 : decode cX8_in 3 = .ok (.ifCond .lt 14, 3) := by decide +kernel
theorem dX8_in_6 : decode cX8_in 6 = .ok (.lload_n 0, 1) := by decide +kernel
theorem dX8_in_7 : decode cX8_in 7 = .ok (.lload 4, 2) := by decide +kernel
theorem dX8_in_9 : decode cX8_in 9 = .ok (.lcmp, 1) := by decide +kernel
theorem dX8_in_10 : decode cX8_in 10 = .ok (.ifCond .gt 7, 3) := by decide +kernel
theorem dX8_in_13 : decode cX8_in 13 = .ok (.iconst 1, 1) := by decide +kernel
theorem dX8_in_14 : decode cX8_in 14 = .ok (.goto 4, 3) := by decide +kernel
theorem dX8_in_17 : decode cX8_in 17 = .ok (.iconst 0, 1) := by decide +kernel
theorem dX8_in_18 : decode cX8_in 18 = .ok (.ireturn, 1) := by decide +kernel
theorem dX8_finds_0 : decode cX8_finds 0 = .ok (.aload_n 0, 1) := by decide +kernel
theorem dX8_finds_1 : decode cX8_finds 1 = .ok (.dup, 1) := by decide +kernel
theorem dX8_finds_2 : decode cX8_finds 2 = .ok (.getfield 78, 3) := by decide +kernel
theorem dX8_finds_5 : decode cX8_finds 5 = .ok (.iconst 1, 1) := by decide +kernel
theorem dX8_finds_6 : decode cX8_finds 6 = .ok (.iadd, 1) := by decide +kernel
theorem dX8_finds_7 : decode cX8_finds 7 = .ok (.putfield 78, 3) := by decide +kernel
theorem dX8_finds_10 : decode cX8_finds 10 = .ok (.iload_n 1, 1) := by decide +kernel
theorem dX8_finds_11 : decode cX8_finds 11 = .ok (.ireturn, 1) := by decide +kernel
set_option maxRecDepth 20000 in
theorem ggX8_sheet_X8_in : GoodIn wsX8_sheet wsX8_in := goodIn_r _ [9] (by decide +kernel) (by decide +kernel)
set_option maxRecDepth 20000 in
theorem gX8_sheet_X8_in : GoodIn wsX8_sheet (va_wsS RX8 83 yX8_in wsX8_in) := goodIn_app (goodIn_of _ (by decide +kernel)) ggX8_sheet_X8_in
set_option maxRecDepth 20000 in
theorem ggX8_sheet_X8_finds : GoodIn wsX8_sheet wsX8_finds := goodIn_r _ [13, 14, 15, 16, 17, 18, 19, 20, 21, 22, 23, 24, 25, 26, 27, 28, 29, 30, 31, 32, 33, 34, 35, 36, 37, 38, 39, 40, 41, 42, 43, 44, 45, 46, 47, 48] (by decide +kernel) (by decide +kernel)
set_option maxRecDepth 20000 in
theorem gX8_sheet_X8_finds : GoodIn wsX8_sheet (wsV RX8 87 RX8 yX8_finds wsX8_finds) := goodIn_app (goodIn_of _ (by decide +kernel)) ggX8_sheet_X8_finds
theorem dX8_sheet_0 : decode cX8_sheet 0 = .ok (.aload_n 0, 1) := by decide +kernel
theorem dX8_sheet_1 : decode cX8_sheet 1 = .ok (.iconst 0, 1) := by decide +kernel
theorem dX8_sheet_2 : decode cX8_sheet 2 = .ok (.putfield 74, 3) := by decide +kernel
theorem dX8_sheet_5 : decode cX8_sheet 5 = .ok (.iload_n 1, 1) := by decide +kernel
theorem dX8_sheet_6 : decode cX8_sheet 6 = .ok (.i2l, 1) := by decide +kernel
theorem dX8_sheet_7 : decode cX8_sheet 7 = .ok (.lconst 0, 1) := by decide +kernel
theorem dX8_sheet_8 : decode cX8_sheet 8 = .ok (.ldc2_w 81, 3) := by decide +kernel
theorem dX8_sheet_11 : decode cX8_sheet 11 = .ok (.invokestatic 83, 3) := by decide +kernel
theorem dX8_sheet_14 : decode cX8_sheet 14 = .ok (.ifCond .ne 10, 3) := by decide +kernel
theorem dX8_sheet_17 : decode cX8_sheet 17 = .ok (.aload_n 0, 1) := by decide +kernel
theorem dX8_sheet_18 : decode cX8_sheet 18 = .ok (.bipush (-12), 2) := by decide +kernel
theorem dX8_sheet_20 : decode cX8_sheet 20 = .ok (.invokevirtual 87, 3) := by decide +kernel
theorem dX8_sheet_23 : decode cX8_sheet 23 = .ok (.ireturn, 1) := by decide +kernel
theorem dX8_sheet_24 : decode cX8_sheet 24 = .ok (.iload_n 2, 1) := by decide +kernel
theorem dX8_sheet_25 : decode cX8_sheet 25 = .ok (.i2l, 1) := by decide +kernel
theorem dX8_sheet_26 : decode cX8_sheet 26 = .ok (.lconst 0, 1) := by decide +kernel
theorem dX8_sheet_27 : decode cX8_sheet 27 = .ok (.ldc2_w 81, 3) := by decide +kernel
theorem dX8_sheet_30 : decode cX8_sheet 30 = .ok (.invokestatic 83, 3) := by decide +kernel
theorem dX8_sheet_33 : decode cX8_sheet 33 = .ok (.ifCond .eq 9, 3) := by decide +kernel
theorem dX8_sheet_36 : decode cX8_sheet 36 = .ok (.iload_n 3, 1) := by decide +kernel
theorem dX8_sheet_37 : decode cX8_sheet 37 = .ok (.bipush 20, 2) := by decide +kernel
theorem dX8_sheet_39 : decode cX8_sheet 39 = .ok (.if_icmp .le 6, 3) := by decide +kernel
theorem dX8_sheet_42 : decode cX8_sheet 42 = .ok (.bipush (-2), 2) := by decide +kernel
theorem dX8_sheet_44 : decode cX8_sheet 44 = .ok (.ireturn, 1) := by decide +kernel
theorem dX8_sheet_45 : decode cX8_sheet 45 = .ok (.iload_n 3, 1) := by decide +kernel
theorem dX8_sheet_46 : decode cX8_sheet 46 = .ok (.ifCond .ge 10, 3) := by decide +kernel
theorem dX8_sheet_49 : decode cX8_sheet 49 = .ok (.aload_n 0, 1) := by decide +kernel
theorem dX8_sheet_50 : decode cX8_sheet 50 = .ok (.bipush (-14), 2) := by decide +kernel
theorem dX8_sheet_52 : decode cX8_sheet 52 = .ok (.invokevirtual 87, 3) := by decide +kernel
theorem dX8_sheet_55 : decode cX8_sheet 55 = .ok (.ireturn, 1) := by decide +kernel
theorem dX8_sheet_56 : decode cX8_sheet 56 = .ok (.aload_n 0, 1) := by decide +kernel
theorem dX8_sheet_57 : decode cX8_sheet 57 = .ok (.getfield 7, 3) := by decide +kernel
theorem dX8_sheet_60 : decode cX8_sheet 60 = .ok (.iload_n 1, 1) := by decide +kernel
theorem dX8_sheet_61 : decode cX8_sheet 61 = .ok (.iload_n 3, 1) := by decide +kernel
theorem dX8_sheet_62 : decode cX8_sheet 62 = .ok (.iastore, 1) := by decide +kernel
theorem dX8_sheet_63 : decode cX8_sheet 63 = .ok (.aload_n 0, 1) := by decide +kernel
theorem dX8_sheet_64 : decode cX8_sheet 64 = .ok (.getfield 13, 3) := by decide +kernel
theorem dX8_sheet_67 : decode cX8_sheet 67 = .ok (.iload_n 1, 1) := by decide +kernel
theorem dX8_sheet_68 : decode cX8_sheet 68 = .ok (.iload_n 2, 1) := by decide +kernel
theorem dX8_sheet_69 : decode cX8_sheet 69 = .ok (.iastore, 1) := by decide +kernel
theorem dX8_sheet_70 : decode cX8_sheet 70 = .ok (.iconst 0, 1) := by decide +kernel
theorem dX8_sheet_71 : decode cX8_sheet 71 = .ok (.istore 4, 2) := by decide +kernel
theorem dX8_sheet_73 : decode cX8_sheet 73 = .ok (.iload 4, 2) := by decide +kernel
theorem dX8_sheet_75 : decode cX8_sheet 75 = .ok (.iload_n 3, 1) := by decide +kernel
theorem dX8_sheet_76 : decode cX8_sheet 76 = .ok (.if_icmp .ge 22, 3) := by decide +kernel
theorem dX8_sheet_79 : decode cX8_sheet 79 = .ok (.aload_n 0, 1) := by decide +kernel
theorem dX8_sheet_80 : decode cX8_sheet 80 = .ok (.getfield 16, 3) := by decide +kernel
theorem dX8_sheet_83 : decode cX8_sheet 83 = .ok (.bipush 20, 2) := by decide +kernel
theorem dX8_sheet_85 : decode cX8_sheet 85 = .ok (.iload_n 1, 1) := by decide +kernel
theorem dX8_sheet_86 : decode cX8_sheet 86 = .ok (.imul, 1) := by decide +kernel
theorem dX8_sheet_87 : decode cX8_sheet 87 = .ok (.iload 4, 2) := by decide +kernel
theorem dX8_sheet_89 : decode cX8_sheet 89 = .ok (.iadd, 1) := by decide +kernel
theorem dX8_sheet_90 : decode cX8_sheet 90 = .ok (.lconst 0, 1) := by decide +kernel
theorem dX8_sheet_91 : decode cX8_sheet 91 = .ok (.lastore, 1) := by decide +kernel
theorem dX8_sheet_92 : decode cX8_sheet 92 = .ok (.iinc 4 1, 3) := by decide +kernel
theorem dX8_sheet_95 : decode cX8_sheet 95 = .ok (.goto (-22), 3) := by decide +kernel
theorem dX8_sheet_98 : decode cX8_sheet 98 = .ok (.iload_n 3, 1) := by decide +kernel
theorem dX8_sheet_99 : decode cX8_sheet 99 = .ok (.ireturn, 1) := by decide +kernel
set_option maxRecDepth 20000 in
theorem ggX8_tear_X8_in : GoodIn wsX8_tear wsX8_in := goodIn_r _ [7] (by decide +kernel) (by decide +kernel)
set_option maxRecDepth 20000 in
theorem gX8_tear_X8_in : GoodIn wsX8_tear (va_wsS RX8 83 yX8_in wsX8_in) := goodIn_app (goodIn_of _ (by decide +kernel)) ggX8_tear_X8_in
set_option maxRecDepth 20000 in
theorem ggX8_tear_X8_finds : GoodIn wsX8_tear wsX8_finds := goodIn_r _ [11, 12, 13, 14, 15, 16, 17, 18, 19, 20, 21, 22, 23, 24, 25, 26, 27, 28, 29, 30, 31, 32, 33, 34, 35, 36, 37, 38, 39, 40, 41, 42, 43, 44, 45, 46] (by decide +kernel) (by decide +kernel)
set_option maxRecDepth 20000 in
theorem gX8_tear_X8_finds : GoodIn wsX8_tear (wsV RX8 87 RX8 yX8_finds wsX8_finds) := goodIn_app (goodIn_of _ (by decide +kernel)) ggX8_tear_X8_finds
theorem dX8_tear_0 : decode cX8_tear 0 = .ok (.aload_n 0, 1) := by decide +kernel
theorem dX8_tear_1 : decode cX8_tear 1 = .ok (.iconst 0, 1) := by decide +kernel
theorem dX8_tear_2 : decode cX8_tear 2 = .ok (.putfield 74, 3) := by decide +kernel
theorem dX8_tear_5 : decode cX8_tear 5 = .ok (.iload_n 1, 1) := by decide +kernel
theorem dX8_tear_6 : decode cX8_tear 6 = .ok (.i2l, 1) := by decide +kernel
theorem dX8_tear_7 : decode cX8_tear 7 = .ok (.lconst 0, 1) := by decide +kernel
theorem dX8_tear_8 : decode cX8_tear 8 = .ok (.ldc2_w 81, 3) := by decide +kernel
theorem dX8_tear_11 : decode cX8_tear 11 = .ok (.invokestatic 83, 3) := by decide +kernel
theorem dX8_tear_14 : decode cX8_tear 14 = .ok (.ifCond .ne 10, 3) := by decide +kernel
theorem dX8_tear_17 : decode cX8_tear 17 = .ok (.aload_n 0, 1) := by decide +kernel
theorem dX8_tear_18 : decode cX8_tear 18 = .ok (.bipush (-12), 2) := by decide +kernel
theorem dX8_tear_20 : decode cX8_tear 20 = .ok (.invokevirtual 87, 3) := by decide +kernel
theorem dX8_tear_23 : decode cX8_tear 23 = .ok (.ireturn, 1) := by decide +kernel
theorem dX8_tear_24 : decode cX8_tear 24 = .ok (.aload_n 0, 1) := by decide +kernel
theorem dX8_tear_25 : decode cX8_tear 25 = .ok (.getfield 7, 3) := by decide +kernel
theorem dX8_tear_28 : decode cX8_tear 28 = .ok (.iload_n 1, 1) := by decide +kernel
theorem dX8_tear_29 : decode cX8_tear 29 = .ok (.iaload, 1) := by decide +kernel
theorem dX8_tear_30 : decode cX8_tear 30 = .ok (.ifCond .ge 7, 3) := by decide +kernel
theorem dX8_tear_33 : decode cX8_tear 33 = .ok (.iconst 1, 1) := by decide +kernel
theorem dX8_tear_34 : decode cX8_tear 34 = .ok (.goto 4, 3) := by decide +kernel
theorem dX8_tear_37 : decode cX8_tear 37 = .ok (.iconst 0, 1) := by decide +kernel
theorem dX8_tear_38 : decode cX8_tear 38 = .ok (.istore_n 2, 1) := by decide +kernel
theorem dX8_tear_39 : decode cX8_tear 39 = .ok (.aload_n 0, 1) := by decide +kernel
theorem dX8_tear_40 : decode cX8_tear 40 = .ok (.getfield 7, 3) := by decide +kernel
theorem dX8_tear_43 : decode cX8_tear 43 = .ok (.iload_n 1, 1) := by decide +kernel
theorem dX8_tear_44 : decode cX8_tear 44 = .ok (.iconst (-1), 1) := by decide +kernel
theorem dX8_tear_45 : decode cX8_tear 45 = .ok (.iastore, 1) := by decide +kernel
theorem dX8_tear_46 : decode cX8_tear 46 = .ok (.iload_n 2, 1) := by decide +kernel
theorem dX8_tear_47 : decode cX8_tear 47 = .ok (.ireturn, 1) := by decide +kernel
set_option maxRecDepth 20000 in
theorem ggX8_put_X8_in : GoodIn wsX8_put wsX8_in := goodIn_r _ [9] (by decide +kernel) (by decide +kernel)
set_option maxRecDepth 20000 in
theorem gX8_put_X8_in : GoodIn wsX8_put (va_wsS RX8 83 yX8_in wsX8_in) := goodIn_app (goodIn_of _ (by decide +kernel)) ggX8_put_X8_in
set_option maxRecDepth 20000 in
theorem ggX8_put_X8_finds : GoodIn wsX8_put wsX8_finds := goodIn_r _ [13, 14, 15, 16, 17, 18, 19, 20, 21, 22, 23, 24, 25, 26, 27, 28, 29, 30, 31, 32, 33, 34, 35, 36, 37, 38, 39, 40, 41, 42, 43, 44, 45, 46, 47, 48] (by decide +kernel) (by decide +kernel)
set_option maxRecDepth 20000 in
theorem gX8_put_X8_finds : GoodIn wsX8_put (wsV RX8 87 RX8 yX8_finds wsX8_finds) := goodIn_app (goodIn_of _ (by decide +kernel)) ggX8_put_X8_finds
theorem dX8_put_0 : decode cX8_put 0 = .ok (.aload_n 0, 1) := by decide +kernel
theorem dX8_put_1 : decode cX8_put 1 = .ok (.iconst 0, 1) := by decide +kernel
theorem dX8_put_2 : decode cX8_put 2 = .ok (.putfield 74, 3) := by decide +kernel
theorem dX8_put_5 : decode cX8_put 5 = .ok (.iload_n 1, 1) := by decide +kernel
theorem dX8_put_6 : decode cX8_put 6 = .ok (.i2l, 1) := by decide +kernel
theorem dX8_put_7 : decode cX8_put 7 = .ok (.lconst 0, 1) := by decide +kernel
theorem dX8_put_8 : decode cX8_put 8 = .ok (.ldc2_w 81, 3) := by decide +kernel
theorem dX8_put_11 : decode cX8_put 11 = .ok (.invokestatic 83, 3) := by decide +kernel
theorem dX8_put_14 : decode cX8_put 14 = .ok (.ifCond .ne 10, 3) := by decide +kernel
theorem dX8_put_17 : decode cX8_put 17 = .ok (.aload_n 0, 1) := by decide +kernel
theorem dX8_put_18 : decode cX8_put 18 = .ok (.bipush (-12), 2) := by decide +kernel
theorem dX8_put_20 : decode cX8_put 20 = .ok (.invokevirtual 87, 3) := by decide +kernel
theorem dX8_put_23 : decode cX8_put 23 = .ok (.ireturn, 1) := by decide +kernel
theorem dX8_put_24 : decode cX8_put 24 = .ok (.aload_n 0, 1) := by decide +kernel
theorem dX8_put_25 : decode cX8_put 25 = .ok (.getfield 7, 3) := by decide +kernel
theorem dX8_put_28 : decode cX8_put 28 = .ok (.iload_n 1, 1) := by decide +kernel
theorem dX8_put_29 : decode cX8_put 29 = .ok (.iaload, 1) := by decide +kernel
theorem dX8_put_30 : decode cX8_put 30 = .ok (.ifCond .ge 10, 3) := by decide +kernel
theorem dX8_put_33 : decode cX8_put 33 = .ok (.aload_n 0, 1) := by decide +kernel
theorem dX8_put_34 : decode cX8_put 34 = .ok (.bipush (-11), 2) := by decide +kernel
theorem dX8_put_36 : decode cX8_put 36 = .ok (.invokevirtual 87, 3) := by decide +kernel
theorem dX8_put_39 : decode cX8_put 39 = .ok (.ireturn, 1) := by decide +kernel
theorem dX8_put_40 : decode cX8_put 40 = .ok (.iload_n 2, 1) := by decide +kernel
theorem dX8_put_41 : decode cX8_put 41 = .ok (.i2l, 1) := by decide +kernel
theorem dX8_put_42 : decode cX8_put 42 = .ok (.lconst 0, 1) := by decide +kernel
theorem dX8_put_43 : decode cX8_put 43 = .ok (.aload_n 0, 1) := by decide +kernel
theorem dX8_put_44 : decode cX8_put 44 = .ok (.getfield 7, 3) := by decide +kernel
theorem dX8_put_47 : decode cX8_put 47 = .ok (.iload_n 1, 1) := by decide +kernel
theorem dX8_put_48 : decode cX8_put 48 = .ok (.iaload, 1) := by decide +kernel
theorem dX8_put_49 : decode cX8_put 49 = .ok (.iconst 1, 1) := by decide +kernel
theorem dX8_put_50 : decode cX8_put 50 = .ok (.isub, 1) := by decide +kernel
theorem dX8_put_51 : decode cX8_put 51 = .ok (.i2l, 1) := by decide +kernel
theorem dX8_put_52 : decode cX8_put 52 = .ok (.invokestatic 83, 3) := by decide +kernel
theorem dX8_put_55 : decode cX8_put 55 = .ok (.ifCond .ne 10, 3) := by decide +kernel
theorem dX8_put_58 : decode cX8_put 58 = .ok (.aload_n 0, 1) := by decide +kernel
theorem dX8_put_59 : decode cX8_put 59 = .ok (.bipush (-12), 2) := by decide +kernel
theorem dX8_put_61 : decode cX8_put 61 = .ok (.invokevirtual 87, 3) := by decide +kernel
theorem dX8_put_64 : decode cX8_put 64 = .ok (.ireturn, 1) := by decide +kernel
theorem dX8_put_65 : decode cX8_put 65 = .ok (.aload_n 0, 1) := by decide +kernel
theorem dX8_put_66 : decode cX8_put 66 = .ok (.getfield 16, 3) := by decide +kernel
theorem dX8_put_69 : decode cX8_put 69 = .ok (.bipush 20, 2) := by decide +kernel
theorem dX8_put_71 : decode cX8_put 71 = .ok (.iload_n 1, 1) := by decide +kernel
theorem dX8_put_72 : decode cX8_put 72 = .ok (.imul, 1) := by decide +kernel
theorem dX8_put_73 : decode cX8_put 73 = .ok (.iload_n 2, 1) := by decide +kernel
theorem dX8_put_74 : decode cX8_put 74 = .ok (.iadd, 1) := by decide +kernel
theorem dX8_put_75 : decode cX8_put 75 = .ok (.aload_n 0, 1) := by decide +kernel
theorem dX8_put_76 : decode cX8_put 76 = .ok (.getfield 13, 3) := by decide +kernel
theorem dX8_put_79 : decode cX8_put 79 = .ok (.iload_n 1, 1) := by decide +kernel
theorem dX8_put_80 : decode cX8_put 80 = .ok (.iaload, 1) := by decide +kernel
theorem dX8_put_81 : decode cX8_put 81 = .ok (.ifCond .ne 10, 3) := by decide +kernel
theorem dX8_put_84 : decode cX8_put 84 = .ok (.lload_n 3, 1) := by decide +kernel
theorem dX8_put_85 : decode cX8_put 85 = .ok (.l2i, 1) := by decide +kernel
theorem dX8_put_86 : decode cX8_put 86 = .ok (.i2b, 1) := by decide +kernel
theorem dX8_put_87 : decode cX8_put 87 = .ok (.i2l, 1) := by decide +kernel
theorem dX8_put_88 : decode cX8_put 88 = .ok (.goto 37, 3) := by decide +kernel
theorem dX8_put_91 : decode cX8_put 91 = .ok (.aload_n 0, 1) := by decide +kernel
theorem dX8_put_92 : decode cX8_put 92 = .ok (.getfield 13, 3) := by decide +kernel
theorem dX8_put_95 : decode cX8_put 95 = .ok (.iload_n 1, 1) := by decide +kernel
theorem dX8_put_96 : decode cX8_put 96 = .ok (.iaload, 1) := by decide +kernel
theorem dX8_put_97 : decode cX8_put 97 = .ok (.iconst 1, 1) := by decide +kernel
theorem dX8_put_98 : decode cX8_put 98 = .ok (.if_icmp .ne 10, 3) := by decide +kernel
theorem dX8_put_101 : decode cX8_put 101 = .ok (.lload_n 3, 1) := by decide +kernel
theorem dX8_put_102 : decode cX8_put 102 = .ok (.l2i, 1) := by decide +kernel
theorem dX8_put_103 : decode cX8_put 103 = .ok (.i2s, 1) := by decide +kernel
theorem dX8_put_104 : decode cX8_put 104 = .ok (.i2l, 1) := by decide +kernel
theorem dX8_put_105 : decode cX8_put 105 = .ok (.goto 20, 3) := by decide +kernel
theorem dX8_put_108 : decode cX8_put 108 = .ok (.aload_n 0, 1) := by decide +kernel
theorem dX8_put_109 : decode cX8_put 109 = .ok (.getfield 13, 3) := by decide +kernel
theorem dX8_put_112 : decode cX8_put 112 = .ok (.iload_n 1, 1) := by decide +kernel
theorem dX8_put_113 : decode cX8_put 113 = .ok (.iaload, 1) := by decide +kernel
theorem dX8_put_114 : decode cX8_put 114 = .ok (.iconst 2, 1) := by decide +kernel
theorem dX8_put_115 : decode cX8_put 115 = .ok (.if_icmp .ne 9, 3) := by decide +kernel
theorem dX8_put_118 : decode cX8_put 118 = .ok (.lload_n 3, 1) := by decide +kernel
theorem dX8_put_119 : decode cX8_put 119 = .ok (.l2i, 1) := by decide +kernel
theorem dX8_put_120 : decode cX8_put 120 = .ok (.i2l, 1) := by decide +kernel
theorem dX8_put_121 : decode cX8_put 121 = .ok (.goto 4, 3) := by decide +kernel
theorem dX8_put_124 : decode cX8_put 124 = .ok (.lload_n 3, 1) := by decide +kernel
theorem dX8_put_125 : decode cX8_put 125 = .ok (.lastore, 1) := by decide +kernel
theorem dX8_put_126 : decode cX8_put 126 = .ok (.iconst 1, 1) := by decide +kernel
theorem dX8_put_127 : decode cX8_put 127 = .ok (.ireturn, 1) := by decide +kernel
set_option maxRecDepth 20000 in
theorem ggX8_at_X8_in : GoodIn wsX8_at wsX8_in := goodIn_r _ [10] (by decide +kernel) (by decide +kernel)
set_option maxRecDepth 20000 in
theorem gX8_at_X8_in : GoodIn wsX8_at (va_wsS RX8 83 yX8_in wsX8_in) := goodIn_app (goodIn_of _ (by decide +kernel)) ggX8_at_X8_in
set_option maxRecDepth 20000 in
theorem ggX8_at_X8_finds : GoodIn wsX8_at wsX8_finds := goodIn_r _ [14, 15, 16, 17, 18, 19, 20, 21, 22, 23, 24, 25, 26, 27, 28, 29, 30, 31, 32, 33, 34, 35, 36, 37, 38, 39, 40, 41, 42, 43, 44, 45, 46, 47, 48, 49] (by decide +kernel) (by decide +kernel)
set_option maxRecDepth 20000 in
theorem gX8_at_X8_finds : GoodIn wsX8_at (wsV RX8 87 RX8 yX8_finds wsX8_finds) := goodIn_app (goodIn_of _ (by decide +kernel)) ggX8_at_X8_finds
theorem dX8_at_0 : decode cX8_at 0 = .ok (.aload_n 0, 1) := by decide +kernel
theorem dX8_at_1 : decode cX8_at 1 = .ok (.iconst 0, 1) := by decide +kernel
theorem dX8_at_2 : decode cX8_at 2 = .ok (.putfield 74, 3) := by decide +kernel
theorem dX8_at_5 : decode cX8_at 5 = .ok (.iload_n 1, 1) := by decide +kernel
theorem dX8_at_6 : decode cX8_at 6 = .ok (.i2l, 1) := by decide +kernel
theorem dX8_at_7 : decode cX8_at 7 = .ok (.lconst 0, 1) := by decide +kernel
theorem dX8_at_8 : decode cX8_at 8 = .ok (.ldc2_w 81, 3) := by decide +kernel
theorem dX8_at_11 : decode cX8_at 11 = .ok (.invokestatic 83, 3) := by decide +kernel
theorem dX8_at_14 : decode cX8_at 14 = .ok (.ifCond .ne 11, 3) := by decide +kernel
theorem dX8_at_17 : decode cX8_at 17 = .ok (.aload_n 0, 1) := by decide +kernel
theorem dX8_at_18 : decode cX8_at 18 = .ok (.bipush (-12), 2) := by decide +kernel
theorem dX8_at_20 : decode cX8_at 20 = .ok (.invokevirtual 87, 3) := by decide +kernel
theorem dX8_at_23 : decode cX8_at 23 = .ok (.i2l, 1) := by decide +kernel
theorem dX8_at_24 : decode cX8_at 24 = .ok (.lreturn, 1) := by decide +kernel
theorem dX8_at_25 : decode cX8_at 25 = .ok (.iload_n 2, 1) := by decide +kernel
theorem dX8_at_26 : decode cX8_at 26 = .ok (.i2l, 1) := by decide +kernel
theorem dX8_at_27 : decode cX8_at 27 = .ok (.lconst 0, 1) := by decide +kernel
theorem dX8_at_28 : decode cX8_at 28 = .ok (.ldc2_w 81, 3) := by decide +kernel
theorem dX8_at_31 : decode cX8_at 31 = .ok (.invokestatic 83, 3) := by decide +kernel
theorem dX8_at_34 : decode cX8_at 34 = .ok (.ifCond .ne 7, 3) := by decide +kernel
theorem dX8_at_37 : decode cX8_at 37 = .ok (.ldc2_w 91, 3) := by decide +kernel
theorem dX8_at_40 : decode cX8_at 40 = .ok (.lreturn, 1) := by decide +kernel
theorem dX8_at_41 : decode cX8_at 41 = .ok (.aload_n 0, 1) := by decide +kernel
theorem dX8_at_42 : decode cX8_at 42 = .ok (.getfield 7, 3) := by decide +kernel
theorem dX8_at_45 : decode cX8_at 45 = .ok (.iload_n 1, 1) := by decide +kernel
theorem dX8_at_46 : decode cX8_at 46 = .ok (.iaload, 1) := by decide +kernel
theorem dX8_at_47 : decode cX8_at 47 = .ok (.ifCond .ge 11, 3) := by decide +kernel
theorem dX8_at_50 : decode cX8_at 50 = .ok (.aload_n 0, 1) := by decide +kernel
theorem dX8_at_51 : decode cX8_at 51 = .ok (.bipush (-11), 2) := by decide +kernel
theorem dX8_at_53 : decode cX8_at 53 = .ok (.invokevirtual 87, 3) := by decide +kernel
theorem dX8_at_56 : decode cX8_at 56 = .ok (.i2l, 1) := by decide +kernel
theorem dX8_at_57 : decode cX8_at 57 = .ok (.lreturn, 1) := by decide +kernel
theorem dX8_at_58 : decode cX8_at 58 = .ok (.aload_n 0, 1) := by decide +kernel
theorem dX8_at_59 : decode cX8_at 59 = .ok (.getfield 13, 3) := by decide +kernel
theorem dX8_at_62 : decode cX8_at 62 = .ok (.iload_n 1, 1) := by decide +kernel
theorem dX8_at_63 : decode cX8_at 63 = .ok (.iaload, 1) := by decide +kernel
theorem dX8_at_64 : decode cX8_at 64 = .ok (.iload_n 2, 1) := by decide +kernel
theorem dX8_at_65 : decode cX8_at 65 = .ok (.if_icmp .eq 11, 3) := by decide +kernel
theorem dX8_at_68 : decode cX8_at 68 = .ok (.aload_n 0, 1) := by decide +kernel
theorem dX8_at_69 : decode cX8_at 69 = .ok (.bipush (-13), 2) := by decide +kernel
theorem dX8_at_71 : decode cX8_at 71 = .ok (.invokevirtual 87, 3) := by decide +kernel
theorem dX8_at_74 : decode cX8_at 74 = .ok (.i2l, 1) := by decide +kernel
theorem dX8_at_75 : decode cX8_at 75 = .ok (.lreturn, 1) := by decide +kernel
theorem dX8_at_76 : decode cX8_at 76 = .ok (.iload_n 3, 1) := by decide +kernel
theorem dX8_at_77 : decode cX8_at 77 = .ok (.i2l, 1) := by decide +kernel
theorem dX8_at_78 : decode cX8_at 78 = .ok (.lconst 0, 1) := by decide +kernel
theorem dX8_at_79 : decode cX8_at 79 = .ok (.aload_n 0, 1) := by decide +kernel
theorem dX8_at_80 : decode cX8_at 80 = .ok (.getfield 7, 3) := by decide +kernel
theorem dX8_at_83 : decode cX8_at 83 = .ok (.iload_n 1, 1) := by decide +kernel
theorem dX8_at_84 : decode cX8_at 84 = .ok (.iaload, 1) := by decide +kernel
theorem dX8_at_85 : decode cX8_at 85 = .ok (.iconst 1, 1) := by decide +kernel
theorem dX8_at_86 : decode cX8_at 86 = .ok (.isub, 1) := by decide +kernel
theorem dX8_at_87 : decode cX8_at 87 = .ok (.i2l, 1) := by decide +kernel
theorem dX8_at_88 : decode cX8_at 88 = .ok (.invokestatic 83, 3) := by decide +kernel
theorem dX8_at_91 : decode cX8_at 91 = .ok (.ifCond .eq 17, 3) := by decide +kernel
theorem dX8_at_94 : decode cX8_at 94 = .ok (.aload_n 0, 1) := by decide +kernel
theorem dX8_at_95 : decode cX8_at 95 = .ok (.getfield 16, 3) := by decide +kernel
theorem dX8_at_98 : decode cX8_at 98 = .ok (.bipush 20, 2) := by decide +kernel
theorem dX8_at_100 : decode cX8_at 100 = .ok (.iload_n 1, 1) := by decide +kernel
theorem dX8_at_101 : decode cX8_at 101 = .ok (.imul, 1) := by decide +kernel
theorem dX8_at_102 : decode cX8_at 102 = .ok (.iload_n 3, 1) := by decide +kernel
theorem dX8_at_103 : decode cX8_at 103 = .ok (.iadd, 1) := by decide +kernel
theorem dX8_at_104 : decode cX8_at 104 = .ok (.laload, 1) := by decide +kernel
theorem dX8_at_105 : decode cX8_at 105 = .ok (.goto 10, 3) := by decide +kernel
theorem dX8_at_108 : decode cX8_at 108 = .ok (.aload_n 0, 1) := by decide +kernel
theorem dX8_at_109 : decode cX8_at 109 = .ok (.bipush (-12), 2) := by decide +kernel
theorem dX8_at_111 : decode cX8_at 111 = .ok (.invokevirtual 87, 3) := by decide +kernel
theorem dX8_at_114 : decode cX8_at 114 = .ok (.i2l, 1) := by decide +kernel
theorem dX8_at_115 : decode cX8_at 115 = .ok (.lreturn, 1) := by decide +kernel
set_option maxRecDepth 20000 in
theorem ggX8_collect_X8_in : GoodIn wsX8_collect wsX8_in := goodIn_r _ [8] (by decide +kernel) (by decide +kernel)
set_option maxRecDepth 20000 in
theorem gX8_collect_X8_in : GoodIn wsX8_collect (va_wsS RX8 83 yX8_in wsX8_in) := goodIn_app (goodIn_of _ (by decide +kernel)) ggX8_collect_X8_in
theorem dX8_collect_0 : decode cX8_collect 0 = .ok (.lload_n 1, 1) := by decide +kernel
theorem dX8_collect_1 : decode cX8_collect 1 = .ok (.lconst 0, 1) := by decide +kernel
theorem dX8_collect_2 : decode cX8_collect 2 = .ok (.ldc2_w 93, 3) := by decide +kernel
theorem dX8_collect_5 : decode cX8_collect 5 = .ok (.invokestatic 83, 3) := by decide +kernel
theorem dX8_collect_8 : decode cX8_collect 8 = .ok (.ifCond .eq 14, 3) := by decide +kernel
theorem dX8_collect_11 : decode cX8_collect 11 = .ok (.lload_n 3, 1) := by decide +kernel
theorem dX8_collect_12 : decode cX8_collect 12 = .ok (.lconst 0, 1) := by decide +kernel
theorem dX8_collect_13 : decode cX8_collect 13 = .ok (.ldc2_w 93, 3) := by decide +kernel
theorem dX8_collect_16 : decode cX8_collect 16 = .ok (.invokestatic 83, 3) := by decide +kernel
theorem dX8_collect_19 : decode cX8_collect 19 = .ok (.ifCond .ne 6, 3) := by decide +kernel
theorem dX8_collect_22 : decode cX8_collect 22 = .ok (.bipush (-2), 2) := by decide +kernel
theorem dX8_collect_24 : decode cX8_collect 24 = .ok (.ireturn, 1) := by decide +kernel
theorem dX8_collect_25 : decode cX8_collect 25 = .ok (.iconst 0, 1) := by decide +kernel
theorem dX8_collect_26 : decode cX8_collect 26 = .ok (.istore 5, 2) := by decide +kernel
theorem dX8_collect_28 : decode cX8_collect 28 = .ok (.iload 5, 2) := by decide +kernel
theorem dX8_collect_30 : decode cX8_collect 30 = .ok (.aload_n 0, 1) := by decide +kernel
theorem dX8_collect_31 : decode cX8_collect 31 = .ok (.getfield 95, 3) := by decide +kernel
theorem dX8_collect_34 : decode cX8_collect 34 = .ok (.if_icmp .ge 38, 3) := by decide +kernel
theorem dX8_collect_37 : decode cX8_collect 37 = .ok (.aload_n 0, 1) := by decide +kernel
theorem dX8_collect_38 : decode cX8_collect 38 = .ok (.getfield 20, 3) := by decide +kernel
theorem dX8_collect_41 : decode cX8_collect 41 = .ok (.iload 5, 2) := by decide +kernel
theorem dX8_collect_43 : decode cX8_collect 43 = .ok (.iaload, 1) := by decide +kernel
theorem dX8_collect_44 : decode cX8_collect 44 = .ok (.i2l, 1) := by decide +kernel
theorem dX8_collect_45 : decode cX8_collect 45 = .ok (.lload_n 1, 1) := by decide +kernel
theorem dX8_collect_46 : decode cX8_collect 46 = .ok (.lcmp, 1) := by decide +kernel
theorem dX8_collect_47 : decode cX8_collect 47 = .ok (.ifCond .ne 19, 3) := by decide +kernel
theorem dX8_collect_50 : decode cX8_collect 50 = .ok (.aload_n 0, 1) := by decide +kernel
theorem dX8_collect_51 : decode cX8_collect 51 = .ok (.getfield 23, 3) := by decide +kernel
theorem dX8_collect_54 : decode cX8_collect 54 = .ok (.iload 5, 2) := by decide +kernel
theorem dX8_collect_56 : decode cX8_collect 56 = .ok (.iaload, 1) := by decide +kernel
theorem dX8_collect_57 : decode cX8_collect 57 = .ok (.i2l, 1) := by decide +kernel
theorem dX8_collect_58 : decode cX8_collect 58 = .ok (.lload_n 3, 1) := by decide +kernel
theorem dX8_collect_59 : decode cX8_collect 59 = .ok (.lcmp, 1) := by decide +kernel
theorem dX8_collect_60 : decode cX8_collect 60 = .ok (.ifCond .ne 6, 3) := by decide +kernel
theorem dX8_collect_63 : decode cX8_collect 63 = .ok (.bipush (-3), 2) := by decide +kernel
theorem dX8_collect_65 : decode cX8_collect 65 = .ok (.ireturn, 1) := by decide +kernel
theorem dX8_collect_66 : decode cX8_collect 66 = .ok (.iinc 5 1, 3) := by decide +kernel
theorem dX8_collect_69 : decode cX8_collect 69 = .ok (.goto (-41), 3) := by decide +kernel
theorem dX8_collect_72 : decode cX8_collect 72 = .ok (.aload_n 0, 1) := by decide +kernel
theorem dX8_collect_73 : decode cX8_collect 73 = .ok (.getfield 95, 3) := by decide +kernel
theorem dX8_collect_76 : decode cX8_collect 76 = .ok (.bipush 8, 2) := by decide +kernel
theorem dX8_collect_78 : decode cX8_collect 78 = .ok (.if_icmp .ne 6, 3) := by decide +kernel
theorem dX8_collect_81 : decode cX8_collect 81 = .ok (.bipush (-4), 2) := by decide +kernel
theorem dX8_collect_83 : decode cX8_collect 83 = .ok (.ireturn, 1) := by decide +kernel
theorem dX8_collect_84 : decode cX8_collect 84 = .ok (.aload_n 0, 1) := by decide +kernel
theorem dX8_collect_85 : decode cX8_collect 85 = .ok (.getfield 20, 3) := by decide +kernel
theorem dX8_collect_88 : decode cX8_collect 88 = .ok (.aload_n 0, 1) := by decide +kernel
theorem dX8_collect_89 : decode cX8_collect 89 = .ok (.getfield 95, 3) := by decide +kernel
theorem dX8_collect_92 : decode cX8_collect 92 = .ok (.lload_n 1, 1) := by decide +kernel
theorem dX8_collect_93 : decode cX8_collect 93 = .ok (.l2i, 1) := by decide +kernel
theorem dX8_collect_94 : decode cX8_collect 94 = .ok (.iastore, 1) := by decide +kernel
theorem dX8_collect_95 : decode cX8_collect 95 = .ok (.aload_n 0, 1) := by decide +kernel
theorem dX8_collect_96 : decode cX8_collect 96 = .ok (.getfield 23, 3) := by decide +kernel
theorem dX8_collect_99 : decode cX8_collect 99 = .ok (.aload_n 0, 1) := by decide +kernel
theorem dX8_collect_100 : decode cX8_collect 100 = .ok (.getfield 95, 3) := by decide +kernel
theorem dX8_collect_103 : decode cX8_collect 103 = .ok (.lload_n 3, 1) := by decide +kernel
theorem dX8_collect_104 : decode cX8_collect 104 = .ok (.l2i, 1) := by decide +kernel
theorem dX8_collect_105 : decode cX8_collect 105 = .ok (.iastore, 1) := by decide +kernel
theorem dX8_collect_106 : decode cX8_collect 106 = .ok (.aload_n 0, 1) := by decide +kernel
theorem dX8_collect_107 : decode cX8_collect 107 = .ok (.dup, 1) := by decide +kernel
theorem dX8_collect_108 : decode cX8_collect 108 = .ok (.getfield 95, 3) := by decide +kernel
theorem dX8_collect_111 : decode cX8_collect 111 = .ok (.iconst 1, 1) := by decide +kernel
theorem dX8_collect_112 : decode cX8_collect 112 = .ok (.iadd, 1) := by decide +kernel
theorem dX8_collect_113 : decode cX8_collect 113 = .ok (.putfield 95, 3) := by decide +kernel
theorem dX8_collect_116 : decode cX8_collect 116 = .ok (.aload_n 0, 1) := by decide +kernel
theorem dX8_collect_117 : decode cX8_collect 117 = .ok (.getfield 95, 3) := by decide +kernel
theorem dX8_collect_120 : decode cX8_collect 120 = .ok (.ireturn, 1) := by decide +kernel
set_option maxRecDepth 20000 in
theorem ggX8_post_X8_collect : GoodIn wsX8_post wsX8_collect := goodIn_r _ [6, 7, 8, 9, 10, 11, 12, 5, 13, 14, 15, 16, 17, 18, 19, 20, 21, 22, 23, 24, 25, 26, 27, 28, 29, 30, 31, 32, 33, 34, 35, 36, 37, 38, 39, 40, 41, 42, 43, 44, 45, 46, 47] (by decide +kernel) (by decide +kernel)
set_option maxRecDepth 20000 in
theorem gX8_post_X8_collect : GoodIn wsX8_post (wsV RX8 98 RX8 yX8_collect wsX8_collect) := goodIn_app (goodIn_of _ (by decide +kernel)) ggX8_post_X8_collect
theorem dX8_post_0 : decode cX8_post 0 = .ok (.aload_n 0, 1) := by decide +kernel
theorem dX8_post_1 : decode cX8_post 1 = .ok (.iconst 0, 1) := by decide +kernel
theorem dX8_post_2 : decode cX8_post 2 = .ok (.putfield 74, 3) := by decide +kernel
theorem dX8_post_5 : decode cX8_post 5 = .ok (.aload_n 0, 1) := by decide +kernel
theorem dX8_post_6 : decode cX8_post 6 = .ok (.iload_n 1, 1) := by decide +kernel
theorem dX8_post_7 : decode cX8_post 7 = .ok (.i2l, 1) := by decide +kernel
theorem dX8_post_8 : decode cX8_post 8 = .ok (.iload_n 2, 1) := by decide +kernel
theorem dX8_post_9 : decode cX8_post 9 = .ok (.i2l, 1) := by decide +kernel
theorem dX8_post_10 : decode cX8_post 10 = .ok (.invokevirtual 98, 3) := by decide +kernel
theorem dX8_post_13 : decode cX8_post 13 = .ok (.ireturn, 1) := by decide +kernel
set_option maxRecDepth 20000 in
theorem ggX8_take_X8_in : GoodIn wsX8_take wsX8_in := goodIn_r _ [8] (by decide +kernel) (by decide +kernel)
set_option maxRecDepth 20000 in
theorem gX8_take_X8_in : GoodIn wsX8_take (va_wsS RX8 83 yX8_in wsX8_in) := goodIn_app (goodIn_of _ (by decide +kernel)) ggX8_take_X8_in
set_option maxRecDepth 20000 in
theorem ggX8_take_X8_finds : GoodIn wsX8_take wsX8_finds := goodIn_r _ [12, 13, 22, 23, 24, 25, 26, 27, 28, 29, 30, 31, 32, 33, 34, 35, 36, 37, 38, 39, 40, 41, 42, 43, 44, 45, 46, 47, 48, 49, 50, 51, 52, 53, 54, 55] (by decide +kernel) (by decide +kernel)
set_option maxRecDepth 20000 in
theorem gX8_take_X8_finds : GoodIn wsX8_take (wsV RX8 87 RX8 yX8_finds wsX8_finds) := goodIn_app (goodIn_of _ (by decide +kernel)) ggX8_take_X8_finds
set_option maxRecDepth 20000 in
theorem ggX8_take_X8_collect : GoodIn wsX8_take wsX8_collect := goodIn_r _ [17, 18, 19, 20, 21, 5, 6, 7, 8, 22, 23, 24, 25, 26, 27, 28, 29, 30, 31, 32, 33, 34, 35, 36, 37, 38, 39, 40, 41, 42, 43, 44, 45, 46, 47, 48, 49, 50, 51, 52, 53, 54, 55] (by decide +kernel) (by decide +kernel)
set_option maxRecDepth 20000 in
theorem gX8_take_X8_collect : GoodIn wsX8_take (wsV RX8 98 RX8 yX8_collect wsX8_collect) := goodIn_app (goodIn_of _ (by decide +kernel)) ggX8_take_X8_collect
theorem dX8_take_0 : decode cX8_take 0 = .ok (.aload_n 0, 1) := by decide +kernel
theorem dX8_take_1 : decode cX8_take 1 = .ok (.iconst 0, 1) := by decide +kernel
theorem dX8_take_2 : decode cX8_take 2 = .ok (.putfield 74, 3) := by decide +kernel
theorem dX8_take_5 : decode cX8_take 5 = .ok (.iload_n 1, 1) := by decide +kernel
theorem dX8_take_6 : decode cX8_take 6 = .ok (.i2l, 1) := by decide +kernel
theorem dX8_take_7 : decode cX8_take 7 = .ok (.lconst 0, 1) := by decide +kernel
theorem dX8_take_8 : decode cX8_take 8 = .ok (.ldc2_w 81, 3) := by decide +kernel
theorem dX8_take_11 : decode cX8_take 11 = .ok (.invokestatic 83, 3) := by decide +kernel
theorem dX8_take_14 : decode cX8_take 14 = .ok (.ifCond .ne 10, 3) := by decide +kernel
theorem dX8_take_17 : decode cX8_take 17 = .ok (.aload_n 0, 1) := by decide +kernel
theorem dX8_take_18 : decode cX8_take 18 = .ok (.bipush (-12), 2) := by decide +kernel
theorem dX8_take_20 : decode cX8_take 20 = .ok (.invokevirtual 87, 3) := by decide +kernel
theorem dX8_take_23 : decode cX8_take 23 = .ok (.ireturn, 1) := by decide +kernel
theorem dX8_take_24 : decode cX8_take 24 = .ok (.aload_n 0, 1) := by decide +kernel
theorem dX8_take_25 : decode cX8_take 25 = .ok (.getfield 7, 3) := by decide +kernel
theorem dX8_take_28 : decode cX8_take 28 = .ok (.iload_n 1, 1) := by decide +kernel
theorem dX8_take_29 : decode cX8_take 29 = .ok (.iaload, 1) := by decide +kernel
theorem dX8_take_30 : decode cX8_take 30 = .ok (.ifCond .ge 10, 3) := by decide +kernel
theorem dX8_take_33 : decode cX8_take 33 = .ok (.aload_n 0, 1) := by decide +kernel
theorem dX8_take_34 : decode cX8_take 34 = .ok (.bipush (-11), 2) := by decide +kernel
theorem dX8_take_36 : decode cX8_take 36 = .ok (.invokevirtual 87, 3) := by decide +kernel
theorem dX8_take_39 : decode cX8_take 39 = .ok (.ireturn, 1) := by decide +kernel
theorem dX8_take_40 : decode cX8_take 40 = .ok (.iload_n 2, 1) := by decide +kernel
theorem dX8_take_41 : decode cX8_take 41 = .ok (.i2l, 1) := by decide +kernel
theorem dX8_take_42 : decode cX8_take 42 = .ok (.lconst 0, 1) := by decide +kernel
theorem dX8_take_43 : decode cX8_take 43 = .ok (.aload_n 0, 1) := by decide +kernel
theorem dX8_take_44 : decode cX8_take 44 = .ok (.getfield 7, 3) := by decide +kernel
theorem dX8_take_47 : decode cX8_take 47 = .ok (.iload_n 1, 1) := by decide +kernel
theorem dX8_take_48 : decode cX8_take 48 = .ok (.iaload, 1) := by decide +kernel
theorem dX8_take_49 : decode cX8_take 49 = .ok (.i2l, 1) := by decide +kernel
theorem dX8_take_50 : decode cX8_take 50 = .ok (.invokestatic 83, 3) := by decide +kernel
theorem dX8_take_53 : decode cX8_take 53 = .ok (.ifCond .ne 10, 3) := by decide +kernel
theorem dX8_take_56 : decode cX8_take 56 = .ok (.aload_n 0, 1) := by decide +kernel
theorem dX8_take_57 : decode cX8_take 57 = .ok (.bipush (-12), 2) := by decide +kernel
theorem dX8_take_59 : decode cX8_take 59 = .ok (.invokevirtual 87, 3) := by decide +kernel
theorem dX8_take_62 : decode cX8_take 62 = .ok (.ireturn, 1) := by decide +kernel
theorem dX8_take_63 : decode cX8_take 63 = .ok (.iconst 0, 1) := by decide +kernel
theorem dX8_take_64 : decode cX8_take 64 = .ok (.istore_n 3, 1) := by decide +kernel
theorem dX8_take_65 : decode cX8_take 65 = .ok (.iload_n 2, 1) := by decide +kernel
theorem dX8_take_66 : decode cX8_take 66 = .ok (.istore 4, 2) := by decide +kernel
theorem dX8_take_68 : decode cX8_take 68 = .ok (.iload 4, 2) := by decide +kernel
theorem dX8_take_70 : decode cX8_take 70 = .ok (.iconst 1, 1) := by decide +kernel
theorem dX8_take_71 : decode cX8_take 71 = .ok (.iadd, 1) := by decide +kernel
theorem dX8_take_72 : decode cX8_take 72 = .ok (.aload_n 0, 1) := by decide +kernel
theorem dX8_take_73 : decode cX8_take 73 = .ok (.getfield 7, 3) := by decide +kernel
theorem dX8_take_76 : decode cX8_take 76 = .ok (.iload_n 1, 1) := by decide +kernel
theorem dX8_take_77 : decode cX8_take 77 = .ok (.iaload, 1) := by decide +kernel
theorem dX8_take_78 : decode cX8_take 78 = .ok (.if_icmp .ge 47, 3) := by decide +kernel
theorem dX8_take_81 : decode cX8_take 81 = .ok (.aload_n 0, 1) := by decide +kernel
theorem dX8_take_82 : decode cX8_take 82 = .ok (.aload_n 0, 1) := by decide +kernel
theorem dX8_take_83 : decode cX8_take 83 = .ok (.getfield 16, 3) := by decide +kernel
theorem dX8_take_86 : decode cX8_take 86 = .ok (.bipush 20, 2) := by decide +kernel
theorem dX8_take_88 : decode cX8_take 88 = .ok (.iload_n 1, 1) := by decide +kernel
theorem dX8_take_89 : decode cX8_take 89 = .ok (.imul, 1) := by decide +kernel
theorem dX8_take_90 : decode cX8_take 90 = .ok (.iload 4, 2) := by decide +kernel
theorem dX8_take_92 : decode cX8_take 92 = .ok (.iadd, 1) := by decide +kernel
theorem dX8_take_93 : decode cX8_take 93 = .ok (.laload, 1) := by decide +kernel
theorem dX8_take_94 : decode cX8_take 94 = .ok (.aload_n 0, 1) := by decide +kernel
theorem dX8_take_95 : decode cX8_take 95 = .ok (.getfield 16, 3) := by decide +kernel
theorem dX8_take_98 : decode cX8_take 98 = .ok (.bipush 20, 2) := by decide +kernel
theorem dX8_take_100 : decode cX8_take 100 = .ok (.iload_n 1, 1) := by decide +kernel
theorem dX8_take_101 : decode cX8_take 101 = .ok (.imul, 1) := by decide +kernel
theorem dX8_take_102 : decode cX8_take 102 = .ok (.iload 4, 2) := by decide +kernel
theorem dX8_take_104 : decode cX8_take 104 = .ok (.iadd, 1) := by decide +kernel
theorem dX8_take_105 : decode cX8_take 105 = .ok (.iconst 1, 1) := by decide +kernel
theorem dX8_take_106 : decode cX8_take 106 = .ok (.iadd, 1) := by decide +kernel
theorem dX8_take_107 : decode cX8_take 107 = .ok (.laload, 1) := by decide +kernel
theorem dX8_take_108 : decode cX8_take 108 = .ok (.invokevirtual 98, 3) := by decide +kernel
theorem dX8_take_111 : decode cX8_take 111 = .ok (.ifCond .ge 5, 3) := by decide +kernel
theorem dX8_take_114 : decode cX8_take 114 = .ok (.iload_n 3, 1) := by decide +kernel
theorem dX8_take_115 : decode cX8_take 115 = .ok (.ireturn, 1) := by decide +kernel
theorem dX8_take_116 : decode cX8_take 116 = .ok (.iinc 3 1, 3) := by decide +kernel
theorem dX8_take_119 : decode cX8_take 119 = .ok (.iinc 4 2, 3) := by decide +kernel
theorem dX8_take_122 : decode cX8_take 122 = .ok (.goto (-54), 3) := by decide +kernel
theorem dX8_take_125 : decode cX8_take 125 = .ok (.iload_n 3, 1) := by decide +kernel
theorem dX8_take_126 : decode cX8_take 126 = .ok (.ireturn, 1) := by decide +kernel
theorem dX8_clear_0 : decode cX8_clear 0 = .ok (.aload_n 0, 1) := by decide +kernel
theorem dX8_clear_1 : decode cX8_clear 1 = .ok (.iconst 0, 1) := by decide +kernel
theorem dX8_clear_2 : decode cX8_clear 2 = .ok (.putfield 74, 3) := by decide +kernel
theorem dX8_clear_5 : decode cX8_clear 5 = .ok (.aload_n 0, 1) := by decide +kernel
theorem dX8_clear_6 : decode cX8_clear 6 = .ok (.getfield 95, 3) := by decide +kernel
theorem dX8_clear_9 : decode cX8_clear 9 = .ok (.istore_n 1, 1) := by decide +kernel
theorem dX8_clear_10 : decode cX8_clear 10 = .ok (.aload_n 0, 1) := by decide +kernel
theorem dX8_clear_11 : decode cX8_clear 11 = .ok (.iconst 0, 1) := by decide +kernel
theorem dX8_clear_12 : decode cX8_clear 12 = .ok (.putfield 95, 3) := by decide +kernel
theorem dX8_clear_15 : decode cX8_clear 15 = .ok (.iload_n 1, 1) := by decide +kernel
theorem dX8_clear_16 : decode cX8_clear 16 = .ok (.ireturn, 1) := by decide +kernel
theorem dX8_side_0 : decode cX8_side 0 = .ok (.aload_n 0, 1) := by decide +kernel
theorem dX8_side_1 : decode cX8_side 1 = .ok (.getfield 26, 3) := by decide +kernel
theorem dX8_side_4 : decode cX8_side 4 = .ok (.iload_n 2, 1) := by decide +kernel
theorem dX8_side_5 : decode cX8_side 5 = .ok (.iaload, 1) := by decide +kernel
theorem dX8_side_6 : decode cX8_side 6 = .ok (.aload_n 0, 1) := by decide +kernel
theorem dX8_side_7 : decode cX8_side 7 = .ok (.getfield 26, 3) := by decide +kernel
theorem dX8_side_10 : decode cX8_side 10 = .ok (.iload_n 1, 1) := by decide +kernel
theorem dX8_side_11 : decode cX8_side 11 = .ok (.iaload, 1) := by decide +kernel
theorem dX8_side_12 : decode cX8_side 12 = .ok (.isub, 1) := by decide +kernel
theorem dX8_side_13 : decode cX8_side 13 = .ok (.aload_n 0, 1) := by decide +kernel
theorem dX8_side_14 : decode cX8_side 14 = .ok (.getfield 29, 3) := by decide +kernel
theorem dX8_side_17 : decode cX8_side 17 = .ok (.iload_n 3, 1) := by decide +kernel
theorem dX8_side_18 : decode cX8_side 18 = .ok (.iaload, 1) := by decide +kernel
theorem dX8_side_19 : decode cX8_side 19 = .ok (.aload_n 0, 1) := by decide +kernel
theorem dX8_side_20 : decode cX8_side 20 = .ok (.getfield 29, 3) := by decide +kernel
theorem dX8_side_23 : decode cX8_side 23 = .ok (.iload_n 1, 1) := by decide +kernel
theorem dX8_side_24 : decode cX8_side 24 = .ok (.iaload, 1) := by decide +kernel
theorem dX8_side_25 : decode cX8_side 25 = .ok (.isub, 1) := by decide +kernel
theorem dX8_side_26 : decode cX8_side 26 = .ok (.imul, 1) := by decide +kernel
theorem dX8_side_27 : decode cX8_side 27 = .ok (.aload_n 0, 1) := by decide +kernel
theorem dX8_side_28 : decode cX8_side 28 = .ok (.getfield 29, 3) := by decide +kernel
theorem dX8_side_31 : decode cX8_side 31 = .ok (.iload_n 2, 1) := by decide +kernel
theorem dX8_side_32 : decode cX8_side 32 = .ok (.iaload, 1) := by decide +kernel
theorem dX8_side_33 : decode cX8_side 33 = .ok (.aload_n 0, 1) := by decide +kernel
theorem dX8_side_34 : decode cX8_side 34 = .ok (.getfield 29, 3) := by decide +kernel
theorem dX8_side_37 : decode cX8_side 37 = .ok (.iload_n 1, 1) := by decide +kernel
theorem dX8_side_38 : decode cX8_side 38 = .ok (.iaload, 1) := by decide +kernel
theorem dX8_side_39 : decode cX8_side 39 = .ok (.isub, 1) := by decide +kernel
theorem dX8_side_40 : decode cX8_side 40 = .ok (.aload_n 0, 1) := by decide +kernel
theorem dX8_side_41 : decode cX8_side 41 = .ok (.getfield 26, 3) := by decide +kernel
theorem dX8_side_44 : decode cX8_side 44 = .ok (.iload_n 3, 1) := by decide +kernel
theorem dX8_side_45 : decode cX8_side 45 = .ok (.iaload, 1) := by decide +kernel
theorem dX8_side_46 : decode cX8_side 46 = .ok (.aload_n 0, 1) := by decide +kernel
theorem dX8_side_47 : decode cX8_side 47 = .ok (.getfield 26, 3) := by decide +kernel
theorem dX8_side_50 : decode cX8_side 50 = .ok (.iload_n 1, 1) := by decide +kernel
theorem dX8_side_51 : decode cX8_side 51 = .ok (.iaload, 1) := by decide +kernel
theorem dX8_side_52 : decode cX8_side 52 = .ok (.isub, 1) := by decide +kernel
theorem dX8_side_53 : decode cX8_side 53 = .ok (.imul, 1) := by decide +kernel
theorem dX8_side_54 : decode cX8_side 54 = .ok (.isub, 1) := by decide +kernel
theorem dX8_side_55 : decode cX8_side 55 = .ok (.istore 4, 2) := by decide +kernel
theorem dX8_side_57 : decode cX8_side 57 = .ok (.iload 4, 2) := by decide +kernel
theorem dX8_side_59 : decode cX8_side 59 = .ok (.ifCond .le 7, 3) := by decide +kernel
theorem dX8_side_62 : decode cX8_side 62 = .ok (.iconst 1, 1) := by decide +kernel
theorem dX8_side_63 : decode cX8_side 63 = .ok (.goto 13, 3) := by decide +kernel
theorem dX8_side_66 : decode cX8_side 66 = .ok (.iload 4, 2) := by decide +kernel
theorem dX8_side_68 : decode cX8_side 68 = .ok (.ifCond .ge 7, 3) := by decide +kernel
theorem dX8_side_71 : decode cX8_side 71 = .ok (.iconst (-1), 1) := by decide +kernel
theorem dX8_side_72 : decode cX8_side 72 = .ok (.goto 4, 3) := by decide +kernel
theorem dX8_side_75 : decode cX8_side 75 = .ok (.iconst 0, 1) := by decide +kernel
theorem dX8_side_76 : decode cX8_side 76 = .ok (.ireturn, 1) := by decide +kernel
set_option maxRecDepth 20000 in
theorem ggX8_isBetween_X8_side : GoodIn wsX8_isBetween wsX8_side := goodIn_r _ [7, 1, 2, 8, 9, 10, 11, 12, 13, 14, 15, 16, 17, 18, 19, 20, 21, 22, 23, 24, 25, 26, 27, 28, 29, 30, 31, 32, 33, 34, 35, 36, 37, 38, 39, 40, 41] (by decide +kernel) (by decide +kernel)
set_option maxRecDepth 20000 in
theorem gX8_isBetween_X8_side : GoodIn wsX8_isBetween (wsV RX8 102 RX8 yX8_side wsX8_side) := goodIn_app (goodIn_of _ (by decide +kernel)) ggX8_isBetween_X8_side
theorem dX8_isBetween_0 : decode cX8_isBetween 0 = .ok (.aload_n 0, 1) := by decide +kernel
theorem dX8_isBetween_1 : decode cX8_isBetween 1 = .ok (.getfield 26, 3) := by decide +kernel
theorem dX8_isBetween_4 : decode cX8_isBetween 4 = .ok (.iload_n 1, 1) := by decide +kernel
theorem dX8_isBetween_5 : decode cX8_isBetween 5 = .ok (.iaload, 1) := by decide +kernel
theorem dX8_isBetween_6 : decode cX8_isBetween 6 = .ok (.aload_n 0, 1) := by decide +kernel
theorem dX8_isBetween_7 : decode cX8_isBetween 7 = .ok (.getfield 26, 3) := by decide +kernel
theorem dX8_isBetween_10 : decode cX8_isBetween 10 = .ok (.iload_n 3, 1) := by decide +kernel
theorem dX8_isBetween_11 : decode cX8_isBetween 11 = .ok (.iaload, 1) := by decide +kernel
theorem dX8_isBetween_12 : decode cX8_isBetween 12 = .ok (.isub, 1) := by decide +kernel
theorem dX8_isBetween_13 : decode cX8_isBetween 13 = .ok (.aload_n 0, 1) := by decide +kernel
theorem dX8_isBetween_14 : decode cX8_isBetween 14 = .ok (.getfield 26, 3) := by decide +kernel
theorem dX8_isBetween_17 : decode cX8_isBetween 17 = .ok (.iload_n 2, 1) := by decide +kernel
theorem dX8_isBetween_18 : decode cX8_isBetween 18 = .ok (.iaload, 1) := by decide +kernel
theorem dX8_isBetween_19 : decode cX8_isBetween 19 = .ok (.aload_n 0, 1) := by decide +kernel
theorem dX8_isBetween_20 : decode cX8_isBetween 20 = .ok (.getfield 26, 3) := by decide +kernel
theorem dX8_isBetween_23 : decode cX8_isBetween 23 = .ok (.iload_n 3, 1) := by decide +kernel
theorem dX8_isBetween_24 : decode cX8_isBetween 24 = .ok (.iaload, 1) := by decide +kernel
theorem dX8_isBetween_25 : decode cX8_isBetween 25 = .ok (.isub, 1) := by decide +kernel
theorem dX8_isBetween_26 : decode cX8_isBetween 26 = .ok (.imul, 1) := by decide +kernel
theorem dX8_isBetween_27 : decode cX8_isBetween 27 = .ok (.aload_n 0, 1) := by decide +kernel
theorem dX8_isBetween_28 : decode cX8_isBetween 28 = .ok (.getfield 29, 3) := by decide +kernel
theorem dX8_isBetween_31 : decode cX8_isBetween 31 = .ok (.iload_n 1, 1) := by decide +kernel
theorem dX8_isBetween_32 : decode cX8_isBetween 32 = .ok (.iaload, 1) := by decide +kernel
theorem dX8_isBetween_33 : decode cX8_isBetween 33 = .ok (.aload_n 0, 1) := by decide +kernel
theorem dX8_isBetween_34 : decode cX8_isBetween 34 = .ok (.getfield 29, 3) := by decide +kernel
theorem dX8_isBetween_37 : decode cX8_isBetween 37 = .ok (.iload_n 3, 1) := by decide +kernel
theorem dX8_isBetween_38 : decode cX8_isBetween 38 = .ok (.iaload, 1) := by decide +kernel
theorem dX8_isBetween_39 : decode cX8_isBetween 39 = .ok (.isub, 1) := by decide +kernel
theorem dX8_isBetween_40 : decode cX8_isBetween 40 = .ok (.aload_n 0, 1) := by decide +kernel
theorem dX8_isBetween_41 : decode cX8_isBetween 41 = .ok (.getfield 29, 3) := by decide +kernel
theorem dX8_isBetween_44 : decode cX8_isBetween 44 = .ok (.iload_n 2, 1) := by decide +kernel
theorem dX8_isBetween_45 : decode cX8_isBetween 45 = .ok (.iaload, 1) := by decide +kernel
theorem dX8_isBetween_46 : decode cX8_isBetween 46 = .ok (.aload_n 0, 1) := by decide +kernel
theorem dX8_isBetween_47 : decode cX8_isBetween 47 = .ok (.getfield 29, 3) := by decide +kernel
theorem dX8_isBetween_50 : decode cX8_isBetween 50 = .ok (.iload_n 3, 1) := by decide +kernel
theorem dX8_isBetween_51 : decode cX8_isBetween 51 = .ok (.iaload, 1) := by decide +kernel
theorem dX8_isBetween_52 : decode cX8_isBetween 52 = .ok (.isub, 1) := by decide +kernel
theorem dX8_isBetween_53 : decode cX8_isBetween 53 = .ok (.imul, 1) := by decide +kernel
theorem dX8_isBetween_54 : decode cX8_isBetween 54 = .ok (.iadd, 1) := by decide +kernel
theorem dX8_isBetween_55 : decode cX8_isBetween 55 = .ok (.istore 4, 2) := by decide +kernel
theorem dX8_isBetween_57 : decode cX8_isBetween 57 = .ok (.aload_n 0, 1) := by decide +kernel
theorem dX8_isBetween_58 : decode cX8_isBetween 58 = .ok (.iload_n 1, 1) := by decide +kernel
theorem dX8_isBetween_59 : decode cX8_isBetween 59 = .ok (.iload_n 2, 1) := by decide +kernel
theorem dX8_isBetween_60 : decode cX8_isBetween 60 = .ok (.iload_n 3, 1) := by decide +kernel
theorem dX8_isBetween_61 : decode cX8_isBetween 61 = .ok (.invokevirtual 102, 3) := by decide +kernel
theorem dX8_isBetween_64 : decode cX8_isBetween 64 = .ok (.ifCond .ne 12, 3) := by decide +kernel
theorem dX8_isBetween_67 : decode cX8_isBetween 67 = .ok (.iload 4, 2) := by decide +kernel
theorem dX8_isBetween_69 : decode cX8_isBetween 69 = .ok (.ifCond .ge 7, 3) := by decide +kernel
theorem dX8_isBetween_72 : decode cX8_isBetween 72 = .ok (.iconst 1, 1) := by decide +kernel
theorem dX8_isBetween_73 : decode cX8_isBetween 73 = .ok (.goto 4, 3) := by decide +kernel
theorem dX8_isBetween_76 : decode cX8_isBetween 76 = .ok (.iconst 0, 1) := by decide +kernel
theorem dX8_isBetween_77 : decode cX8_isBetween 77 = .ok (.ireturn, 1) := by decide +kernel
set_option maxRecDepth 20000 in
theorem ggX8_isCross_X8_side : GoodIn wsX8_isCross wsX8_side := goodIn_r _ [7, 8, 9, 10, 11, 12, 13, 14, 15, 16, 17, 18, 19, 20, 21, 22, 23, 24, 25, 26, 27, 28, 29, 30, 31, 32, 33, 34, 35, 36, 37, 38, 39, 40, 41, 42, 43] (by decide +kernel) (by decide +kernel)
set_option maxRecDepth 20000 in
theorem gX8_isCross_X8_side : GoodIn wsX8_isCross (wsV RX8 102 RX8 yX8_side wsX8_side) := goodIn_app (goodIn_of _ (by decide +kernel)) ggX8_isCross_X8_side
theorem dX8_isCross_0 : decode cX8_isCross 0 = .ok (.aload_n 0, 1) := by decide +kernel
theorem dX8_isCross_1 : decode cX8_isCross 1 = .ok (.getfield 32, 3) := by decide +kernel
theorem dX8_isCross_4 : decode cX8_isCross 4 = .ok (.iload_n 1, 1) := by decide +kernel
theorem dX8_isCross_5 : decode cX8_isCross 5 = .ok (.iaload, 1) := by decide +kernel
theorem dX8_isCross_6 : decode cX8_isCross 6 = .ok (.istore_n 3, 1) := by decide +kernel
theorem dX8_isCross_7 : decode cX8_isCross 7 = .ok (.aload_n 0, 1) := by decide +kernel
theorem dX8_isCross_8 : decode cX8_isCross 8 = .ok (.getfield 35, 3) := by decide +kernel
theorem dX8_isCross_11 : decode cX8_isCross 11 = .ok (.iload_n 1, 1) := by decide +kernel
theorem dX8_isCross_12 : decode cX8_isCross 12 = .ok (.iaload, 1) := by decide +kernel
theorem dX8_isCross_13 : decode cX8_isCross 13 = .ok (.istore 4, 2) := by decide +kernel
theorem dX8_isCross_15 : decode cX8_isCross 15 = .ok (.aload_n 0, 1) := by decide +kernel
theorem dX8_isCross_16 : decode cX8_isCross 16 = .ok (.getfield 32, 3) := by decide +kernel
theorem dX8_isCross_19 : decode cX8_isCross 19 = .ok (.iload_n 2, 1) := by decide +kernel
theorem dX8_isCross_20 : decode cX8_isCross 20 = .ok (.iaload, 1) := by decide +kernel
theorem dX8_isCross_21 : decode cX8_isCross 21 = .ok (.istore 5, 2) := by decide +kernel
theorem dX8_isCross_23 : decode cX8_isCross 23 = .ok (.aload_n 0, 1) := by decide +kernel
theorem dX8_isCross_24 : decode cX8_isCross 24 = .ok (.getfield 35, 3) := by decide +kernel
theorem dX8_isCross_27 : decode cX8_isCross 27 = .ok (.iload_n 2, 1) := by decide +kernel
theorem dX8_isCross_28 : decode cX8_isCross 28 = .ok (.iaload, 1) := by decide +kernel
theorem dX8_isCross_29 : decode cX8_isCross 29 = .ok (.istore 6, 2) := by decide +kernel
theorem dX8_isCross_31 : decode cX8_isCross 31 = .ok (.aload_n 0, 1) := by decide +kernel
theorem dX8_isCross_32 : decode cX8_isCross 32 = .ok (.iload_n 3, 1) := by decide +kernel
theorem dX8_isCross_33 : decode cX8_isCross 33 = .ok (.iload 4, 2) := by decide +kernel
theorem dX8_isCross_35 : decode cX8_isCross 35 = .ok (.iload 5, 2) := by decide +kernel
theorem dX8_isCross_37 : decode cX8_isCross 37 = .ok (.invokevirtual 102, 3) := by decide +kernel
theorem dX8_isCross_40 : decode cX8_isCross 40 = .ok (.aload_n 0, 1) := by decide +kernel
theorem dX8_isCross_41 : decode cX8_isCross 41 = .ok (.iload_n 3, 1) := by decide +kernel
theorem dX8_isCross_42 : decode cX8_isCross 42 = .ok (.iload 4, 2) := by decide +kernel
theorem dX8_isCross_44 : decode cX8_isCross 44 = .ok (.iload 6, 2) := by decide +kernel
theorem dX8_isCross_46 : decode cX8_isCross 46 = .ok (.invokevirtual 102, 3) := by decide +kernel
theorem dX8_isCross_49 : decode cX8_isCross 49 = .ok (.imul, 1) := by decide +kernel
theorem dX8_isCross_50 : decode cX8_isCross 50 = .ok (.ifCond .ge 30, 3) := by decide +kernel
theorem dX8_isCross_53 : decode cX8_isCross 53 = .ok (.aload_n 0, 1) := by decide +kernel
theorem dX8_isCross_54 : decode cX8_isCross 54 = .ok (.iload 5, 2) := by decide +kernel
theorem dX8_isCross_56 : decode cX8_isCross 56 = .ok (.iload 6, 2) := by decide +kernel
theorem dX8_isCross_58 : decode cX8_isCross 58 = .ok (.iload_n 3, 1) := by decide +kernel
theorem dX8_isCross_59 : decode cX8_isCross 59 = .ok (.invokevirtual 102, 3) := by decide +kernel
theorem dX8_isCross_62 : decode cX8_isCross 62 = .ok (.aload_n 0, 1) := by decide +kernel
theorem dX8_isCross_63 : decode cX8_isCross 63 = .ok (.iload 5, 2) := by decide +kernel
theorem dX8_isCross_65 : decode cX8_isCross 65 = .ok (.iload 6, 2) := by decide +kernel
theorem dX8_isCross_67 : decode cX8_isCross 67 = .ok (.iload 4, 2) := by decide +kernel
theorem dX8_isCross_69 : decode cX8_isCross 69 = .ok (.invokevirtual 102, 3) := by decide +kernel
theorem dX8_isCross_72 : decode cX8_isCross 72 = .ok (.imul, 1) := by decide +kernel
theorem dX8_isCross_73 : decode cX8_isCross 73 = .ok (.ifCond .ge 7, 3) := by decide +kernel
theorem dX8_isCross_76 : decode cX8_isCross 76 = .ok (.iconst 1, 1) := by decide +kernel
theorem dX8_isCross_77 : decode cX8_isCross 77 = .ok (.goto 4, 3) := by decide +kernel
theorem dX8_isCross_80 : decode cX8_isCross 80 = .ok (.iconst 0, 1) := by decide +kernel
theorem dX8_isCross_81 : decode cX8_isCross 81 = .ok (.ireturn, 1) := by decide +kernel
set_option maxRecDepth 20000 in
theorem ggX8_layFences_X8_isBetween : GoodIn wsX8_layFences wsX8_isBetween := goodIn_r _ [12, 13, 14, 15, 16, 17, 11, 18, 23, 24, 25, 26, 27, 28, 29, 30, 31, 32, 33, 34, 35, 36, 37, 38, 39, 40, 41, 42, 43, 44, 45, 46, 47, 48, 49, 50, 51, 52, 53, 54, 55, 56] (by decide +kernel) (by decide +kernel)
set_option maxRecDepth 20000 in
theorem gX8_layFences_X8_isBetween : GoodIn wsX8_layFences (wsV RX8 112 RX8 yX8_isBetween wsX8_isBetween) := goodIn_app (goodIn_of _ (by decide +kernel)) ggX8_layFences_X8_isBetween
set_option maxRecDepth 20000 in
theorem ggX8_layFences_X8_isCross : GoodIn wsX8_layFences wsX8_isCross := goodIn_r _ [22, 4, 5, 15, 16, 17, 11, 18, 13, 14, 23, 24, 25, 26, 27, 28, 29, 30, 31, 32, 33, 34, 35, 36, 37, 38, 39, 40, 41, 42, 43, 44, 45, 46, 47, 48, 49, 50, 51, 52, 53, 54, 55, 56] (by decide +kernel) (by decide +kernel)
set_option maxRecDepth 20000 in
theorem gX8_layFences_X8_isCross : GoodIn wsX8_layFences (wsV RX8 116 RX8 yX8_isCross wsX8_isCross) := goodIn_app (goodIn_of _ (by decide +kernel)) ggX8_layFences_X8_isCross
theorem dX8_layFences_0 : decode cX8_layFences 0 = .ok (.aload_n 0, 1) := by decide +kernel
theorem dX8_layFences_1 : decode cX8_layFences 1 = .ok (.iconst 0, 1) := by decide +kernel
theorem dX8_layFences_2 : decode cX8_layFences 2 = .ok (.putfield 106, 3) := by decide +kernel
theorem dX8_layFences_5 : decode cX8_layFences 5 = .ok (.iconst 0, 1) := by decide +kernel
theorem dX8_layFences_6 : decode cX8_layFences 6 = .ok (.istore_n 1, 1) := by decide +kernel
theorem dX8_layFences_7 : decode cX8_layFences 7 = .ok (.iload_n 1, 1) := by decide +kernel
theorem dX8_layFences_8 : decode cX8_layFences 8 = .ok (.aload_n 0, 1) := by decide +kernel
theorem dX8_layFences_9 : decode cX8_layFences 9 = .ok (.getfield 109, 3) := by decide +kernel
theorem dX8_layFences_12 : decode cX8_layFences 12 = .ok (.if_icmp .ge 179, 3) := by decide +kernel
theorem dX8_layFences_15 : decode cX8_layFences 15 = .ok (.iload_n 1, 1) := by decide +kernel
theorem dX8_layFences_16 : decode cX8_layFences 16 = .ok (.istore_n 2, 1) := by decide +kernel
theorem dX8_layFences_17 : decode cX8_layFences 17 = .ok (.iload_n 2, 1) := by decide +kernel
theorem dX8_layFences_18 : decode cX8_layFences 18 = .ok (.aload_n 0, 1) := by decide +kernel
theorem dX8_layFences_19 : decode cX8_layFences 19 = .ok (.getfield 109, 3) := by decide +kernel
theorem dX8_layFences_22 : decode cX8_layFences 22 = .ok (.if_icmp .ge 163, 3) := by decide +kernel
theorem dX8_layFences_25 : decode cX8_layFences 25 = .ok (.iload_n 1, 1) := by decide +kernel
theorem dX8_layFences_26 : decode cX8_layFences 26 = .ok (.iload_n 2, 1) := by decide +kernel
theorem dX8_layFences_27 : decode cX8_layFences 27 = .ok (.if_icmp .eq 7, 3) := by decide +kernel
theorem dX8_layFences_30 : decode cX8_layFences 30 = .ok (.iconst 1, 1) := by decide +kernel
theorem dX8_layFences_31 : decode cX8_layFences 31 = .ok (.goto 4, 3) := by decide +kernel
theorem dX8_layFences_34 : decode cX8_layFences 34 = .ok (.iconst 0, 1) := by decide +kernel
theorem dX8_layFences_35 : decode cX8_layFences 35 = .ok (.istore_n 3, 1) := by decide +kernel
theorem dX8_layFences_36 : decode cX8_layFences 36 = .ok (.iconst 0, 1) := by decide +kernel
theorem dX8_layFences_37 : decode cX8_layFences 37 = .ok (.istore 4, 2) := by decide +kernel
theorem dX8_layFences_39 : decode cX8_layFences 39 = .ok (.iload 4, 2) := by decide +kernel
theorem dX8_layFences_41 : decode cX8_layFences 41 = .ok (.aload_n 0, 1) := by decide +kernel
theorem dX8_layFences_42 : decode cX8_layFences 42 = .ok (.getfield 109, 3) := by decide +kernel
theorem dX8_layFences_45 : decode cX8_layFences 45 = .ok (.if_icmp .ge 42, 3) := by decide +kernel
theorem dX8_layFences_48 : decode cX8_layFences 48 = .ok (.iload_n 3, 1) := by decide +kernel
theorem dX8_layFences_49 : decode cX8_layFences 49 = .ok (.ifCond .eq 38, 3) := by decide +kernel
theorem dX8_layFences_52 : decode cX8_layFences 52 = .ok (.iload 4, 2) := by decide +kernel
theorem dX8_layFences_54 : decode cX8_layFences 54 = .ok (.iload_n 1, 1) := by decide +kernel
theorem dX8_layFences_55 : decode cX8_layFences 55 = .ok (.if_icmp .eq 20, 3) := by decide +kernel
theorem dX8_layFences_58 : decode cX8_layFences 58 = .ok (.iload 4, 2) := by decide +kernel
theorem dX8_layFences_60 : decode cX8_layFences 60 = .ok (.iload_n 2, 1) := by decide +kernel
theorem dX8_layFences_61 : decode cX8_layFences 61 = .ok (.if_icmp .eq 14, 3) := by decide +kernel
theorem dX8_layFences_64 : decode cX8_layFences 64 = .ok (.aload_n 0, 1) := by decide +kernel
theorem dX8_layFences_65 : decode cX8_layFences 65 = .ok (.iload_n 1, 1) := by decide +kernel
theorem dX8_layFences_66 : decode cX8_layFences 66 = .ok (.iload_n 2, 1) := by decide +kernel
theorem dX8_layFences_67 : decode cX8_layFences 67 = .ok (.iload 4, 2) := by decide +kernel
theorem dX8_layFences_69 : decode cX8_layFences 69 = .ok (.invokevirtual 112, 3) := by decide +kernel
theorem dX8_layFences_72 : decode cX8_layFences 72 = .ok (.ifCond .ne 7, 3) := by decide +kernel
theorem dX8_layFences_75 : decode cX8_layFences 75 = .ok (.iconst 1, 1) := by decide +kernel
theorem dX8_layFences_76 : decode cX8_layFences 76 = .ok (.goto 4, 3) := by decide +kernel
theorem dX8_layFences_79 : decode cX8_layFences 79 = .ok (.iconst 0, 1) := by decide +kernel
theorem dX8_layFences_80 : decode cX8_layFences 80 = .ok (.istore_n 3, 1) := by decide +kernel
theorem dX8_layFences_81 : decode cX8_layFences 81 = .ok (.iinc 4 1, 3) := by decide +kernel
theorem dX8_layFences_84 : decode cX8_layFences 84 = .ok (.goto (-45), 3) := by decide +kernel
theorem dX8_layFences_87 : decode cX8_layFences 87 = .ok (.aload_n 0, 1) := by decide +kernel
theorem dX8_layFences_88 : decode cX8_layFences 88 = .ok (.getfield 38, 3) := by decide +kernel
theorem dX8_layFences_91 : decode cX8_layFences 91 = .ok (.bipush 8, 2) := by decide +kernel
theorem dX8_layFences_93 : decode cX8_layFences 93 = .ok (.iload_n 1, 1) := by decide +kernel
theorem dX8_layFences_94 : decode cX8_layFences 94 = .ok (.imul, 1) := by decide +kernel
theorem dX8_layFences_95 : decode cX8_layFences 95 = .ok (.iload_n 2, 1) := by decide +kernel
theorem dX8_layFences_96 : decode cX8_layFences 96 = .ok (.iadd, 1) := by decide +kernel
theorem dX8_layFences_97 : decode cX8_layFences 97 = .ok (.iload_n 3, 1) := by decide +kernel
theorem dX8_layFences_98 : decode cX8_layFences 98 = .ok (.ifCond .eq 10, 3) := by decide +kernel
theorem dX8_layFences_101 : decode cX8_layFences 101 = .ok (.aload_n 0, 1) := by decide +kernel
theorem dX8_layFences_102 : decode cX8_layFences 102 = .ok (.getfield 106, 3) := by decide +kernel
theorem dX8_layFences_105 : decode cX8_layFences 105 = .ok (.goto 5, 3) := by decide +kernel
theorem dX8_layFences_108 : decode cX8_layFences 108 = .ok (.bipush (-9), 2) := by decide +kernel
theorem dX8_layFences_110 : decode cX8_layFences 110 = .ok (.iastore, 1) := by decide +kernel
theorem dX8_layFences_111 : decode cX8_layFences 111 = .ok (.aload_n 0, 1) := by decide +kernel
theorem dX8_layFences_112 : decode cX8_layFences 112 = .ok (.getfield 38, 3) := by decide +kernel
theorem dX8_layFences_115 : decode cX8_layFences 115 = .ok (.bipush 8, 2) := by decide +kernel
theorem dX8_layFences_117 : decode cX8_layFences 117 = .ok (.iload_n 2, 1) := by decide +kernel
theorem dX8_layFences_118 : decode cX8_layFences 118 = .ok (.imul, 1) := by decide +kernel
theorem dX8_layFences_119 : decode cX8_layFences 119 = .ok (.iload_n 1, 1) := by decide +kernel
theorem dX8_layFences_120 : decode cX8_layFences 120 = .ok (.iadd, 1) := by decide +kernel
theorem dX8_layFences_121 : decode cX8_layFences 121 = .ok (.iload_n 3, 1) := by decide +kernel
theorem dX8_layFences_122 : decode cX8_layFences 122 = .ok (.ifCond .eq 10, 3) := by decide +kernel
theorem dX8_layFences_125 : decode cX8_layFences 125 = .ok (.aload_n 0, 1) := by decide +kernel
theorem dX8_layFences_126 : decode cX8_layFences 126 = .ok (.getfield 106, 3) := by decide +kernel
theorem dX8_layFences_129 : decode cX8_layFences 129 = .ok (.goto 5, 3) := by decide +kernel
theorem dX8_layFences_132 : decode cX8_layFences 132 = .ok (.bipush (-9), 2) := by decide +kernel
theorem dX8_layFences_134 : decode cX8_layFences 134 = .ok (.iastore, 1) := by decide +kernel
theorem dX8_layFences_135 : decode cX8_layFences 135 = .ok (.iload_n 3, 1) := by decide +kernel
theorem dX8_layFences_136 : decode cX8_layFences 136 = .ok (.ifCond .eq 43, 3) := by decide +kernel
theorem dX8_layFences_139 : decode cX8_layFences 139 = .ok (.aload_n 0, 1) := by decide +kernel
theorem dX8_layFences_140 : decode cX8_layFences 140 = .ok (.getfield 32, 3) := by decide +kernel
theorem dX8_layFences_143 : decode cX8_layFences 143 = .ok (.aload_n 0, 1) := by decide +kernel
theorem dX8_layFences_144 : decode cX8_layFences 144 = .ok (.getfield 106, 3) := by decide +kernel
theorem dX8_layFences_147 : decode cX8_layFences 147 = .ok (.iload_n 1, 1) := by decide +kernel
theorem dX8_layFences_148 : decode cX8_layFences 148 = .ok (.iastore, 1) := by decide +kernel
theorem dX8_layFences_149 : decode cX8_layFences 149 = .ok (.aload_n 0, 1) := by decide +kernel
theorem dX8_layFences_150 : decode cX8_layFences 150 = .ok (.getfield 35, 3) := by decide +kernel
theorem dX8_layFences_153 : decode cX8_layFences 153 = .ok (.aload_n 0, 1) := by decide +kernel
theorem dX8_layFences_154 : decode cX8_layFences 154 = .ok (.getfield 106, 3) := by decide +kernel
theorem dX8_layFences_157 : decode cX8_layFences 157 = .ok (.iload_n 2, 1) := by decide +kernel
theorem dX8_layFences_158 : decode cX8_layFences 158 = .ok (.iastore, 1) := by decide +kernel
theorem dX8_layFences_159 : decode cX8_layFences 159 = .ok (.aload_n 0, 1) := by decide +kernel
theorem dX8_layFences_160 : decode cX8_layFences 160 = .ok (.getfield 44, 3) := by decide +kernel
theorem dX8_layFences_163 : decode cX8_layFences 163 = .ok (.aload_n 0, 1) := by decide +kernel
theorem dX8_layFences_164 : decode cX8_layFences 164 = .ok (.getfield 106, 3) := by decide +kernel
theorem dX8_layFences_167 : decode cX8_layFences 167 = .ok (.iconst 0, 1) := by decide +kernel
theorem dX8_layFences_168 : decode cX8_layFences 168 = .ok (.iastore, 1) := by decide +kernel
theorem dX8_layFences_169 : decode cX8_layFences 169 = .ok (.aload_n 0, 1) := by decide +kernel
theorem dX8_layFences_170 : decode cX8_layFences 170 = .ok (.dup, 1) := by decide +kernel
theorem dX8_layFences_171 : decode cX8_layFences 171 = .ok (.getfield 106, 3) := by decide +kernel
theorem dX8_layFences_174 : decode cX8_layFences 174 = .ok (.iconst 1, 1) := by decide +kernel
theorem dX8_layFences_175 : decode cX8_layFences 175 = .ok (.iadd, 1) := by decide +kernel
theorem dX8_layFences_176 : decode cX8_layFences 176 = .ok (.putfield 106, 3) := by decide +kernel
theorem dX8_layFences_179 : decode cX8_layFences 179 = .ok (.iinc 2 1, 3) := by decide +kernel
theorem dX8_layFences_182 : decode cX8_layFences 182 = .ok (.goto (-165), 3) := by decide +kernel
theorem dX8_layFences_185 : decode cX8_layFences 185 = .ok (.iinc 1 1, 3) := by decide +kernel
theorem dX8_layFences_188 : decode cX8_layFences 188 = .ok (.goto (-181), 3) := by decide +kernel
theorem dX8_layFences_191 : decode cX8_layFences 191 = .ok (.iconst 0, 1) := by decide +kernel
theorem dX8_layFences_192 : decode cX8_layFences 192 = .ok (.istore_n 1, 1) := by decide +kernel
theorem dX8_layFences_193 : decode cX8_layFences 193 = .ok (.iload_n 1, 1) := by decide +kernel
theorem dX8_layFences_194 : decode cX8_layFences 194 = .ok (.aload_n 0, 1) := by decide +kernel
theorem dX8_layFences_195 : decode cX8_layFences 195 = .ok (.getfield 106, 3) := by decide +kernel
theorem dX8_layFences_198 : decode cX8_layFences 198 = .ok (.if_icmp .ge 62, 3) := by decide +kernel
theorem dX8_layFences_201 : decode cX8_layFences 201 = .ok (.aload_n 0, 1) := by decide +kernel
theorem dX8_layFences_202 : decode cX8_layFences 202 = .ok (.getfield 41, 3) := by decide +kernel
theorem dX8_layFences_205 : decode cX8_layFences 205 = .ok (.iload_n 1, 1) := by decide +kernel
theorem dX8_layFences_206 : decode cX8_layFences 206 = .ok (.iconst 0, 1) := by decide +kernel
theorem dX8_layFences_207 : decode cX8_layFences 207 = .ok (.iastore, 1) := by decide +kernel
theorem dX8_layFences_208 : decode cX8_layFences 208 = .ok (.iconst 0, 1) := by decide +kernel
theorem dX8_layFences_209 : decode cX8_layFences 209 = .ok (.istore_n 2, 1) := by decide +kernel
theorem dX8_layFences_210 : decode cX8_layFences 210 = .ok (.iload_n 2, 1) := by decide +kernel
theorem dX8_layFences_211 : decode cX8_layFences 211 = .ok (.aload_n 0, 1) := by decide +kernel
theorem dX8_layFences_212 : decode cX8_layFences 212 = .ok (.getfield 106, 3) := by decide +kernel
theorem dX8_layFences_215 : decode cX8_layFences 215 = .ok (.if_icmp .ge 39, 3) := by decide +kernel
theorem dX8_layFences_218 : decode cX8_layFences 218 = .ok (.aload_n 0, 1) := by decide +kernel
theorem dX8_layFences_219 : decode cX8_layFences 219 = .ok (.getfield 41, 3) := by decide +kernel
theorem dX8_layFences_222 : decode cX8_layFences 222 = .ok (.iload_n 1, 1) := by decide +kernel
theorem dX8_layFences_223 : decode cX8_layFences 223 = .ok (.dup2, 1) := by decide +kernel
theorem dX8_layFences_224 : decode cX8_layFences 224 = .ok (.iaload, 1) := by decide +kernel
theorem dX8_layFences_225 : decode cX8_layFences 225 = .ok (.iload_n 2, 1) := by decide +kernel
theorem dX8_layFences_226 : decode cX8_layFences 226 = .ok (.iload_n 1, 1) := by decide +kernel
theorem dX8_layFences_227 : decode cX8_layFences 227 = .ok (.if_icmp .eq 18, 3) := by decide +kernel
theorem dX8_layFences_230 : decode cX8_layFences 230 = .ok (.aload_n 0, 1) := by decide +kernel
theorem dX8_layFences_231 : decode cX8_layFences 231 = .ok (.iload_n 1, 1) := by decide +kernel
theorem dX8_layFences_232 : decode cX8_layFences 232 = .ok (.iload_n 2, 1) := by decide +kernel
theorem dX8_layFences_233 : decode cX8_layFences 233 = .ok (.invokevirtual 116, 3) := by decide +kernel
theorem dX8_layFences_236 : decode cX8_layFences 236 = .ok (.ifCond .eq 9, 3) := by decide +kernel
theorem dX8_layFences_239 : decode cX8_layFences 239 = .ok (.iconst 1, 1) := by decide +kernel
theorem dX8_layFences_240 : decode cX8_layFences 240 = .ok (.iload_n 2, 1) := by decide +kernel
theorem dX8_layFences_241 : decode cX8_layFences 241 = .ok (.ishl, 1) := by decide +kernel
theorem dX8_layFences_242 : decode cX8_layFences 242 = .ok (.goto 4, 3) := by decide +kernel
theorem dX8_layFences_245 : decode cX8_layFences 245 = .ok (.iconst 0, 1) := by decide +kernel
theorem dX8_layFences_246 : decode cX8_layFences 246 = .ok (.ior, 1) := by decide +kernel
theorem dX8_layFences_247 : decode cX8_layFences 247 = .ok (.iastore, 1) := by decide +kernel
theorem dX8_layFences_248 : decode cX8_layFences 248 = .ok (.iinc 2 1, 3) := by decide +kernel
theorem dX8_layFences_251 : decode cX8_layFences 251 = .ok (.goto (-41), 3) := by decide +kernel
theorem dX8_layFences_254 : decode cX8_layFences 254 = .ok (.iinc 1 1, 3) := by decide +kernel
theorem dX8_layFences_257 : decode cX8_layFences 257 = .ok (.goto (-64), 3) := by decide +kernel
theorem dX8_layFences_260 : decode cX8_layFences 260 = .ok (.return_, 1) := by decide +kernel
set_option maxRecDepth 20000 in
theorem ggX8_findCuttings_X8_isGreatest : GoodIn wsX8_findCuttings wsX8_isGreatest := goodIn_r _ [10, 2, 4, 11, 12, 13, 14, 15, 16, 17, 18, 19, 20, 21, 22, 23, 24, 25, 26, 27, 28, 29, 30, 31, 32, 33, 34, 35, 36, 37, 38, 39, 40, 41, 42, 43, 44] (by decide +kernel) (by decide +kernel)
set_option maxRecDepth 20000 in
theorem gX8_findCuttings_X8_isGreatest : GoodIn wsX8_findCuttings (wsV RX8 123 RX8 yX8_isGreatest wsX8_isGreatest) := goodIn_app (goodIn_of _ (by decide +kernel)) ggX8_findCuttings_X8_isGreatest
theorem dX8_findCuttings_0 : decode cX8_findCuttings 0 = .ok (.aload_n 0, 1) := by decide +kernel
theorem dX8_findCuttings_1 : decode cX8_findCuttings 1 = .ok (.iconst 0, 1) := by decide +kernel
theorem dX8_findCuttings_2 : decode cX8_findCuttings 2 = .ok (.putfield 120, 3) := by decide +kernel
theorem dX8_findCuttings_5 : decode cX8_findCuttings 5 = .ok (.aload_n 0, 1) := by decide +kernel
theorem dX8_findCuttings_6 : decode cX8_findCuttings 6 = .ok (.getfield 106, 3) := by decide +kernel
theorem dX8_findCuttings_9 : decode cX8_findCuttings 9 = .ok (.iconst 1, 1) := by decide +kernel
theorem dX8_findCuttings_10 : decode cX8_findCuttings 10 = .ok (.isub, 1) := by decide +kernel
theorem dX8_findCuttings_11 : decode cX8_findCuttings 11 = .ok (.istore_n 1, 1) := by decide +kernel
theorem dX8_findCuttings_12 : decode cX8_findCuttings 12 = .ok (.iconst 0, 1) := by decide +kernel
theorem dX8_findCuttings_13 : decode cX8_findCuttings 13 = .ok (.istore_n 2, 1) := by decide +kernel
theorem dX8_findCuttings_14 : decode cX8_findCuttings 14 = .ok (.aload_n 0, 1) := by decide +kernel
theorem dX8_findCuttings_15 : decode cX8_findCuttings 15 = .ok (.getfield 71, 3) := by decide +kernel
theorem dX8_findCuttings_18 : decode cX8_findCuttings 18 = .ok (.iload_n 1, 1) := by decide +kernel
theorem dX8_findCuttings_19 : decode cX8_findCuttings 19 = .ok (.iconst 0, 1) := by decide +kernel
theorem dX8_findCuttings_20 : decode cX8_findCuttings 20 = .ok (.iastore, 1) := by decide +kernel
theorem dX8_findCuttings_21 : decode cX8_findCuttings 21 = .ok (.iload_n 1, 1) := by decide +kernel
theorem dX8_findCuttings_22 : decode cX8_findCuttings 22 = .ok (.aload_n 0, 1) := by decide +kernel
theorem dX8_findCuttings_23 : decode cX8_findCuttings 23 = .ok (.getfield 106, 3) := by decide +kernel
theorem dX8_findCuttings_26 : decode cX8_findCuttings 26 = .ok (.if_icmp .ge 161, 3) := by decide +kernel
theorem dX8_findCuttings_29 : decode cX8_findCuttings 29 = .ok (.aload_n 0, 1) := by decide +kernel
theorem dX8_findCuttings_30 : decode cX8_findCuttings 30 = .ok (.getfield 71, 3) := by decide +kernel
theorem dX8_findCuttings_33 : decode cX8_findCuttings 33 = .ok (.iload_n 1, 1) := by decide +kernel
theorem dX8_findCuttings_34 : decode cX8_findCuttings 34 = .ok (.iaload, 1) := by decide +kernel
theorem dX8_findCuttings_35 : decode cX8_findCuttings 35 = .ok (.istore_n 3, 1) := by decide +kernel
theorem dX8_findCuttings_36 : decode cX8_findCuttings 36 = .ok (.iload_n 2, 1) := by decide +kernel
theorem dX8_findCuttings_37 : decode cX8_findCuttings 37 = .ok (.iconst 1, 1) := by decide +kernel
theorem dX8_findCuttings_38 : decode cX8_findCuttings 38 = .ok (.iload_n 1, 1) := by decide +kernel
theorem dX8_findCuttings_39 : decode cX8_findCuttings 39 = .ok (.ishl, 1) := by decide +kernel
theorem dX8_findCuttings_40 : decode cX8_findCuttings 40 = .ok (.iconst (-1), 1) := by decide +kernel
theorem dX8_findCuttings_41 : decode cX8_findCuttings 41 = .ok (.ixor, 1) := by decide +kernel
theorem dX8_findCuttings_42 : decode cX8_findCuttings 42 = .ok (.iand, 1) := by decide +kernel
theorem dX8_findCuttings_43 : decode cX8_findCuttings 43 = .ok (.istore_n 2, 1) := by decide +kernel
theorem dX8_findCuttings_44 : decode cX8_findCuttings 44 = .ok (.iload_n 3, 1) := by decide +kernel
theorem dX8_findCuttings_45 : decode cX8_findCuttings 45 = .ok (.iconst 1, 1) := by decide +kernel
theorem dX8_findCuttings_46 : decode cX8_findCuttings 46 = .ok (.if_icmp .le 9, 3) := by decide +kernel
theorem dX8_findCuttings_49 : decode cX8_findCuttings 49 = .ok (.iinc 1 1, 3) := by decide +kernel
theorem dX8_findCuttings_52 : decode cX8_findCuttings 52 = .ok (.goto (-31), 3) := by decide +kernel
theorem dX8_findCuttings_55 : decode cX8_findCuttings 55 = .ok (.aload_n 0, 1) := by decide +kernel
theorem dX8_findCuttings_56 : decode cX8_findCuttings 56 = .ok (.getfield 71, 3) := by decide +kernel
theorem dX8_findCuttings_59 : decode cX8_findCuttings 59 = .ok (.iload_n 1, 1) := by decide +kernel
theorem dX8_findCuttings_60 : decode cX8_findCuttings 60 = .ok (.dup2, 1) := by decide +kernel
theorem dX8_findCuttings_61 : decode cX8_findCuttings 61 = .ok (.iaload, 1) := by decide +kernel
theorem dX8_findCuttings_62 : decode cX8_findCuttings 62 = .ok (.iconst 1, 1) := by decide +kernel
theorem dX8_findCuttings_63 : decode cX8_findCuttings 63 = .ok (.iadd, 1) := by decide +kernel
theorem dX8_findCuttings_64 : decode cX8_findCuttings 64 = .ok (.iastore, 1) := by decide +kernel
theorem dX8_findCuttings_65 : decode cX8_findCuttings 65 = .ok (.iload_n 3, 1) := by decide +kernel
theorem dX8_findCuttings_66 : decode cX8_findCuttings 66 = .ok (.ifCond .ne 30, 3) := by decide +kernel
theorem dX8_findCuttings_69 : decode cX8_findCuttings 69 = .ok (.aload_n 0, 1) := by decide +kernel
theorem dX8_findCuttings_70 : decode cX8_findCuttings 70 = .ok (.getfield 41, 3) := by decide +kernel
theorem dX8_findCuttings_73 : decode cX8_findCuttings 73 = .ok (.iload_n 1, 1) := by decide +kernel
theorem dX8_findCuttings_74 : decode cX8_findCuttings 74 = .ok (.iaload, 1) := by decide +kernel
theorem dX8_findCuttings_75 : decode cX8_findCuttings 75 = .ok (.iload_n 2, 1) := by decide +kernel
theorem dX8_findCuttings_76 : decode cX8_findCuttings 76 = .ok (.iconst 1, 1) := by decide +kernel
theorem dX8_findCuttings_77 : decode cX8_findCuttings 77 = .ok (.iload_n 1, 1) := by decide +kernel
theorem dX8_findCuttings_78 : decode cX8_findCuttings 78 = .ok (.ishl, 1) := by decide +kernel
theorem dX8_findCuttings_79 : decode cX8_findCuttings 79 = .ok (.iconst 1, 1) := by decide +kernel
theorem dX8_findCuttings_80 : decode cX8_findCuttings 80 = .ok (.isub, 1) := by decide +kernel
theorem dX8_findCuttings_81 : decode cX8_findCuttings 81 = .ok (.ior, 1) := by decide +kernel
theorem dX8_findCuttings_82 : decode cX8_findCuttings 82 = .ok (.iand, 1) := by decide +kernel
theorem dX8_findCuttings_83 : decode cX8_findCuttings 83 = .ok (.ifCond .eq 7, 3) := by decide +kernel
theorem dX8_findCuttings_86 : decode cX8_findCuttings 86 = .ok (.iconst 1, 1) := by decide +kernel
theorem dX8_findCuttings_87 : decode cX8_findCuttings 87 = .ok (.goto 4, 3) := by decide +kernel
theorem dX8_findCuttings_90 : decode cX8_findCuttings 90 = .ok (.iconst 0, 1) := by decide +kernel
theorem dX8_findCuttings_91 : decode cX8_findCuttings 91 = .ok (.istore 4, 2) := by decide +kernel
theorem dX8_findCuttings_93 : decode cX8_findCuttings 93 = .ok (.goto 36, 3) := by decide +kernel
theorem dX8_findCuttings_96 : decode cX8_findCuttings 96 = .ok (.aload_n 0, 1) := by decide +kernel
theorem dX8_findCuttings_97 : decode cX8_findCuttings 97 = .ok (.getfield 41, 3) := by decide +kernel
theorem dX8_findCuttings_100 : decode cX8_findCuttings 100 = .ok (.iload_n 1, 1) := by decide +kernel
theorem dX8_findCuttings_101 : decode cX8_findCuttings 101 = .ok (.iaload, 1) := by decide +kernel
theorem dX8_findCuttings_102 : decode cX8_findCuttings 102 = .ok (.iload_n 2, 1) := by decide +kernel
theorem dX8_findCuttings_103 : decode cX8_findCuttings 103 = .ok (.iand, 1) := by decide +kernel
theorem dX8_findCuttings_104 : decode cX8_findCuttings 104 = .ok (.ifCond .ne 7, 3) := by decide +kernel
theorem dX8_findCuttings_107 : decode cX8_findCuttings 107 = .ok (.iconst 1, 1) := by decide +kernel
theorem dX8_findCuttings_108 : decode cX8_findCuttings 108 = .ok (.goto 4, 3) := by decide +kernel
theorem dX8_findCuttings_111 : decode cX8_findCuttings 111 = .ok (.iconst 0, 1) := by decide +kernel
theorem dX8_findCuttings_112 : decode cX8_findCuttings 112 = .ok (.istore 4, 2) := by decide +kernel
theorem dX8_findCuttings_114 : decode cX8_findCuttings 114 = .ok (.iload_n 2, 1) := by decide +kernel
theorem dX8_findCuttings_115 : decode cX8_findCuttings 115 = .ok (.iload 4, 2) := by decide +kernel
theorem dX8_findCuttings_117 : decode cX8_findCuttings 117 = .ok (.ifCond .eq 9, 3) := by decide +kernel
theorem dX8_findCuttings_120 : decode cX8_findCuttings 120 = .ok (.iconst 1, 1) := by decide +kernel
theorem dX8_findCuttings_121 : decode cX8_findCuttings 121 = .ok (.iload_n 1, 1) := by decide +kernel
theorem dX8_findCuttings_122 : decode cX8_findCuttings 122 = .ok (.ishl, 1) := by decide +kernel
theorem dX8_findCuttings_123 : decode cX8_findCuttings 123 = .ok (.goto 4, 3) := by decide +kernel
theorem dX8_findCuttings_126 : decode cX8_findCuttings 126 = .ok (.iconst 0, 1) := by decide +kernel
theorem dX8_findCuttings_127 : decode cX8_findCuttings 127 = .ok (.ior, 1) := by decide +kernel
theorem dX8_findCuttings_128 : decode cX8_findCuttings 128 = .ok (.istore_n 2, 1) := by decide +kernel
theorem dX8_findCuttings_129 : decode cX8_findCuttings 129 = .ok (.iload 4, 2) := by decide +kernel
theorem dX8_findCuttings_131 : decode cX8_findCuttings 131 = .ok (.ifCond .eq 38, 3) := by decide +kernel
theorem dX8_findCuttings_134 : decode cX8_findCuttings 134 = .ok (.iload_n 1, 1) := by decide +kernel
theorem dX8_findCuttings_135 : decode cX8_findCuttings 135 = .ok (.ifCond .ne 34, 3) := by decide +kernel
theorem dX8_findCuttings_138 : decode cX8_findCuttings 138 = .ok (.aload_n 0, 1) := by decide +kernel
theorem dX8_findCuttings_139 : decode cX8_findCuttings 139 = .ok (.iload_n 2, 1) := by decide +kernel
theorem dX8_findCuttings_140 : decode cX8_findCuttings 140 = .ok (.invokevirtual 123, 3) := by decide +kernel
theorem dX8_findCuttings_143 : decode cX8_findCuttings 143 = .ok (.ifCond .eq 41, 3) := by decide +kernel
theorem dX8_findCuttings_146 : decode cX8_findCuttings 146 = .ok (.aload_n 0, 1) := by decide +kernel
theorem dX8_findCuttings_147 : decode cX8_findCuttings 147 = .ok (.getfield 47, 3) := by decide +kernel
theorem dX8_findCuttings_150 : decode cX8_findCuttings 150 = .ok (.aload_n 0, 1) := by decide +kernel
theorem dX8_findCuttings_151 : decode cX8_findCuttings 151 = .ok (.getfield 120, 3) := by decide +kernel
theorem dX8_findCuttings_154 : decode cX8_findCuttings 154 = .ok (.iload_n 2, 1) := by decide +kernel
theorem dX8_findCuttings_155 : decode cX8_findCuttings 155 = .ok (.iastore, 1) := by decide +kernel
theorem dX8_findCuttings_156 : decode cX8_findCuttings 156 = .ok (.aload_n 0, 1) := by decide +kernel
theorem dX8_findCuttings_157 : decode cX8_findCuttings 157 = .ok (.dup, 1) := by decide +kernel
theorem dX8_findCuttings_158 : decode cX8_findCuttings 158 = .ok (.getfield 120, 3) := by decide +kernel
theorem dX8_findCuttings_161 : decode cX8_findCuttings 161 = .ok (.iconst 1, 1) := by decide +kernel
theorem dX8_findCuttings_162 : decode cX8_findCuttings 162 = .ok (.iadd, 1) := by decide +kernel
theorem dX8_findCuttings_163 : decode cX8_findCuttings 163 = .ok (.putfield 120, 3) := by decide +kernel
theorem dX8_findCuttings_166 : decode cX8_findCuttings 166 = .ok (.goto 18, 3) := by decide +kernel
theorem dX8_findCuttings_169 : decode cX8_findCuttings 169 = .ok (.iload 4, 2) := by decide +kernel
theorem dX8_findCuttings_171 : decode cX8_findCuttings 171 = .ok (.ifCond .eq 13, 3) := by decide +kernel
theorem dX8_findCuttings_174 : decode cX8_findCuttings 174 = .ok (.iinc 1 (-1), 3) := by decide +kernel
theorem dX8_findCuttings_177 : decode cX8_findCuttings 177 = .ok (.aload_n 0, 1) := by decide +kernel
theorem dX8_findCuttings_178 : decode cX8_findCuttings 178 = .ok (.getfield 71, 3) := by decide +kernel
theorem dX8_findCuttings_181 : decode cX8_findCuttings 181 = .ok (.iload_n 1, 1) := by decide +kernel
theorem dX8_findCuttings_182 : decode cX8_findCuttings 182 = .ok (.iconst 0, 1) := by decide +kernel
theorem dX8_findCuttings_183 : decode cX8_findCuttings 183 = .ok (.iastore, 1) := by decide +kernel
theorem dX8_findCuttings_184 : decode cX8_findCuttings 184 = .ok (.goto (-163), 3) := by decide +kernel
theorem dX8_findCuttings_187 : decode cX8_findCuttings 187 = .ok (.return_, 1) := by decide +kernel
theorem dX8_isGreatest_0 : decode cX8_isGreatest 0 = .ok (.iconst 0, 1) := by decide +kernel
theorem dX8_isGreatest_1 : decode cX8_isGreatest 1 = .ok (.istore_n 2, 1) := by decide +kernel
theorem dX8_isGreatest_2 : decode cX8_isGreatest 2 = .ok (.iload_n 2, 1) := by decide +kernel
theorem dX8_isGreatest_3 : decode cX8_isGreatest 3 = .ok (.aload_n 0, 1) := by decide +kernel
theorem dX8_isGreatest_4 : decode cX8_isGreatest 4 = .ok (.getfield 106, 3) := by decide +kernel
theorem dX8_isGreatest_7 : decode cX8_isGreatest 7 = .ok (.if_icmp .ge 30, 3) := by decide +kernel
theorem dX8_isGreatest_10 : decode cX8_isGreatest 10 = .ok (.iload_n 1, 1) := by decide +kernel
theorem dX8_isGreatest_11 : decode cX8_isGreatest 11 = .ok (.iload_n 2, 1) := by decide +kernel
theorem dX8_isGreatest_12 : decode cX8_isGreatest 12 = .ok (.ishr, 1) := by decide +kernel
theorem dX8_isGreatest_13 : decode cX8_isGreatest 13 = .ok (.iconst 1, 1) := by decide +kernel
theorem dX8_isGreatest_14 : decode cX8_isGreatest 14 = .ok (.iand, 1) := by decide +kernel
theorem dX8_isGreatest_15 : decode cX8_isGreatest 15 = .ok (.ifCond .ne 16, 3) := by decide +kernel
theorem dX8_isGreatest_18 : decode cX8_isGreatest 18 = .ok (.aload_n 0, 1) := by decide +kernel
theorem dX8_isGreatest_19 : decode cX8_isGreatest 19 = .ok (.getfield 41, 3) := by decide +kernel
theorem dX8_isGreatest_22 : decode cX8_isGreatest 22 = .ok (.iload_n 2, 1) := by decide +kernel
theorem dX8_isGreatest_23 : decode cX8_isGreatest 23 = .ok (.iaload, 1) := by decide +kernel
theorem dX8_isGreatest_24 : decode cX8_isGreatest 24 = .ok (.iload_n 1, 1) := by decide +kernel
theorem dX8_isGreatest_25 : decode cX8_isGreatest 25 = .ok (.iand, 1) := by decide +kernel
theorem dX8_isGreatest_26 : decode cX8_isGreatest 26 = .ok (.ifCond .ne 5, 3) := by decide +kernel
theorem dX8_isGreatest_29 : decode cX8_isGreatest 29 = .ok (.iconst 0, 1) := by decide +kernel
theorem dX8_isGreatest_30 : decode cX8_isGreatest 30 = .ok (.ireturn, 1) := by decide +kernel
theorem dX8_isGreatest_31 : decode cX8_isGreatest 31 = .ok (.iinc 2 1, 3) := by decide +kernel
theorem dX8_isGreatest_34 : decode cX8_isGreatest 34 = .ok (.goto (-32), 3) := by decide +kernel
theorem dX8_isGreatest_37 : decode cX8_isGreatest 37 = .ok (.iconst 1, 1) := by decide +kernel
theorem dX8_isGreatest_38 : decode cX8_isGreatest 38 = .ok (.ireturn, 1) := by decide +kernel
theorem dX8_findAsked_0 : decode cX8_findAsked 0 = .ok (.aload_n 0, 1) := by decide +kernel
theorem dX8_findAsked_1 : decode cX8_findAsked 1 = .ok (.iconst 0, 1) := by decide +kernel
theorem dX8_findAsked_2 : decode cX8_findAsked 2 = .ok (.putfield 127, 3) := by decide +kernel
theorem dX8_findAsked_5 : decode cX8_findAsked 5 = .ok (.iconst 0, 1) := by decide +kernel
theorem dX8_findAsked_6 : decode cX8_findAsked 6 = .ok (.istore_n 1, 1) := by decide +kernel
theorem dX8_findAsked_7 : decode cX8_findAsked 7 = .ok (.iload_n 1, 1) := by decide +kernel
theorem dX8_findAsked_8 : decode cX8_findAsked 8 = .ok (.aload_n 0, 1) := by decide +kernel
theorem dX8_findAsked_9 : decode cX8_findAsked 9 = .ok (.getfield 120, 3) := by decide +kernel
theorem dX8_findAsked_12 : decode cX8_findAsked 12 = .ok (.if_icmp .ge 66, 3) := by decide +kernel
theorem dX8_findAsked_15 : decode cX8_findAsked 15 = .ok (.aload_n 0, 1) := by decide +kernel
theorem dX8_findAsked_16 : decode cX8_findAsked 16 = .ok (.getfield 47, 3) := by decide +kernel
theorem dX8_findAsked_19 : decode cX8_findAsked 19 = .ok (.iload_n 1, 1) := by decide +kernel
theorem dX8_findAsked_20 : decode cX8_findAsked 20 = .ok (.iaload, 1) := by decide +kernel
theorem dX8_findAsked_21 : decode cX8_findAsked 21 = .ok (.aload_n 0, 1) := by decide +kernel
theorem dX8_findAsked_22 : decode cX8_findAsked 22 = .ok (.getfield 130, 3) := by decide +kernel
theorem dX8_findAsked_25 : decode cX8_findAsked 25 = .ok (.iand, 1) := by decide +kernel
theorem dX8_findAsked_26 : decode cX8_findAsked 26 = .ok (.aload_n 0, 1) := by decide +kernel
theorem dX8_findAsked_27 : decode cX8_findAsked 27 = .ok (.getfield 130, 3) := by decide +kernel
theorem dX8_findAsked_30 : decode cX8_findAsked 30 = .ok (.if_icmp .ne 42, 3) := by decide +kernel
theorem dX8_findAsked_33 : decode cX8_findAsked 33 = .ok (.aload_n 0, 1) := by decide +kernel
theorem dX8_findAsked_34 : decode cX8_findAsked 34 = .ok (.getfield 47, 3) := by decide +kernel
theorem dX8_findAsked_37 : decode cX8_findAsked 37 = .ok (.iload_n 1, 1) := by decide +kernel
theorem dX8_findAsked_38 : decode cX8_findAsked 38 = .ok (.iaload, 1) := by decide +kernel
theorem dX8_findAsked_39 : decode cX8_findAsked 39 = .ok (.aload_n 0, 1) := by decide +kernel
theorem dX8_findAsked_40 : decode cX8_findAsked 40 = .ok (.getfield 133, 3) := by decide +kernel
theorem dX8_findAsked_43 : decode cX8_findAsked 43 = .ok (.iand, 1) := by decide +kernel
theorem dX8_findAsked_44 : decode cX8_findAsked 44 = .ok (.ifCond .ne 28, 3) := by decide +kernel
theorem dX8_findAsked_47 : decode cX8_findAsked 47 = .ok (.aload_n 0, 1) := by decide +kernel
theorem dX8_findAsked_48 : decode cX8_findAsked 48 = .ok (.getfield 50, 3) := by decide +kernel
theorem dX8_findAsked_51 : decode cX8_findAsked 51 = .ok (.aload_n 0, 1) := by decide +kernel
theorem dX8_findAsked_52 : decode cX8_findAsked 52 = .ok (.getfield 127, 3) := by decide +kernel
theorem dX8_findAsked_55 : decode cX8_findAsked 55 = .ok (.aload_n 0, 1) := by decide +kernel
theorem dX8_findAsked_56 : decode cX8_findAsked 56 = .ok (.getfield 47, 3) := by decide +kernel
theorem dX8_findAsked_59 : decode cX8_findAsked 59 = .ok (.iload_n 1, 1) := by decide +kernel
theorem dX8_findAsked_60 : decode cX8_findAsked 60 = .ok (.iaload, 1) := by decide +kernel
theorem dX8_findAsked_61 : decode cX8_findAsked 61 = .ok (.iastore, 1) := by decide +kernel
theorem dX8_findAsked_62 : decode cX8_findAsked 62 = .ok (.aload_n 0, 1) := by decide +kernel
theorem dX8_findAsked_63 : decode cX8_findAsked 63 = .ok (.dup, 1) := by decide +kernel
theorem dX8_findAsked_64 : decode cX8_findAsked 64 = .ok (.getfield 127, 3) := by decide +kernel
theorem dX8_findAsked_67 : decode cX8_findAsked 67 = .ok (.iconst 1, 1) := by decide +kernel
theorem dX8_findAsked_68 : decode cX8_findAsked 68 = .ok (.iadd, 1) := by decide +kernel
theorem dX8_findAsked_69 : decode cX8_findAsked 69 = .ok (.putfield 127, 3) := by decide +kernel
theorem dX8_findAsked_72 : decode cX8_findAsked 72 = .ok (.iinc 1 1, 3) := by decide +kernel
theorem dX8_findAsked_75 : decode cX8_findAsked 75 = .ok (.goto (-68), 3) := by decide +kernel
theorem dX8_findAsked_78 : decode cX8_findAsked 78 = .ok (.return_, 1) := by decide +kernel
set_option maxRecDepth 20000 in
theorem ggX8_lay_X8_layFences : GoodIn wsX8_lay wsX8_layFences := goodIn_r _ [19, 14, 3, 20, 21, 22, 23, 24, 25, 26, 27, 18, 28, 4, 6, 29, 30, 31, 32, 33, 34, 35, 36, 53, 54, 55, 56, 57, 58, 59, 60, 61, 62, 63, 64, 65, 66, 67, 68, 69, 70, 71, 72, 73, 74, 75, 76, 77, 78, 79, 80, 81, 82, 83, 84, 85, 86] (by decide +kernel) (by decide +kernel)
set_option maxRecDepth 20000 in
theorem gX8_lay_X8_layFences : GoodIn wsX8_lay (wsV RX8 136 RX8 yX8_layFences wsX8_layFences) := goodIn_app (goodIn_of _ (by decide +kernel)) ggX8_lay_X8_layFences
set_option maxRecDepth 20000 in
theorem ggX8_lay_X8_findCuttings : GoodIn wsX8_lay wsX8_findCuttings := goodIn_r _ [40, 41, 14, 42, 24, 43, 44, 45, 46, 18, 47, 53, 54, 55, 56, 57, 58, 59, 60, 61, 62, 63, 64, 65, 66, 67, 68, 69, 70, 71, 72, 73, 74, 75, 76, 77, 78, 79, 80, 81, 82, 83, 84, 85, 86] (by decide +kernel) (by decide +kernel)
set_option maxRecDepth 20000 in
theorem gX8_lay_X8_findCuttings : GoodIn wsX8_lay (wsV RX8 139 RX8 yX8_findCuttings wsX8_findCuttings) := goodIn_app (goodIn_of _ (by decide +kernel)) ggX8_lay_X8_findCuttings
set_option maxRecDepth 20000 in
theorem ggX8_lay_X8_findAsked : GoodIn wsX8_lay wsX8_findAsked := goodIn_r _ [51, 52, 41, 43, 8, 9, 10, 53, 54, 55, 56, 57, 58, 59, 60, 61, 62, 63, 64, 65, 66, 67, 68, 69, 70, 71, 72, 73, 74, 75, 76, 77, 78, 79, 80, 81, 82, 83, 84, 85, 86] (by decide +kernel) (by decide +kernel)
set_option maxRecDepth 20000 in
theorem gX8_lay_X8_findAsked : GoodIn wsX8_lay (wsV RX8 142 RX8 yX8_findAsked wsX8_findAsked) := goodIn_app (goodIn_of _ (by decide +kernel)) ggX8_lay_X8_findAsked
theorem dX8_lay_0 : decode cX8_lay 0 = .ok (.aload_n 0, 1) := by decide +kernel
theorem dX8_lay_1 : decode cX8_lay 1 = .ok (.iconst 0, 1) := by decide +kernel
theorem dX8_lay_2 : decode cX8_lay 2 = .ok (.putfield 74, 3) := by decide +kernel
theorem dX8_lay_5 : decode cX8_lay 5 = .ok (.aload_n 0, 1) := by decide +kernel
theorem dX8_lay_6 : decode cX8_lay 6 = .ok (.getfield 95, 3) := by decide +kernel
theorem dX8_lay_9 : decode cX8_lay 9 = .ok (.iconst 3, 1) := by decide +kernel
theorem dX8_lay_10 : decode cX8_lay 10 = .ok (.if_icmp .ge 6, 3) := by decide +kernel
theorem dX8_lay_13 : decode cX8_lay 13 = .ok (.bipush (-3), 2) := by decide +kernel
theorem dX8_lay_15 : decode cX8_lay 15 = .ok (.ireturn, 1) := by decide +kernel
theorem dX8_lay_16 : decode cX8_lay 16 = .ok (.aload_n 0, 1) := by decide +kernel
theorem dX8_lay_17 : decode cX8_lay 17 = .ok (.aload_n 0, 1) := by decide +kernel
theorem dX8_lay_18 : decode cX8_lay 18 = .ok (.getfield 95, 3) := by decide +kernel
theorem dX8_lay_21 : decode cX8_lay 21 = .ok (.putfield 109, 3) := by decide +kernel
theorem dX8_lay_24 : decode cX8_lay 24 = .ok (.iconst 0, 1) := by decide +kernel
theorem dX8_lay_25 : decode cX8_lay 25 = .ok (.istore_n 1, 1) := by decide +kernel
theorem dX8_lay_26 : decode cX8_lay 26 = .ok (.iload_n 1, 1) := by decide +kernel
theorem dX8_lay_27 : decode cX8_lay 27 = .ok (.aload_n 0, 1) := by decide +kernel
theorem dX8_lay_28 : decode cX8_lay 28 = .ok (.getfield 109, 3) := by decide +kernel
theorem dX8_lay_31 : decode cX8_lay 31 = .ok (.if_icmp .ge 33, 3) := by decide +kernel
theorem dX8_lay_34 : decode cX8_lay 34 = .ok (.aload_n 0, 1) := by decide +kernel
theorem dX8_lay_35 : decode cX8_lay 35 = .ok (.getfield 26, 3) := by decide +kernel
theorem dX8_lay_38 : decode cX8_lay 38 = .ok (.iload_n 1, 1) := by decide +kernel
theorem dX8_lay_39 : decode cX8_lay 39 = .ok (.aload_n 0, 1) := by decide +kernel
theorem dX8_lay_40 : decode cX8_lay 40 = .ok (.getfield 20, 3) := by decide +kernel
theorem dX8_lay_43 : decode cX8_lay 43 = .ok (.iload_n 1, 1) := by decide +kernel
theorem dX8_lay_44 : decode cX8_lay 44 = .ok (.iaload, 1) := by decide +kernel
theorem dX8_lay_45 : decode cX8_lay 45 = .ok (.iastore, 1) := by decide +kernel
theorem dX8_lay_46 : decode cX8_lay 46 = .ok (.aload_n 0, 1) := by decide +kernel
theorem dX8_lay_47 : decode cX8_lay 47 = .ok (.getfield 29, 3) := by decide +kernel
theorem dX8_lay_50 : decode cX8_lay 50 = .ok (.iload_n 1, 1) := by decide +kernel
theorem dX8_lay_51 : decode cX8_lay 51 = .ok (.aload_n 0, 1) := by decide +kernel
theorem dX8_lay_52 : decode cX8_lay 52 = .ok (.getfield 23, 3) := by decide +kernel
theorem dX8_lay_55 : decode cX8_lay 55 = .ok (.iload_n 1, 1) := by decide +kernel
theorem dX8_lay_56 : decode cX8_lay 56 = .ok (.iaload, 1) := by decide +kernel
theorem dX8_lay_57 : decode cX8_lay 57 = .ok (.iastore, 1) := by decide +kernel
theorem dX8_lay_58 : decode cX8_lay 58 = .ok (.iinc 1 1, 3) := by decide +kernel
theorem dX8_lay_61 : decode cX8_lay 61 = .ok (.goto (-35), 3) := by decide +kernel
theorem dX8_lay_64 : decode cX8_lay 64 = .ok (.aload_n 0, 1) := by decide +kernel
theorem dX8_lay_65 : decode cX8_lay 65 = .ok (.invokevirtual 136, 3) := by decide +kernel
theorem dX8_lay_68 : decode cX8_lay 68 = .ok (.aload_n 0, 1) := by decide +kernel
theorem dX8_lay_69 : decode cX8_lay 69 = .ok (.invokevirtual 139, 3) := by decide +kernel
theorem dX8_lay_72 : decode cX8_lay 72 = .ok (.aload_n 0, 1) := by decide +kernel
theorem dX8_lay_73 : decode cX8_lay 73 = .ok (.iconst 0, 1) := by decide +kernel
theorem dX8_lay_74 : decode cX8_lay 74 = .ok (.putfield 130, 3) := by decide +kernel
theorem dX8_lay_77 : decode cX8_lay 77 = .ok (.aload_n 0, 1) := by decide +kernel
theorem dX8_lay_78 : decode cX8_lay 78 = .ok (.iconst 0, 1) := by decide +kernel
theorem dX8_lay_79 : decode cX8_lay 79 = .ok (.putfield 133, 3) := by decide +kernel
theorem dX8_lay_82 : decode cX8_lay 82 = .ok (.aload_n 0, 1) := by decide +kernel
theorem dX8_lay_83 : decode cX8_lay 83 = .ok (.invokevirtual 142, 3) := by decide +kernel
theorem dX8_lay_86 : decode cX8_lay 86 = .ok (.aload_n 0, 1) := by decide +kernel
theorem dX8_lay_87 : decode cX8_lay 87 = .ok (.aload_n 0, 1) := by decide +kernel
theorem dX8_lay_88 : decode cX8_lay 88 = .ok (.getfield 50, 3) := by decide +kernel
theorem dX8_lay_91 : decode cX8_lay 91 = .ok (.iconst 0, 1) := by decide +kernel
theorem dX8_lay_92 : decode cX8_lay 92 = .ok (.iaload, 1) := by decide +kernel
theorem dX8_lay_93 : decode cX8_lay 93 = .ok (.putfield 145, 3) := by decide +kernel
theorem dX8_lay_96 : decode cX8_lay 96 = .ok (.aload_n 0, 1) := by decide +kernel
theorem dX8_lay_97 : decode cX8_lay 97 = .ok (.iconst 0, 1) := by decide +kernel
theorem dX8_lay_98 : decode cX8_lay 98 = .ok (.putfield 148, 3) := by decide +kernel
theorem dX8_lay_101 : decode cX8_lay 101 = .ok (.aload_n 0, 1) := by decide +kernel
theorem dX8_lay_102 : decode cX8_lay 102 = .ok (.iconst 1, 1) := by decide +kernel
theorem dX8_lay_103 : decode cX8_lay 103 = .ok (.putfield 151, 3) := by decide +kernel
theorem dX8_lay_106 : decode cX8_lay 106 = .ok (.aload_n 0, 1) := by decide +kernel
theorem dX8_lay_107 : decode cX8_lay 107 = .ok (.getfield 106, 3) := by decide +kernel
theorem dX8_lay_110 : decode cX8_lay 110 = .ok (.ireturn, 1) := by decide +kernel
set_option maxRecDepth 20000 in
theorem ggX8_noFence_X8_in : GoodIn wsX8_noFence wsX8_in := goodIn_r _ [5] (by decide +kernel) (by decide +kernel)
set_option maxRecDepth 20000 in
theorem gX8_noFence_X8_in : GoodIn wsX8_noFence (va_wsS RX8 83 yX8_in wsX8_in) := goodIn_app (goodIn_of _ (by decide +kernel)) ggX8_noFence_X8_in
theorem dX8_noFence_0 : decode cX8_noFence 0 = .ok (.iload_n 1, 1) := by decide +kernel
theorem dX8_noFence_1 : decode cX8_noFence 1 = .ok (.i2l, 1) := by decide +kernel
theorem dX8_noFence_2 : decode cX8_noFence 2 = .ok (.lconst 0, 1) := by decide +kernel
theorem dX8_noFence_3 : decode cX8_noFence 3 = .ok (.aload_n 0, 1) := by decide +kernel
theorem dX8_noFence_4 : decode cX8_noFence 4 = .ok (.getfield 106, 3) := by decide +kernel
theorem dX8_noFence_7 : decode cX8_noFence 7 = .ok (.iconst 1, 1) := by decide +kernel
theorem dX8_noFence_8 : decode cX8_noFence 8 = .ok (.isub, 1) := by decide +kernel
theorem dX8_noFence_9 : decode cX8_noFence 9 = .ok (.i2l, 1) := by decide +kernel
theorem dX8_noFence_10 : decode cX8_noFence 10 = .ok (.invokestatic 83, 3) := by decide +kernel
theorem dX8_noFence_13 : decode cX8_noFence 13 = .ok (.ifCond .ne 7, 3) := by decide +kernel
theorem dX8_noFence_16 : decode cX8_noFence 16 = .ok (.iconst 1, 1) := by decide +kernel
theorem dX8_noFence_17 : decode cX8_noFence 17 = .ok (.goto 4, 3) := by decide +kernel
theorem dX8_noFence_20 : decode cX8_noFence 20 = .ok (.iconst 0, 1) := by decide +kernel
theorem dX8_noFence_21 : decode cX8_noFence 21 = .ok (.ireturn, 1) := by decide +kernel
set_option maxRecDepth 20000 in
theorem ggX8_fence_X8_in : GoodIn wsX8_fence wsX8_in := goodIn_r _ [8] (by decide +kernel) (by decide +kernel)
set_option maxRecDepth 20000 in
theorem gX8_fence_X8_in : GoodIn wsX8_fence (va_wsS RX8 83 yX8_in wsX8_in) := goodIn_app (goodIn_of _ (by decide +kernel)) ggX8_fence_X8_in
theorem dX8_fence_0 : decode cX8_fence 0 = .ok (.aload_n 0, 1) := by decide +kernel
theorem dX8_fence_1 : decode cX8_fence 1 = .ok (.iconst 0, 1) := by decide +kernel
theorem dX8_fence_2 : decode cX8_fence 2 = .ok (.putfield 74, 3) := by decide +kernel
theorem dX8_fence_5 : decode cX8_fence 5 = .ok (.aload_n 0, 1) := by decide +kernel
theorem dX8_fence_6 : decode cX8_fence 6 = .ok (.getfield 151, 3) := by decide +kernel
theorem dX8_fence_9 : decode cX8_fence 9 = .ok (.ifCond .ne 6, 3) := by decide +kernel
theorem dX8_fence_12 : decode cX8_fence 12 = .ok (.bipush (-3), 2) := by decide +kernel
theorem dX8_fence_14 : decode cX8_fence 14 = .ok (.ireturn, 1) := by decide +kernel
theorem dX8_fence_15 : decode cX8_fence 15 = .ok (.iload_n 1, 1) := by decide +kernel
theorem dX8_fence_16 : decode cX8_fence 16 = .ok (.i2l, 1) := by decide +kernel
theorem dX8_fence_17 : decode cX8_fence 17 = .ok (.lconst 0, 1) := by decide +kernel
theorem dX8_fence_18 : decode cX8_fence 18 = .ok (.aload_n 0, 1) := by decide +kernel
theorem dX8_fence_19 : decode cX8_fence 19 = .ok (.getfield 109, 3) := by decide +kernel
theorem dX8_fence_22 : decode cX8_fence 22 = .ok (.iconst 1, 1) := by decide +kernel
theorem dX8_fence_23 : decode cX8_fence 23 = .ok (.isub, 1) := by decide +kernel
theorem dX8_fence_24 : decode cX8_fence 24 = .ok (.i2l, 1) := by decide +kernel
theorem dX8_fence_25 : decode cX8_fence 25 = .ok (.invokestatic 83, 3) := by decide +kernel
theorem dX8_fence_28 : decode cX8_fence 28 = .ok (.ifCond .eq 33, 3) := by decide +kernel
theorem dX8_fence_31 : decode cX8_fence 31 = .ok (.iload_n 2, 1) := by decide +kernel
theorem dX8_fence_32 : decode cX8_fence 32 = .ok (.i2l, 1) := by decide +kernel
theorem dX8_fence_33 : decode cX8_fence 33 = .ok (.lconst 0, 1) := by decide +kernel
theorem dX8_fence_34 : decode cX8_fence 34 = .ok (.aload_n 0, 1) := by decide +kernel
theorem dX8_fence_35 : decode cX8_fence 35 = .ok (.getfield 109, 3) := by decide +kernel
theorem dX8_fence_38 : decode cX8_fence 38 = .ok (.iconst 1, 1) := by decide +kernel
theorem dX8_fence_39 : decode cX8_fence 39 = .ok (.isub, 1) := by decide +kernel
theorem dX8_fence_40 : decode cX8_fence 40 = .ok (.i2l, 1) := by decide +kernel
theorem dX8_fence_41 : decode cX8_fence 41 = .ok (.invokestatic 83, 3) := by decide +kernel
theorem dX8_fence_44 : decode cX8_fence 44 = .ok (.ifCond .eq 17, 3) := by decide +kernel
theorem dX8_fence_47 : decode cX8_fence 47 = .ok (.aload_n 0, 1) := by decide +kernel
theorem dX8_fence_48 : decode cX8_fence 48 = .ok (.getfield 38, 3) := by decide +kernel
theorem dX8_fence_51 : decode cX8_fence 51 = .ok (.bipush 8, 2) := by decide +kernel
theorem dX8_fence_53 : decode cX8_fence 53 = .ok (.iload_n 1, 1) := by decide +kernel
theorem dX8_fence_54 : decode cX8_fence 54 = .ok (.imul, 1) := by decide +kernel
theorem dX8_fence_55 : decode cX8_fence 55 = .ok (.iload_n 2, 1) := by decide +kernel
theorem dX8_fence_56 : decode cX8_fence 56 = .ok (.iadd, 1) := by decide +kernel
theorem dX8_fence_57 : decode cX8_fence 57 = .ok (.iaload, 1) := by decide +kernel
theorem dX8_fence_58 : decode cX8_fence 58 = .ok (.goto 4, 3) := by decide +kernel
theorem dX8_fence_61 : decode cX8_fence 61 = .ok (.iconst (-1), 1) := by decide +kernel
theorem dX8_fence_62 : decode cX8_fence 62 = .ok (.ireturn, 1) := by decide +kernel
set_option maxRecDepth 20000 in
theorem ggX8_end_X8_in : GoodIn wsX8_end wsX8_in := goodIn_r _ [8] (by decide +kernel) (by decide +kernel)
set_option maxRecDepth 20000 in
theorem gX8_end_X8_in : GoodIn wsX8_end (va_wsS RX8 83 yX8_in wsX8_in) := goodIn_app (goodIn_of _ (by decide +kernel)) ggX8_end_X8_in
set_option maxRecDepth 20000 in
theorem ggX8_end_X8_noFence : GoodIn wsX8_end wsX8_noFence := goodIn_r _ [12, 13, 5, 6, 7, 8, 14, 15, 16, 17, 18, 19, 20, 21, 22, 23, 24, 25, 26, 27, 28, 29, 30, 31, 32, 33, 34, 35, 36, 37, 38, 39, 40, 41, 42, 43, 44, 45, 46, 47] (by decide +kernel) (by decide +kernel)
set_option maxRecDepth 20000 in
theorem gX8_end_X8_noFence : GoodIn wsX8_end (wsV RX8 155 RX8 yX8_noFence wsX8_noFence) := goodIn_app (goodIn_of _ (by decide +kernel)) ggX8_end_X8_noFence
theorem dX8_end_0 : decode cX8_end 0 = .ok (.aload_n 0, 1) := by decide +kernel
theorem dX8_end_1 : decode cX8_end 1 = .ok (.iconst 0, 1) := by decide +kernel
theorem dX8_end_2 : decode cX8_end 2 = .ok (.putfield 74, 3) := by decide +kernel
theorem dX8_end_5 : decode cX8_end 5 = .ok (.iload_n 2, 1) := by decide +kernel
theorem dX8_end_6 : decode cX8_end 6 = .ok (.i2l, 1) := by decide +kernel
theorem dX8_end_7 : decode cX8_end 7 = .ok (.lconst 0, 1) := by decide +kernel
theorem dX8_end_8 : decode cX8_end 8 = .ok (.lconst 1, 1) := by decide +kernel
theorem dX8_end_9 : decode cX8_end 9 = .ok (.invokestatic 83, 3) := by decide +kernel
theorem dX8_end_12 : decode cX8_end 12 = .ok (.ifCond .ne 6, 3) := by decide +kernel
theorem dX8_end_15 : decode cX8_end 15 = .ok (.bipush (-2), 2) := by decide +kernel
theorem dX8_end_17 : decode cX8_end 17 = .ok (.ireturn, 1) := by decide +kernel
theorem dX8_end_18 : decode cX8_end 18 = .ok (.aload_n 0, 1) := by decide +kernel
theorem dX8_end_19 : decode cX8_end 19 = .ok (.getfield 151, 3) := by decide +kernel
theorem dX8_end_22 : decode cX8_end 22 = .ok (.ifCond .ne 8, 3) := by decide +kernel
theorem dX8_end_25 : decode cX8_end 25 = .ok (.bipush (-3), 2) := by decide +kernel
theorem dX8_end_27 : decode cX8_end 27 = .ok (.goto 34, 3) := by decide +kernel
theorem dX8_end_30 : decode cX8_end 30 = .ok (.aload_n 0, 1) := by decide +kernel
theorem dX8_end_31 : decode cX8_end 31 = .ok (.iload_n 1, 1) := by decide +kernel
theorem dX8_end_32 : decode cX8_end 32 = .ok (.invokevirtual 155, 3) := by decide +kernel
theorem dX8_end_35 : decode cX8_end 35 = .ok (.ifCond .eq 7, 3) := by decide +kernel
theorem dX8_end_38 : decode cX8_end 38 = .ok (.iconst (-1), 1) := by decide +kernel
theorem dX8_end_39 : decode cX8_end 39 = .ok (.goto 22, 3) := by decide +kernel
theorem dX8_end_42 : decode cX8_end 42 = .ok (.iload_n 2, 1) := by decide +kernel
theorem dX8_end_43 : decode cX8_end 43 = .ok (.ifCond .ne 12, 3) := by decide +kernel
theorem dX8_end_46 : decode cX8_end 46 = .ok (.aload_n 0, 1) := by decide +kernel
theorem dX8_end_47 : decode cX8_end 47 = .ok (.getfield 32, 3) := by decide +kernel
theorem dX8_end_50 : decode cX8_end 50 = .ok (.iload_n 1, 1) := by decide +kernel
theorem dX8_end_51 : decode cX8_end 51 = .ok (.iaload, 1) := by decide +kernel
theorem dX8_end_52 : decode cX8_end 52 = .ok (.goto 9, 3) := by decide +kernel
theorem dX8_end_55 : decode cX8_end 55 = .ok (.aload_n 0, 1) := by decide +kernel
theorem dX8_end_56 : decode cX8_end 56 = .ok (.getfield 35, 3) := by decide +kernel
theorem dX8_end_59 : decode cX8_end 59 = .ok (.iload_n 1, 1) := by decide +kernel
theorem dX8_end_60 : decode cX8_end 60 = .ok (.iaload, 1) := by decide +kernel
theorem dX8_end_61 : decode cX8_end 61 = .ok (.ireturn, 1) := by decide +kernel
set_option maxRecDepth 20000 in
theorem ggX8_isHem_X8_side : GoodIn wsX8_isHem wsX8_side := goodIn_r _ [8, 9, 10, 11, 12, 13, 14, 15, 16, 17, 18, 19, 20, 21, 22, 23, 24, 25, 26, 27, 28, 29, 30, 31, 32, 33, 34, 35, 36, 37, 38, 39, 40, 41, 42, 43, 44] (by decide +kernel) (by decide +kernel)
set_option maxRecDepth 20000 in
theorem gX8_isHem_X8_side : GoodIn wsX8_isHem (wsV RX8 102 RX8 yX8_side wsX8_side) := goodIn_app (goodIn_of _ (by decide +kernel)) ggX8_isHem_X8_side
theorem dX8_isHem_0 : decode cX8_isHem 0 = .ok (.iconst 0, 1) := by decide +kernel
theorem dX8_isHem_1 : decode cX8_isHem 1 = .ok (.istore_n 2, 1) := by decide +kernel
theorem dX8_isHem_2 : decode cX8_isHem 2 = .ok (.iconst 0, 1) := by decide +kernel
theorem dX8_isHem_3 : decode cX8_isHem 3 = .ok (.istore_n 3, 1) := by decide +kernel
theorem dX8_isHem_4 : decode cX8_isHem 4 = .ok (.iconst 0, 1) := by decide +kernel
theorem dX8_isHem_5 : decode cX8_isHem 5 = .ok (.istore 4, 2) := by decide +kernel
theorem dX8_isHem_7 : decode cX8_isHem 7 = .ok (.iload 4, 2) := by decide +kernel
theorem dX8_isHem_9 : decode cX8_isHem 9 = .ok (.aload_n 0, 1) := by decide +kernel
theorem dX8_isHem_10 : decode cX8_isHem 10 = .ok (.getfield 109, 3) := by decide +kernel
theorem dX8_isHem_13 : decode cX8_isHem 13 = .ok (.if_icmp .ge 71, 3) := by decide +kernel
theorem dX8_isHem_16 : decode cX8_isHem 16 = .ok (.iload_n 2, 1) := by decide +kernel
theorem dX8_isHem_17 : decode cX8_isHem 17 = .ok (.ifCond .ne 24, 3) := by decide +kernel
theorem dX8_isHem_20 : decode cX8_isHem 20 = .ok (.aload_n 0, 1) := by decide +kernel
theorem dX8_isHem_21 : decode cX8_isHem 21 = .ok (.aload_n 0, 1) := by decide +kernel
theorem dX8_isHem_22 : decode cX8_isHem 22 = .ok (.getfield 32, 3) := by decide +kernel
theorem dX8_isHem_25 : decode cX8_isHem 25 = .ok (.iload_n 1, 1) := by decide +kernel
theorem dX8_isHem_26 : decode cX8_isHem 26 = .ok (.iaload, 1) := by decide +kernel
theorem dX8_isHem_27 : decode cX8_isHem 27 = .ok (.aload_n 0, 1) := by decide +kernel
theorem dX8_isHem_28 : decode cX8_isHem 28 = .ok (.getfield 35, 3) := by decide +kernel
theorem dX8_isHem_31 : decode cX8_isHem 31 = .ok (.iload_n 1, 1) := by decide +kernel
theorem dX8_isHem_32 : decode cX8_isHem 32 = .ok (.iaload, 1) := by decide +kernel
theorem dX8_isHem_33 : decode cX8_isHem 33 = .ok (.iload 4, 2) := by decide +kernel
theorem dX8_isHem_35 : decode cX8_isHem 35 = .ok (.invokevirtual 102, 3) := by decide +kernel
theorem dX8_isHem_38 : decode cX8_isHem 38 = .ok (.ifCond .le 7, 3) := by decide +kernel
theorem dX8_isHem_41 : decode cX8_isHem 41 = .ok (.iconst 1, 1) := by decide +kernel
theorem dX8_isHem_42 : decode cX8_isHem 42 = .ok (.goto 4, 3) := by decide +kernel
theorem dX8_isHem_45 : decode cX8_isHem 45 = .ok (.iconst 0, 1) := by decide +kernel
theorem dX8_isHem_46 : decode cX8_isHem 46 = .ok (.istore_n 2, 1) := by decide +kernel
theorem dX8_isHem_47 : decode cX8_isHem 47 = .ok (.iload_n 3, 1) := by decide +kernel
theorem dX8_isHem_48 : decode cX8_isHem 48 = .ok (.ifCond .ne 24, 3) := by decide +kernel
theorem dX8_isHem_51 : decode cX8_isHem 51 = .ok (.aload_n 0, 1) := by decide +kernel
theorem dX8_isHem_52 : decode cX8_isHem 52 = .ok (.aload_n 0, 1) := by decide +kernel
theorem dX8_isHem_53 : decode cX8_isHem 53 = .ok (.getfield 32, 3) := by decide +kernel
theorem dX8_isHem_56 : decode cX8_isHem 56 = .ok (.iload_n 1, 1) := by decide +kernel
theorem dX8_isHem_57 : decode cX8_isHem 57 = .ok (.iaload, 1) := by decide +kernel
theorem dX8_isHem_58 : decode cX8_isHem 58 = .ok (.aload_n 0, 1) := by decide +kernel
theorem dX8_isHem_59 : decode cX8_isHem 59 = .ok (.getfield 35, 3) := by decide +kernel
theorem dX8_isHem_62 : decode cX8_isHem 62 = .ok (.iload_n 1, 1) := by decide +kernel
theorem dX8_isHem_63 : decode cX8_isHem 63 = .ok (.iaload, 1) := by decide +kernel
theorem dX8_isHem_64 : decode cX8_isHem 64 = .ok (.iload 4, 2) := by decide +kernel
theorem dX8_isHem_66 : decode cX8_isHem 66 = .ok (.invokevirtual 102, 3) := by decide +kernel
theorem dX8_isHem_69 : decode cX8_isHem 69 = .ok (.ifCond .ge 7, 3) := by decide +kernel
theorem dX8_isHem_72 : decode cX8_isHem 72 = .ok (.iconst 1, 1) := by decide +kernel
theorem dX8_isHem_73 : decode cX8_isHem 73 = .ok (.goto 4, 3) := by decide +kernel
theorem dX8_isHem_76 : decode cX8_isHem 76 = .ok (.iconst 0, 1) := by decide +kernel
theorem dX8_isHem_77 : decode cX8_isHem 77 = .ok (.istore_n 3, 1) := by decide +kernel
theorem dX8_isHem_78 : decode cX8_isHem 78 = .ok (.iinc 4 1, 3) := by decide +kernel
theorem dX8_isHem_81 : decode cX8_isHem 81 = .ok (.goto (-74), 3) := by decide +kernel
theorem dX8_isHem_84 : decode cX8_isHem 84 = .ok (.iload_n 2, 1) := by decide +kernel
theorem dX8_isHem_85 : decode cX8_isHem 85 = .ok (.ifCond .eq 7, 3) := by decide +kernel
theorem dX8_isHem_88 : decode cX8_isHem 88 = .ok (.iload_n 3, 1) := by decide +kernel
theorem dX8_isHem_89 : decode cX8_isHem 89 = .ok (.ifCond .ne 7, 3) := by decide +kernel
theorem dX8_isHem_92 : decode cX8_isHem 92 = .ok (.iconst 1, 1) := by decide +kernel
theorem dX8_isHem_93 : decode cX8_isHem 93 = .ok (.goto 4, 3) := by decide +kernel
theorem dX8_isHem_96 : decode cX8_isHem 96 = .ok (.iconst 0, 1) := by decide +kernel
theorem dX8_isHem_97 : decode cX8_isHem 97 = .ok (.ireturn, 1) := by decide +kernel
theorem dX8_hasFence_0 : decode cX8_hasFence 0 = .ok (.aload_n 0, 1) := by decide +kernel
theorem dX8_hasFence_1 : decode cX8_hasFence 1 = .ok (.getfield 38, 3) := by decide +kernel
theorem dX8_hasFence_4 : decode cX8_hasFence 4 = .ok (.bipush 8, 2) := by decide +kernel
theorem dX8_hasFence_6 : decode cX8_hasFence 6 = .ok (.iload_n 2, 1) := by decide +kernel
theorem dX8_hasFence_7 : decode cX8_hasFence 7 = .ok (.imul, 1) := by decide +kernel
theorem dX8_hasFence_8 : decode cX8_hasFence 8 = .ok (.iload_n 3, 1) := by decide +kernel
theorem dX8_hasFence_9 : decode cX8_hasFence 9 = .ok (.iadd, 1) := by decide +kernel
theorem dX8_hasFence_10 : decode cX8_hasFence 10 = .ok (.iaload, 1) := by decide +kernel
theorem dX8_hasFence_11 : decode cX8_hasFence 11 = .ok (.istore 4, 2) := by decide +kernel
theorem dX8_hasFence_13 : decode cX8_hasFence 13 = .ok (.iload 4, 2) := by decide +kernel
theorem dX8_hasFence_15 : decode cX8_hasFence 15 = .ok (.bipush (-9), 2) := by decide +kernel
theorem dX8_hasFence_17 : decode cX8_hasFence 17 = .ok (.if_icmp .eq 17, 3) := by decide +kernel
theorem dX8_hasFence_20 : decode cX8_hasFence 20 = .ok (.iload_n 1, 1) := by decide +kernel
theorem dX8_hasFence_21 : decode cX8_hasFence 21 = .ok (.iload 4, 2) := by decide +kernel
theorem dX8_hasFence_23 : decode cX8_hasFence 23 = .ok (.ishr, 1) := by decide +kernel
theorem dX8_hasFence_24 : decode cX8_hasFence 24 = .ok (.iconst 1, 1) := by decide +kernel
theorem dX8_hasFence_25 : decode cX8_hasFence 25 = .ok (.iand, 1) := by decide +kernel
theorem dX8_hasFence_26 : decode cX8_hasFence 26 = .ok (.iconst 1, 1) := by decide +kernel
theorem dX8_hasFence_27 : decode cX8_hasFence 27 = .ok (.if_icmp .ne 7, 3) := by decide +kernel
theorem dX8_hasFence_30 : decode cX8_hasFence 30 = .ok (.iconst 1, 1) := by decide +kernel
theorem dX8_hasFence_31 : decode cX8_hasFence 31 = .ok (.goto 4, 3) := by decide +kernel
theorem dX8_hasFence_34 : decode cX8_hasFence 34 = .ok (.iconst 0, 1) := by decide +kernel
theorem dX8_hasFence_35 : decode cX8_hasFence 35 = .ok (.ireturn, 1) := by decide +kernel
set_option maxRecDepth 20000 in
theorem ggX8_isWithin_X8_side : GoodIn wsX8_isWithin wsX8_side := goodIn_r _ [5, 6, 7, 8, 9, 10, 11, 12, 13, 14, 15, 16, 17, 18, 19, 20, 21, 22, 23, 24, 25, 26, 27, 28, 29, 30, 31, 32, 33, 34, 35, 36, 37, 38, 39, 40, 41] (by decide +kernel) (by decide +kernel)
set_option maxRecDepth 20000 in
theorem gX8_isWithin_X8_side : GoodIn wsX8_isWithin (wsV RX8 102 RX8 yX8_side wsX8_side) := goodIn_app (goodIn_of _ (by decide +kernel)) ggX8_isWithin_X8_side
theorem dX8_isWithin_0 : decode cX8_isWithin 0 = .ok (.aload_n 0, 1) := by decide +kernel
theorem dX8_isWithin_1 : decode cX8_isWithin 1 = .ok (.iload_n 1, 1) := by decide +kernel
theorem dX8_isWithin_2 : decode cX8_isWithin 2 = .ok (.iload_n 2, 1) := by decide +kernel
theorem dX8_isWithin_3 : decode cX8_isWithin 3 = .ok (.iload 4, 2) := by decide +kernel
theorem dX8_isWithin_5 : decode cX8_isWithin 5 = .ok (.invokevirtual 102, 3) := by decide +kernel
theorem dX8_isWithin_8 : decode cX8_isWithin 8 = .ok (.istore 5, 2) := by decide +kernel
theorem dX8_isWithin_10 : decode cX8_isWithin 10 = .ok (.iload 5, 2) := by decide +kernel
theorem dX8_isWithin_12 : decode cX8_isWithin 12 = .ok (.ifCond .eq 33, 3) := by decide +kernel
theorem dX8_isWithin_15 : decode cX8_isWithin 15 = .ok (.iload 5, 2) := by decide +kernel
theorem dX8_isWithin_17 : decode cX8_isWithin 17 = .ok (.aload_n 0, 1) := by decide +kernel
theorem dX8_isWithin_18 : decode cX8_isWithin 18 = .ok (.iload_n 2, 1) := by decide +kernel
theorem dX8_isWithin_19 : decode cX8_isWithin 19 = .ok (.iload_n 3, 1) := by decide +kernel
theorem dX8_isWithin_20 : decode cX8_isWithin 20 = .ok (.iload 4, 2) := by decide +kernel
theorem dX8_isWithin_22 : decode cX8_isWithin 22 = .ok (.invokevirtual 102, 3) := by decide +kernel
theorem dX8_isWithin_25 : decode cX8_isWithin 25 = .ok (.if_icmp .ne 20, 3) := by decide +kernel
theorem dX8_isWithin_28 : decode cX8_isWithin 28 = .ok (.iload 5, 2) := by decide +kernel
theorem dX8_isWithin_30 : decode cX8_isWithin 30 = .ok (.aload_n 0, 1) := by decide +kernel
theorem dX8_isWithin_31 : decode cX8_isWithin 31 = .ok (.iload_n 3, 1) := by decide +kernel
theorem dX8_isWithin_32 : decode cX8_isWithin 32 = .ok (.iload_n 1, 1) := by decide +kernel
theorem dX8_isWithin_33 : decode cX8_isWithin 33 = .ok (.iload 4, 2) := by decide +kernel
theorem dX8_isWithin_35 : decode cX8_isWithin 35 = .ok (.invokevirtual 102, 3) := by decide +kernel
theorem dX8_isWithin_38 : decode cX8_isWithin 38 = .ok (.if_icmp .ne 7, 3) := by decide +kernel
theorem dX8_isWithin_41 : decode cX8_isWithin 41 = .ok (.iconst 1, 1) := by decide +kernel
theorem dX8_isWithin_42 : decode cX8_isWithin 42 = .ok (.goto 4, 3) := by decide +kernel
theorem dX8_isWithin_45 : decode cX8_isWithin 45 = .ok (.iconst 0, 1) := by decide +kernel
theorem dX8_isWithin_46 : decode cX8_isWithin 46 = .ok (.ireturn, 1) := by decide +kernel
set_option maxRecDepth 20000 in
theorem ggX8_isThird_X8_side : GoodIn wsX8_isThird wsX8_side := goodIn_r _ [6, 7, 8, 18, 19, 20, 21, 22, 23, 24, 25, 26, 27, 28, 29, 30, 31, 32, 33, 34, 35, 36, 37, 38, 39, 40, 41, 42, 43, 44, 45, 46, 47, 48, 49, 50, 51] (by decide +kernel) (by decide +kernel)
set_option maxRecDepth 20000 in
theorem gX8_isThird_X8_side : GoodIn wsX8_isThird (wsV RX8 102 RX8 yX8_side wsX8_side) := goodIn_app (goodIn_of _ (by decide +kernel)) ggX8_isThird_X8_side
set_option maxRecDepth 20000 in
theorem ggX8_isThird_X8_hasFence : GoodIn wsX8_isThird wsX8_hasFence := goodIn_r _ [12, 13, 18, 19, 20, 21, 22, 23, 24, 25, 26, 27, 28, 29, 30, 31, 32, 33, 34, 35, 36, 37, 38, 39, 40, 41, 42, 43, 44, 45, 46, 47, 48, 49, 50, 51] (by decide +kernel) (by decide +kernel)
set_option maxRecDepth 20000 in
theorem gX8_isThird_X8_hasFence : GoodIn wsX8_isThird (wsV RX8 158 RX8 yX8_hasFence wsX8_hasFence) := goodIn_app (goodIn_of _ (by decide +kernel)) ggX8_isThird_X8_hasFence
set_option maxRecDepth 20000 in
theorem ggX8_isThird_X8_isWithin : GoodIn wsX8_isThird wsX8_isWithin := goodIn_r _ [17, 2, 3, 4, 5, 6, 7, 8, 18, 19, 20, 21, 22, 23, 24, 25, 26, 27, 28, 29, 30, 31, 32, 33, 34, 35, 36, 37, 38, 39, 40, 41, 42, 43, 44, 45, 46, 47, 48, 49, 50, 51] (by decide +kernel) (by decide +kernel)
set_option maxRecDepth 20000 in
theorem gX8_isThird_X8_isWithin : GoodIn wsX8_isThird (wsV RX8 161 RX8 yX8_isWithin wsX8_isWithin) := goodIn_app (goodIn_of _ (by decide +kernel)) ggX8_isThird_X8_isWithin
theorem dX8_isThird_0 : decode cX8_isThird 0 = .ok (.aload_n 0, 1) := by decide +kernel
theorem dX8_isThird_1 : decode cX8_isThird 1 = .ok (.iload_n 2, 1) := by decide +kernel
theorem dX8_isThird_2 : decode cX8_isThird 2 = .ok (.iload_n 3, 1) := by decide +kernel
theorem dX8_isThird_3 : decode cX8_isThird 3 = .ok (.iload 4, 2) := by decide +kernel
theorem dX8_isThird_5 : decode cX8_isThird 5 = .ok (.invokevirtual 102, 3) := by decide +kernel
theorem dX8_isThird_8 : decode cX8_isThird 8 = .ok (.ifCond .eq 39, 3) := by decide +kernel
theorem dX8_isThird_11 : decode cX8_isThird 11 = .ok (.aload_n 0, 1) := by decide +kernel
theorem dX8_isThird_12 : decode cX8_isThird 12 = .ok (.iload_n 1, 1) := by decide +kernel
theorem dX8_isThird_13 : decode cX8_isThird 13 = .ok (.iload_n 2, 1) := by decide +kernel
theorem dX8_isThird_14 : decode cX8_isThird 14 = .ok (.iload_n 3, 1) := by decide +kernel
theorem dX8_isThird_15 : decode cX8_isThird 15 = .ok (.invokevirtual 158, 3) := by decide +kernel
theorem dX8_isThird_18 : decode cX8_isThird 18 = .ok (.ifCond .eq 29, 3) := by decide +kernel
theorem dX8_isThird_21 : decode cX8_isThird 21 = .ok (.aload_n 0, 1) := by decide +kernel
theorem dX8_isThird_22 : decode cX8_isThird 22 = .ok (.iload_n 1, 1) := by decide +kernel
theorem dX8_isThird_23 : decode cX8_isThird 23 = .ok (.iload_n 2, 1) := by decide +kernel
theorem dX8_isThird_24 : decode cX8_isThird 24 = .ok (.iload 4, 2) := by decide +kernel
theorem dX8_isThird_26 : decode cX8_isThird 26 = .ok (.invokevirtual 158, 3) := by decide +kernel
theorem dX8_isThird_29 : decode cX8_isThird 29 = .ok (.ifCond .eq 18, 3) := by decide +kernel
theorem dX8_isThird_32 : decode cX8_isThird 32 = .ok (.aload_n 0, 1) := by decide +kernel
theorem dX8_isThird_33 : decode cX8_isThird 33 = .ok (.iload_n 1, 1) := by decide +kernel
theorem dX8_isThird_34 : decode cX8_isThird 34 = .ok (.iload_n 3, 1) := by decide +kernel
theorem dX8_isThird_35 : decode cX8_isThird 35 = .ok (.iload 4, 2) := by decide +kernel
theorem dX8_isThird_37 : decode cX8_isThird 37 = .ok (.invokevirtual 158, 3) := by decide +kernel
theorem dX8_isThird_40 : decode cX8_isThird 40 = .ok (.ifCond .eq 7, 3) := by decide +kernel
theorem dX8_isThird_43 : decode cX8_isThird 43 = .ok (.iconst 1, 1) := by decide +kernel
theorem dX8_isThird_44 : decode cX8_isThird 44 = .ok (.goto 4, 3) := by decide +kernel
theorem dX8_isThird_47 : decode cX8_isThird 47 = .ok (.iconst 0, 1) := by decide +kernel
theorem dX8_isThird_48 : decode cX8_isThird 48 = .ok (.istore 5, 2) := by decide +kernel
theorem dX8_isThird_50 : decode cX8_isThird 50 = .ok (.iconst 0, 1) := by decide +kernel
theorem dX8_isThird_51 : decode cX8_isThird 51 = .ok (.istore 6, 2) := by decide +kernel
theorem dX8_isThird_53 : decode cX8_isThird 53 = .ok (.iload 6, 2) := by decide +kernel
theorem dX8_isThird_55 : decode cX8_isThird 55 = .ok (.aload_n 0, 1) := by decide +kernel
theorem dX8_isThird_56 : decode cX8_isThird 56 = .ok (.getfield 109, 3) := by decide +kernel
theorem dX8_isThird_59 : decode cX8_isThird 59 = .ok (.if_icmp .ge 34, 3) := by decide +kernel
theorem dX8_isThird_62 : decode cX8_isThird 62 = .ok (.iload 5, 2) := by decide +kernel
theorem dX8_isThird_64 : decode cX8_isThird 64 = .ok (.ifCond .eq 29, 3) := by decide +kernel
theorem dX8_isThird_67 : decode cX8_isThird 67 = .ok (.aload_n 0, 1) := by decide +kernel
theorem dX8_isThird_68 : decode cX8_isThird 68 = .ok (.iload_n 2, 1) := by decide +kernel
theorem dX8_isThird_69 : decode cX8_isThird 69 = .ok (.iload_n 3, 1) := by decide +kernel
theorem dX8_isThird_70 : decode cX8_isThird 70 = .ok (.iload 4, 2) := by decide +kernel
theorem dX8_isThird_72 : decode cX8_isThird 72 = .ok (.iload 6, 2) := by decide +kernel
theorem dX8_isThird_74 : decode cX8_isThird 74 = .ok (.invokevirtual 161, 3) := by decide +kernel
theorem dX8_isThird_77 : decode cX8_isThird 77 = .ok (.ifCond .ne 7, 3) := by decide +kernel
theorem dX8_isThird_80 : decode cX8_isThird 80 = .ok (.iconst 1, 1) := by decide +kernel
theorem dX8_isThird_81 : decode cX8_isThird 81 = .ok (.goto 4, 3) := by decide +kernel
theorem dX8_isThird_84 : decode cX8_isThird 84 = .ok (.iconst 0, 1) := by decide +kernel
theorem dX8_isThird_85 : decode cX8_isThird 85 = .ok (.istore 5, 2) := by decide +kernel
theorem dX8_isThird_87 : decode cX8_isThird 87 = .ok (.iinc 6 1, 3) := by decide +kernel
theorem dX8_isThird_90 : decode cX8_isThird 90 = .ok (.goto (-37), 3) := by decide +kernel
theorem dX8_isThird_93 : decode cX8_isThird 93 = .ok (.iload 5, 2) := by decide +kernel
theorem dX8_isThird_95 : decode cX8_isThird 95 = .ok (.ireturn, 1) := by decide +kernel
set_option maxRecDepth 20000 in
theorem ggX8_findThirds_X8_isThird : GoodIn wsX8_findThirds wsX8_isThird := goodIn_r _ [10, 2, 11, 12, 13, 9, 14, 15, 16, 17, 18, 19, 20, 21, 22, 23, 24, 25, 26, 27, 28, 29, 30, 31, 32, 33, 34, 35, 36, 37, 38, 39, 40, 41, 42, 43, 44, 45, 46, 47, 48, 49, 50, 51, 52, 53, 54, 55, 56, 57, 58, 59] (by decide +kernel) (by decide +kernel)
set_option maxRecDepth 20000 in
theorem gX8_findThirds_X8_isThird : GoodIn wsX8_findThirds (wsV RX8 168 RX8 yX8_isThird wsX8_isThird) := goodIn_app (goodIn_of _ (by decide +kernel)) ggX8_findThirds_X8_isThird
theorem dX8_findThirds_0 : decode cX8_findThirds 0 = .ok (.aload_n 0, 1) := by decide +kernel
theorem dX8_findThirds_1 : decode cX8_findThirds 1 = .ok (.iconst 0, 1) := by decide +kernel
theorem dX8_findThirds_2 : decode cX8_findThirds 2 = .ok (.putfield 165, 3) := by decide +kernel
theorem dX8_findThirds_5 : decode cX8_findThirds 5 = .ok (.iconst 0, 1) := by decide +kernel
theorem dX8_findThirds_6 : decode cX8_findThirds 6 = .ok (.istore_n 2, 1) := by decide +kernel
theorem dX8_findThirds_7 : decode cX8_findThirds 7 = .ok (.iload_n 2, 1) := by decide +kernel
theorem dX8_findThirds_8 : decode cX8_findThirds 8 = .ok (.aload_n 0, 1) := by decide +kernel
theorem dX8_findThirds_9 : decode cX8_findThirds 9 = .ok (.getfield 109, 3) := by decide +kernel
theorem dX8_findThirds_12 : decode cX8_findThirds 12 = .ok (.if_icmp .ge 100, 3) := by decide +kernel
theorem dX8_findThirds_15 : decode cX8_findThirds 15 = .ok (.iload_n 2, 1) := by decide +kernel
theorem dX8_findThirds_16 : decode cX8_findThirds 16 = .ok (.iconst 1, 1) := by decide +kernel
theorem dX8_findThirds_17 : decode cX8_findThirds 17 = .ok (.iadd, 1) := by decide +kernel
theorem dX8_findThirds_18 : decode cX8_findThirds 18 = .ok (.istore_n 3, 1) := by decide +kernel
theorem dX8_findThirds_19 : decode cX8_findThirds 19 = .ok (.iload_n 3, 1) := by decide +kernel
theorem dX8_findThirds_20 : decode cX8_findThirds 20 = .ok (.aload_n 0, 1) := by decide +kernel
theorem dX8_findThirds_21 : decode cX8_findThirds 21 = .ok (.getfield 109, 3) := by decide +kernel
theorem dX8_findThirds_24 : decode cX8_findThirds 24 = .ok (.if_icmp .ge 82, 3) := by decide +kernel
theorem dX8_findThirds_27 : decode cX8_findThirds 27 = .ok (.iload_n 3, 1) := by decide +kernel
theorem dX8_findThirds_28 : decode cX8_findThirds 28 = .ok (.iconst 1, 1) := by decide +kernel
theorem dX8_findThirds_29 : decode cX8_findThirds 29 = .ok (.iadd, 1) := by decide +kernel
theorem dX8_findThirds_30 : decode cX8_findThirds 30 = .ok (.istore 4, 2) := by decide +kernel
theorem dX8_findThirds_32 : decode cX8_findThirds 32 = .ok (.iload 4, 2) := by decide +kernel
theorem dX8_findThirds_34 : decode cX8_findThirds 34 = .ok (.aload_n 0, 1) := by decide +kernel
theorem dX8_findThirds_35 : decode cX8_findThirds 35 = .ok (.getfield 109, 3) := by decide +kernel
theorem dX8_findThirds_38 : decode cX8_findThirds 38 = .ok (.if_icmp .ge 62, 3) := by decide +kernel
theorem dX8_findThirds_41 : decode cX8_findThirds 41 = .ok (.aload_n 0, 1) := by decide +kernel
theorem dX8_findThirds_42 : decode cX8_findThirds 42 = .ok (.iload_n 1, 1) := by decide +kernel
theorem dX8_findThirds_43 : decode cX8_findThirds 43 = .ok (.iload_n 2, 1) := by decide +kernel
theorem dX8_findThirds_44 : decode cX8_findThirds 44 = .ok (.iload_n 3, 1) := by decide +kernel
theorem dX8_findThirds_45 : decode cX8_findThirds 45 = .ok (.iload 4, 2) := by decide +kernel
theorem dX8_findThirds_47 : decode cX8_findThirds 47 = .ok (.invokevirtual 168, 3) := by decide +kernel
theorem dX8_findThirds_50 : decode cX8_findThirds 50 = .ok (.ifCond .eq 44, 3) := by decide +kernel
theorem dX8_findThirds_53 : decode cX8_findThirds 53 = .ok (.aload_n 0, 1) := by decide +kernel
theorem dX8_findThirds_54 : decode cX8_findThirds 54 = .ok (.getfield 56, 3) := by decide +kernel
theorem dX8_findThirds_57 : decode cX8_findThirds 57 = .ok (.aload_n 0, 1) := by decide +kernel
theorem dX8_findThirds_58 : decode cX8_findThirds 58 = .ok (.getfield 165, 3) := by decide +kernel
theorem dX8_findThirds_61 : decode cX8_findThirds 61 = .ok (.iload_n 2, 1) := by decide +kernel
theorem dX8_findThirds_62 : decode cX8_findThirds 62 = .ok (.iastore, 1) := by decide +kernel
theorem dX8_findThirds_63 : decode cX8_findThirds 63 = .ok (.aload_n 0, 1) := by decide +kernel
theorem dX8_findThirds_64 : decode cX8_findThirds 64 = .ok (.getfield 59, 3) := by decide +kernel
theorem dX8_findThirds_67 : decode cX8_findThirds 67 = .ok (.aload_n 0, 1) := by decide +kernel
theorem dX8_findThirds_68 : decode cX8_findThirds 68 = .ok (.getfield 165, 3) := by decide +kernel
theorem dX8_findThirds_71 : decode cX8_findThirds 71 = .ok (.iload_n 3, 1) := by decide +kernel
theorem dX8_findThirds_72 : decode cX8_findThirds 72 = .ok (.iastore, 1) := by decide +kernel
theorem dX8_findThirds_73 : decode cX8_findThirds 73 = .ok (.aload_n 0, 1) := by decide +kernel
theorem dX8_findThirds_74 : decode cX8_findThirds 74 = .ok (.getfield 62, 3) := by decide +kernel
theorem dX8_findThirds_77 : decode cX8_findThirds 77 = .ok (.aload_n 0, 1) := by decide +kernel
theorem dX8_findThirds_78 : decode cX8_findThirds 78 = .ok (.getfield 165, 3) := by decide +kernel
theorem dX8_findThirds_81 : decode cX8_findThirds 81 = .ok (.iload 4, 2) := by decide +kernel
theorem dX8_findThirds_83 : decode cX8_findThirds 83 = .ok (.iastore, 1) := by decide +kernel
theorem dX8_findThirds_84 : decode cX8_findThirds 84 = .ok (.aload_n 0, 1) := by decide +kernel
theorem dX8_findThirds_85 : decode cX8_findThirds 85 = .ok (.dup, 1) := by decide +kernel
theorem dX8_findThirds_86 : decode cX8_findThirds 86 = .ok (.getfield 165, 3) := by decide +kernel
theorem dX8_findThirds_89 : decode cX8_findThirds 89 = .ok (.iconst 1, 1) := by decide +kernel
theorem dX8_findThirds_90 : decode cX8_findThirds 90 = .ok (.iadd, 1) := by decide +kernel
theorem dX8_findThirds_91 : decode cX8_findThirds 91 = .ok (.putfield 165, 3) := by decide +kernel
theorem dX8_findThirds_94 : decode cX8_findThirds 94 = .ok (.iinc 4 1, 3) := by decide +kernel
theorem dX8_findThirds_97 : decode cX8_findThirds 97 = .ok (.goto (-65), 3) := by decide +kernel
theorem dX8_findThirds_100 : decode cX8_findThirds 100 = .ok (.iinc 3 1, 3) := by decide +kernel
theorem dX8_findThirds_103 : decode cX8_findThirds 103 = .ok (.goto (-84), 3) := by decide +kernel
theorem dX8_findThirds_106 : decode cX8_findThirds 106 = .ok (.iinc 2 1, 3) := by decide +kernel
theorem dX8_findThirds_109 : decode cX8_findThirds 109 = .ok (.goto (-102), 3) := by decide +kernel
theorem dX8_findThirds_112 : decode cX8_findThirds 112 = .ok (.return_, 1) := by decide +kernel
set_option maxRecDepth 20000 in
theorem ggX8_isBare_X8_isHem : GoodIn wsX8_isBare wsX8_isHem := goodIn_r _ [11, 12, 13, 14, 15, 16, 17, 10, 18, 19, 20, 37, 38, 39, 40, 41, 42, 43, 44, 45, 46, 47, 48, 49, 50, 51, 52, 53, 54, 55, 56, 57, 58, 59, 60, 61, 62, 63, 64, 65, 66, 67, 68, 69, 70] (by decide +kernel) (by decide +kernel)
set_option maxRecDepth 20000 in
theorem gX8_isBare_X8_isHem : GoodIn wsX8_isBare (wsV RX8 171 RX8 yX8_isHem wsX8_isHem) := goodIn_app (goodIn_of _ (by decide +kernel)) ggX8_isBare_X8_isHem
set_option maxRecDepth 20000 in
theorem ggX8_isBare_X8_findThirds : GoodIn wsX8_isBare wsX8_findThirds := goodIn_r _ [24, 2, 12, 4, 5, 6, 25, 26, 27, 10, 28, 15, 16, 17, 18, 19, 20, 29, 30, 31, 32, 3, 33, 34, 35, 36, 37, 38, 39, 40, 41, 42, 43, 44, 45, 46, 47, 48, 49, 50, 51, 52, 53, 54, 55, 56, 57, 58, 59, 60, 61, 62, 63, 64, 65, 66, 67, 68, 69, 70] (by decide +kernel) (by decide +kernel)
set_option maxRecDepth 20000 in
theorem gX8_isBare_X8_findThirds : GoodIn wsX8_isBare (wsV RX8 174 RX8 yX8_findThirds wsX8_findThirds) := goodIn_app (goodIn_of _ (by decide +kernel)) ggX8_isBare_X8_findThirds
theorem dX8_isBare_0 : decode cX8_isBare 0 = .ok (.aload_n 0, 1) := by decide +kernel
theorem dX8_isBare_1 : decode cX8_isBare 1 = .ok (.iload_n 1, 1) := by decide +kernel
theorem dX8_isBare_2 : decode cX8_isBare 2 = .ok (.invokevirtual 171, 3) := by decide +kernel
theorem dX8_isBare_5 : decode cX8_isBare 5 = .ok (.ifCond .eq 14, 3) := by decide +kernel
theorem dX8_isBare_8 : decode cX8_isBare 8 = .ok (.aload_n 0, 1) := by decide +kernel
theorem dX8_isBare_9 : decode cX8_isBare 9 = .ok (.getfield 145, 3) := by decide +kernel
theorem dX8_isBare_12 : decode cX8_isBare 12 = .ok (.iload_n 1, 1) := by decide +kernel
theorem dX8_isBare_13 : decode cX8_isBare 13 = .ok (.ishr, 1) := by decide +kernel
theorem dX8_isBare_14 : decode cX8_isBare 14 = .ok (.iconst 1, 1) := by decide +kernel
theorem dX8_isBare_15 : decode cX8_isBare 15 = .ok (.iand, 1) := by decide +kernel
theorem dX8_isBare_16 : decode cX8_isBare 16 = .ok (.ifCond .ne 5, 3) := by decide +kernel
theorem dX8_isBare_19 : decode cX8_isBare 19 = .ok (.iconst 0, 1) := by decide +kernel
theorem dX8_isBare_20 : decode cX8_isBare 20 = .ok (.ireturn, 1) := by decide +kernel
theorem dX8_isBare_21 : decode cX8_isBare 21 = .ok (.aload_n 0, 1) := by decide +kernel
theorem dX8_isBare_22 : decode cX8_isBare 22 = .ok (.aload_n 0, 1) := by decide +kernel
theorem dX8_isBare_23 : decode cX8_isBare 23 = .ok (.getfield 145, 3) := by decide +kernel
theorem dX8_isBare_26 : decode cX8_isBare 26 = .ok (.invokevirtual 174, 3) := by decide +kernel
theorem dX8_isBare_29 : decode cX8_isBare 29 = .ok (.iconst 0, 1) := by decide +kernel
theorem dX8_isBare_30 : decode cX8_isBare 30 = .ok (.istore_n 2, 1) := by decide +kernel
theorem dX8_isBare_31 : decode cX8_isBare 31 = .ok (.iconst 0, 1) := by decide +kernel
theorem dX8_isBare_32 : decode cX8_isBare 32 = .ok (.istore_n 3, 1) := by decide +kernel
theorem dX8_isBare_33 : decode cX8_isBare 33 = .ok (.iload_n 3, 1) := by decide +kernel
theorem dX8_isBare_34 : decode cX8_isBare 34 = .ok (.aload_n 0, 1) := by decide +kernel
theorem dX8_isBare_35 : decode cX8_isBare 35 = .ok (.getfield 165, 3) := by decide +kernel
theorem dX8_isBare_38 : decode cX8_isBare 38 = .ok (.if_icmp .ge 158, 3) := by decide +kernel
theorem dX8_isBare_41 : decode cX8_isBare 41 = .ok (.aload_n 0, 1) := by decide +kernel
theorem dX8_isBare_42 : decode cX8_isBare 42 = .ok (.getfield 38, 3) := by decide +kernel
theorem dX8_isBare_45 : decode cX8_isBare 45 = .ok (.bipush 8, 2) := by decide +kernel
theorem dX8_isBare_47 : decode cX8_isBare 47 = .ok (.aload_n 0, 1) := by decide +kernel
theorem dX8_isBare_48 : decode cX8_isBare 48 = .ok (.getfield 56, 3) := by decide +kernel
theorem dX8_isBare_51 : decode cX8_isBare 51 = .ok (.iload_n 3, 1) := by decide +kernel
theorem dX8_isBare_52 : decode cX8_isBare 52 = .ok (.iaload, 1) := by decide +kernel
theorem dX8_isBare_53 : decode cX8_isBare 53 = .ok (.imul, 1) := by decide +kernel
theorem dX8_isBare_54 : decode cX8_isBare 54 = .ok (.aload_n 0, 1) := by decide +kernel
theorem dX8_isBare_55 : decode cX8_isBare 55 = .ok (.getfield 59, 3) := by decide +kernel
theorem dX8_isBare_58 : decode cX8_isBare 58 = .ok (.iload_n 3, 1) := by decide +kernel
theorem dX8_isBare_59 : decode cX8_isBare 59 = .ok (.iaload, 1) := by decide +kernel
theorem dX8_isBare_60 : decode cX8_isBare 60 = .ok (.iadd, 1) := by decide +kernel
theorem dX8_isBare_61 : decode cX8_isBare 61 = .ok (.iaload, 1) := by decide +kernel
theorem dX8_isBare_62 : decode cX8_isBare 62 = .ok (.istore 4, 2) := by decide +kernel
theorem dX8_isBare_64 : decode cX8_isBare 64 = .ok (.aload_n 0, 1) := by decide +kernel
theorem dX8_isBare_65 : decode cX8_isBare 65 = .ok (.getfield 38, 3) := by decide +kernel
theorem dX8_isBare_68 : decode cX8_isBare 68 = .ok (.bipush 8, 2) := by decide +kernel
theorem dX8_isBare_70 : decode cX8_isBare 70 = .ok (.aload_n 0, 1) := by decide +kernel
theorem dX8_isBare_71 : decode cX8_isBare 71 = .ok (.getfield 56, 3) := by decide +kernel
theorem dX8_isBare_74 : decode cX8_isBare 74 = .ok (.iload_n 3, 1) := by decide +kernel
theorem dX8_isBare_75 : decode cX8_isBare 75 = .ok (.iaload, 1) := by decide +kernel
theorem dX8_isBare_76 : decode cX8_isBare 76 = .ok (.imul, 1) := by decide +kernel
theorem dX8_isBare_77 : decode cX8_isBare 77 = .ok (.aload_n 0, 1) := by decide +kernel
theorem dX8_isBare_78 : decode cX8_isBare 78 = .ok (.getfield 62, 3) := by decide +kernel
theorem dX8_isBare_81 : decode cX8_isBare 81 = .ok (.iload_n 3, 1) := by decide +kernel
theorem dX8_isBare_82 : decode cX8_isBare 82 = .ok (.iaload, 1) := by decide +kernel
theorem dX8_isBare_83 : decode cX8_isBare 83 = .ok (.iadd, 1) := by decide +kernel
theorem dX8_isBare_84 : decode cX8_isBare 84 = .ok (.iaload, 1) := by decide +kernel
theorem dX8_isBare_85 : decode cX8_isBare 85 = .ok (.istore 5, 2) := by decide +kernel
theorem dX8_isBare_87 : decode cX8_isBare 87 = .ok (.aload_n 0, 1) := by decide +kernel
theorem dX8_isBare_88 : decode cX8_isBare 88 = .ok (.getfield 38, 3) := by decide +kernel
theorem dX8_isBare_91 : decode cX8_isBare 91 = .ok (.bipush 8, 2) := by decide +kernel
theorem dX8_isBare_93 : decode cX8_isBare 93 = .ok (.aload_n 0, 1) := by decide +kernel
theorem dX8_isBare_94 : decode cX8_isBare 94 = .ok (.getfield 59, 3) := by decide +kernel
theorem dX8_isBare_97 : decode cX8_isBare 97 = .ok (.iload_n 3, 1) := by decide +kernel
theorem dX8_isBare_98 : decode cX8_isBare 98 = .ok (.iaload, 1) := by decide +kernel
theorem dX8_isBare_99 : decode cX8_isBare 99 = .ok (.imul, 1) := by decide +kernel
theorem dX8_isBare_100 : decode cX8_isBare 100 = .ok (.aload_n 0, 1) := by decide +kernel
theorem dX8_isBare_101 : decode cX8_isBare 101 = .ok (.getfield 62, 3) := by decide +kernel
theorem dX8_isBare_104 : decode cX8_isBare 104 = .ok (.iload_n 3, 1) := by decide +kernel
theorem dX8_isBare_105 : decode cX8_isBare 105 = .ok (.iaload, 1) := by decide +kernel
theorem dX8_isBare_106 : decode cX8_isBare 106 = .ok (.iadd, 1) := by decide +kernel
theorem dX8_isBare_107 : decode cX8_isBare 107 = .ok (.iaload, 1) := by decide +kernel
theorem dX8_isBare_108 : decode cX8_isBare 108 = .ok (.istore 6, 2) := by decide +kernel
theorem dX8_isBare_110 : decode cX8_isBare 110 = .ok (.aload_n 0, 1) := by decide +kernel
theorem dX8_isBare_111 : decode cX8_isBare 111 = .ok (.iload 4, 2) := by decide +kernel
theorem dX8_isBare_113 : decode cX8_isBare 113 = .ok (.invokevirtual 171, 3) := by decide +kernel
theorem dX8_isBare_116 : decode cX8_isBare 116 = .ok (.ifCond .eq 7, 3) := by decide +kernel
theorem dX8_isBare_119 : decode cX8_isBare 119 = .ok (.iconst 1, 1) := by decide +kernel
theorem dX8_isBare_120 : decode cX8_isBare 120 = .ok (.goto 4, 3) := by decide +kernel
theorem dX8_isBare_123 : decode cX8_isBare 123 = .ok (.iconst 0, 1) := by decide +kernel
theorem dX8_isBare_124 : decode cX8_isBare 124 = .ok (.aload_n 0, 1) := by decide +kernel
theorem dX8_isBare_125 : decode cX8_isBare 125 = .ok (.iload 5, 2) := by decide +kernel
theorem dX8_isBare_127 : decode cX8_isBare 127 = .ok (.invokevirtual 171, 3) := by decide +kernel
theorem dX8_isBare_130 : decode cX8_isBare 130 = .ok (.ifCond .eq 7, 3) := by decide +kernel
theorem dX8_isBare_133 : decode cX8_isBare 133 = .ok (.iconst 1, 1) := by decide +kernel
theorem dX8_isBare_134 : decode cX8_isBare 134 = .ok (.goto 4, 3) := by decide +kernel
theorem dX8_isBare_137 : decode cX8_isBare 137 = .ok (.iconst 0, 1) := by decide +kernel
theorem dX8_isBare_138 : decode cX8_isBare 138 = .ok (.iadd, 1) := by decide +kernel
theorem dX8_isBare_139 : decode cX8_isBare 139 = .ok (.aload_n 0, 1) := by decide +kernel
theorem dX8_isBare_140 : decode cX8_isBare 140 = .ok (.iload 6, 2) := by decide +kernel
theorem dX8_isBare_142 : decode cX8_isBare 142 = .ok (.invokevirtual 171, 3) := by decide +kernel
theorem dX8_isBare_145 : decode cX8_isBare 145 = .ok (.ifCond .eq 7, 3) := by decide +kernel
theorem dX8_isBare_148 : decode cX8_isBare 148 = .ok (.iconst 1, 1) := by decide +kernel
theorem dX8_isBare_149 : decode cX8_isBare 149 = .ok (.goto 4, 3) := by decide +kernel
theorem dX8_isBare_152 : decode cX8_isBare 152 = .ok (.iconst 0, 1) := by decide +kernel
theorem dX8_isBare_153 : decode cX8_isBare 153 = .ok (.iadd, 1) := by decide +kernel
theorem dX8_isBare_154 : decode cX8_isBare 154 = .ok (.istore 7, 2) := by decide +kernel
theorem dX8_isBare_156 : decode cX8_isBare 156 = .ok (.iload_n 2, 1) := by decide +kernel
theorem dX8_isBare_157 : decode cX8_isBare 157 = .ok (.ifCond .ne 27, 3) := by decide +kernel
theorem dX8_isBare_160 : decode cX8_isBare 160 = .ok (.iload 4, 2) := by decide +kernel
theorem dX8_isBare_162 : decode cX8_isBare 162 = .ok (.iload_n 1, 1) := by decide +kernel
theorem dX8_isBare_163 : decode cX8_isBare 163 = .ok (.if_icmp .eq 15, 3) := by decide +kernel
theorem dX8_isBare_166 : decode cX8_isBare 166 = .ok (.iload 5, 2) := by decide +kernel
theorem dX8_isBare_168 : decode cX8_isBare 168 = .ok (.iload_n 1, 1) := by decide +kernel
theorem dX8_isBare_169 : decode cX8_isBare 169 = .ok (.if_icmp .eq 9, 3) := by decide +kernel
theorem dX8_isBare_172 : decode cX8_isBare 172 = .ok (.iload 6, 2) := by decide +kernel
theorem dX8_isBare_174 : decode cX8_isBare 174 = .ok (.iload_n 1, 1) := by decide +kernel
theorem dX8_isBare_175 : decode cX8_isBare 175 = .ok (.if_icmp .ne 13, 3) := by decide +kernel
theorem dX8_isBare_178 : decode cX8_isBare 178 = .ok (.iload 7, 2) := by decide +kernel
theorem dX8_isBare_180 : decode cX8_isBare 180 = .ok (.iconst 1, 1) := by decide +kernel
theorem dX8_isBare_181 : decode cX8_isBare 181 = .ok (.if_icmp .le 7, 3) := by decide +kernel
theorem dX8_isBare_184 : decode cX8_isBare 184 = .ok (.iconst 1, 1) := by decide +kernel
theorem dX8_isBare_185 : decode cX8_isBare 185 = .ok (.goto 4, 3) := by decide +kernel
theorem dX8_isBare_188 : decode cX8_isBare 188 = .ok (.iconst 0, 1) := by decide +kernel
theorem dX8_isBare_189 : decode cX8_isBare 189 = .ok (.istore_n 2, 1) := by decide +kernel
theorem dX8_isBare_190 : decode cX8_isBare 190 = .ok (.iinc 3 1, 3) := by decide +kernel
theorem dX8_isBare_193 : decode cX8_isBare 193 = .ok (.goto (-160), 3) := by decide +kernel
theorem dX8_isBare_196 : decode cX8_isBare 196 = .ok (.iload_n 2, 1) := by decide +kernel
theorem dX8_isBare_197 : decode cX8_isBare 197 = .ok (.ireturn, 1) := by decide +kernel
