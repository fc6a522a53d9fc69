set_option maxRecDepth 20000 in
theorem ggX7_init_X4_init : GoodIn wsX7_init wsX4_init := goodIn_r _ [35, 36, 2, 3, 30, 37, 38, 85, 86, 87] (by decide +kernel) (by decide +kernel)
set_option maxRecDepth 20000 in
theorem gX7_init_X4_init_n17 : GoodIn wsX7_init (wsX4_init) := ggX7_init_X4_init
set_option maxRecDepth 20000 in
theorem ggX7_init_X2_init : GoodIn wsX7_init wsX2_init := goodIn_r _ [40, 41, 2, 3, 42, 7, 8, 43, 30, 44, 45, 46, 47, 48, 34, 35, 36, 37, 38, 85, 86, 87, 88, 89, 90, 91, 92, 93, 94, 95] (by decide +kernel) (by decide +kernel)
set_option maxRecDepth 20000 in
theorem gX7_init_X2_init_n24 : GoodIn wsX7_init (wsX2_init) := ggX7_init_X2_init
set_option maxRecDepth 20000 in
theorem ggX7_init_X1_init : GoodIn wsX7_init wsX1_init := goodIn_r _ [50, 51, 2, 3, 30, 52, 53, 96, 97, 98] (by decide +kernel) (by decide +kernel)
set_option maxRecDepth 20000 in
theorem gX7_init_X1_init_n31 : GoodIn wsX7_init (wsX1_init) := ggX7_init_X1_init
set_option maxRecDepth 20000 in
theorem ggX7_init_X0_init : GoodIn wsX7_init wsX0_init := goodIn_r _ [55, 56, 2, 3, 30, 57, 58, 99, 100, 101, 102, 103] (by decide +kernel) (by decide +kernel)
set_option maxRecDepth 20000 in
theorem gX7_init_X0_init_n38 : GoodIn wsX7_init (wsX0_init) := ggX7_init_X0_init
set_option maxRecDepth 20000 in
theorem ggX7_init_X6_init : GoodIn wsX7_init wsX6_init := goodIn_r _ [60, 61, 2, 3, 30, 62, 63, 104, 105, 106] (by decide +kernel) (by decide +kernel)
set_option maxRecDepth 20000 in
theorem gX7_init_X6_init_n45 : GoodIn wsX7_init (wsX6_init) := ggX7_init_X6_init
set_option maxRecDepth 20000 in
theorem ggX7_init_X3_init : GoodIn wsX7_init wsX3_init := goodIn_r _ [65, 66, 2, 3, 30, 67, 107, 108, 109] (by decide +kernel) (by decide +kernel)
set_option maxRecDepth 20000 in
theorem gX7_init_X3_init_n52 : GoodIn wsX7_init (wsX3_init) := ggX7_init_X3_init
set_option maxRecDepth 20000 in
theorem ggX7_init_X5_init : GoodIn wsX7_init wsX5_init := goodIn_r _ [69, 70, 2, 3, 71, 72, 73, 110, 111, 112, 113] (by decide +kernel) (by decide +kernel)
set_option maxRecDepth 20000 in
theorem gX7_init_X5_init_n61 : GoodIn wsX7_init (wsX5_init) := ggX7_init_X5_init
theorem dX7_init_0 : decode cX7_init 0 = .ok (.aload_n 0, 1) := by decide +kernel
theorem dX7_init_1 : decode cX7_init 1 = .ok (.invokespecial 1, 3) := by decide +kernel
theorem dX7_init_4 : decode cX7_init 4 = .ok (.aload_n 0, 1) := by decide +kernel
theorem dX7_init_5 : decode cX7_init 5 = .ok (.iconst 4, 1) := by decide +kernel
theorem dX7_init_6 : decode cX7_init 6 = .ok (.anewarray 9, 3) := by decide +kernel
theorem dX7_init_9 : decode cX7_init 9 = .ok (.putfield 11, 3) := by decide +kernel
theorem dX7_init_12 : decode cX7_init 12 = .ok (.aload_n 0, 1) := by decide +kernel
theorem dX7_init_13 : decode cX7_init 13 = .ok (.new 15, 3) := by decide +kernel
theorem dX7_init_16 : decode cX7_init 16 = .ok (.dup, 1) := by decide +kernel
theorem dX7_init_17 : decode cX7_init 17 = .ok (.invokespecial 17, 3) := by decide +kernel
theorem dX7_init_20 : decode cX7_init 20 = .ok (.putfield 18, 3) := by decide +kernel
theorem dX7_init_23 : decode cX7_init 23 = .ok (.aload_n 0, 1) := by decide +kernel
theorem dX7_init_24 : decode cX7_init 24 = .ok (.new 22, 3) := by decide +kernel
theorem dX7_init_27 : decode cX7_init 27 = .ok (.dup, 1) := by decide +kernel
theorem dX7_init_28 : decode cX7_init 28 = .ok (.invokespecial 24, 3) := by decide +kernel
theorem dX7_init_31 : decode cX7_init 31 = .ok (.putfield 25, 3) := by decide +kernel
theorem dX7_init_34 : decode cX7_init 34 = .ok (.aload_n 0, 1) := by decide +kernel
theorem dX7_init_35 : decode cX7_init 35 = .ok (.new 29, 3) := by decide +kernel
theorem dX7_init_38 : decode cX7_init 38 = .ok (.dup, 1) := by decide +kernel
theorem dX7_init_39 : decode cX7_init 39 = .ok (.invokespecial 31, 3) := by decide +kernel
theorem dX7_init_42 : decode cX7_init 42 = .ok (.putfield 32, 3) := by decide +kernel
theorem dX7_init_45 : decode cX7_init 45 = .ok (.aload_n 0, 1) := by decide +kernel
theorem dX7_init_46 : decode cX7_init 46 = .ok (.new 36, 3) := by decide +kernel
theorem dX7_init_49 : decode cX7_init 49 = .ok (.dup, 1) := by decide +kernel
theorem dX7_init_50 : decode cX7_init 50 = .ok (.invokespecial 38, 3) := by decide +kernel
theorem dX7_init_53 : decode cX7_init 53 = .ok (.putfield 39, 3) := by decide +kernel
theorem dX7_init_56 : decode cX7_init 56 = .ok (.aload_n 0, 1) := by decide +kernel
theorem dX7_init_57 : decode cX7_init 57 = .ok (.new 43, 3) := by decide +kernel
theorem dX7_init_60 : decode cX7_init 60 = .ok (.dup, 1) := by decide +kernel
theorem dX7_init_61 : decode cX7_init 61 = .ok (.invokespecial 45, 3) := by decide +kernel
theorem dX7_init_64 : decode cX7_init 64 = .ok (.putfield 46, 3) := by decide +kernel
theorem dX7_init_67 : decode cX7_init 67 = .ok (.aload_n 0, 1) := by decide +kernel
theorem dX7_init_68 : decode cX7_init 68 = .ok (.new 50, 3) := by decide +kernel
theorem dX7_init_71 : decode cX7_init 71 = .ok (.dup, 1) := by decide +kernel
theorem dX7_init_72 : decode cX7_init 72 = .ok (.invokespecial 52, 3) := by decide +kernel
theorem dX7_init_75 : decode cX7_init 75 = .ok (.putfield 53, 3) := by decide +kernel
theorem dX7_init_78 : decode cX7_init 78 = .ok (.aload_n 0, 1) := by decide +kernel
theorem dX7_init_79 : decode cX7_init 79 = .ok (.bipush 28, 2) := by decide +kernel
theorem dX7_init_81 : decode cX7_init 81 = .ok (.newarray .int, 2) := by decide +kernel
theorem dX7_init_83 : decode cX7_init 83 = .ok (.putfield 57, 3) := by decide +kernel
theorem dX7_init_86 : decode cX7_init 86 = .ok (.iconst 0, 1) := by decide +kernel
theorem dX7_init_87 : decode cX7_init 87 = .ok (.istore_n 1, 1) := by decide +kernel
theorem dX7_init_88 : decode cX7_init 88 = .ok (.iload_n 1, 1) := by decide +kernel
theorem dX7_init_89 : decode cX7_init 89 = .ok (.iconst 4, 1) := by decide +kernel
theorem dX7_init_90 : decode cX7_init 90 = .ok (.if_icmp .ge 22, 3) := by decide +kernel
theorem dX7_init_93 : decode cX7_init 93 = .ok (.aload_n 0, 1) := by decide +kernel
theorem dX7_init_94 : decode cX7_init 94 = .ok (.getfield 11, 3) := by decide +kernel
theorem dX7_init_97 : decode cX7_init 97 = .ok (.iload_n 1, 1) := by decide +kernel
theorem dX7_init_98 : decode cX7_init 98 = .ok (.new 9, 3) := by decide +kernel
theorem dX7_init_101 : decode cX7_init 101 = .ok (.dup, 1) := by decide +kernel
theorem dX7_init_102 : decode cX7_init 102 = .ok (.invokespecial 61, 3) := by decide +kernel
theorem dX7_init_105 : decode cX7_init 105 = .ok (.aastore, 1) := by decide +kernel
theorem dX7_init_106 : decode cX7_init 106 = .ok (.iinc 1 1, 3) := by decide +kernel
theorem dX7_init_109 : decode cX7_init 109 = .ok (.goto (-21), 3) := by decide +kernel
theorem dX7_init_112 : decode cX7_init 112 = .ok (.return_, 1) := by decide +kernel
set_option maxRecDepth 20000 in
theorem ggX7_sheet_X7_isSheet : GoodIn wsX7_sheet wsX7_isSheet := goodIn_r _ [5] (by decide +kernel) (by decide +kernel)
set_option maxRecDepth 20000 in
theorem gX7_sheet_X7_isSheet : GoodIn wsX7_sheet (va_wsS RX7 62 yX7_isSheet wsX7_isSheet) := goodIn_app (goodIn_of _ (by decide +kernel)) ggX7_sheet_X7_isSheet
set_option maxRecDepth 20000 in
theorem ggX7_sheet_X7_found : GoodIn wsX7_sheet wsX7_found := goodIn_r _ [9, 10, 23, 24, 25, 26, 27, 28, 29, 30, 31, 32, 33] (by decide +kernel) (by decide +kernel)
set_option maxRecDepth 20000 in
theorem gX7_sheet_X7_found : GoodIn wsX7_sheet (wsV RX7 66 RX7 yX7_found wsX7_found) := goodIn_app (goodIn_of _ (by decide +kernel)) ggX7_sheet_X7_found
set_option maxRecDepth 20000 in
theorem ggX7_sheet_X7_isLane : GoodIn wsX7_sheet wsX7_isLane := goodIn_r _ [13] (by decide +kernel) (by decide +kernel)
set_option maxRecDepth 20000 in
theorem gX7_sheet_X7_isLane : GoodIn wsX7_sheet (va_wsS RX7 70 yX7_isLane wsX7_isLane) := goodIn_app (goodIn_of _ (by decide +kernel)) ggX7_sheet_X7_isLane
set_option maxRecDepth 20000 in
theorem ggX7_sheet_X5_become : GoodIn wsX7_sheet wsX5_become := goodIn_r _ [18, 19, 20, 21, 22, 34, 35, 36, 37] (by decide +kernel) (by decide +kernel)
set_option maxRecDepth 20000 in
theorem gX7_sheet_X5_become : GoodIn wsX7_sheet (wsV RX7 73 RX5 yX5_become wsX5_become) := goodIn_app (goodIn_of _ (by decide +kernel)) ggX7_sheet_X5_become
theorem dX7_sheet_0 : decode cX7_sheet 0 = .ok (.iload_n 1, 1) := by decide +kernel
theorem dX7_sheet_1 : decode cX7_sheet 1 = .ok (.invokestatic 62, 3) := by decide +kernel
theorem dX7_sheet_4 : decode cX7_sheet 4 = .ok (.ifCond .ne 10, 3) := by decide +kernel
theorem dX7_sheet_7 : decode cX7_sheet 7 = .ok (.aload_n 0, 1) := by decide +kernel
theorem dX7_sheet_8 : decode cX7_sheet 8 = .ok (.bipush (-12), 2) := by decide +kernel
theorem dX7_sheet_10 : decode cX7_sheet 10 = .ok (.invokevirtual 66, 3) := by decide +kernel
theorem dX7_sheet_13 : decode cX7_sheet 13 = .ok (.ireturn, 1) := by decide +kernel
theorem dX7_sheet_14 : decode cX7_sheet 14 = .ok (.iload_n 2, 1) := by decide +kernel
theorem dX7_sheet_15 : decode cX7_sheet 15 = .ok (.invokestatic 70, 3) := by decide +kernel
theorem dX7_sheet_18 : decode cX7_sheet 18 = .ok (.ifCond .eq 9, 3) := by decide +kernel
theorem dX7_sheet_21 : decode cX7_sheet 21 = .ok (.iload_n 3, 1) := by decide +kernel
theorem dX7_sheet_22 : decode cX7_sheet 22 = .ok (.bipush 20, 2) := by decide +kernel
theorem dX7_sheet_24 : decode cX7_sheet 24 = .ok (.if_icmp .le 6, 3) := by decide +kernel
theorem dX7_sheet_27 : decode cX7_sheet 27 = .ok (.bipush (-2), 2) := by decide +kernel
theorem dX7_sheet_29 : decode cX7_sheet 29 = .ok (.ireturn, 1) := by decide +kernel
theorem dX7_sheet_30 : decode cX7_sheet 30 = .ok (.iload_n 3, 1) := by decide +kernel
theorem dX7_sheet_31 : decode cX7_sheet 31 = .ok (.ifCond .ge 10, 3) := by decide +kernel
theorem dX7_sheet_34 : decode cX7_sheet 34 = .ok (.aload_n 0, 1) := by decide +kernel
theorem dX7_sheet_35 : decode cX7_sheet 35 = .ok (.bipush (-14), 2) := by decide +kernel
theorem dX7_sheet_37 : decode cX7_sheet 37 = .ok (.invokevirtual 66, 3) := by decide +kernel
theorem dX7_sheet_40 : decode cX7_sheet 40 = .ok (.ireturn, 1) := by decide +kernel
theorem dX7_sheet_41 : decode cX7_sheet 41 = .ok (.aload_n 0, 1) := by decide +kernel
theorem dX7_sheet_42 : decode cX7_sheet 42 = .ok (.getfield 11, 3) := by decide +kernel
theorem dX7_sheet_45 : decode cX7_sheet 45 = .ok (.iload_n 1, 1) := by decide +kernel
theorem dX7_sheet_46 : decode cX7_sheet 46 = .ok (.aaload, 1) := by decide +kernel
theorem dX7_sheet_47 : decode cX7_sheet 47 = .ok (.iload_n 2, 1) := by decide +kernel
theorem dX7_sheet_48 : decode cX7_sheet 48 = .ok (.iload_n 3, 1) := by decide +kernel
theorem dX7_sheet_49 : decode cX7_sheet 49 = .ok (.invokevirtual 73, 3) := by decide +kernel
theorem dX7_sheet_52 : decode cX7_sheet 52 = .ok (.iload_n 3, 1) := by decide +kernel
theorem dX7_sheet_53 : decode cX7_sheet 53 = .ok (.ireturn, 1) := by decide +kernel
set_option maxRecDepth 20000 in
theorem ggX7_tear_X7_isSheet : GoodIn wsX7_tear wsX7_isSheet := goodIn_r _ [6] (by decide +kernel) (by decide +kernel)
set_option maxRecDepth 20000 in
theorem gX7_tear_X7_isSheet : GoodIn wsX7_tear (va_wsS RX7 62 yX7_isSheet wsX7_isSheet) := goodIn_app (goodIn_of _ (by decide +kernel)) ggX7_tear_X7_isSheet
set_option maxRecDepth 20000 in
theorem ggX7_tear_X7_found : GoodIn wsX7_tear wsX7_found := goodIn_r _ [10, 11, 12, 13, 14, 15, 16, 17, 18, 19, 20, 21, 22] (by decide +kernel) (by decide +kernel)
set_option maxRecDepth 20000 in
theorem gX7_tear_X7_found : GoodIn wsX7_tear (wsV RX7 66 RX7 yX7_found wsX7_found) := goodIn_app (goodIn_of _ (by decide +kernel)) ggX7_tear_X7_found
theorem dX7_tear_0 : decode cX7_tear 0 = .ok (.iload_n 1, 1) := by decide +kernel
theorem dX7_tear_1 : decode cX7_tear 1 = .ok (.invokestatic 62, 3) := by decide +kernel
theorem dX7_tear_4 : decode cX7_tear 4 = .ok (.ifCond .ne 10, 3) := by decide +kernel
theorem dX7_tear_7 : decode cX7_tear 7 = .ok (.aload_n 0, 1) := by decide +kernel
theorem dX7_tear_8 : decode cX7_tear 8 = .ok (.bipush (-12), 2) := by decide +kernel
theorem dX7_tear_10 : decode cX7_tear 10 = .ok (.invokevirtual 66, 3) := by decide +kernel
theorem dX7_tear_13 : decode cX7_tear 13 = .ok (.ireturn, 1) := by decide +kernel
theorem dX7_tear_14 : decode cX7_tear 14 = .ok (.aload_n 0, 1) := by decide +kernel
theorem dX7_tear_15 : decode cX7_tear 15 = .ok (.getfield 11, 3) := by decide +kernel
theorem dX7_tear_18 : decode cX7_tear 18 = .ok (.iload_n 1, 1) := by decide +kernel
theorem dX7_tear_19 : decode cX7_tear 19 = .ok (.aaload, 1) := by decide +kernel
theorem dX7_tear_20 : decode cX7_tear 20 = .ok (.getfield 77, 3) := by decide +kernel
theorem dX7_tear_23 : decode cX7_tear 23 = .ok (.ifCond .eq 7, 3) := by decide +kernel
theorem dX7_tear_26 : decode cX7_tear 26 = .ok (.iconst 1, 1) := by decide +kernel
theorem dX7_tear_27 : decode cX7_tear 27 = .ok (.goto 4, 3) := by decide +kernel
theorem dX7_tear_30 : decode cX7_tear 30 = .ok (.iconst 0, 1) := by decide +kernel
theorem dX7_tear_31 : decode cX7_tear 31 = .ok (.istore_n 2, 1) := by decide +kernel
theorem dX7_tear_32 : decode cX7_tear 32 = .ok (.aload_n 0, 1) := by decide +kernel
theorem dX7_tear_33 : decode cX7_tear 33 = .ok (.getfield 11, 3) := by decide +kernel
theorem dX7_tear_36 : decode cX7_tear 36 = .ok (.iload_n 1, 1) := by decide +kernel
theorem dX7_tear_37 : decode cX7_tear 37 = .ok (.aaload, 1) := by decide +kernel
theorem dX7_tear_38 : decode cX7_tear 38 = .ok (.iconst 1, 1) := by decide +kernel
theorem dX7_tear_39 : decode cX7_tear 39 = .ok (.putfield 77, 3) := by decide +kernel
theorem dX7_tear_42 : decode cX7_tear 42 = .ok (.iload_n 2, 1) := by decide +kernel
theorem dX7_tear_43 : decode cX7_tear 43 = .ok (.ireturn, 1) := by decide +kernel
set_option maxRecDepth 20000 in
theorem ggX7_put_X7_isSheet : GoodIn wsX7_put wsX7_isSheet := goodIn_r _ [7] (by decide +kernel) (by decide +kernel)
set_option maxRecDepth 20000 in
theorem gX7_put_X7_isSheet : GoodIn wsX7_put (va_wsS RX7 62 yX7_isSheet wsX7_isSheet) := goodIn_app (goodIn_of _ (by decide +kernel)) ggX7_put_X7_isSheet
set_option maxRecDepth 20000 in
theorem ggX7_put_X7_found : GoodIn wsX7_put wsX7_found := goodIn_r _ [11, 12, 24, 25, 26, 27, 28, 29, 30, 31, 32, 33, 34] (by decide +kernel) (by decide +kernel)
set_option maxRecDepth 20000 in
theorem gX7_put_X7_found : GoodIn wsX7_put (wsV RX7 66 RX7 yX7_found wsX7_found) := goodIn_app (goodIn_of _ (by decide +kernel)) ggX7_put_X7_found
set_option maxRecDepth 20000 in
theorem ggX7_put_X5_hasPlace : GoodIn wsX7_put wsX5_hasPlace := goodIn_r _ [17, 18, 35, 36, 37, 38] (by decide +kernel) (by decide +kernel)
set_option maxRecDepth 20000 in
theorem gX7_put_X5_hasPlace : GoodIn wsX7_put (wsV RX7 81 RX5 yX5_hasPlace wsX5_hasPlace) := goodIn_app (goodIn_of _ (by decide +kernel)) ggX7_put_X5_hasPlace
set_option maxRecDepth 20000 in
theorem ggX7_put_X5_lowestBits : GoodIn wsX7_put wsX5_lowestBits := goodIn_r _ [22, 23, 35, 36, 37, 38] (by decide +kernel) (by decide +kernel)
set_option maxRecDepth 20000 in
theorem gX7_put_X5_lowestBits : GoodIn wsX7_put (wsV RX7 88 RX5 yX5_lowestBits wsX5_lowestBits) := goodIn_app (goodIn_of _ (by decide +kernel)) ggX7_put_X5_lowestBits
theorem dX7_put_0 : decode cX7_put 0 = .ok (.iload_n 1, 1) := by decide +kernel
theorem dX7_put_1 : decode cX7_put 1 = .ok (.invokestatic 62, 3) := by decide +kernel
theorem dX7_put_4 : decode cX7_put 4 = .ok (.ifCond .ne 10, 3) := by decide +kernel
theorem dX7_put_7 : decode cX7_put 7 = .ok (.aload_n 0, 1) := by decide +kernel
theorem dX7_put_8 : decode cX7_put 8 = .ok (.bipush (-12), 2) := by decide +kernel
theorem dX7_put_10 : decode cX7_put 10 = .ok (.invokevirtual 66, 3) := by decide +kernel
theorem dX7_put_13 : decode cX7_put 13 = .ok (.ireturn, 1) := by decide +kernel
theorem dX7_put_14 : decode cX7_put 14 = .ok (.aload_n 0, 1) := by decide +kernel
theorem dX7_put_15 : decode cX7_put 15 = .ok (.getfield 11, 3) := by decide +kernel
theorem dX7_put_18 : decode cX7_put 18 = .ok (.iload_n 1, 1) := by decide +kernel
theorem dX7_put_19 : decode cX7_put 19 = .ok (.aaload, 1) := by decide +kernel
theorem dX7_put_20 : decode cX7_put 20 = .ok (.astore 5, 2) := by decide +kernel
theorem dX7_put_22 : decode cX7_put 22 = .ok (.aload 5, 2) := by decide +kernel
theorem dX7_put_24 : decode cX7_put 24 = .ok (.getfield 77, 3) := by decide +kernel
theorem dX7_put_27 : decode cX7_put 27 = .ok (.ifCond .eq 10, 3) := by decide +kernel
theorem dX7_put_30 : decode cX7_put 30 = .ok (.aload_n 0, 1) := by decide +kernel
theorem dX7_put_31 : decode cX7_put 31 = .ok (.bipush (-11), 2) := by decide +kernel
theorem dX7_put_33 : decode cX7_put 33 = .ok (.invokevirtual 66, 3) := by decide +kernel
theorem dX7_put_36 : decode cX7_put 36 = .ok (.ireturn, 1) := by decide +kernel
theorem dX7_put_37 : decode cX7_put 37 = .ok (.aload 5, 2) := by decide +kernel
theorem dX7_put_39 : decode cX7_put 39 = .ok (.iload_n 2, 1) := by decide +kernel
theorem dX7_put_40 : decode cX7_put 40 = .ok (.invokevirtual 81, 3) := by decide +kernel
theorem dX7_put_43 : decode cX7_put 43 = .ok (.ifCond .ne 10, 3) := by decide +kernel
theorem dX7_put_46 : decode cX7_put 46 = .ok (.aload_n 0, 1) := by decide +kernel
theorem dX7_put_47 : decode cX7_put 47 = .ok (.bipush (-12), 2) := by decide +kernel
theorem dX7_put_49 : decode cX7_put 49 = .ok (.invokevirtual 66, 3) := by decide +kernel
theorem dX7_put_52 : decode cX7_put 52 = .ok (.ireturn, 1) := by decide +kernel
theorem dX7_put_53 : decode cX7_put 53 = .ok (.aload 5, 2) := by decide +kernel
theorem dX7_put_55 : decode cX7_put 55 = .ok (.getfield 84, 3) := by decide +kernel
theorem dX7_put_58 : decode cX7_put 58 = .ok (.iload_n 2, 1) := by decide +kernel
theorem dX7_put_59 : decode cX7_put 59 = .ok (.aload 5, 2) := by decide +kernel
theorem dX7_put_61 : decode cX7_put 61 = .ok (.lload_n 3, 1) := by decide +kernel
theorem dX7_put_62 : decode cX7_put 62 = .ok (.invokevirtual 88, 3) := by decide +kernel
theorem dX7_put_65 : decode cX7_put 65 = .ok (.lastore, 1) := by decide +kernel
theorem dX7_put_66 : decode cX7_put 66 = .ok (.iconst 1, 1) := by decide +kernel
theorem dX7_put_67 : decode cX7_put 67 = .ok (.ireturn, 1) := by decide +kernel
set_option maxRecDepth 20000 in
theorem ggX7_at_X7_isSheet : GoodIn wsX7_at wsX7_isSheet := goodIn_r _ [9] (by decide +kernel) (by decide +kernel)
set_option maxRecDepth 20000 in
theorem gX7_at_X7_isSheet : GoodIn wsX7_at (va_wsS RX7 62 yX7_isSheet wsX7_isSheet) := goodIn_app (goodIn_of _ (by decide +kernel)) ggX7_at_X7_isSheet
set_option maxRecDepth 20000 in
theorem ggX7_at_X7_found : GoodIn wsX7_at wsX7_found := goodIn_r _ [13, 14, 24, 25, 26, 27, 28, 29, 30, 31, 32, 33, 34] (by decide +kernel) (by decide +kernel)
set_option maxRecDepth 20000 in
theorem gX7_at_X7_found : GoodIn wsX7_at (wsV RX7 66 RX7 yX7_found wsX7_found) := goodIn_app (goodIn_of _ (by decide +kernel)) ggX7_at_X7_found
set_option maxRecDepth 20000 in
theorem ggX7_at_X7_isLane : GoodIn wsX7_at wsX7_isLane := goodIn_r _ [17] (by decide +kernel) (by decide +kernel)
set_option maxRecDepth 20000 in
theorem gX7_at_X7_isLane : GoodIn wsX7_at (va_wsS RX7 70 yX7_isLane wsX7_isLane) := goodIn_app (goodIn_of _ (by decide +kernel)) ggX7_at_X7_isLane
set_option maxRecDepth 20000 in
theorem ggX7_at_X5_hasPlace : GoodIn wsX7_at wsX5_hasPlace := goodIn_r _ [22, 23, 35, 36, 37, 38] (by decide +kernel) (by decide +kernel)
set_option maxRecDepth 20000 in
theorem gX7_at_X5_hasPlace : GoodIn wsX7_at (wsV RX7 81 RX5 yX5_hasPlace wsX5_hasPlace) := goodIn_app (goodIn_of _ (by decide +kernel)) ggX7_at_X5_hasPlace
theorem dX7_at_0 : decode cX7_at 0 = .ok (.iload_n 1, 1) := by decide +kernel
theorem dX7_at_1 : decode cX7_at 1 = .ok (.invokestatic 62, 3) := by decide +kernel
theorem dX7_at_4 : decode cX7_at 4 = .ok (.ifCond .ne 11, 3) := by decide +kernel
theorem dX7_at_7 : decode cX7_at 7 = .ok (.aload_n 0, 1) := by decide +kernel
theorem dX7_at_8 : decode cX7_at 8 = .ok (.bipush (-12), 2) := by decide +kernel
theorem dX7_at_10 : decode cX7_at 10 = .ok (.invokevirtual 66, 3) := by decide +kernel
theorem dX7_at_13 : decode cX7_at 13 = .ok (.i2l, 1) := by decide +kernel
theorem dX7_at_14 : decode cX7_at 14 = .ok (.lreturn, 1) := by decide +kernel
theorem dX7_at_15 : decode cX7_at 15 = .ok (.iload_n 2, 1) := by decide +kernel
theorem dX7_at_16 : decode cX7_at 16 = .ok (.invokestatic 70, 3) := by decide +kernel
theorem dX7_at_19 : decode cX7_at 19 = .ok (.ifCond .ne 7, 3) := by decide +kernel
theorem dX7_at_22 : decode cX7_at 22 = .ok (.ldc2_w 92, 3) := by decide +kernel
theorem dX7_at_25 : decode cX7_at 25 = .ok (.lreturn, 1) := by decide +kernel
theorem dX7_at_26 : decode cX7_at 26 = .ok (.aload_n 0, 1) := by decide +kernel
theorem dX7_at_27 : decode cX7_at 27 = .ok (.getfield 11, 3) := by decide +kernel
theorem dX7_at_30 : decode cX7_at 30 = .ok (.iload_n 1, 1) := by decide +kernel
theorem dX7_at_31 : decode cX7_at 31 = .ok (.aaload, 1) := by decide +kernel
theorem dX7_at_32 : decode cX7_at 32 = .ok (.astore 4, 2) := by decide +kernel
theorem dX7_at_34 : decode cX7_at 34 = .ok (.aload 4, 2) := by decide +kernel
theorem dX7_at_36 : decode cX7_at 36 = .ok (.getfield 77, 3) := by decide +kernel
theorem dX7_at_39 : decode cX7_at 39 = .ok (.ifCond .eq 11, 3) := by decide +kernel
theorem dX7_at_42 : decode cX7_at 42 = .ok (.aload_n 0, 1) := by decide +kernel
theorem dX7_at_43 : decode cX7_at 43 = .ok (.bipush (-11), 2) := by decide +kernel
theorem dX7_at_45 : decode cX7_at 45 = .ok (.invokevirtual 66, 3) := by decide +kernel
theorem dX7_at_48 : decode cX7_at 48 = .ok (.i2l, 1) := by decide +kernel
theorem dX7_at_49 : decode cX7_at 49 = .ok (.lreturn, 1) := by decide +kernel
theorem dX7_at_50 : decode cX7_at 50 = .ok (.aload 4, 2) := by decide +kernel
theorem dX7_at_52 : decode cX7_at 52 = .ok (.getfield 94, 3) := by decide +kernel
theorem dX7_at_55 : decode cX7_at 55 = .ok (.iload_n 2, 1) := by decide +kernel
theorem dX7_at_56 : decode cX7_at 56 = .ok (.if_icmp .eq 11, 3) := by decide +kernel
theorem dX7_at_59 : decode cX7_at 59 = .ok (.aload_n 0, 1) := by decide +kernel
theorem dX7_at_60 : decode cX7_at 60 = .ok (.bipush (-13), 2) := by decide +kernel
theorem dX7_at_62 : decode cX7_at 62 = .ok (.invokevirtual 66, 3) := by decide +kernel
theorem dX7_at_65 : decode cX7_at 65 = .ok (.i2l, 1) := by decide +kernel
theorem dX7_at_66 : decode cX7_at 66 = .ok (.lreturn, 1) := by decide +kernel
theorem dX7_at_67 : decode cX7_at 67 = .ok (.aload 4, 2) := by decide +kernel
theorem dX7_at_69 : decode cX7_at 69 = .ok (.iload_n 3, 1) := by decide +kernel
theorem dX7_at_70 : decode cX7_at 70 = .ok (.invokevirtual 81, 3) := by decide +kernel
theorem dX7_at_73 : decode cX7_at 73 = .ok (.ifCond .ne 11, 3) := by decide +kernel
theorem dX7_at_76 : decode cX7_at 76 = .ok (.aload_n 0, 1) := by decide +kernel
theorem dX7_at_77 : decode cX7_at 77 = .ok (.bipush (-12), 2) := by decide +kernel
theorem dX7_at_79 : decode cX7_at 79 = .ok (.invokevirtual 66, 3) := by decide +kernel
theorem dX7_at_82 : decode cX7_at 82 = .ok (.i2l, 1) := by decide +kernel
theorem dX7_at_83 : decode cX7_at 83 = .ok (.lreturn, 1) := by decide +kernel
theorem dX7_at_84 : decode cX7_at 84 = .ok (.aload 4, 2) := by decide +kernel
theorem dX7_at_86 : decode cX7_at 86 = .ok (.getfield 84, 3) := by decide +kernel
theorem dX7_at_89 : decode cX7_at 89 = .ok (.iload_n 3, 1) := by decide +kernel
theorem dX7_at_90 : decode cX7_at 90 = .ok (.laload, 1) := by decide +kernel
theorem dX7_at_91 : decode cX7_at 91 = .ok (.lreturn, 1) := by decide +kernel
set_option maxRecDepth 20000 in
theorem ggX7_post_X7_collect : GoodIn wsX7_post wsX7_collect := goodIn_r _ [5, 6, 7, 8, 9, 4, 10, 11, 12, 13, 14, 15, 16, 17, 18, 19, 20, 21, 22, 23, 24, 25, 26, 27, 28, 29, 30, 31, 32, 33, 34, 35, 36, 37] (by decide +kernel) (by decide +kernel)
set_option maxRecDepth 20000 in
theorem gX7_post_X7_collect : GoodIn wsX7_post (wsV RX7 98 RX7 yX7_collect wsX7_collect) := goodIn_app (goodIn_of _ (by decide +kernel)) ggX7_post_X7_collect
theorem dX7_post_0 : decode cX7_post 0 = .ok (.aload_n 0, 1) := by decide +kernel
theorem dX7_post_1 : decode cX7_post 1 = .ok (.iload_n 1, 1) := by decide +kernel
theorem dX7_post_2 : decode cX7_post 2 = .ok (.i2l, 1) := by decide +kernel
theorem dX7_post_3 : decode cX7_post 3 = .ok (.iload_n 2, 1) := by decide +kernel
theorem dX7_post_4 : decode cX7_post 4 = .ok (.i2l, 1) := by decide +kernel
theorem dX7_post_5 : decode cX7_post 5 = .ok (.invokevirtual 98, 3) := by decide +kernel
theorem dX7_post_8 : decode cX7_post 8 = .ok (.ireturn, 1) := by decide +kernel
set_option maxRecDepth 20000 in
theorem ggX7_take_X7_isSheet : GoodIn wsX7_take wsX7_isSheet := goodIn_r _ [8] (by decide +kernel) (by decide +kernel)
set_option maxRecDepth 20000 in
theorem gX7_take_X7_isSheet : GoodIn wsX7_take (va_wsS RX7 62 yX7_isSheet wsX7_isSheet) := goodIn_app (goodIn_of _ (by decide +kernel)) ggX7_take_X7_isSheet
set_option maxRecDepth 20000 in
theorem ggX7_take_X7_found : GoodIn wsX7_take wsX7_found := goodIn_r _ [12, 13, 36, 37, 38, 39, 40, 41, 42, 43, 44, 45, 46] (by decide +kernel) (by decide +kernel)
set_option maxRecDepth 20000 in
theorem gX7_take_X7_found : GoodIn wsX7_take (wsV RX7 66 RX7 yX7_found wsX7_found) := goodIn_app (goodIn_of _ (by decide +kernel)) ggX7_take_X7_found
set_option maxRecDepth 20000 in
theorem ggX7_take_X7_collect : GoodIn wsX7_take wsX7_collect := goodIn_r _ [17, 18, 19, 20, 21, 7, 22, 23, 24, 25, 26, 27, 28, 29, 30, 31, 32, 33, 34, 35, 36, 37, 38, 39, 40, 41, 42, 43, 44, 45, 46, 51, 52, 53] (by decide +kernel) (by decide +kernel)
set_option maxRecDepth 20000 in
theorem gX7_take_X7_collect : GoodIn wsX7_take (wsV RX7 98 RX7 yX7_collect wsX7_collect) := goodIn_app (goodIn_of _ (by decide +kernel)) ggX7_take_X7_collect
theorem dX7_take_0 : decode cX7_take 0 = .ok (.iload_n 1, 1) := by decide +kernel
theorem dX7_take_1 : decode cX7_take 1 = .ok (.invokestatic 62, 3) := by decide +kernel
theorem dX7_take_4 : decode cX7_take 4 = .ok (.ifCond .ne 10, 3) := by decide +kernel
theorem dX7_take_7 : decode cX7_take 7 = .ok (.aload_n 0, 1) := by decide +kernel
theorem dX7_take_8 : decode cX7_take 8 = .ok (.bipush (-12), 2) := by decide +kernel
theorem dX7_take_10 : decode cX7_take 10 = .ok (.invokevirtual 66, 3) := by decide +kernel
theorem dX7_take_13 : decode cX7_take 13 = .ok (.ireturn, 1) := by decide +kernel
theorem dX7_take_14 : decode cX7_take 14 = .ok (.aload_n 0, 1) := by decide +kernel
theorem dX7_take_15 : decode cX7_take 15 = .ok (.getfield 11, 3) := by decide +kernel
theorem dX7_take_18 : decode cX7_take 18 = .ok (.iload_n 1, 1) := by decide +kernel
theorem dX7_take_19 : decode cX7_take 19 = .ok (.aaload, 1) := by decide +kernel
theorem dX7_take_20 : decode cX7_take 20 = .ok (.astore_n 3, 1) := by decide +kernel
theorem dX7_take_21 : decode cX7_take 21 = .ok (.aload_n 3, 1) := by decide +kernel
theorem dX7_take_22 : decode cX7_take 22 = .ok (.getfield 77, 3) := by decide +kernel
theorem dX7_take_25 : decode cX7_take 25 = .ok (.ifCond .eq 10, 3) := by decide +kernel
theorem dX7_take_28 : decode cX7_take 28 = .ok (.aload_n 0, 1) := by decide +kernel
theorem dX7_take_29 : decode cX7_take 29 = .ok (.bipush (-11), 2) := by decide +kernel
theorem dX7_take_31 : decode cX7_take 31 = .ok (.invokevirtual 66, 3) := by decide +kernel
theorem dX7_take_34 : decode cX7_take 34 = .ok (.ireturn, 1) := by decide +kernel
theorem dX7_take_35 : decode cX7_take 35 = .ok (.iload_n 2, 1) := by decide +kernel
theorem dX7_take_36 : decode cX7_take 36 = .ok (.ifCond .lt 11, 3) := by decide +kernel
theorem dX7_take_39 : decode cX7_take 39 = .ok (.iload_n 2, 1) := by decide +kernel
theorem dX7_take_40 : decode cX7_take 40 = .ok (.aload_n 3, 1) := by decide +kernel
theorem dX7_take_41 : decode cX7_take 41 = .ok (.getfield 102, 3) := by decide +kernel
theorem dX7_take_44 : decode cX7_take 44 = .ok (.if_icmp .le 10, 3) := by decide +kernel
theorem dX7_take_47 : decode cX7_take 47 = .ok (.aload_n 0, 1) := by decide +kernel
theorem dX7_take_48 : decode cX7_take 48 = .ok (.bipush (-12), 2) := by decide +kernel
theorem dX7_take_50 : decode cX7_take 50 = .ok (.invokevirtual 66, 3) := by decide +kernel
theorem dX7_take_53 : decode cX7_take 53 = .ok (.ireturn, 1) := by decide +kernel
theorem dX7_take_54 : decode cX7_take 54 = .ok (.iconst 0, 1) := by decide +kernel
theorem dX7_take_55 : decode cX7_take 55 = .ok (.istore 4, 2) := by decide +kernel
theorem dX7_take_57 : decode cX7_take 57 = .ok (.iload_n 2, 1) := by decide +kernel
theorem dX7_take_58 : decode cX7_take 58 = .ok (.istore 5, 2) := by decide +kernel
theorem dX7_take_60 : decode cX7_take 60 = .ok (.iload 5, 2) := by decide +kernel
theorem dX7_take_62 : decode cX7_take 62 = .ok (.iconst 1, 1) := by decide +kernel
theorem dX7_take_63 : decode cX7_take 63 = .ok (.iadd, 1) := by decide +kernel
theorem dX7_take_64 : decode cX7_take 64 = .ok (.aload_n 3, 1) := by decide +kernel
theorem dX7_take_65 : decode cX7_take 65 = .ok (.getfield 102, 3) := by decide +kernel
theorem dX7_take_68 : decode cX7_take 68 = .ok (.if_icmp .ge 38, 3) := by decide +kernel
theorem dX7_take_71 : decode cX7_take 71 = .ok (.aload_n 0, 1) := by decide +kernel
theorem dX7_take_72 : decode cX7_take 72 = .ok (.aload_n 3, 1) := by decide +kernel
theorem dX7_take_73 : decode cX7_take 73 = .ok (.getfield 84, 3) := by decide +kernel
theorem dX7_take_76 : decode cX7_take 76 = .ok (.iload 5, 2) := by decide +kernel
theorem dX7_take_78 : decode cX7_take 78 = .ok (.laload, 1) := by decide +kernel
theorem dX7_take_79 : decode cX7_take 79 = .ok (.aload_n 3, 1) := by decide +kernel
theorem dX7_take_80 : decode cX7_take 80 = .ok (.getfield 84, 3) := by decide +kernel
theorem dX7_take_83 : decode cX7_take 83 = .ok (.iload 5, 2) := by decide +kernel
theorem dX7_take_85 : decode cX7_take 85 = .ok (.iconst 1, 1) := by decide +kernel
theorem dX7_take_86 : decode cX7_take 86 = .ok (.iadd, 1) := by decide +kernel
theorem dX7_take_87 : decode cX7_take 87 = .ok (.laload, 1) := by decide +kernel
theorem dX7_take_88 : decode cX7_take 88 = .ok (.invokevirtual 98, 3) := by decide +kernel
theorem dX7_take_91 : decode cX7_take 91 = .ok (.ifCond .ge 6, 3) := by decide +kernel
theorem dX7_take_94 : decode cX7_take 94 = .ok (.goto 12, 3) := by decide +kernel
theorem dX7_take_97 : decode cX7_take 97 = .ok (.iinc 4 1, 3) := by decide +kernel
theorem dX7_take_100 : decode cX7_take 100 = .ok (.iinc 5 2, 3) := by decide +kernel
theorem dX7_take_103 : decode cX7_take 103 = .ok (.goto (-43), 3) := by decide +kernel
theorem dX7_take_106 : decode cX7_take 106 = .ok (.iload 4, 2) := by decide +kernel
theorem dX7_take_108 : decode cX7_take 108 = .ok (.ireturn, 1) := by decide +kernel
theorem dX7_clear_0 : decode cX7_clear 0 = .ok (.aload_n 0, 1) := by decide +kernel
theorem dX7_clear_1 : decode cX7_clear 1 = .ok (.getfield 18, 3) := by decide +kernel
theorem dX7_clear_4 : decode cX7_clear 4 = .ok (.getfield 105, 3) := by decide +kernel
theorem dX7_clear_7 : decode cX7_clear 7 = .ok (.istore_n 1, 1) := by decide +kernel
theorem dX7_clear_8 : decode cX7_clear 8 = .ok (.aload_n 0, 1) := by decide +kernel
theorem dX7_clear_9 : decode cX7_clear 9 = .ok (.getfield 18, 3) := by decide +kernel
theorem dX7_clear_12 : decode cX7_clear 12 = .ok (.iconst 0, 1) := by decide +kernel
theorem dX7_clear_13 : decode cX7_clear 13 = .ok (.putfield 105, 3) := by decide +kernel
theorem dX7_clear_16 : decode cX7_clear 16 = .ok (.iload_n 1, 1) := by decide +kernel
theorem dX7_clear_17 : decode cX7_clear 17 = .ok (.ireturn, 1) := by decide +kernel
set_option maxRecDepth 20000 in
theorem ggX7_lay_X2_layOf : GoodIn wsX7_lay wsX2_layOf := goodIn_r _ [15, 16, 17, 18, 19, 20, 21, 22, 23, 24, 25, 26, 27, 28, 29, 30, 31, 14, 32, 33, 34, 35, 36, 37, 38, 39, 40, 41, 42, 43, 44, 45, 46, 47, 48, 49, 50, 51, 52, 53, 54, 55, 56, 57, 58, 59, 60, 61, 62, 63, 64, 65, 66, 67, 68, 69, 70, 71, 72, 73, 74, 75, 76, 77, 78, 79, 80, 81, 82, 83, 84, 85, 86, 87, 88, 89, 90, 91, 92, 93, 169, 170, 171, 172, 173, 174, 175, 176, 166, 167, 168] (by decide +kernel) (by decide +kernel)
set_option maxRecDepth 20000 in
theorem gX7_lay_X2_layOf : GoodIn wsX7_lay (wsV RX7 108 RX2 yX2_layOf wsX2_layOf) := goodIn_app (goodIn_of _ (by decide +kernel)) ggX7_lay_X2_layOf
set_option maxRecDepth 20000 in
theorem ggX7_lay_X1_cut : GoodIn wsX7_lay wsX1_cut := goodIn_r _ [98, 99, 100, 101, 102, 103, 97, 104, 105, 106, 107, 108, 109, 110, 111, 112, 113, 114, 115, 116, 117, 118, 119, 120, 121, 122, 123, 14, 124, 16, 34, 52, 53, 125, 126, 127, 128, 81, 63, 64, 65, 20, 66, 44, 45, 46, 47, 23, 24, 86, 87, 88, 89, 35, 129, 130, 131, 132, 177, 178, 179, 169, 170, 171, 172, 173, 174, 175, 176, 166, 167, 168] (by decide +kernel) (by decide +kernel)
set_option maxRecDepth 20000 in
theorem gX7_lay_X1_cut : GoodIn wsX7_lay (wsV RX7 112 RX1 yX1_cut wsX1_cut) := goodIn_app (goodIn_of _ (by decide +kernel)) ggX7_lay_X1_cut
set_option maxRecDepth 20000 in
theorem ggX7_lay_X0_askForAll : GoodIn wsX7_lay wsX0_askForAll := goodIn_r _ [137, 138, 139, 140, 141, 142, 136, 143, 144, 145, 146, 147, 148, 180, 181, 182, 183, 184, 177, 178, 179] (by decide +kernel) (by decide +kernel)
set_option maxRecDepth 20000 in
theorem gX7_lay_X0_askForAll : GoodIn wsX7_lay (wsV RX7 116 RX0 yX0_askForAll wsX0_askForAll) := goodIn_app (goodIn_of _ (by decide +kernel)) ggX7_lay_X0_askForAll
set_option maxRecDepth 20000 in
theorem ggX7_lay_X3_forget : GoodIn wsX7_lay wsX3_forget := goodIn_r _ [153, 154, 185, 186, 187] (by decide +kernel) (by decide +kernel)
set_option maxRecDepth 20000 in
theorem gX7_lay_X3_forget : GoodIn wsX7_lay (wsV RX7 120 RX3 yX3_forget wsX3_forget) := goodIn_app (goodIn_of _ (by decide +kernel)) ggX7_lay_X3_forget
theorem dX7_lay_0 : decode cX7_lay 0 = .ok (.aload_n 0, 1) := by decide +kernel
theorem dX7_lay_1 : decode cX7_lay 1 = .ok (.getfield 18, 3) := by decide +kernel
theorem dX7_lay_4 : decode cX7_lay 4 = .ok (.getfield 105, 3) := by decide +kernel
theorem dX7_lay_7 : decode cX7_lay 7 = .ok (.iconst 3, 1) := by decide +kernel
theorem dX7_lay_8 : decode cX7_lay 8 = .ok (.if_icmp .ge 6, 3) := by decide +kernel
theorem dX7_lay_11 : decode cX7_lay 11 = .ok (.bipush (-3), 2) := by decide +kernel
theorem dX7_lay_13 : decode cX7_lay 13 = .ok (.ireturn, 1) := by decide +kernel
theorem dX7_lay_14 : decode cX7_lay 14 = .ok (.aload_n 0, 1) := by decide +kernel
theorem dX7_lay_15 : decode cX7_lay 15 = .ok (.getfield 25, 3) := by decide +kernel
theorem dX7_lay_18 : decode cX7_lay 18 = .ok (.aload_n 0, 1) := by decide +kernel
theorem dX7_lay_19 : decode cX7_lay 19 = .ok (.getfield 18, 3) := by decide +kernel
theorem dX7_lay_22 : decode cX7_lay 22 = .ok (.invokevirtual 108, 3) := by decide +kernel
theorem dX7_lay_25 : decode cX7_lay 25 = .ok (.aload_n 0, 1) := by decide +kernel
theorem dX7_lay_26 : decode cX7_lay 26 = .ok (.getfield 32, 3) := by decide +kernel
theorem dX7_lay_29 : decode cX7_lay 29 = .ok (.aload_n 0, 1) := by decide +kernel
theorem dX7_lay_30 : decode cX7_lay 30 = .ok (.getfield 25, 3) := by decide +kernel
theorem dX7_lay_33 : decode cX7_lay 33 = .ok (.invokevirtual 112, 3) := by decide +kernel
theorem dX7_lay_36 : decode cX7_lay 36 = .ok (.aload_n 0, 1) := by decide +kernel
theorem dX7_lay_37 : decode cX7_lay 37 = .ok (.getfield 39, 3) := by decide +kernel
theorem dX7_lay_40 : decode cX7_lay 40 = .ok (.aload_n 0, 1) := by decide +kernel
theorem dX7_lay_41 : decode cX7_lay 41 = .ok (.getfield 32, 3) := by decide +kernel
theorem dX7_lay_44 : decode cX7_lay 44 = .ok (.invokevirtual 116, 3) := by decide +kernel
theorem dX7_lay_47 : decode cX7_lay 47 = .ok (.aload_n 0, 1) := by decide +kernel
theorem dX7_lay_48 : decode cX7_lay 48 = .ok (.getfield 53, 3) := by decide +kernel
theorem dX7_lay_51 : decode cX7_lay 51 = .ok (.invokevirtual 120, 3) := by decide +kernel
theorem dX7_lay_54 : decode cX7_lay 54 = .ok (.iconst 0, 1) := by decide +kernel
theorem dX7_lay_55 : decode cX7_lay 55 = .ok (.istore_n 1, 1) := by decide +kernel
theorem dX7_lay_56 : decode cX7_lay 56 = .ok (.iload_n 1, 1) := by decide +kernel
theorem dX7_lay_57 : decode cX7_lay 57 = .ok (.bipush 28, 2) := by decide +kernel
theorem dX7_lay_59 : decode cX7_lay 59 = .ok (.if_icmp .ge 16, 3) := by decide +kernel
theorem dX7_lay_62 : decode cX7_lay 62 = .ok (.aload_n 0, 1) := by decide +kernel
theorem dX7_lay_63 : decode cX7_lay 63 = .ok (.getfield 57, 3) := by decide +kernel
theorem dX7_lay_66 : decode cX7_lay 66 = .ok (.iload_n 1, 1) := by decide +kernel
theorem dX7_lay_67 : decode cX7_lay 67 = .ok (.iconst 0, 1) := by decide +kernel
theorem dX7_lay_68 : decode cX7_lay 68 = .ok (.iastore, 1) := by decide +kernel
theorem dX7_lay_69 : decode cX7_lay 69 = .ok (.iinc 1 1, 3) := by decide +kernel
theorem dX7_lay_72 : decode cX7_lay 72 = .ok (.goto (-16), 3) := by decide +kernel
theorem dX7_lay_75 : decode cX7_lay 75 = .ok (.aload_n 0, 1) := by decide +kernel
theorem dX7_lay_76 : decode cX7_lay 76 = .ok (.iconst 0, 1) := by decide +kernel
theorem dX7_lay_77 : decode cX7_lay 77 = .ok (.putfield 123, 3) := by decide +kernel
theorem dX7_lay_80 : decode cX7_lay 80 = .ok (.aload_n 0, 1) := by decide +kernel
theorem dX7_lay_81 : decode cX7_lay 81 = .ok (.iconst 1, 1) := by decide +kernel
theorem dX7_lay_82 : decode cX7_lay 82 = .ok (.putfield 126, 3) := by decide +kernel
theorem dX7_lay_85 : decode cX7_lay 85 = .ok (.aload_n 0, 1) := by decide +kernel
theorem dX7_lay_86 : decode cX7_lay 86 = .ok (.getfield 25, 3) := by decide +kernel
theorem dX7_lay_89 : decode cX7_lay 89 = .ok (.getfield 129, 3) := by decide +kernel
theorem dX7_lay_92 : decode cX7_lay 92 = .ok (.ireturn, 1) := by decide +kernel
set_option maxRecDepth 20000 in
theorem ggX7_fence_X2_isPost : GoodIn wsX7_fence wsX2_isPost := goodIn_r _ [7, 8, 9, 26, 27, 28, 29, 30, 31, 32, 33, 34, 35, 36] (by decide +kernel) (by decide +kernel)
set_option maxRecDepth 20000 in
theorem gX7_fence_X2_isPost : GoodIn wsX7_fence (wsV RX7 132 RX2 yX2_isPost wsX2_isPost) := goodIn_app (goodIn_of _ (by decide +kernel)) ggX7_fence_X2_isPost
set_option maxRecDepth 20000 in
theorem ggX7_fence_X2_fenceBetween : GoodIn wsX7_fence wsX2_fenceBetween := goodIn_r _ [13, 14, 26, 27, 28, 29, 30, 31, 32, 33] (by decide +kernel) (by decide +kernel)
set_option maxRecDepth 20000 in
theorem gX7_fence_X2_fenceBetween : GoodIn wsX7_fence (wsV RX7 135 RX2 yX2_fenceBetween wsX2_fenceBetween) := goodIn_app (goodIn_of _ (by decide +kernel)) ggX7_fence_X2_fenceBetween
theorem dX7_fence_0 : decode cX7_fence 0 = .ok (.aload_n 0, 1) := by decide +kernel
theorem dX7_fence_1 : decode cX7_fence 1 = .ok (.getfield 126, 3) := by decide +kernel
theorem dX7_fence_4 : decode cX7_fence 4 = .ok (.ifCond .ne 6, 3) := by decide +kernel
theorem dX7_fence_7 : decode cX7_fence 7 = .ok (.bipush (-3), 2) := by decide +kernel
theorem dX7_fence_9 : decode cX7_fence 9 = .ok (.ireturn, 1) := by decide +kernel
theorem dX7_fence_10 : decode cX7_fence 10 = .ok (.aload_n 0, 1) := by decide +kernel
theorem dX7_fence_11 : decode cX7_fence 11 = .ok (.getfield 25, 3) := by decide +kernel
theorem dX7_fence_14 : decode cX7_fence 14 = .ok (.iload_n 1, 1) := by decide +kernel
theorem dX7_fence_15 : decode cX7_fence 15 = .ok (.invokevirtual 132, 3) := by decide +kernel
theorem dX7_fence_18 : decode cX7_fence 18 = .ok (.ifCond .eq 14, 3) := by decide +kernel
theorem dX7_fence_21 : decode cX7_fence 21 = .ok (.aload_n 0, 1) := by decide +kernel
theorem dX7_fence_22 : decode cX7_fence 22 = .ok (.getfield 25, 3) := by decide +kernel
theorem dX7_fence_25 : decode cX7_fence 25 = .ok (.iload_n 2, 1) := by decide +kernel
theorem dX7_fence_26 : decode cX7_fence 26 = .ok (.invokevirtual 132, 3) := by decide +kernel
theorem dX7_fence_29 : decode cX7_fence 29 = .ok (.ifCond .ne 5, 3) := by decide +kernel
theorem dX7_fence_32 : decode cX7_fence 32 = .ok (.iconst (-1), 1) := by decide +kernel
theorem dX7_fence_33 : decode cX7_fence 33 = .ok (.ireturn, 1) := by decide +kernel
theorem dX7_fence_34 : decode cX7_fence 34 = .ok (.aload_n 0, 1) := by decide +kernel
theorem dX7_fence_35 : decode cX7_fence 35 = .ok (.getfield 25, 3) := by decide +kernel
theorem dX7_fence_38 : decode cX7_fence 38 = .ok (.iload_n 1, 1) := by decide +kernel
theorem dX7_fence_39 : decode cX7_fence 39 = .ok (.iload_n 2, 1) := by decide +kernel
theorem dX7_fence_40 : decode cX7_fence 40 = .ok (.invokevirtual 135, 3) := by decide +kernel
theorem dX7_fence_43 : decode cX7_fence 43 = .ok (.ireturn, 1) := by decide +kernel
set_option maxRecDepth 20000 in
theorem ggX7_end_X7_fenceRefusal : GoodIn wsX7_end wsX7_fenceRefusal := goodIn_r _ [8, 9, 1, 10, 11, 12, 13, 14, 15, 16, 17, 18, 19, 20, 21, 22, 23, 24, 25, 26, 27, 28, 29, 30, 31, 32, 33, 34] (by decide +kernel) (by decide +kernel)
set_option maxRecDepth 20000 in
theorem gX7_end_X7_fenceRefusal : GoodIn wsX7_end (wsV RX7 139 RX7 yX7_fenceRefusal wsX7_fenceRefusal) := goodIn_app (goodIn_of _ (by decide +kernel)) ggX7_end_X7_fenceRefusal
theorem dX7_end_0 : decode cX7_end 0 = .ok (.iload_n 2, 1) := by decide +kernel
theorem dX7_end_1 : decode cX7_end 1 = .ok (.ifCond .eq 11, 3) := by decide +kernel
theorem dX7_end_4 : decode cX7_end 4 = .ok (.iload_n 2, 1) := by decide +kernel
theorem dX7_end_5 : decode cX7_end 5 = .ok (.iconst 1, 1) := by decide +kernel
theorem dX7_end_6 : decode cX7_end 6 = .ok (.if_icmp .eq 6, 3) := by decide +kernel
theorem dX7_end_9 : decode cX7_end 9 = .ok (.bipush (-2), 2) := by decide +kernel
theorem dX7_end_11 : decode cX7_end 11 = .ok (.ireturn, 1) := by decide +kernel
theorem dX7_end_12 : decode cX7_end 12 = .ok (.aload_n 0, 1) := by decide +kernel
theorem dX7_end_13 : decode cX7_end 13 = .ok (.iload_n 1, 1) := by decide +kernel
theorem dX7_end_14 : decode cX7_end 14 = .ok (.invokevirtual 139, 3) := by decide +kernel
theorem dX7_end_17 : decode cX7_end 17 = .ok (.istore_n 3, 1) := by decide +kernel
theorem dX7_end_18 : decode cX7_end 18 = .ok (.iload_n 3, 1) := by decide +kernel
theorem dX7_end_19 : decode cX7_end 19 = .ok (.ifCond .eq 5, 3) := by decide +kernel
theorem dX7_end_22 : decode cX7_end 22 = .ok (.iload_n 3, 1) := by decide +kernel
theorem dX7_end_23 : decode cX7_end 23 = .ok (.ireturn, 1) := by decide +kernel
theorem dX7_end_24 : decode cX7_end 24 = .ok (.iload_n 2, 1) := by decide +kernel
theorem dX7_end_25 : decode cX7_end 25 = .ok (.ifCond .ne 15, 3) := by decide +kernel
theorem dX7_end_28 : decode cX7_end 28 = .ok (.aload_n 0, 1) := by decide +kernel
theorem dX7_end_29 : decode cX7_end 29 = .ok (.getfield 25, 3) := by decide +kernel
theorem dX7_end_32 : decode cX7_end 32 = .ok (.getfield 142, 3) := by decide +kernel
theorem dX7_end_35 : decode cX7_end 35 = .ok (.iload_n 1, 1) := by decide +kernel
theorem dX7_end_36 : decode cX7_end 36 = .ok (.iaload, 1) := by decide +kernel
theorem dX7_end_37 : decode cX7_end 37 = .ok (.goto 12, 3) := by decide +kernel
theorem dX7_end_40 : decode cX7_end 40 = .ok (.aload_n 0, 1) := by decide +kernel
theorem dX7_end_41 : decode cX7_end 41 = .ok (.getfield 25, 3) := by decide +kernel
theorem dX7_end_44 : decode cX7_end 44 = .ok (.getfield 145, 3) := by decide +kernel
theorem dX7_end_47 : decode cX7_end 47 = .ok (.iload_n 1, 1) := by decide +kernel
theorem dX7_end_48 : decode cX7_end 48 = .ok (.iaload, 1) := by decide +kernel
theorem dX7_end_49 : decode cX7_end 49 = .ok (.ireturn, 1) := by decide +kernel
set_option maxRecDepth 20000 in
theorem ggX7_kind_X7_fenceRefusal : GoodIn wsX7_kind wsX7_fenceRefusal := goodIn_r _ [5, 6, 7, 8, 9, 10, 11, 12, 13, 51, 52, 53, 54, 55, 56, 57, 58, 59, 60, 61, 62, 63, 64, 65, 66, 67, 68, 69] (by decide +kernel) (by decide +kernel)
set_option maxRecDepth 20000 in
theorem gX7_kind_X7_fenceRefusal : GoodIn wsX7_kind (wsV RX7 139 RX7 yX7_fenceRefusal wsX7_fenceRefusal) := goodIn_app (goodIn_of _ (by decide +kernel)) ggX7_kind_X7_fenceRefusal
set_option maxRecDepth 20000 in
theorem ggX7_kind_X7_kindOf : GoodIn wsX7_kind wsX7_kindOf := goodIn_r _ [17, 18, 19, 20, 7, 21, 22, 23, 4, 24, 25, 26, 27, 28, 29, 30, 31, 32, 33, 34, 11, 35, 36, 37, 38, 39, 40, 41, 42, 43, 44, 45, 46, 47, 48, 49, 50, 51, 52, 53, 54, 55, 56, 57, 58, 59, 60, 61, 70, 71, 72, 73, 74, 62, 63, 64, 65, 66, 67, 68, 69, 75, 76, 77, 78, 79, 80] (by decide +kernel) (by decide +kernel)
set_option maxRecDepth 20000 in
theorem gX7_kind_X7_kindOf : GoodIn wsX7_kind (wsV RX7 148 RX7 yX7_kindOf wsX7_kindOf) := goodIn_app (goodIn_of _ (by decide +kernel)) ggX7_kind_X7_kindOf
theorem dX7_kind_0 : decode cX7_kind 0 = .ok (.aload_n 0, 1) := by decide +kernel
theorem dX7_kind_1 : decode cX7_kind 1 = .ok (.iload_n 1, 1) := by decide +kernel
theorem dX7_kind_2 : decode cX7_kind 2 = .ok (.invokevirtual 139, 3) := by decide +kernel
theorem dX7_kind_5 : decode cX7_kind 5 = .ok (.istore_n 2, 1) := by decide +kernel
theorem dX7_kind_6 : decode cX7_kind 6 = .ok (.iload_n 2, 1) := by decide +kernel
theorem dX7_kind_7 : decode cX7_kind 7 = .ok (.ifCond .eq 7, 3) := by decide +kernel
theorem dX7_kind_10 : decode cX7_kind 10 = .ok (.iload_n 2, 1) := by decide +kernel
theorem dX7_kind_11 : decode cX7_kind 11 = .ok (.goto 8, 3) := by decide +kernel
theorem dX7_kind_14 : decode cX7_kind 14 = .ok (.aload_n 0, 1) := by decide +kernel
theorem dX7_kind_15 : decode cX7_kind 15 = .ok (.iload_n 1, 1) := by decide +kernel
theorem dX7_kind_16 : decode cX7_kind 16 = .ok (.invokevirtual 148, 3) := by decide +kernel
theorem dX7_kind_19 : decode cX7_kind 19 = .ok (.ireturn, 1) := by decide +kernel
set_option maxRecDepth 20000 in
theorem ggX7_weightAs_X7_fenceRefusal : GoodIn wsX7_weightAs wsX7_fenceRefusal := goodIn_r _ [6, 7, 8, 9, 10, 11, 12, 13, 14, 60, 61, 62, 63, 64, 65, 66, 67, 68, 69, 70, 71, 72, 73, 74, 75, 76, 77, 78] (by decide +kernel) (by decide +kernel)
set_option maxRecDepth 20000 in
theorem gX7_weightAs_X7_fenceRefusal : GoodIn wsX7_weightAs (wsV RX7 139 RX7 yX7_fenceRefusal wsX7_fenceRefusal) := goodIn_app (goodIn_of _ (by decide +kernel)) ggX7_weightAs_X7_fenceRefusal
set_option maxRecDepth 20000 in
theorem ggX7_weightAs_X7_kindOf : GoodIn wsX7_weightAs wsX7_kindOf := goodIn_r _ [18, 19, 20, 21, 8, 22, 23, 24, 5, 25, 26, 27, 28, 29, 30, 31, 32, 33, 34, 35, 12, 36, 37, 38, 39, 40, 41, 42, 43, 44, 45, 46, 47, 48, 49, 50, 51, 60, 61, 62, 63, 64, 65, 66, 67, 68, 69, 70, 79, 80, 81, 82, 83, 71, 72, 73, 74, 75, 76, 77, 78, 84, 85, 86, 87, 88, 89] (by decide +kernel) (by decide +kernel)
set_option maxRecDepth 20000 in
theorem gX7_weightAs_X7_kindOf : GoodIn wsX7_weightAs (wsV RX7 148 RX7 yX7_kindOf wsX7_kindOf) := goodIn_app (goodIn_of _ (by decide +kernel)) ggX7_weightAs_X7_kindOf
set_option maxRecDepth 20000 in
theorem ggX7_weightAs_X7_isOneOf : GoodIn wsX7_weightAs wsX7_isOneOf := goodIn_r _ [54] (by decide +kernel) (by decide +kernel)
set_option maxRecDepth 20000 in
theorem gX7_weightAs_X7_isOneOf : GoodIn wsX7_weightAs (va_wsS RX7 151 yX7_isOneOf wsX7_isOneOf) := goodIn_app (goodIn_of _ (by decide +kernel)) ggX7_weightAs_X7_isOneOf
set_option maxRecDepth 20000 in
theorem ggX7_weightAs_X7_found : GoodIn wsX7_weightAs wsX7_found := goodIn_r _ [58, 59, 60, 61, 62, 63, 64, 65, 66, 67, 68, 69, 70] (by decide +kernel) (by decide +kernel)
set_option maxRecDepth 20000 in
theorem gX7_weightAs_X7_found : GoodIn wsX7_weightAs (wsV RX7 66 RX7 yX7_found wsX7_found) := goodIn_app (goodIn_of _ (by decide +kernel)) ggX7_weightAs_X7_found
theorem dX7_weightAs_0 : decode cX7_weightAs 0 = .ok (.iload_n 2, 1) := by decide +kernel
theorem dX7_weightAs_1 : decode cX7_weightAs 1 = .ok (.ifCond .lt 8, 3) := by decide +kernel
theorem dX7_weightAs_4 : decode cX7_weightAs 4 = .ok (.iload_n 2, 1) := by decide +kernel
theorem dX7_weightAs_5 : decode cX7_weightAs 5 = .ok (.iconst 4, 1) := by decide +kernel
theorem dX7_weightAs_6 : decode cX7_weightAs 6 = .ok (.if_icmp .le 6, 3) := by decide +kernel
theorem dX7_weightAs_9 : decode cX7_weightAs 9 = .ok (.bipush (-2), 2) := by decide +kernel
theorem dX7_weightAs_11 : decode cX7_weightAs 11 = .ok (.ireturn, 1) := by decide +kernel
theorem dX7_weightAs_12 : decode cX7_weightAs 12 = .ok (.aload_n 0, 1) := by decide +kernel
theorem dX7_weightAs_13 : decode cX7_weightAs 13 = .ok (.iload_n 1, 1) := by decide +kernel
theorem dX7_weightAs_14 : decode cX7_weightAs 14 = .ok (.invokevirtual 139, 3) := by decide +kernel
theorem dX7_weightAs_17 : decode cX7_weightAs 17 = .ok (.istore_n 3, 1) := by decide +kernel
theorem dX7_weightAs_18 : decode cX7_weightAs 18 = .ok (.iload_n 3, 1) := by decide +kernel
theorem dX7_weightAs_19 : decode cX7_weightAs 19 = .ok (.ifCond .eq 5, 3) := by decide +kernel
theorem dX7_weightAs_22 : decode cX7_weightAs 22 = .ok (.iload_n 3, 1) := by decide +kernel
theorem dX7_weightAs_23 : decode cX7_weightAs 23 = .ok (.ireturn, 1) := by decide +kernel
theorem dX7_weightAs_24 : decode cX7_weightAs 24 = .ok (.aload_n 0, 1) := by decide +kernel
theorem dX7_weightAs_25 : decode cX7_weightAs 25 = .ok (.iload_n 1, 1) := by decide +kernel
theorem dX7_weightAs_26 : decode cX7_weightAs 26 = .ok (.invokevirtual 148, 3) := by decide +kernel
theorem dX7_weightAs_29 : decode cX7_weightAs 29 = .ok (.iload_n 2, 1) := by decide +kernel
theorem dX7_weightAs_30 : decode cX7_weightAs 30 = .ok (.invokestatic 151, 3) := by decide +kernel
theorem dX7_weightAs_33 : decode cX7_weightAs 33 = .ok (.ifCond .eq 12, 3) := by decide +kernel
theorem dX7_weightAs_36 : decode cX7_weightAs 36 = .ok (.aload_n 0, 1) := by decide +kernel
theorem dX7_weightAs_37 : decode cX7_weightAs 37 = .ok (.getfield 57, 3) := by decide +kernel
theorem dX7_weightAs_40 : decode cX7_weightAs 40 = .ok (.iload_n 1, 1) := by decide +kernel
theorem dX7_weightAs_41 : decode cX7_weightAs 41 = .ok (.iaload, 1) := by decide +kernel
theorem dX7_weightAs_42 : decode cX7_weightAs 42 = .ok (.goto 9, 3) := by decide +kernel
theorem dX7_weightAs_45 : decode cX7_weightAs 45 = .ok (.aload_n 0, 1) := by decide +kernel
theorem dX7_weightAs_46 : decode cX7_weightAs 46 = .ok (.bipush (-13), 2) := by decide +kernel
theorem dX7_weightAs_48 : decode cX7_weightAs 48 = .ok (.invokevirtual 66, 3) := by decide +kernel
theorem dX7_weightAs_51 : decode cX7_weightAs 51 = .ok (.ireturn, 1) := by decide +kernel
set_option maxRecDepth 20000 in
theorem ggX7_crosses_X7_fenceRefusal : GoodIn wsX7_crosses wsX7_fenceRefusal := goodIn_r _ [7, 8, 1, 9, 10, 11, 12, 13, 14, 18, 19, 20, 21, 22, 23, 24, 25, 26, 27, 28, 29, 30, 31, 32, 33, 34, 35, 36] (by decide +kernel) (by decide +kernel)
set_option maxRecDepth 20000 in
theorem gX7_crosses_X7_fenceRefusal : GoodIn wsX7_crosses (wsV RX7 139 RX7 yX7_fenceRefusal wsX7_fenceRefusal) := goodIn_app (goodIn_of _ (by decide +kernel)) ggX7_crosses_X7_fenceRefusal
set_option maxRecDepth 20000 in
theorem ggX7_crosses_X7_isIn : GoodIn wsX7_crosses wsX7_isIn := goodIn_r _ [17] (by decide +kernel) (by decide +kernel)
set_option maxRecDepth 20000 in
theorem gX7_crosses_X7_isIn : GoodIn wsX7_crosses (va_wsS RX7 158 yX7_isIn wsX7_isIn) := goodIn_app (goodIn_of _ (by decide +kernel)) ggX7_crosses_X7_isIn
theorem dX7_crosses_0 : decode cX7_crosses 0 = .ok (.aload_n 0, 1) := by decide +kernel
theorem dX7_crosses_1 : decode cX7_crosses 1 = .ok (.iload_n 1, 1) := by decide +kernel
theorem dX7_crosses_2 : decode cX7_crosses 2 = .ok (.invokevirtual 139, 3) := by decide +kernel
theorem dX7_crosses_5 : decode cX7_crosses 5 = .ok (.istore_n 3, 1) := by decide +kernel
theorem dX7_crosses_6 : decode cX7_crosses 6 = .ok (.iload_n 3, 1) := by decide +kernel
theorem dX7_crosses_7 : decode cX7_crosses 7 = .ok (.ifCond .ne 9, 3) := by decide +kernel
theorem dX7_crosses_10 : decode cX7_crosses 10 = .ok (.aload_n 0, 1) := by decide +kernel
theorem dX7_crosses_11 : decode cX7_crosses 11 = .ok (.iload_n 2, 1) := by decide +kernel
theorem dX7_crosses_12 : decode cX7_crosses 12 = .ok (.invokevirtual 139, 3) := by decide +kernel
theorem dX7_crosses_15 : decode cX7_crosses 15 = .ok (.istore_n 3, 1) := by decide +kernel
theorem dX7_crosses_16 : decode cX7_crosses 16 = .ok (.iload_n 3, 1) := by decide +kernel
theorem dX7_crosses_17 : decode cX7_crosses 17 = .ok (.ifCond .eq 5, 3) := by decide +kernel
theorem dX7_crosses_20 : decode cX7_crosses 20 = .ok (.iload_n 3, 1) := by decide +kernel
theorem dX7_crosses_21 : decode cX7_crosses 21 = .ok (.ireturn, 1) := by decide +kernel
theorem dX7_crosses_22 : decode cX7_crosses 22 = .ok (.iload_n 2, 1) := by decide +kernel
theorem dX7_crosses_23 : decode cX7_crosses 23 = .ok (.aload_n 0, 1) := by decide +kernel
theorem dX7_crosses_24 : decode cX7_crosses 24 = .ok (.getfield 25, 3) := by decide +kernel
theorem dX7_crosses_27 : decode cX7_crosses 27 = .ok (.getfield 155, 3) := by decide +kernel
theorem dX7_crosses_30 : decode cX7_crosses 30 = .ok (.iload_n 1, 1) := by decide +kernel
theorem dX7_crosses_31 : decode cX7_crosses 31 = .ok (.iaload, 1) := by decide +kernel
theorem dX7_crosses_32 : decode cX7_crosses 32 = .ok (.invokestatic 158, 3) := by decide +kernel
theorem dX7_crosses_35 : decode cX7_crosses 35 = .ok (.ifCond .eq 7, 3) := by decide +kernel
theorem dX7_crosses_38 : decode cX7_crosses 38 = .ok (.iconst 1, 1) := by decide +kernel
theorem dX7_crosses_39 : decode cX7_crosses 39 = .ok (.goto 4, 3) := by decide +kernel
theorem dX7_crosses_42 : decode cX7_crosses 42 = .ok (.iconst 0, 1) := by decide +kernel
theorem dX7_crosses_43 : decode cX7_crosses 43 = .ok (.ireturn, 1) := by decide +kernel
set_option maxRecDepth 20000 in
theorem ggX7_tell_X7_fenceRefusal : GoodIn wsX7_tell wsX7_fenceRefusal := goodIn_r _ [9, 10, 11, 12, 13, 14, 15, 16, 17, 49, 50, 51, 52, 53, 54, 55, 56, 57, 58, 59, 65, 66, 67, 68, 69, 70, 71, 72] (by decide +kernel) (by decide +kernel)
set_option maxRecDepth 20000 in
theorem gX7_tell_X7_fenceRefusal : GoodIn wsX7_tell (wsV RX7 139 RX7 yX7_fenceRefusal wsX7_fenceRefusal) := goodIn_app (goodIn_of _ (by decide +kernel)) ggX7_tell_X7_fenceRefusal
set_option maxRecDepth 20000 in
theorem ggX7_tell_X7_fencesNow : GoodIn wsX7_tell wsX7_fencesNow := goodIn_r _ [21, 2, 22, 23, 49, 50, 51, 52, 53, 54, 55, 56, 57, 58, 59, 73, 74, 75] (by decide +kernel) (by decide +kernel)
set_option maxRecDepth 20000 in
theorem gX7_tell_X7_fencesNow : GoodIn wsX7_tell (wsV RX7 161 RX7 yX7_fencesNow wsX7_fencesNow) := goodIn_app (goodIn_of _ (by decide +kernel)) ggX7_tell_X7_fencesNow
set_option maxRecDepth 20000 in
theorem ggX7_tell_X7_isIn : GoodIn wsX7_tell wsX7_isIn := goodIn_r _ [26] (by decide +kernel) (by decide +kernel)
set_option maxRecDepth 20000 in
theorem gX7_tell_X7_isIn : GoodIn wsX7_tell (va_wsS RX7 158 yX7_isIn wsX7_isIn) := goodIn_app (goodIn_of _ (by decide +kernel)) ggX7_tell_X7_isIn
set_option maxRecDepth 20000 in
theorem ggX7_tell_X0_askAnew : GoodIn wsX7_tell wsX0_askAnew := goodIn_r _ [31, 32, 33, 34, 35, 36, 30, 37, 38, 39, 40, 41, 42, 60, 61, 62, 63, 64, 73, 74, 75] (by decide +kernel) (by decide +kernel)
set_option maxRecDepth 20000 in
theorem gX7_tell_X0_askAnew : GoodIn wsX7_tell (wsV RX7 165 RX0 yX0_askAnew wsX0_askAnew) := goodIn_app (goodIn_of _ (by decide +kernel)) ggX7_tell_X0_askAnew
set_option maxRecDepth 20000 in
theorem ggX7_tell_X3_forget : GoodIn wsX7_tell wsX3_forget := goodIn_r _ [47, 48, 76, 77, 78] (by decide +kernel) (by decide +kernel)
set_option maxRecDepth 20000 in
theorem gX7_tell_X3_forget : GoodIn wsX7_tell (wsV RX7 120 RX3 yX3_forget wsX3_forget) := goodIn_app (goodIn_of _ (by decide +kernel)) ggX7_tell_X3_forget
theorem dX7_tell_0 : decode cX7_tell 0 = .ok (.iload_n 2, 1) := by decide +kernel
theorem dX7_tell_1 : decode cX7_tell 1 = .ok (.ifCond .lt 8, 3) := by decide +kernel
theorem dX7_tell_4 : decode cX7_tell 4 = .ok (.iload_n 2, 1) := by decide +kernel
theorem dX7_tell_5 : decode cX7_tell 5 = .ok (.iconst 2, 1) := by decide +kernel
theorem dX7_tell_6 : decode cX7_tell 6 = .ok (.if_icmp .le 6, 3) := by decide +kernel
theorem dX7_tell_9 : decode cX7_tell 9 = .ok (.bipush (-2), 2) := by decide +kernel
theorem dX7_tell_11 : decode cX7_tell 11 = .ok (.ireturn, 1) := by decide +kernel
theorem dX7_tell_12 : decode cX7_tell 12 = .ok (.aload_n 0, 1) := by decide +kernel
theorem dX7_tell_13 : decode cX7_tell 13 = .ok (.iload_n 1, 1) := by decide +kernel
theorem dX7_tell_14 : decode cX7_tell 14 = .ok (.invokevirtual 139, 3) := by decide +kernel
theorem dX7_tell_17 : decode cX7_tell 17 = .ok (.istore_n 3, 1) := by decide +kernel
theorem dX7_tell_18 : decode cX7_tell 18 = .ok (.iload_n 3, 1) := by decide +kernel
theorem dX7_tell_19 : decode cX7_tell 19 = .ok (.ifCond .eq 5, 3) := by decide +kernel
theorem dX7_tell_22 : decode cX7_tell 22 = .ok (.iload_n 3, 1) := by decide +kernel
theorem dX7_tell_23 : decode cX7_tell 23 = .ok (.ireturn, 1) := by decide +kernel
theorem dX7_tell_24 : decode cX7_tell 24 = .ok (.iload_n 1, 1) := by decide +kernel
theorem dX7_tell_25 : decode cX7_tell 25 = .ok (.aload_n 0, 1) := by decide +kernel
theorem dX7_tell_26 : decode cX7_tell 26 = .ok (.invokevirtual 161, 3) := by decide +kernel
theorem dX7_tell_29 : decode cX7_tell 29 = .ok (.invokestatic 158, 3) := by decide +kernel
theorem dX7_tell_32 : decode cX7_tell 32 = .ok (.istore 4, 2) := by decide +kernel
theorem dX7_tell_34 : decode cX7_tell 34 = .ok (.iload_n 2, 1) := by decide +kernel
theorem dX7_tell_35 : decode cX7_tell 35 = .ok (.iconst 1, 1) := by decide +kernel
theorem dX7_tell_36 : decode cX7_tell 36 = .ok (.if_icmp .ne 8, 3) := by decide +kernel
theorem dX7_tell_39 : decode cX7_tell 39 = .ok (.iload 4, 2) := by decide +kernel
theorem dX7_tell_41 : decode cX7_tell 41 = .ok (.ifCond .eq 13, 3) := by decide +kernel
theorem dX7_tell_44 : decode cX7_tell 44 = .ok (.iload_n 2, 1) := by decide +kernel
theorem dX7_tell_45 : decode cX7_tell 45 = .ok (.iconst 2, 1) := by decide +kernel
theorem dX7_tell_46 : decode cX7_tell 46 = .ok (.if_icmp .ne 11, 3) := by decide +kernel
theorem dX7_tell_49 : decode cX7_tell 49 = .ok (.iload 4, 2) := by decide +kernel
theorem dX7_tell_51 : decode cX7_tell 51 = .ok (.ifCond .eq 6, 3) := by decide +kernel
theorem dX7_tell_54 : decode cX7_tell 54 = .ok (.bipush (-3), 2) := by decide +kernel
theorem dX7_tell_56 : decode cX7_tell 56 = .ok (.ireturn, 1) := by decide +kernel
theorem dX7_tell_57 : decode cX7_tell 57 = .ok (.aload_n 0, 1) := by decide +kernel
theorem dX7_tell_58 : decode cX7_tell 58 = .ok (.getfield 39, 3) := by decide +kernel
theorem dX7_tell_61 : decode cX7_tell 61 = .ok (.aload_n 0, 1) := by decide +kernel
theorem dX7_tell_62 : decode cX7_tell 62 = .ok (.getfield 32, 3) := by decide +kernel
theorem dX7_tell_65 : decode cX7_tell 65 = .ok (.iload_n 1, 1) := by decide +kernel
theorem dX7_tell_66 : decode cX7_tell 66 = .ok (.iload_n 2, 1) := by decide +kernel
theorem dX7_tell_67 : decode cX7_tell 67 = .ok (.invokevirtual 165, 3) := by decide +kernel
theorem dX7_tell_70 : decode cX7_tell 70 = .ok (.aload_n 0, 1) := by decide +kernel
theorem dX7_tell_71 : decode cX7_tell 71 = .ok (.getfield 53, 3) := by decide +kernel
theorem dX7_tell_74 : decode cX7_tell 74 = .ok (.invokevirtual 120, 3) := by decide +kernel
theorem dX7_tell_77 : decode cX7_tell 77 = .ok (.aload_n 0, 1) := by decide +kernel
theorem dX7_tell_78 : decode cX7_tell 78 = .ok (.getfield 39, 3) := by decide +kernel
theorem dX7_tell_81 : decode cX7_tell 81 = .ok (.getfield 169, 3) := by decide +kernel
theorem dX7_tell_84 : decode cX7_tell 84 = .ok (.ireturn, 1) := by decide +kernel
set_option maxRecDepth 20000 in
theorem ggX7_weigh_X7_fenceRefusal : GoodIn wsX7_weigh wsX7_fenceRefusal := goodIn_r _ [6, 7, 8, 9, 10, 11, 12, 13, 14, 15, 16, 17, 18, 19, 20, 21, 22, 23, 24, 25, 26, 27, 28, 29, 30, 31, 32, 33] (by decide +kernel) (by decide +kernel)
set_option maxRecDepth 20000 in
theorem gX7_weigh_X7_fenceRefusal : GoodIn wsX7_weigh (wsV RX7 139 RX7 yX7_fenceRefusal wsX7_fenceRefusal) := goodIn_app (goodIn_of _ (by decide +kernel)) ggX7_weigh_X7_fenceRefusal
theorem dX7_weigh_0 : decode cX7_weigh 0 = .ok (.iload_n 2, 1) := by decide +kernel
theorem dX7_weigh_1 : decode cX7_weigh 1 = .ok (.sipush (-1000), 3) := by decide +kernel
theorem dX7_weigh_4 : decode cX7_weigh 4 = .ok (.if_icmp .lt 10, 3) := by decide +kernel
theorem dX7_weigh_7 : decode cX7_weigh 7 = .ok (.iload_n 2, 1) := by decide +kernel
theorem dX7_weigh_8 : decode cX7_weigh 8 = .ok (.sipush 1000, 3) := by decide +kernel
theorem dX7_weigh_11 : decode cX7_weigh 11 = .ok (.if_icmp .le 6, 3) := by decide +kernel
theorem dX7_weigh_14 : decode cX7_weigh 14 = .ok (.bipush (-2), 2) := by decide +kernel
theorem dX7_weigh_16 : decode cX7_weigh 16 = .ok (.ireturn, 1) := by decide +kernel
theorem dX7_weigh_17 : decode cX7_weigh 17 = .ok (.aload_n 0, 1) := by decide +kernel
theorem dX7_weigh_18 : decode cX7_weigh 18 = .ok (.iload_n 1, 1) := by decide +kernel
theorem dX7_weigh_19 : decode cX7_weigh 19 = .ok (.invokevirtual 139, 3) := by decide +kernel
theorem dX7_weigh_22 : decode cX7_weigh 22 = .ok (.istore_n 3, 1) := by decide +kernel
theorem dX7_weigh_23 : decode cX7_weigh 23 = .ok (.iload_n 3, 1) := by decide +kernel
theorem dX7_weigh_24 : decode cX7_weigh 24 = .ok (.ifCond .eq 5, 3) := by decide +kernel
theorem dX7_weigh_27 : decode cX7_weigh 27 = .ok (.iload_n 3, 1) := by decide +kernel
theorem dX7_weigh_28 : decode cX7_weigh 28 = .ok (.ireturn, 1) := by decide +kernel
theorem dX7_weigh_29 : decode cX7_weigh 29 = .ok (.aload_n 0, 1) := by decide +kernel
theorem dX7_weigh_30 : decode cX7_weigh 30 = .ok (.getfield 57, 3) := by decide +kernel
theorem dX7_weigh_33 : decode cX7_weigh 33 = .ok (.iload_n 1, 1) := by decide +kernel
theorem dX7_weigh_34 : decode cX7_weigh 34 = .ok (.iaload, 1) := by decide +kernel
theorem dX7_weigh_35 : decode cX7_weigh 35 = .ok (.istore 4, 2) := by decide +kernel
theorem dX7_weigh_37 : decode cX7_weigh 37 = .ok (.aload_n 0, 1) := by decide +kernel
theorem dX7_weigh_38 : decode cX7_weigh 38 = .ok (.getfield 57, 3) := by decide +kernel
theorem dX7_weigh_41 : decode cX7_weigh 41 = .ok (.iload_n 1, 1) := by decide +kernel
theorem dX7_weigh_42 : decode cX7_weigh 42 = .ok (.iload_n 2, 1) := by decide +kernel
theorem dX7_weigh_43 : decode cX7_weigh 43 = .ok (.iastore, 1) := by decide +kernel
theorem dX7_weigh_44 : decode cX7_weigh 44 = .ok (.iload 4, 2) := by decide +kernel
theorem dX7_weigh_46 : decode cX7_weigh 46 = .ok (.ireturn, 1) := by decide +kernel
set_option maxRecDepth 20000 in
theorem ggX7_cutting_X7_fencesNow : GoodIn wsX7_cutting wsX7_fencesNow := goodIn_r _ [7, 8, 9, 10, 11, 12, 13, 14, 15, 16, 17, 18, 19, 20, 21, 22, 23, 24] (by decide +kernel) (by decide +kernel)
set_option maxRecDepth 20000 in
theorem gX7_cutting_X7_fencesNow : GoodIn wsX7_cutting (wsV RX7 161 RX7 yX7_fencesNow wsX7_fencesNow) := goodIn_app (goodIn_of _ (by decide +kernel)) ggX7_cutting_X7_fencesNow
theorem dX7_cutting_0 : decode cX7_cutting 0 = .ok (.aload_n 0, 1) := by decide +kernel
theorem dX7_cutting_1 : decode cX7_cutting 1 = .ok (.getfield 126, 3) := by decide +kernel
theorem dX7_cutting_4 : decode cX7_cutting 4 = .ok (.ifCond .eq 11, 3) := by decide +kernel
theorem dX7_cutting_7 : decode cX7_cutting 7 = .ok (.aload_n 0, 1) := by decide +kernel
theorem dX7_cutting_8 : decode cX7_cutting 8 = .ok (.invokevirtual 161, 3) := by decide +kernel
theorem dX7_cutting_11 : decode cX7_cutting 11 = .ok (.i2l, 1) := by decide +kernel
theorem dX7_cutting_12 : decode cX7_cutting 12 = .ok (.goto 6, 3) := by decide +kernel
theorem dX7_cutting_15 : decode cX7_cutting 15 = .ok (.ldc2_w 170, 3) := by decide +kernel
theorem dX7_cutting_18 : decode cX7_cutting 18 = .ok (.lreturn, 1) := by decide +kernel
set_option maxRecDepth 20000 in
theorem ggX7_has_X7_fenceRefusal : GoodIn wsX7_has wsX7_fenceRefusal := goodIn_r _ [5, 6, 7, 8, 9, 10, 11, 12, 13, 24, 25, 26, 27, 28, 29, 30, 31, 32, 33, 34, 35, 36, 37, 38, 39, 40, 41, 42] (by decide +kernel) (by decide +kernel)
set_option maxRecDepth 20000 in
theorem gX7_has_X7_fenceRefusal : GoodIn wsX7_has (wsV RX7 139 RX7 yX7_fenceRefusal wsX7_fenceRefusal) := goodIn_app (goodIn_of _ (by decide +kernel)) ggX7_has_X7_fenceRefusal
set_option maxRecDepth 20000 in
theorem ggX7_has_X7_fencesNow : GoodIn wsX7_has wsX7_fencesNow := goodIn_r _ [17, 18, 19, 20, 24, 25, 26, 27, 28, 29, 30, 31, 32, 33, 34, 43, 44, 45] (by decide +kernel) (by decide +kernel)
set_option maxRecDepth 20000 in
theorem gX7_has_X7_fencesNow : GoodIn wsX7_has (wsV RX7 161 RX7 yX7_fencesNow wsX7_fencesNow) := goodIn_app (goodIn_of _ (by decide +kernel)) ggX7_has_X7_fencesNow
set_option maxRecDepth 20000 in
theorem ggX7_has_X7_isIn : GoodIn wsX7_has wsX7_isIn := goodIn_r _ [23] (by decide +kernel) (by decide +kernel)
set_option maxRecDepth 20000 in
theorem gX7_has_X7_isIn : GoodIn wsX7_has (va_wsS RX7 158 yX7_isIn wsX7_isIn) := goodIn_app (goodIn_of _ (by decide +kernel)) ggX7_has_X7_isIn
theorem dX7_has_0 : decode cX7_has 0 = .ok (.aload_n 0, 1) := by decide +kernel
theorem dX7_has_1 : decode cX7_has 1 = .ok (.iload_n 1, 1) := by decide +kernel
theorem dX7_has_2 : decode cX7_has 2 = .ok (.invokevirtual 139, 3) := by decide +kernel
theorem dX7_has_5 : decode cX7_has 5 = .ok (.istore_n 2, 1) := by decide +kernel
theorem dX7_has_6 : decode cX7_has 6 = .ok (.iload_n 2, 1) := by decide +kernel
theorem dX7_has_7 : decode cX7_has 7 = .ok (.ifCond .eq 5, 3) := by decide +kernel
theorem dX7_has_10 : decode cX7_has 10 = .ok (.iload_n 2, 1) := by decide +kernel
theorem dX7_has_11 : decode cX7_has 11 = .ok (.ireturn, 1) := by decide +kernel
theorem dX7_has_12 : decode cX7_has 12 = .ok (.iload_n 1, 1) := by decide +kernel
theorem dX7_has_13 : decode cX7_has 13 = .ok (.aload_n 0, 1) := by decide +kernel
theorem dX7_has_14 : decode cX7_has 14 = .ok (.invokevirtual 161, 3) := by decide +kernel
theorem dX7_has_17 : decode cX7_has 17 = .ok (.invokestatic 158, 3) := by decide +kernel
theorem dX7_has_20 : decode cX7_has 20 = .ok (.ifCond .eq 7, 3) := by decide +kernel
theorem dX7_has_23 : decode cX7_has 23 = .ok (.iconst 1, 1) := by decide +kernel
theorem dX7_has_24 : decode cX7_has 24 = .ok (.goto 4, 3) := by decide +kernel
theorem dX7_has_27 : decode cX7_has 27 = .ok (.iconst 0, 1) := by decide +kernel
theorem dX7_has_28 : decode cX7_has 28 = .ok (.ireturn, 1) := by decide +kernel
set_option maxRecDepth 20000 in
theorem ggX7_thirds_X7_fencesNow : GoodIn wsX7_thirds wsX7_fencesNow := goodIn_r _ [7, 8, 9, 10, 25, 26, 27, 28, 29, 30, 31, 32, 33, 34, 35, 36, 37, 38] (by decide +kernel) (by decide +kernel)
set_option maxRecDepth 20000 in
theorem gX7_thirds_X7_fencesNow : GoodIn wsX7_thirds (wsV RX7 161 RX7 yX7_fencesNow wsX7_fencesNow) := goodIn_app (goodIn_of _ (by decide +kernel)) ggX7_thirds_X7_fencesNow
set_option maxRecDepth 20000 in
theorem ggX7_thirds_X2_thirdsOf : GoodIn wsX7_thirds wsX2_thirdsOf := goodIn_r _ [15, 16, 17, 18, 19, 20, 21, 22, 14, 23, 24, 39, 40, 41, 42, 43, 44, 45, 46, 47, 48, 49] (by decide +kernel) (by decide +kernel)
set_option maxRecDepth 20000 in
theorem gX7_thirds_X2_thirdsOf : GoodIn wsX7_thirds (wsV RX7 172 RX2 yX2_thirdsOf wsX2_thirdsOf) := goodIn_app (goodIn_of _ (by decide +kernel)) ggX7_thirds_X2_thirdsOf
theorem dX7_thirds_0 : decode cX7_thirds 0 = .ok (.aload_n 0, 1) := by decide +kernel
theorem dX7_thirds_1 : decode cX7_thirds 1 = .ok (.getfield 126, 3) := by decide +kernel
theorem dX7_thirds_4 : decode cX7_thirds 4 = .ok (.ifCond .eq 17, 3) := by decide +kernel
theorem dX7_thirds_7 : decode cX7_thirds 7 = .ok (.aload_n 0, 1) := by decide +kernel
theorem dX7_thirds_8 : decode cX7_thirds 8 = .ok (.getfield 25, 3) := by decide +kernel
theorem dX7_thirds_11 : decode cX7_thirds 11 = .ok (.aload_n 0, 1) := by decide +kernel
theorem dX7_thirds_12 : decode cX7_thirds 12 = .ok (.invokevirtual 161, 3) := by decide +kernel
theorem dX7_thirds_15 : decode cX7_thirds 15 = .ok (.invokevirtual 172, 3) := by decide +kernel
theorem dX7_thirds_18 : decode cX7_thirds 18 = .ok (.goto 5, 3) := by decide +kernel
theorem dX7_thirds_21 : decode cX7_thirds 21 = .ok (.bipush (-3), 2) := by decide +kernel
theorem dX7_thirds_23 : decode cX7_thirds 23 = .ok (.ireturn, 1) := by decide +kernel
set_option maxRecDepth 20000 in
theorem ggX7_third_X7_fencesNow : GoodIn wsX7_third wsX7_fencesNow := goodIn_r _ [7, 8, 9, 10, 26, 27, 28, 29, 30, 31, 32, 33, 34, 35, 36, 37, 38, 39] (by decide +kernel) (by decide +kernel)
set_option maxRecDepth 20000 in
theorem gX7_third_X7_fencesNow : GoodIn wsX7_third (wsV RX7 161 RX7 yX7_fencesNow wsX7_fencesNow) := goodIn_app (goodIn_of _ (by decide +kernel)) ggX7_third_X7_fencesNow
set_option maxRecDepth 20000 in
theorem ggX7_third_X2_cornerOf : GoodIn wsX7_third wsX2_cornerOf := goodIn_r _ [15, 16, 17, 18, 19, 20, 21, 22, 23, 14, 24, 25, 40, 41, 42, 43, 44, 45, 46, 47, 48, 49, 50] (by decide +kernel) (by decide +kernel)
set_option maxRecDepth 20000 in
theorem gX7_third_X2_cornerOf : GoodIn wsX7_third (wsV RX7 175 RX2 yX2_cornerOf wsX2_cornerOf) := goodIn_app (goodIn_of _ (by decide +kernel)) ggX7_third_X2_cornerOf
theorem dX7_third_0 : decode cX7_third 0 = .ok (.iload_n 2, 1) := by decide +kernel
theorem dX7_third_1 : decode cX7_third 1 = .ok (.ifCond .lt 8, 3) := by decide +kernel
theorem dX7_third_4 : decode cX7_third 4 = .ok (.iload_n 2, 1) := by decide +kernel
theorem dX7_third_5 : decode cX7_third 5 = .ok (.iconst 2, 1) := by decide +kernel
theorem dX7_third_6 : decode cX7_third 6 = .ok (.if_icmp .le 6, 3) := by decide +kernel
theorem dX7_third_9 : decode cX7_third 9 = .ok (.bipush (-2), 2) := by decide +kernel
theorem dX7_third_11 : decode cX7_third 11 = .ok (.ireturn, 1) := by decide +kernel
theorem dX7_third_12 : decode cX7_third 12 = .ok (.aload_n 0, 1) := by decide +kernel
theorem dX7_third_13 : decode cX7_third 13 = .ok (.getfield 126, 3) := by decide +kernel
theorem dX7_third_16 : decode cX7_third 16 = .ok (.ifCond .eq 19, 3) := by decide +kernel
theorem dX7_third_19 : decode cX7_third 19 = .ok (.aload_n 0, 1) := by decide +kernel
theorem dX7_third_20 : decode cX7_third 20 = .ok (.getfield 25, 3) := by decide +kernel
theorem dX7_third_23 : decode cX7_third 23 = .ok (.aload_n 0, 1) := by decide +kernel
theorem dX7_third_24 : decode cX7_third 24 = .ok (.invokevirtual 161, 3) := by decide +kernel
theorem dX7_third_27 : decode cX7_third 27 = .ok (.iload_n 1, 1) := by decide +kernel
theorem dX7_third_28 : decode cX7_third 28 = .ok (.iload_n 2, 1) := by decide +kernel
theorem dX7_third_29 : decode cX7_third 29 = .ok (.invokevirtual 175, 3) := by decide +kernel
theorem dX7_third_32 : decode cX7_third 32 = .ok (.goto 5, 3) := by decide +kernel
theorem dX7_third_35 : decode cX7_third 35 = .ok (.bipush (-3), 2) := by decide +kernel
theorem dX7_third_37 : decode cX7_third 37 = .ok (.ireturn, 1) := by decide +kernel
set_option maxRecDepth 20000 in
theorem ggX7_degree_X2_isPost : GoodIn wsX7_degree wsX2_isPost := goodIn_r _ [7, 8, 9, 45, 46, 47, 48, 49, 50, 51, 52, 53, 54, 55] (by decide +kernel) (by decide +kernel)
set_option maxRecDepth 20000 in
theorem gX7_degree_X2_isPost : GoodIn wsX7_degree (wsV RX7 132 RX2 yX2_isPost wsX2_isPost) := goodIn_app (goodIn_of _ (by decide +kernel)) ggX7_degree_X2_isPost
set_option maxRecDepth 20000 in
theorem ggX7_degree_X2_fencesAt : GoodIn wsX7_degree wsX2_fencesAt := goodIn_r _ [13, 8, 9, 14, 15, 16, 6, 17, 18, 45, 46, 47, 48, 49, 50, 51, 52, 53, 54, 55] (by decide +kernel) (by decide +kernel)
set_option maxRecDepth 20000 in
theorem gX7_degree_X2_fencesAt : GoodIn wsX7_degree (wsV RX7 179 RX2 yX2_fencesAt wsX2_fencesAt) := goodIn_app (goodIn_of _ (by decide +kernel)) ggX7_degree_X2_fencesAt
set_option maxRecDepth 20000 in
theorem ggX7_degree_X7_fencesNow : GoodIn wsX7_degree wsX7_fencesNow := goodIn_r _ [23, 24, 25, 26, 34, 35, 36, 37, 38, 39, 40, 41, 42, 43, 44, 56, 57, 58] (by decide +kernel) (by decide +kernel)
set_option maxRecDepth 20000 in
theorem gX7_degree_X7_fencesNow : GoodIn wsX7_degree (wsV RX7 161 RX7 yX7_fencesNow wsX7_fencesNow) := goodIn_app (goodIn_of _ (by decide +kernel)) ggX7_degree_X7_fencesNow
set_option maxRecDepth 20000 in
theorem ggX7_degree_J6_bitCount_0f7a4 : GoodIn wsX7_degree wsJ6_bitCount_0f7a4 := goodIn_r _ [30, 31, 32, 33] (by decide +kernel) (by decide +kernel)
set_option maxRecDepth 20000 in
theorem gX7_degree_J6_bitCount_0f7a4 : GoodIn wsX7_degree (va_wsS RX7 182 yJ6_bitCount_0f7a4 wsJ6_bitCount_0f7a4) := goodIn_app (goodIn_of _ (by decide +kernel)) ggX7_degree_J6_bitCount_0f7a4
theorem dX7_degree_0 : decode cX7_degree 0 = .ok (.aload_n 0, 1) := by decide +kernel
theorem dX7_degree_1 : decode cX7_degree 1 = .ok (.getfield 126, 3) := by decide +kernel
theorem dX7_degree_4 : decode cX7_degree 4 = .ok (.ifCond .ne 6, 3) := by decide +kernel
theorem dX7_degree_7 : decode cX7_degree 7 = .ok (.bipush (-3), 2) := by decide +kernel
theorem dX7_degree_9 : decode cX7_degree 9 = .ok (.ireturn, 1) := by decide +kernel
theorem dX7_degree_10 : decode cX7_degree 10 = .ok (.aload_n 0, 1) := by decide +kernel
theorem dX7_degree_11 : decode cX7_degree 11 = .ok (.getfield 25, 3) := by decide +kernel
theorem dX7_degree_14 : decode cX7_degree 14 = .ok (.iload_n 1, 1) := by decide +kernel
theorem dX7_degree_15 : decode cX7_degree 15 = .ok (.invokevirtual 132, 3) := by decide +kernel
theorem dX7_degree_18 : decode cX7_degree 18 = .ok (.ifCond .ne 5, 3) := by decide +kernel
theorem dX7_degree_21 : decode cX7_degree 21 = .ok (.iconst (-1), 1) := by decide +kernel
theorem dX7_degree_22 : decode cX7_degree 22 = .ok (.ireturn, 1) := by decide +kernel
theorem dX7_degree_23 : decode cX7_degree 23 = .ok (.aload_n 0, 1) := by decide +kernel
theorem dX7_degree_24 : decode cX7_degree 24 = .ok (.getfield 25, 3) := by decide +kernel
theorem dX7_degree_27 : decode cX7_degree 27 = .ok (.iload_n 1, 1) := by decide +kernel
theorem dX7_degree_28 : decode cX7_degree 28 = .ok (.invokevirtual 179, 3) := by decide +kernel
theorem dX7_degree_31 : decode cX7_degree 31 = .ok (.aload_n 0, 1) := by decide +kernel
theorem dX7_degree_32 : decode cX7_degree 32 = .ok (.invokevirtual 161, 3) := by decide +kernel
theorem dX7_degree_35 : decode cX7_degree 35 = .ok (.iand, 1) := by decide +kernel
theorem dX7_degree_36 : decode cX7_degree 36 = .ok (.invokestatic 182, 3) := by decide +kernel
theorem dX7_degree_39 : decode cX7_degree 39 = .ok (.ireturn, 1) := by decide +kernel
set_option maxRecDepth 20000 in
theorem ggX7_turns_X7_fenceRefusal : GoodIn wsX7_turns wsX7_fenceRefusal := goodIn_r _ [5, 6, 7, 8, 9, 10, 11, 12, 13, 62, 63, 64, 65, 66, 67, 68, 69, 70, 71, 72, 73, 74, 75, 76, 77, 78, 79, 80] (by decide +kernel) (by decide +kernel)
set_option maxRecDepth 20000 in
theorem gX7_turns_X7_fenceRefusal : GoodIn wsX7_turns (wsV RX7 139 RX7 yX7_fenceRefusal wsX7_fenceRefusal) := goodIn_app (goodIn_of _ (by decide +kernel)) ggX7_turns_X7_fenceRefusal
set_option maxRecDepth 20000 in
theorem ggX7_turns_X7_comingFor : GoodIn wsX7_turns wsX7_comingFor := goodIn_r _ [17, 18, 19, 20, 21, 7, 22, 23, 24, 25, 26, 27, 28, 29, 30, 4, 31, 32, 33, 34, 35, 11, 36, 37, 38, 39, 40, 41, 42, 43, 44, 45, 46, 47, 48, 49, 50, 51, 52, 53, 54, 55, 56, 57, 58, 59, 60, 61, 62, 63, 64, 65, 66, 67, 68, 69, 70, 71, 72, 81, 82, 83, 84, 85, 86, 87, 88, 73, 74, 75, 76, 77, 78, 79, 80, 89, 90, 91] (by decide +kernel) (by decide +kernel)
set_option maxRecDepth 20000 in
theorem gX7_turns_X7_comingFor : GoodIn wsX7_turns (wsV RX7 187 RX7 yX7_comingFor wsX7_comingFor) := goodIn_app (goodIn_of _ (by decide +kernel)) ggX7_turns_X7_comingFor
theorem dX7_turns_0 : decode cX7_turns 0 = .ok (.aload_n 0, 1) := by decide +kernel
theorem dX7_turns_1 : decode cX7_turns 1 = .ok (.iload_n 1, 1) := by decide +kernel
theorem dX7_turns_2 : decode cX7_turns 2 = .ok (.invokevirtual 139, 3) := by decide +kernel
theorem dX7_turns_5 : decode cX7_turns 5 = .ok (.istore_n 2, 1) := by decide +kernel
theorem dX7_turns_6 : decode cX7_turns 6 = .ok (.iload_n 2, 1) := by decide +kernel
theorem dX7_turns_7 : decode cX7_turns 7 = .ok (.ifCond .eq 7, 3) := by decide +kernel
theorem dX7_turns_10 : decode cX7_turns 10 = .ok (.iload_n 2, 1) := by decide +kernel
theorem dX7_turns_11 : decode cX7_turns 11 = .ok (.goto 8, 3) := by decide +kernel
theorem dX7_turns_14 : decode cX7_turns 14 = .ok (.aload_n 0, 1) := by decide +kernel
theorem dX7_turns_15 : decode cX7_turns 15 = .ok (.iload_n 1, 1) := by decide +kernel
theorem dX7_turns_16 : decode cX7_turns 16 = .ok (.invokevirtual 187, 3) := by decide +kernel
theorem dX7_turns_19 : decode cX7_turns 19 = .ok (.ireturn, 1) := by decide +kernel
set_option maxRecDepth 20000 in
theorem ggX7_turn_X7_fenceRefusal : GoodIn wsX7_turn wsX7_fenceRefusal := goodIn_r _ [7, 8, 9, 10, 11, 12, 13, 14, 15, 79, 80, 81, 82, 83, 84, 85, 86, 87, 88, 89, 90, 91, 92, 93, 94, 95, 96, 97] (by decide +kernel) (by decide +kernel)
set_option maxRecDepth 20000 in
theorem gX7_turn_X7_fenceRefusal : GoodIn wsX7_turn (wsV RX7 139 RX7 yX7_fenceRefusal wsX7_fenceRefusal) := goodIn_app (goodIn_of _ (by decide +kernel)) ggX7_turn_X7_fenceRefusal
set_option maxRecDepth 20000 in
theorem ggX7_turn_X7_comingFor : GoodIn wsX7_turn wsX7_comingFor := goodIn_r _ [19, 1, 2, 20, 21, 9, 22, 23, 24, 25, 26, 27, 28, 29, 30, 6, 31, 32, 33, 34, 35, 13, 36, 37, 38, 39, 40, 41, 42, 43, 44, 45, 46, 47, 48, 49, 50, 51, 52, 53, 54, 55, 56, 57, 58, 59, 60, 61, 79, 80, 81, 82, 83, 84, 85, 86, 87, 88, 89, 98, 99, 100, 101, 102, 103, 104, 105, 90, 91, 92, 93, 94, 95, 96, 97, 106, 107, 108] (by decide +kernel) (by decide +kernel)
set_option maxRecDepth 20000 in
theorem gX7_turn_X7_comingFor : GoodIn wsX7_turn (wsV RX7 187 RX7 yX7_comingFor wsX7_comingFor) := goodIn_app (goodIn_of _ (by decide +kernel)) ggX7_turn_X7_comingFor
set_option maxRecDepth 20000 in
theorem ggX7_turn_X1_afterTurn : GoodIn wsX7_turn wsX1_afterTurn := goodIn_r _ [26, 27, 103, 104, 105] (by decide +kernel) (by decide +kernel)
set_option maxRecDepth 20000 in
theorem gX7_turn_X1_afterTurn : GoodIn wsX7_turn (wsV RX7 190 RX1 yX1_afterTurn wsX1_afterTurn) := goodIn_app (goodIn_of _ (by decide +kernel)) ggX7_turn_X1_afterTurn
set_option maxRecDepth 20000 in
theorem ggX7_turn_X7_moveTo : GoodIn wsX7_turn wsX7_moveTo := goodIn_r _ [65, 66, 2, 67, 68, 69, 70, 71, 72, 73, 74, 75, 76, 77, 78, 79, 80, 81, 82, 83, 84, 85, 86, 87, 88, 89, 109, 110, 111] (by decide +kernel) (by decide +kernel)
set_option maxRecDepth 20000 in
theorem gX7_turn_X7_moveTo : GoodIn wsX7_turn (wsV RX7 193 RX7 yX7_moveTo wsX7_moveTo) := goodIn_app (goodIn_of _ (by decide +kernel)) ggX7_turn_X7_moveTo
theorem dX7_turn_0 : decode cX7_turn 0 = .ok (.aload_n 0, 1) := by decide +kernel
theorem dX7_turn_1 : decode cX7_turn 1 = .ok (.iload_n 1, 1) := by decide +kernel
theorem dX7_turn_2 : decode cX7_turn 2 = .ok (.invokevirtual 139, 3) := by decide +kernel
theorem dX7_turn_5 : decode cX7_turn 5 = .ok (.istore_n 2, 1) := by decide +kernel
theorem dX7_turn_6 : decode cX7_turn 6 = .ok (.iload_n 2, 1) := by decide +kernel
theorem dX7_turn_7 : decode cX7_turn 7 = .ok (.ifCond .eq 5, 3) := by decide +kernel
theorem dX7_turn_10 : decode cX7_turn 10 = .ok (.iload_n 2, 1) := by decide +kernel
theorem dX7_turn_11 : decode cX7_turn 11 = .ok (.ireturn, 1) := by decide +kernel
theorem dX7_turn_12 : decode cX7_turn 12 = .ok (.aload_n 0, 1) := by decide +kernel
theorem dX7_turn_13 : decode cX7_turn 13 = .ok (.iload_n 1, 1) := by decide +kernel
theorem dX7_turn_14 : decode cX7_turn 14 = .ok (.invokevirtual 187, 3) := by decide +kernel
theorem dX7_turn_17 : decode cX7_turn 17 = .ok (.istore_n 3, 1) := by decide +kernel
theorem dX7_turn_18 : decode cX7_turn 18 = .ok (.iload_n 3, 1) := by decide +kernel
theorem dX7_turn_19 : decode cX7_turn 19 = .ok (.bipush (-9), 2) := by decide +kernel
theorem dX7_turn_21 : decode cX7_turn 21 = .ok (.if_icmp .ne 6, 3) := by decide +kernel
theorem dX7_turn_24 : decode cX7_turn 24 = .ok (.bipush (-3), 2) := by decide +kernel
theorem dX7_turn_26 : decode cX7_turn 26 = .ok (.ireturn, 1) := by decide +kernel
theorem dX7_turn_27 : decode cX7_turn 27 = .ok (.aload_n 0, 1) := by decide +kernel
theorem dX7_turn_28 : decode cX7_turn 28 = .ok (.aload_n 0, 1) := by decide +kernel
theorem dX7_turn_29 : decode cX7_turn 29 = .ok (.getfield 32, 3) := by decide +kernel
theorem dX7_turn_32 : decode cX7_turn 32 = .ok (.aload_n 0, 1) := by decide +kernel
theorem dX7_turn_33 : decode cX7_turn 33 = .ok (.getfield 123, 3) := by decide +kernel
theorem dX7_turn_36 : decode cX7_turn 36 = .ok (.iload_n 1, 1) := by decide +kernel
theorem dX7_turn_37 : decode cX7_turn 37 = .ok (.invokevirtual 190, 3) := by decide +kernel
theorem dX7_turn_40 : decode cX7_turn 40 = .ok (.invokevirtual 193, 3) := by decide +kernel
theorem dX7_turn_43 : decode cX7_turn 43 = .ok (.iload_n 3, 1) := by decide +kernel
theorem dX7_turn_44 : decode cX7_turn 44 = .ok (.ireturn, 1) := by decide +kernel
set_option maxRecDepth 20000 in
theorem ggX7_back_X3_latest : GoodIn wsX7_back wsX3_latest := goodIn_r _ [9, 10, 11, 12, 24, 25, 26] (by decide +kernel) (by decide +kernel)
set_option maxRecDepth 20000 in
theorem gX7_back_X3_latest : GoodIn wsX7_back (wsV RX7 198 RX3 yX3_latest wsX3_latest) := goodIn_app (goodIn_of _ (by decide +kernel)) ggX7_back_X3_latest
theorem dX7_back_0 : decode cX7_back 0 = .ok (.aload_n 0, 1) := by decide +kernel
theorem dX7_back_1 : decode cX7_back 1 = .ok (.getfield 126, 3) := by decide +kernel
theorem dX7_back_4 : decode cX7_back 4 = .ok (.ifCond .eq 13, 3) := by decide +kernel
theorem dX7_back_7 : decode cX7_back 7 = .ok (.aload_n 0, 1) := by decide +kernel
theorem dX7_back_8 : decode cX7_back 8 = .ok (.getfield 53, 3) := by decide +kernel
theorem dX7_back_11 : decode cX7_back 11 = .ok (.getfield 197, 3) := by decide +kernel
theorem dX7_back_14 : decode cX7_back 14 = .ok (.ifCond .ne 6, 3) := by decide +kernel
theorem dX7_back_17 : decode cX7_back 17 = .ok (.bipush (-3), 2) := by decide +kernel
theorem dX7_back_19 : decode cX7_back 19 = .ok (.ireturn, 1) := by decide +kernel
theorem dX7_back_20 : decode cX7_back 20 = .ok (.aload_n 0, 1) := by decide +kernel
theorem dX7_back_21 : decode cX7_back 21 = .ok (.aload_n 0, 1) := by decide +kernel
theorem dX7_back_22 : decode cX7_back 22 = .ok (.getfield 53, 3) := by decide +kernel
theorem dX7_back_25 : decode cX7_back 25 = .ok (.invokevirtual 198, 3) := by decide +kernel
theorem dX7_back_28 : decode cX7_back 28 = .ok (.putfield 123, 3) := by decide +kernel
theorem dX7_back_31 : decode cX7_back 31 = .ok (.aload_n 0, 1) := by decide +kernel
theorem dX7_back_32 : decode cX7_back 32 = .ok (.getfield 53, 3) := by decide +kernel
theorem dX7_back_35 : decode cX7_back 35 = .ok (.getfield 197, 3) := by decide +kernel
theorem dX7_back_38 : decode cX7_back 38 = .ok (.ireturn, 1) := by decide +kernel
theorem dX7_count_0 : decode cX7_count 0 = .ok (.aload_n 0, 1) := by decide +kernel
theorem dX7_count_1 : decode cX7_count 1 = .ok (.getfield 126, 3) := by decide +kernel
theorem dX7_count_4 : decode cX7_count 4 = .ok (.ifCond .eq 13, 3) := by decide +kernel
theorem dX7_count_7 : decode cX7_count 7 = .ok (.aload_n 0, 1) := by decide +kernel
theorem dX7_count_8 : decode cX7_count 8 = .ok (.getfield 39, 3) := by decide +kernel
theorem dX7_count_11 : decode cX7_count 11 = .ok (.getfield 169, 3) := by decide +kernel
theorem dX7_count_14 : decode cX7_count 14 = .ok (.goto 5, 3) := by decide +kernel
theorem dX7_count_17 : decode cX7_count 17 = .ok (.bipush (-3), 2) := by decide +kernel
theorem dX7_count_19 : decode cX7_count 19 = .ok (.ireturn, 1) := by decide +kernel
theorem dX7_rank_0 : decode cX7_rank 0 = .ok (.aload_n 0, 1) := by decide +kernel
theorem dX7_rank_1 : decode cX7_rank 1 = .ok (.getfield 126, 3) := by decide +kernel
theorem dX7_rank_4 : decode cX7_rank 4 = .ok (.ifCond .eq 18, 3) := by decide +kernel
theorem dX7_rank_7 : decode cX7_rank 7 = .ok (.aload_n 0, 1) := by decide +kernel
theorem dX7_rank_8 : decode cX7_rank 8 = .ok (.getfield 39, 3) := by decide +kernel
theorem dX7_rank_11 : decode cX7_rank 11 = .ok (.getfield 201, 3) := by decide +kernel
theorem dX7_rank_14 : decode cX7_rank 14 = .ok (.aload_n 0, 1) := by decide +kernel
theorem dX7_rank_15 : decode cX7_rank 15 = .ok (.getfield 123, 3) := by decide +kernel
theorem dX7_rank_18 : decode cX7_rank 18 = .ok (.iaload, 1) := by decide +kernel
theorem dX7_rank_19 : decode cX7_rank 19 = .ok (.goto 5, 3) := by decide +kernel
theorem dX7_rank_22 : decode cX7_rank 22 = .ok (.bipush (-3), 2) := by decide +kernel
theorem dX7_rank_24 : decode cX7_rank 24 = .ok (.ireturn, 1) := by decide +kernel
set_option maxRecDepth 20000 in
theorem ggX7_of_X7_rankRefusal : GoodIn wsX7_of wsX7_rankRefusal := goodIn_r _ [5, 6, 7, 8, 16, 17, 18, 19, 20, 21, 22, 23, 24, 25, 26, 27, 28, 29, 30, 31] (by decide +kernel) (by decide +kernel)
set_option maxRecDepth 20000 in
theorem gX7_of_X7_rankRefusal : GoodIn wsX7_of (wsV RX7 204 RX7 yX7_rankRefusal wsX7_rankRefusal) := goodIn_app (goodIn_of _ (by decide +kernel)) ggX7_of_X7_rankRefusal
set_option maxRecDepth 20000 in
theorem ggX7_of_X7_fencesOf : GoodIn wsX7_of wsX7_fencesOf := goodIn_r _ [12, 13, 14, 7, 15, 16, 17, 18, 19, 20, 21, 22, 23, 24, 25, 26, 32, 33, 34, 27, 28, 29, 30, 31] (by decide +kernel) (by decide +kernel)
set_option maxRecDepth 20000 in
theorem gX7_of_X7_fencesOf : GoodIn wsX7_of (wsV RX7 207 RX7 yX7_fencesOf wsX7_fencesOf) := goodIn_app (goodIn_of _ (by decide +kernel)) ggX7_of_X7_fencesOf
theorem dX7_of_0 : decode cX7_of 0 = .ok (.aload_n 0, 1) := by decide +kernel
theorem dX7_of_1 : decode cX7_of 1 = .ok (.iload_n 1, 1) := by decide +kernel
theorem dX7_of_2 : decode cX7_of 2 = .ok (.invokevirtual 204, 3) := by decide +kernel
theorem dX7_of_5 : decode cX7_of 5 = .ok (.istore_n 2, 1) := by decide +kernel
theorem dX7_of_6 : decode cX7_of 6 = .ok (.iload_n 2, 1) := by decide +kernel
theorem dX7_of_7 : decode cX7_of 7 = .ok (.ifCond .eq 8, 3) := by decide +kernel
theorem dX7_of_10 : decode cX7_of 10 = .ok (.iload_n 2, 1) := by decide +kernel
theorem dX7_of_11 : decode cX7_of 11 = .ok (.i2l, 1) := by decide +kernel
theorem dX7_of_12 : decode cX7_of 12 = .ok (.goto 9, 3) := by decide +kernel
theorem dX7_of_15 : decode cX7_of 15 = .ok (.aload_n 0, 1) := by decide +kernel
theorem dX7_of_16 : decode cX7_of 16 = .ok (.iload_n 1, 1) := by decide +kernel
theorem dX7_of_17 : decode cX7_of 17 = .ok (.invokevirtual 207, 3) := by decide +kernel
theorem dX7_of_20 : decode cX7_of 20 = .ok (.i2l, 1) := by decide +kernel
theorem dX7_of_21 : decode cX7_of 21 = .ok (.lreturn, 1) := by decide +kernel
set_option maxRecDepth 20000 in
theorem ggX7_go_X7_rankRefusal : GoodIn wsX7_go wsX7_rankRefusal := goodIn_r _ [7, 8, 1, 9, 28, 29, 30, 31, 32, 33, 34, 35, 36, 37, 38, 39, 40, 41, 42, 43] (by decide +kernel) (by decide +kernel)
set_option maxRecDepth 20000 in
theorem gX7_go_X7_rankRefusal : GoodIn wsX7_go (wsV RX7 204 RX7 yX7_rankRefusal wsX7_rankRefusal) := goodIn_app (goodIn_of _ (by decide +kernel)) ggX7_go_X7_rankRefusal
set_option maxRecDepth 20000 in
theorem ggX7_go_X7_moveTo : GoodIn wsX7_go wsX7_moveTo := goodIn_r _ [13, 14, 15, 16, 17, 18, 19, 20, 21, 22, 23, 24, 25, 26, 27, 28, 29, 30, 31, 32, 33, 34, 35, 36, 37, 38, 44, 45, 46] (by decide +kernel) (by decide +kernel)
set_option maxRecDepth 20000 in
theorem gX7_go_X7_moveTo : GoodIn wsX7_go (wsV RX7 193 RX7 yX7_moveTo wsX7_moveTo) := goodIn_app (goodIn_of _ (by decide +kernel)) ggX7_go_X7_moveTo
theorem dX7_go_0 : decode cX7_go 0 = .ok (.aload_n 0, 1) := by decide +kernel
theorem dX7_go_1 : decode cX7_go 1 = .ok (.iload_n 1, 1) := by decide +kernel
theorem dX7_go_2 : decode cX7_go 2 = .ok (.invokevirtual 204, 3) := by decide +kernel
theorem dX7_go_5 : decode cX7_go 5 = .ok (.istore_n 2, 1) := by decide +kernel
theorem dX7_go_6 : decode cX7_go 6 = .ok (.iload_n 2, 1) := by decide +kernel
theorem dX7_go_7 : decode cX7_go 7 = .ok (.ifCond .eq 5, 3) := by decide +kernel
theorem dX7_go_10 : decode cX7_go 10 = .ok (.iload_n 2, 1) := by decide +kernel
theorem dX7_go_11 : decode cX7_go 11 = .ok (.ireturn, 1) := by decide +kernel
theorem dX7_go_12 : decode cX7_go 12 = .ok (.aload_n 0, 1) := by decide +kernel
theorem dX7_go_13 : decode cX7_go 13 = .ok (.aload_n 0, 1) := by decide +kernel
theorem dX7_go_14 : decode cX7_go 14 = .ok (.getfield 39, 3) := by decide +kernel
theorem dX7_go_17 : decode cX7_go 17 = .ok (.getfield 210, 3) := by decide +kernel
theorem dX7_go_20 : decode cX7_go 20 = .ok (.iload_n 1, 1) := by decide +kernel
theorem dX7_go_21 : decode cX7_go 21 = .ok (.iaload, 1) := by decide +kernel
theorem dX7_go_22 : decode cX7_go 22 = .ok (.invokevirtual 193, 3) := by decide +kernel
theorem dX7_go_25 : decode cX7_go 25 = .ok (.iconst 1, 1) := by decide +kernel
theorem dX7_go_26 : decode cX7_go 26 = .ok (.ireturn, 1) := by decide +kernel
set_option maxRecDepth 20000 in
theorem ggX7_sure_X7_fenceRefusal : GoodIn wsX7_sure wsX7_fenceRefusal := goodIn_r _ [7, 8, 9, 10, 11, 12, 13, 14, 15, 26, 27, 28, 29, 30, 31, 32, 33, 34, 35, 36, 42, 43, 44, 45, 46, 47, 48, 49] (by decide +kernel) (by decide +kernel)
set_option maxRecDepth 20000 in
theorem gX7_sure_X7_fenceRefusal : GoodIn wsX7_sure (wsV RX7 139 RX7 yX7_fenceRefusal wsX7_fenceRefusal) := goodIn_app (goodIn_of _ (by decide +kernel)) ggX7_sure_X7_fenceRefusal
set_option maxRecDepth 20000 in
theorem ggX7_sure_X7_fencesOf : GoodIn wsX7_sure wsX7_fencesOf := goodIn_r _ [19, 20, 21, 1, 22, 26, 27, 28, 29, 30, 31, 32, 33, 34, 35, 36, 50, 51, 52, 37, 38, 39, 40, 41] (by decide +kernel) (by decide +kernel)
set_option maxRecDepth 20000 in
theorem gX7_sure_X7_fencesOf : GoodIn wsX7_sure (wsV RX7 207 RX7 yX7_fencesOf wsX7_fencesOf) := goodIn_app (goodIn_of _ (by decide +kernel)) ggX7_sure_X7_fencesOf
set_option maxRecDepth 20000 in
theorem ggX7_sure_X7_isIn : GoodIn wsX7_sure wsX7_isIn := goodIn_r _ [25] (by decide +kernel) (by decide +kernel)
set_option maxRecDepth 20000 in
theorem gX7_sure_X7_isIn : GoodIn wsX7_sure (va_wsS RX7 158 yX7_isIn wsX7_isIn) := goodIn_app (goodIn_of _ (by decide +kernel)) ggX7_sure_X7_isIn
theorem dX7_sure_0 : decode cX7_sure 0 = .ok (.aload_n 0, 1) := by decide +kernel
theorem dX7_sure_1 : decode cX7_sure 1 = .ok (.iload_n 1, 1) := by decide +kernel
theorem dX7_sure_2 : decode cX7_sure 2 = .ok (.invokevirtual 139, 3) := by decide +kernel
theorem dX7_sure_5 : decode cX7_sure 5 = .ok (.istore_n 2, 1) := by decide +kernel
theorem dX7_sure_6 : decode cX7_sure 6 = .ok (.iload_n 2, 1) := by decide +kernel
theorem dX7_sure_7 : decode cX7_sure 7 = .ok (.ifCond .eq 5, 3) := by decide +kernel
theorem dX7_sure_10 : decode cX7_sure 10 = .ok (.iload_n 2, 1) := by decide +kernel
theorem dX7_sure_11 : decode cX7_sure 11 = .ok (.ireturn, 1) := by decide +kernel
theorem dX7_sure_12 : decode cX7_sure 12 = .ok (.iconst 0, 1) := by decide +kernel
theorem dX7_sure_13 : decode cX7_sure 13 = .ok (.istore_n 3, 1) := by decide +kernel
theorem dX7_sure_14 : decode cX7_sure 14 = .ok (.iconst 0, 1) := by decide +kernel
theorem dX7_sure_15 : decode cX7_sure 15 = .ok (.istore 4, 2) := by decide +kernel
theorem dX7_sure_17 : decode cX7_sure 17 = .ok (.iload 4, 2) := by decide +kernel
theorem dX7_sure_19 : decode cX7_sure 19 = .ok (.aload_n 0, 1) := by decide +kernel
theorem dX7_sure_20 : decode cX7_sure 20 = .ok (.getfield 39, 3) := by decide +kernel
theorem dX7_sure_23 : decode cX7_sure 23 = .ok (.getfield 169, 3) := by decide +kernel
theorem dX7_sure_26 : decode cX7_sure 26 = .ok (.if_icmp .ge 25, 3) := by decide +kernel
theorem dX7_sure_29 : decode cX7_sure 29 = .ok (.iload_n 1, 1) := by decide +kernel
theorem dX7_sure_30 : decode cX7_sure 30 = .ok (.aload_n 0, 1) := by decide +kernel
theorem dX7_sure_31 : decode cX7_sure 31 = .ok (.iload 4, 2) := by decide +kernel
theorem dX7_sure_33 : decode cX7_sure 33 = .ok (.invokevirtual 207, 3) := by decide +kernel
theorem dX7_sure_36 : decode cX7_sure 36 = .ok (.invokestatic 158, 3) := by decide +kernel
theorem dX7_sure_39 : decode cX7_sure 39 = .ok (.ifCond .eq 6, 3) := by decide +kernel
theorem dX7_sure_42 : decode cX7_sure 42 = .ok (.iinc 3 1, 3) := by decide +kernel
theorem dX7_sure_45 : decode cX7_sure 45 = .ok (.iinc 4 1, 3) := by decide +kernel
theorem dX7_sure_48 : decode cX7_sure 48 = .ok (.goto (-31), 3) := by decide +kernel
theorem dX7_sure_51 : decode cX7_sure 51 = .ok (.iload_n 3, 1) := by decide +kernel
theorem dX7_sure_52 : decode cX7_sure 52 = .ok (.ifCond .ne 5, 3) := by decide +kernel
theorem dX7_sure_55 : decode cX7_sure 55 = .ok (.iconst 0, 1) := by decide +kernel
theorem dX7_sure_56 : decode cX7_sure 56 = .ok (.ireturn, 1) := by decide +kernel
theorem dX7_sure_57 : decode cX7_sure 57 = .ok (.iload_n 3, 1) := by decide +kernel
theorem dX7_sure_58 : decode cX7_sure 58 = .ok (.aload_n 0, 1) := by decide +kernel
theorem dX7_sure_59 : decode cX7_sure 59 = .ok (.getfield 39, 3) := by decide +kernel
theorem dX7_sure_62 : decode cX7_sure 62 = .ok (.getfield 169, 3) := by decide +kernel
theorem dX7_sure_65 : decode cX7_sure 65 = .ok (.if_icmp .ne 7, 3) := by decide +kernel
theorem dX7_sure_68 : decode cX7_sure 68 = .ok (.iconst 2, 1) := by decide +kernel
theorem dX7_sure_69 : decode cX7_sure 69 = .ok (.goto 4, 3) := by decide +kernel
theorem dX7_sure_72 : decode cX7_sure 72 = .ok (.iconst 1, 1) := by decide +kernel
theorem dX7_sure_73 : decode cX7_sure 73 = .ok (.ireturn, 1) := by decide +kernel
set_option maxRecDepth 20000 in
theorem ggX7_best_X7_leastBestRank : GoodIn wsX7_best wsX7_leastBestRank := goodIn_r _ [6, 7, 8, 9, 10, 11, 5, 12, 13, 14, 15, 16, 17, 18, 19, 20, 21, 22, 23, 24, 25, 26, 27, 28, 29, 30, 31, 32, 33, 34, 35, 36, 37, 38, 39, 40, 41, 42, 43, 44, 45, 46, 47, 48, 49, 50, 51, 52] (by decide +kernel) (by decide +kernel)
set_option maxRecDepth 20000 in
theorem gX7_best_X7_leastBestRank : GoodIn wsX7_best (wsV RX7 213 RX7 yX7_leastBestRank wsX7_leastBestRank) := goodIn_app (goodIn_of _ (by decide +kernel)) ggX7_best_X7_leastBestRank
set_option maxRecDepth 20000 in
theorem ggX7_best_X7_fencesOf : GoodIn wsX7_best wsX7_fencesOf := goodIn_r _ [12, 13, 14, 7, 15, 26, 27, 28, 29, 30, 31, 32, 33, 34, 35, 36, 42, 43, 44, 37, 38, 39, 40, 41] (by decide +kernel) (by decide +kernel)
set_option maxRecDepth 20000 in
theorem gX7_best_X7_fencesOf : GoodIn wsX7_best (wsV RX7 207 RX7 yX7_fencesOf wsX7_fencesOf) := goodIn_app (goodIn_of _ (by decide +kernel)) ggX7_best_X7_fencesOf
set_option maxRecDepth 20000 in
theorem ggX7_best_X7_weightOf : GoodIn wsX7_best wsX7_weightOf := goodIn_r _ [19, 20, 21, 22, 23, 24, 5, 25, 26, 27, 28, 29, 30, 31, 32, 33, 34, 35, 36, 45, 46, 47, 48, 49, 50, 51, 52] (by decide +kernel) (by decide +kernel)
set_option maxRecDepth 20000 in
theorem gX7_best_X7_weightOf : GoodIn wsX7_best (wsV RX7 217 RX7 yX7_weightOf wsX7_weightOf) := goodIn_app (goodIn_of _ (by decide +kernel)) ggX7_best_X7_weightOf
theorem dX7_best_0 : decode cX7_best 0 = .ok (.aload_n 0, 1) := by decide +kernel
theorem dX7_best_1 : decode cX7_best 1 = .ok (.getfield 126, 3) := by decide +kernel
theorem dX7_best_4 : decode cX7_best 4 = .ok (.ifCond .eq 19, 3) := by decide +kernel
theorem dX7_best_7 : decode cX7_best 7 = .ok (.aload_n 0, 1) := by decide +kernel
theorem dX7_best_8 : decode cX7_best 8 = .ok (.aload_n 0, 1) := by decide +kernel
theorem dX7_best_9 : decode cX7_best 9 = .ok (.aload_n 0, 1) := by decide +kernel
theorem dX7_best_10 : decode cX7_best 10 = .ok (.iload_n 1, 1) := by decide +kernel
theorem dX7_best_11 : decode cX7_best 11 = .ok (.invokevirtual 213, 3) := by decide +kernel
theorem dX7_best_14 : decode cX7_best 14 = .ok (.invokevirtual 207, 3) := by decide +kernel
theorem dX7_best_17 : decode cX7_best 17 = .ok (.invokevirtual 217, 3) := by decide +kernel
theorem dX7_best_20 : decode cX7_best 20 = .ok (.goto 5, 3) := by decide +kernel
theorem dX7_best_23 : decode cX7_best 23 = .ok (.bipush (-3), 2) := by decide +kernel
theorem dX7_best_25 : decode cX7_best 25 = .ok (.ireturn, 1) := by decide +kernel
set_option maxRecDepth 20000 in
theorem ggX7_bestRank_X7_leastBestRank : GoodIn wsX7_bestRank wsX7_leastBestRank := goodIn_r _ [6, 7, 8, 9, 10, 11, 5, 12, 13, 14, 15, 16, 17, 18, 19, 20, 21, 22, 23, 24, 25, 26, 27, 28, 29, 30, 31, 32, 33, 34, 35, 36, 37, 38, 39, 40, 41, 42, 43, 44, 45, 46, 47, 48, 49, 50, 51, 52] (by decide +kernel) (by decide +kernel)
set_option maxRecDepth 20000 in
theorem gX7_bestRank_X7_leastBestRank : GoodIn wsX7_bestRank (wsV RX7 213 RX7 yX7_leastBestRank wsX7_leastBestRank) := goodIn_app (goodIn_of _ (by decide +kernel)) ggX7_bestRank_X7_leastBestRank
theorem dX7_bestRank_0 : decode cX7_bestRank 0 = .ok (.aload_n 0, 1) := by decide +kernel
theorem dX7_bestRank_1 : decode cX7_bestRank 1 = .ok (.getfield 126, 3) := by decide +kernel
theorem dX7_bestRank_4 : decode cX7_bestRank 4 = .ok (.ifCond .eq 11, 3) := by decide +kernel
theorem dX7_bestRank_7 : decode cX7_bestRank 7 = .ok (.aload_n 0, 1) := by decide +kernel
theorem dX7_bestRank_8 : decode cX7_bestRank 8 = .ok (.iload_n 1, 1) := by decide +kernel
theorem dX7_bestRank_9 : decode cX7_bestRank 9 = .ok (.invokevirtual 213, 3) := by decide +kernel
theorem dX7_bestRank_12 : decode cX7_bestRank 12 = .ok (.goto 5, 3) := by decide +kernel
theorem dX7_bestRank_15 : decode cX7_bestRank 15 = .ok (.bipush (-3), 2) := by decide +kernel
theorem dX7_bestRank_17 : decode cX7_bestRank 17 = .ok (.ireturn, 1) := by decide +kernel
set_option maxRecDepth 20000 in
theorem ggX7_apart_X7_rankRefusal : GoodIn wsX7_apart wsX7_rankRefusal := goodIn_r _ [11, 12, 3, 13, 34, 35, 36, 37, 38, 39, 40, 41, 42, 43, 44, 45, 46, 47, 48, 49] (by decide +kernel) (by decide +kernel)
set_option maxRecDepth 20000 in
theorem gX7_apart_X7_rankRefusal : GoodIn wsX7_apart (wsV RX7 204 RX7 yX7_rankRefusal wsX7_rankRefusal) := goodIn_app (goodIn_of _ (by decide +kernel)) ggX7_apart_X7_rankRefusal
set_option maxRecDepth 20000 in
theorem ggX7_apart_X6_measure : GoodIn wsX7_apart wsX6_measure := goodIn_r _ [18, 19, 20, 21, 22, 23, 24, 25, 26, 17, 27, 28, 29, 30, 31, 32, 33, 53, 54, 55, 50, 51, 52, 45, 46, 47, 48, 49] (by decide +kernel) (by decide +kernel)
set_option maxRecDepth 20000 in
theorem gX7_apart_X6_measure : GoodIn wsX7_apart (wsV RX7 220 RX6 yX6_measure wsX6_measure) := goodIn_app (goodIn_of _ (by decide +kernel)) ggX7_apart_X6_measure
theorem dX7_apart_0 : decode cX7_apart 0 = .ok (.aload_n 0, 1) := by decide +kernel
theorem dX7_apart_1 : decode cX7_apart 1 = .ok (.iload_n 1, 1) := by decide +kernel
theorem dX7_apart_2 : decode cX7_apart 2 = .ok (.invokevirtual 204, 3) := by decide +kernel
theorem dX7_apart_5 : decode cX7_apart 5 = .ok (.istore_n 2, 1) := by decide +kernel
theorem dX7_apart_6 : decode cX7_apart 6 = .ok (.iload_n 2, 1) := by decide +kernel
theorem dX7_apart_7 : decode cX7_apart 7 = .ok (.ifCond .eq 5, 3) := by decide +kernel
theorem dX7_apart_10 : decode cX7_apart 10 = .ok (.iload_n 2, 1) := by decide +kernel
theorem dX7_apart_11 : decode cX7_apart 11 = .ok (.ireturn, 1) := by decide +kernel
theorem dX7_apart_12 : decode cX7_apart 12 = .ok (.aload_n 0, 1) := by decide +kernel
theorem dX7_apart_13 : decode cX7_apart 13 = .ok (.getfield 46, 3) := by decide +kernel
theorem dX7_apart_16 : decode cX7_apart 16 = .ok (.aload_n 0, 1) := by decide +kernel
theorem dX7_apart_17 : decode cX7_apart 17 = .ok (.getfield 32, 3) := by decide +kernel
theorem dX7_apart_20 : decode cX7_apart 20 = .ok (.aload_n 0, 1) := by decide +kernel
theorem dX7_apart_21 : decode cX7_apart 21 = .ok (.getfield 39, 3) := by decide +kernel
theorem dX7_apart_24 : decode cX7_apart 24 = .ok (.aload_n 0, 1) := by decide +kernel
theorem dX7_apart_25 : decode cX7_apart 25 = .ok (.getfield 39, 3) := by decide +kernel
theorem dX7_apart_28 : decode cX7_apart 28 = .ok (.getfield 210, 3) := by decide +kernel
theorem dX7_apart_31 : decode cX7_apart 31 = .ok (.iload_n 1, 1) := by decide +kernel
theorem dX7_apart_32 : decode cX7_apart 32 = .ok (.iaload, 1) := by decide +kernel
theorem dX7_apart_33 : decode cX7_apart 33 = .ok (.invokevirtual 220, 3) := by decide +kernel
theorem dX7_apart_36 : decode cX7_apart 36 = .ok (.aload_n 0, 1) := by decide +kernel
theorem dX7_apart_37 : decode cX7_apart 37 = .ok (.getfield 46, 3) := by decide +kernel
theorem dX7_apart_40 : decode cX7_apart 40 = .ok (.getfield 224, 3) := by decide +kernel
theorem dX7_apart_43 : decode cX7_apart 43 = .ok (.aload_n 0, 1) := by decide +kernel
theorem dX7_apart_44 : decode cX7_apart 44 = .ok (.getfield 123, 3) := by decide +kernel
theorem dX7_apart_47 : decode cX7_apart 47 = .ok (.iaload, 1) := by decide +kernel
theorem dX7_apart_48 : decode cX7_apart 48 = .ok (.ireturn, 1) := by decide +kernel
set_option maxRecDepth 20000 in
theorem ggX7_way_X7_rankRefusal : GoodIn wsX7_way wsX7_rankRefusal := goodIn_r _ [13, 14, 3, 15, 37, 38, 39, 40, 41, 42, 43, 44, 45, 46, 47, 48, 49, 50, 51, 52] (by decide +kernel) (by decide +kernel)
set_option maxRecDepth 20000 in
theorem gX7_way_X7_rankRefusal : GoodIn wsX7_way (wsV RX7 204 RX7 yX7_rankRefusal wsX7_rankRefusal) := goodIn_app (goodIn_of _ (by decide +kernel)) ggX7_way_X7_rankRefusal
set_option maxRecDepth 20000 in
theorem ggX7_way_X6_measure : GoodIn wsX7_way wsX6_measure := goodIn_r _ [20, 21, 22, 23, 24, 25, 26, 27, 28, 19, 29, 30, 31, 32, 33, 34, 35, 64, 65, 66, 53, 54, 55, 48, 49, 50, 51, 52] (by decide +kernel) (by decide +kernel)
set_option maxRecDepth 20000 in
theorem gX7_way_X6_measure : GoodIn wsX7_way (wsV RX7 220 RX6 yX6_measure wsX6_measure) := goodIn_app (goodIn_of _ (by decide +kernel)) ggX7_way_X6_measure
set_option maxRecDepth 20000 in
theorem ggX7_way_X1_afterTurn : GoodIn wsX7_way wsX1_afterTurn := goodIn_r _ [34, 35, 64, 65, 66] (by decide +kernel) (by decide +kernel)
set_option maxRecDepth 20000 in
theorem gX7_way_X1_afterTurn : GoodIn wsX7_way (wsV RX7 190 RX1 yX1_afterTurn wsX1_afterTurn) := goodIn_app (goodIn_of _ (by decide +kernel)) ggX7_way_X1_afterTurn
theorem dX7_way_0 : decode cX7_way 0 = .ok (.aload_n 0, 1) := by decide +kernel
theorem dX7_way_1 : decode cX7_way 1 = .ok (.iload_n 1, 1) := by decide +kernel
theorem dX7_way_2 : decode cX7_way 2 = .ok (.invokevirtual 204, 3) := by decide +kernel
theorem dX7_way_5 : decode cX7_way 5 = .ok (.istore_n 2, 1) := by decide +kernel
theorem dX7_way_6 : decode cX7_way 6 = .ok (.iload_n 2, 1) := by decide +kernel
theorem dX7_way_7 : decode cX7_way 7 = .ok (.ifCond .eq 5, 3) := by decide +kernel
theorem dX7_way_10 : decode cX7_way 10 = .ok (.iload_n 2, 1) := by decide +kernel
theorem dX7_way_11 : decode cX7_way 11 = .ok (.ireturn, 1) := by decide +kernel
theorem dX7_way_12 : decode cX7_way 12 = .ok (.aload_n 0, 1) := by decide +kernel
theorem dX7_way_13 : decode cX7_way 13 = .ok (.getfield 46, 3) := by decide +kernel
theorem dX7_way_16 : decode cX7_way 16 = .ok (.aload_n 0, 1) := by decide +kernel
theorem dX7_way_17 : decode cX7_way 17 = .ok (.getfield 32, 3) := by decide +kernel
theorem dX7_way_20 : decode cX7_way 20 = .ok (.aload_n 0, 1) := by decide +kernel
theorem dX7_way_21 : decode cX7_way 21 = .ok (.getfield 39, 3) := by decide +kernel
theorem dX7_way_24 : decode cX7_way 24 = .ok (.aload_n 0, 1) := by decide +kernel
theorem dX7_way_25 : decode cX7_way 25 = .ok (.getfield 39, 3) := by decide +kernel
theorem dX7_way_28 : decode cX7_way 28 = .ok (.getfield 210, 3) := by decide +kernel
theorem dX7_way_31 : decode cX7_way 31 = .ok (.iload_n 1, 1) := by decide +kernel
theorem dX7_way_32 : decode cX7_way 32 = .ok (.iaload, 1) := by decide +kernel
theorem dX7_way_33 : decode cX7_way 33 = .ok (.invokevirtual 220, 3) := by decide +kernel
theorem dX7_way_36 : decode cX7_way 36 = .ok (.aload_n 0, 1) := by decide +kernel
theorem dX7_way_37 : decode cX7_way 37 = .ok (.getfield 46, 3) := by decide +kernel
theorem dX7_way_40 : decode cX7_way 40 = .ok (.getfield 224, 3) := by decide +kernel
theorem dX7_way_43 : decode cX7_way 43 = .ok (.aload_n 0, 1) := by decide +kernel
theorem dX7_way_44 : decode cX7_way 44 = .ok (.getfield 123, 3) := by decide +kernel
theorem dX7_way_47 : decode cX7_way 47 = .ok (.iaload, 1) := by decide +kernel
theorem dX7_way_48 : decode cX7_way 48 = .ok (.istore_n 3, 1) := by decide +kernel
theorem dX7_way_49 : decode cX7_way 49 = .ok (.iload_n 3, 1) := by decide +kernel
theorem dX7_way_50 : decode cX7_way 50 = .ok (.bipush (-9), 2) := by decide +kernel
theorem dX7_way_52 : decode cX7_way 52 = .ok (.if_icmp .eq 7, 3) := by decide +kernel
theorem dX7_way_55 : decode cX7_way 55 = .ok (.iload_n 3, 1) := by decide +kernel
theorem dX7_way_56 : decode cX7_way 56 = .ok (.ifCond .ne 6, 3) := by decide +kernel
theorem dX7_way_59 : decode cX7_way 59 = .ok (.bipush (-9), 2) := by decide +kernel
theorem dX7_way_61 : decode cX7_way 61 = .ok (.ireturn, 1) := by decide +kernel
theorem dX7_way_62 : decode cX7_way 62 = .ok (.iconst 0, 1) := by decide +kernel
theorem dX7_way_63 : decode cX7_way 63 = .ok (.istore 4, 2) := by decide +kernel
theorem dX7_way_65 : decode cX7_way 65 = .ok (.iload 4, 2) := by decide +kernel
theorem dX7_way_67 : decode cX7_way 67 = .ok (.aload_n 0, 1) := by decide +kernel
theorem dX7_way_68 : decode cX7_way 68 = .ok (.getfield 25, 3) := by decide +kernel
theorem dX7_way_71 : decode cX7_way 71 = .ok (.getfield 129, 3) := by decide +kernel
theorem dX7_way_74 : decode cX7_way 74 = .ok (.if_icmp .ge 50, 3) := by decide +kernel
theorem dX7_way_77 : decode cX7_way 77 = .ok (.aload_n 0, 1) := by decide +kernel
theorem dX7_way_78 : decode cX7_way 78 = .ok (.getfield 32, 3) := by decide +kernel
theorem dX7_way_81 : decode cX7_way 81 = .ok (.aload_n 0, 1) := by decide +kernel
theorem dX7_way_82 : decode cX7_way 82 = .ok (.getfield 123, 3) := by decide +kernel
theorem dX7_way_85 : decode cX7_way 85 = .ok (.iload 4, 2) := by decide +kernel
theorem dX7_way_87 : decode cX7_way 87 = .ok (.invokevirtual 190, 3) := by decide +kernel
theorem dX7_way_90 : decode cX7_way 90 = .ok (.istore 5, 2) := by decide +kernel
theorem dX7_way_92 : decode cX7_way 92 = .ok (.iload 5, 2) := by decide +kernel
theorem dX7_way_94 : decode cX7_way 94 = .ok (.bipush (-9), 2) := by decide +kernel
theorem dX7_way_96 : decode cX7_way 96 = .ok (.if_icmp .eq 22, 3) := by decide +kernel
theorem dX7_way_99 : decode cX7_way 99 = .ok (.aload_n 0, 1) := by decide +kernel
theorem dX7_way_100 : decode cX7_way 100 = .ok (.getfield 46, 3) := by decide +kernel
theorem dX7_way_103 : decode cX7_way 103 = .ok (.getfield 224, 3) := by decide +kernel
theorem dX7_way_106 : decode cX7_way 106 = .ok (.iload 5, 2) := by decide +kernel
theorem dX7_way_108 : decode cX7_way 108 = .ok (.iaload, 1) := by decide +kernel
theorem dX7_way_109 : decode cX7_way 109 = .ok (.iload_n 3, 1) := by decide +kernel
theorem dX7_way_110 : decode cX7_way 110 = .ok (.iconst 1, 1) := by decide +kernel
theorem dX7_way_111 : decode cX7_way 111 = .ok (.isub, 1) := by decide +kernel
theorem dX7_way_112 : decode cX7_way 112 = .ok (.if_icmp .ne 6, 3) := by decide +kernel
theorem dX7_way_115 : decode cX7_way 115 = .ok (.iload 4, 2) := by decide +kernel
theorem dX7_way_117 : decode cX7_way 117 = .ok (.ireturn, 1) := by decide +kernel
theorem dX7_way_118 : decode cX7_way 118 = .ok (.iinc 4 1, 3) := by decide +kernel
theorem dX7_way_121 : decode cX7_way 121 = .ok (.goto (-56), 3) := by decide +kernel
theorem dX7_way_124 : decode cX7_way 124 = .ok (.bipush (-9), 2) := by decide +kernel
theorem dX7_way_126 : decode cX7_way 126 = .ok (.ireturn, 1) := by decide +kernel
set_option maxRecDepth 20000 in
theorem ggX7_far_X6_measure : GoodIn wsX7_far wsX6_measure := goodIn_r _ [16, 17, 18, 19, 20, 21, 22, 23, 24, 15, 25, 26, 27, 28, 29, 30, 31, 43, 44, 45, 46, 47, 48, 49, 50, 51, 52, 53] (by decide +kernel) (by decide +kernel)
set_option maxRecDepth 20000 in
theorem gX7_far_X6_measure : GoodIn wsX7_far (wsV RX7 220 RX6 yX6_measure wsX6_measure) := goodIn_app (goodIn_of _ (by decide +kernel)) ggX7_far_X6_measure
theorem dX7_far_0 : decode cX7_far 0 = .ok (.aload_n 0, 1) := by decide +kernel
theorem dX7_far_1 : decode cX7_far 1 = .ok (.getfield 126, 3) := by decide +kernel
theorem dX7_far_4 : decode cX7_far 4 = .ok (.ifCond .ne 6, 3) := by decide +kernel
theorem dX7_far_7 : decode cX7_far 7 = .ok (.bipush (-3), 2) := by decide +kernel
theorem dX7_far_9 : decode cX7_far 9 = .ok (.ireturn, 1) := by decide +kernel
theorem dX7_far_10 : decode cX7_far 10 = .ok (.aload_n 0, 1) := by decide +kernel
theorem dX7_far_11 : decode cX7_far 11 = .ok (.getfield 46, 3) := by decide +kernel
theorem dX7_far_14 : decode cX7_far 14 = .ok (.aload_n 0, 1) := by decide +kernel
theorem dX7_far_15 : decode cX7_far 15 = .ok (.getfield 32, 3) := by decide +kernel
theorem dX7_far_18 : decode cX7_far 18 = .ok (.aload_n 0, 1) := by decide +kernel
theorem dX7_far_19 : decode cX7_far 19 = .ok (.getfield 39, 3) := by decide +kernel
theorem dX7_far_22 : decode cX7_far 22 = .ok (.aload_n 0, 1) := by decide +kernel
theorem dX7_far_23 : decode cX7_far 23 = .ok (.getfield 123, 3) := by decide +kernel
theorem dX7_far_26 : decode cX7_far 26 = .ok (.invokevirtual 220, 3) := by decide +kernel
theorem dX7_far_29 : decode cX7_far 29 = .ok (.iconst 0, 1) := by decide +kernel
theorem dX7_far_30 : decode cX7_far 30 = .ok (.istore_n 1, 1) := by decide +kernel
theorem dX7_far_31 : decode cX7_far 31 = .ok (.iconst 0, 1) := by decide +kernel
theorem dX7_far_32 : decode cX7_far 32 = .ok (.istore_n 2, 1) := by decide +kernel
theorem dX7_far_33 : decode cX7_far 33 = .ok (.iload_n 2, 1) := by decide +kernel
theorem dX7_far_34 : decode cX7_far 34 = .ok (.aload_n 0, 1) := by decide +kernel
theorem dX7_far_35 : decode cX7_far 35 = .ok (.getfield 32, 3) := by decide +kernel
theorem dX7_far_38 : decode cX7_far 38 = .ok (.getfield 227, 3) := by decide +kernel
theorem dX7_far_41 : decode cX7_far 41 = .ok (.if_icmp .ge 23, 3) := by decide +kernel
theorem dX7_far_44 : decode cX7_far 44 = .ok (.iload_n 1, 1) := by decide +kernel
theorem dX7_far_45 : decode cX7_far 45 = .ok (.aload_n 0, 1) := by decide +kernel
theorem dX7_far_46 : decode cX7_far 46 = .ok (.getfield 46, 3) := by decide +kernel
theorem dX7_far_49 : decode cX7_far 49 = .ok (.getfield 224, 3) := by decide +kernel
theorem dX7_far_52 : decode cX7_far 52 = .ok (.iload_n 2, 1) := by decide +kernel
theorem dX7_far_53 : decode cX7_far 53 = .ok (.iaload, 1) := by decide +kernel
theorem dX7_far_54 : decode cX7_far 54 = .ok (.invokestatic 228, 3) := by decide +kernel
theorem dX7_far_57 : decode cX7_far 57 = .ok (.istore_n 1, 1) := by decide +kernel
theorem dX7_far_58 : decode cX7_far 58 = .ok (.iinc 2 1, 3) := by decide +kernel
theorem dX7_far_61 : decode cX7_far 61 = .ok (.goto (-28), 3) := by decide +kernel
theorem dX7_far_64 : decode cX7_far 64 = .ok (.iload_n 1, 1) := by decide +kernel
theorem dX7_far_65 : decode cX7_far 65 = .ok (.ireturn, 1) := by decide +kernel
set_option maxRecDepth 20000 in
theorem ggX7_crossings_X7_rankRefusal : GoodIn wsX7_crossings wsX7_rankRefusal := goodIn_r _ [8, 9, 10, 11, 34, 35, 36, 37, 38, 39, 40, 41, 42, 43, 44, 53, 54, 55, 56, 57] (by decide +kernel) (by decide +kernel)
set_option maxRecDepth 20000 in
theorem gX7_crossings_X7_rankRefusal : GoodIn wsX7_crossings (wsV RX7 204 RX7 yX7_rankRefusal wsX7_rankRefusal) := goodIn_app (goodIn_of _ (by decide +kernel)) ggX7_crossings_X7_rankRefusal
set_option maxRecDepth 20000 in
theorem ggX7_crossings_X7_fencesNow : GoodIn wsX7_crossings wsX7_fencesNow := goodIn_r _ [15, 16, 17, 18, 34, 35, 36, 37, 38, 39, 40, 41, 42, 43, 44, 58, 59, 60] (by decide +kernel) (by decide +kernel)
set_option maxRecDepth 20000 in
theorem gX7_crossings_X7_fencesNow : GoodIn wsX7_crossings (wsV RX7 161 RX7 yX7_fencesNow wsX7_fencesNow) := goodIn_app (goodIn_of _ (by decide +kernel)) ggX7_crossings_X7_fencesNow
set_option maxRecDepth 20000 in
theorem ggX7_crossings_X7_isIn : GoodIn wsX7_crossings wsX7_isIn := goodIn_r _ [21] (by decide +kernel) (by decide +kernel)
set_option maxRecDepth 20000 in
theorem gX7_crossings_X7_isIn : GoodIn wsX7_crossings (va_wsS RX7 158 yX7_isIn wsX7_isIn) := goodIn_app (goodIn_of _ (by decide +kernel)) ggX7_crossings_X7_isIn
set_option maxRecDepth 20000 in
theorem ggX7_crossings_X7_fencesOf : GoodIn wsX7_crossings wsX7_fencesOf := goodIn_r _ [25, 16, 17, 10, 26, 34, 35, 36, 37, 38, 39, 40, 41, 42, 43, 44, 58, 59, 60, 53, 54, 55, 56, 57] (by decide +kernel) (by decide +kernel)
set_option maxRecDepth 20000 in
theorem gX7_crossings_X7_fencesOf : GoodIn wsX7_crossings (wsV RX7 207 RX7 yX7_fencesOf wsX7_fencesOf) := goodIn_app (goodIn_of _ (by decide +kernel)) ggX7_crossings_X7_fencesOf
set_option maxRecDepth 20000 in
theorem ggX7_crossings_J6_bitCount_0f7a4 : GoodIn wsX7_crossings wsJ6_bitCount_0f7a4 := goodIn_r _ [30, 31, 32, 33] (by decide +kernel) (by decide +kernel)
set_option maxRecDepth 20000 in
theorem gX7_crossings_J6_bitCount_0f7a4 : GoodIn wsX7_crossings (va_wsS RX7 182 yJ6_bitCount_0f7a4 wsJ6_bitCount_0f7a4) := goodIn_app (goodIn_of _ (by decide +kernel)) ggX7_crossings_J6_bitCount_0f7a4
theorem dX7_crossings_0 : decode cX7_crossings 0 = .ok (.aload_n 0, 1) := by decide +kernel
theorem dX7_crossings_1 : decode cX7_crossings 1 = .ok (.iload_n 1, 1) := by decide +kernel
theorem dX7_crossings_2 : decode cX7_crossings 2 = .ok (.invokevirtual 204, 3) := by decide +kernel
theorem dX7_crossings_5 : decode cX7_crossings 5 = .ok (.istore_n 2, 1) := by decide +kernel
theorem dX7_crossings_6 : decode cX7_crossings 6 = .ok (.iload_n 2, 1) := by decide +kernel
theorem dX7_crossings_7 : decode cX7_crossings 7 = .ok (.ifCond .eq 5, 3) := by decide +kernel
theorem dX7_crossings_10 : decode cX7_crossings 10 = .ok (.iload_n 2, 1) := by decide +kernel
theorem dX7_crossings_11 : decode cX7_crossings 11 = .ok (.ireturn, 1) := by decide +kernel
theorem dX7_crossings_12 : decode cX7_crossings 12 = .ok (.iconst 0, 1) := by decide +kernel
theorem dX7_crossings_13 : decode cX7_crossings 13 = .ok (.istore_n 3, 1) := by decide +kernel
theorem dX7_crossings_14 : decode cX7_crossings 14 = .ok (.iconst 0, 1) := by decide +kernel
theorem dX7_crossings_15 : decode cX7_crossings 15 = .ok (.istore 4, 2) := by decide +kernel
theorem dX7_crossings_17 : decode cX7_crossings 17 = .ok (.iload 4, 2) := by decide +kernel
theorem dX7_crossings_19 : decode cX7_crossings 19 = .ok (.aload_n 0, 1) := by decide +kernel
theorem dX7_crossings_20 : decode cX7_crossings 20 = .ok (.getfield 25, 3) := by decide +kernel
theorem dX7_crossings_23 : decode cX7_crossings 23 = .ok (.getfield 129, 3) := by decide +kernel
theorem dX7_crossings_26 : decode cX7_crossings 26 = .ok (.if_icmp .ge 43, 3) := by decide +kernel
theorem dX7_crossings_29 : decode cX7_crossings 29 = .ok (.iload 4, 2) := by decide +kernel
theorem dX7_crossings_31 : decode cX7_crossings 31 = .ok (.aload_n 0, 1) := by decide +kernel
theorem dX7_crossings_32 : decode cX7_crossings 32 = .ok (.invokevirtual 161, 3) := by decide +kernel
theorem dX7_crossings_35 : decode cX7_crossings 35 = .ok (.invokestatic 158, 3) := by decide +kernel
theorem dX7_crossings_38 : decode cX7_crossings 38 = .ok (.ifCond .eq 25, 3) := by decide +kernel
theorem dX7_crossings_41 : decode cX7_crossings 41 = .ok (.iload_n 3, 1) := by decide +kernel
theorem dX7_crossings_42 : decode cX7_crossings 42 = .ok (.aload_n 0, 1) := by decide +kernel
theorem dX7_crossings_43 : decode cX7_crossings 43 = .ok (.getfield 25, 3) := by decide +kernel
theorem dX7_crossings_46 : decode cX7_crossings 46 = .ok (.getfield 155, 3) := by decide +kernel
theorem dX7_crossings_49 : decode cX7_crossings 49 = .ok (.iload 4, 2) := by decide +kernel
theorem dX7_crossings_51 : decode cX7_crossings 51 = .ok (.iaload, 1) := by decide +kernel
theorem dX7_crossings_52 : decode cX7_crossings 52 = .ok (.aload_n 0, 1) := by decide +kernel
theorem dX7_crossings_53 : decode cX7_crossings 53 = .ok (.iload_n 1, 1) := by decide +kernel
theorem dX7_crossings_54 : decode cX7_crossings 54 = .ok (.invokevirtual 207, 3) := by decide +kernel
theorem dX7_crossings_57 : decode cX7_crossings 57 = .ok (.iand, 1) := by decide +kernel
theorem dX7_crossings_58 : decode cX7_crossings 58 = .ok (.invokestatic 182, 3) := by decide +kernel
theorem dX7_crossings_61 : decode cX7_crossings 61 = .ok (.iadd, 1) := by decide +kernel
theorem dX7_crossings_62 : decode cX7_crossings 62 = .ok (.istore_n 3, 1) := by decide +kernel
theorem dX7_crossings_63 : decode cX7_crossings 63 = .ok (.iinc 4 1, 3) := by decide +kernel
theorem dX7_crossings_66 : decode cX7_crossings 66 = .ok (.goto (-49), 3) := by decide +kernel
theorem dX7_crossings_69 : decode cX7_crossings 69 = .ok (.iload_n 3, 1) := by decide +kernel
theorem dX7_crossings_70 : decode cX7_crossings 70 = .ok (.ireturn, 1) := by decide +kernel
set_option maxRecDepth 20000 in
theorem ggX7_total_J6_bitCount_0f7a4 : GoodIn wsX7_total wsJ6_bitCount_0f7a4 := goodIn_r _ [17, 18, 19, 20] (by decide +kernel) (by decide +kernel)
set_option maxRecDepth 20000 in
theorem gX7_total_J6_bitCount_0f7a4 : GoodIn wsX7_total (va_wsS RX7 182 yJ6_bitCount_0f7a4 wsJ6_bitCount_0f7a4) := goodIn_app (goodIn_of _ (by decide +kernel)) ggX7_total_J6_bitCount_0f7a4
set_option maxRecDepth 20000 in
theorem ggX7_total_X7_sheetsThere : GoodIn wsX7_total wsX7_sheetsThere := goodIn_r _ [25, 26, 27, 28, 29, 30, 31, 32, 33, 34, 35, 36, 37, 38, 58, 59, 60, 61] (by decide +kernel) (by decide +kernel)
set_option maxRecDepth 20000 in
theorem gX7_total_X7_sheetsThere : GoodIn wsX7_total (wsV RX7 248 RX7 yX7_sheetsThere wsX7_sheetsThere) := goodIn_app (goodIn_of _ (by decide +kernel)) ggX7_total_X7_sheetsThere
theorem dX7_total_0 : decode cX7_total 0 = .ok (.iload_n 1, 1) := by decide +kernel
theorem dX7_total_1 : decode cX7_total 1 = .ok (.tableswitch 195 0 8 #[51, 59, 81, 100, 122, 144, 166, 185, 190], 51) := by decide +kernel
theorem dX7_total_52 : decode cX7_total 52 = .ok (.aload_n 0, 1) := by decide +kernel
theorem dX7_total_53 : decode cX7_total 53 = .ok (.getfield 18, 3) := by decide +kernel
theorem dX7_total_56 : decode cX7_total 56 = .ok (.getfield 105, 3) := by decide +kernel
theorem dX7_total_59 : decode cX7_total 59 = .ok (.ireturn, 1) := by decide +kernel
theorem dX7_total_60 : decode cX7_total 60 = .ok (.aload_n 0, 1) := by decide +kernel
theorem dX7_total_61 : decode cX7_total 61 = .ok (.getfield 126, 3) := by decide +kernel
theorem dX7_total_64 : decode cX7_total 64 = .ok (.ifCond .eq 16, 3) := by decide +kernel
theorem dX7_total_67 : decode cX7_total 67 = .ok (.aload_n 0, 1) := by decide +kernel
theorem dX7_total_68 : decode cX7_total 68 = .ok (.getfield 25, 3) := by decide +kernel
theorem dX7_total_71 : decode cX7_total 71 = .ok (.getfield 233, 3) := by decide +kernel
theorem dX7_total_74 : decode cX7_total 74 = .ok (.getfield 105, 3) := by decide +kernel
theorem dX7_total_77 : decode cX7_total 77 = .ok (.goto 4, 3) := by decide +kernel
theorem dX7_total_80 : decode cX7_total 80 = .ok (.iconst 0, 1) := by decide +kernel
theorem dX7_total_81 : decode cX7_total 81 = .ok (.ireturn, 1) := by decide +kernel
theorem dX7_total_82 : decode cX7_total 82 = .ok (.aload_n 0, 1) := by decide +kernel
theorem dX7_total_83 : decode cX7_total 83 = .ok (.getfield 126, 3) := by decide +kernel
theorem dX7_total_86 : decode cX7_total 86 = .ok (.ifCond .eq 13, 3) := by decide +kernel
theorem dX7_total_89 : decode cX7_total 89 = .ok (.aload_n 0, 1) := by decide +kernel
theorem dX7_total_90 : decode cX7_total 90 = .ok (.getfield 25, 3) := by decide +kernel
theorem dX7_total_93 : decode cX7_total 93 = .ok (.getfield 129, 3) := by decide +kernel
theorem dX7_total_96 : decode cX7_total 96 = .ok (.goto 4, 3) := by decide +kernel
theorem dX7_total_99 : decode cX7_total 99 = .ok (.iconst 0, 1) := by decide +kernel
theorem dX7_total_100 : decode cX7_total 100 = .ok (.ireturn, 1) := by decide +kernel
theorem dX7_total_101 : decode cX7_total 101 = .ok (.aload_n 0, 1) := by decide +kernel
theorem dX7_total_102 : decode cX7_total 102 = .ok (.getfield 126, 3) := by decide +kernel
theorem dX7_total_105 : decode cX7_total 105 = .ok (.ifCond .eq 16, 3) := by decide +kernel
theorem dX7_total_108 : decode cX7_total 108 = .ok (.aload_n 0, 1) := by decide +kernel
theorem dX7_total_109 : decode cX7_total 109 = .ok (.getfield 25, 3) := by decide +kernel
theorem dX7_total_112 : decode cX7_total 112 = .ok (.getfield 236, 3) := by decide +kernel
theorem dX7_total_115 : decode cX7_total 115 = .ok (.invokestatic 182, 3) := by decide +kernel
theorem dX7_total_118 : decode cX7_total 118 = .ok (.goto 4, 3) := by decide +kernel
theorem dX7_total_121 : decode cX7_total 121 = .ok (.iconst 0, 1) := by decide +kernel
theorem dX7_total_122 : decode cX7_total 122 = .ok (.ireturn, 1) := by decide +kernel
theorem dX7_total_123 : decode cX7_total 123 = .ok (.aload_n 0, 1) := by decide +kernel
theorem dX7_total_124 : decode cX7_total 124 = .ok (.getfield 126, 3) := by decide +kernel
theorem dX7_total_127 : decode cX7_total 127 = .ok (.ifCond .eq 16, 3) := by decide +kernel
theorem dX7_total_130 : decode cX7_total 130 = .ok (.aload_n 0, 1) := by decide +kernel
theorem dX7_total_131 : decode cX7_total 131 = .ok (.getfield 39, 3) := by decide +kernel
theorem dX7_total_134 : decode cX7_total 134 = .ok (.getfield 239, 3) := by decide +kernel
theorem dX7_total_137 : decode cX7_total 137 = .ok (.invokestatic 182, 3) := by decide +kernel
theorem dX7_total_140 : decode cX7_total 140 = .ok (.goto 4, 3) := by decide +kernel
theorem dX7_total_143 : decode cX7_total 143 = .ok (.iconst 0, 1) := by decide +kernel
theorem dX7_total_144 : decode cX7_total 144 = .ok (.ireturn, 1) := by decide +kernel
theorem dX7_total_145 : decode cX7_total 145 = .ok (.aload_n 0, 1) := by decide +kernel
theorem dX7_total_146 : decode cX7_total 146 = .ok (.getfield 126, 3) := by decide +kernel
theorem dX7_total_149 : decode cX7_total 149 = .ok (.ifCond .eq 16, 3) := by decide +kernel
theorem dX7_total_152 : decode cX7_total 152 = .ok (.aload_n 0, 1) := by decide +kernel
theorem dX7_total_153 : decode cX7_total 153 = .ok (.getfield 39, 3) := by decide +kernel
theorem dX7_total_156 : decode cX7_total 156 = .ok (.getfield 242, 3) := by decide +kernel
theorem dX7_total_159 : decode cX7_total 159 = .ok (.invokestatic 182, 3) := by decide +kernel
theorem dX7_total_162 : decode cX7_total 162 = .ok (.goto 4, 3) := by decide +kernel
theorem dX7_total_165 : decode cX7_total 165 = .ok (.iconst 0, 1) := by decide +kernel
theorem dX7_total_166 : decode cX7_total 166 = .ok (.ireturn, 1) := by decide +kernel
theorem dX7_total_167 : decode cX7_total 167 = .ok (.aload_n 0, 1) := by decide +kernel
theorem dX7_total_168 : decode cX7_total 168 = .ok (.getfield 126, 3) := by decide +kernel
theorem dX7_total_171 : decode cX7_total 171 = .ok (.ifCond .eq 13, 3) := by decide +kernel
theorem dX7_total_174 : decode cX7_total 174 = .ok (.aload_n 0, 1) := by decide +kernel
theorem dX7_total_175 : decode cX7_total 175 = .ok (.getfield 53, 3) := by decide +kernel
theorem dX7_total_178 : decode cX7_total 178 = .ok (.getfield 197, 3) := by decide +kernel
theorem dX7_total_181 : decode cX7_total 181 = .ok (.goto 4, 3) := by decide +kernel
theorem dX7_total_184 : decode cX7_total 184 = .ok (.iconst 0, 1) := by decide +kernel
theorem dX7_total_185 : decode cX7_total 185 = .ok (.ireturn, 1) := by decide +kernel
theorem dX7_total_186 : decode cX7_total 186 = .ok (.aload_n 0, 1) := by decide +kernel
theorem dX7_total_187 : decode cX7_total 187 = .ok (.getfield 245, 3) := by decide +kernel
theorem dX7_total_190 : decode cX7_total 190 = .ok (.ireturn, 1) := by decide +kernel
theorem dX7_total_191 : decode cX7_total 191 = .ok (.aload_n 0, 1) := by decide +kernel
theorem dX7_total_192 : decode cX7_total 192 = .ok (.invokevirtual 248, 3) := by decide +kernel
theorem dX7_total_195 : decode cX7_total 195 = .ok (.ireturn, 1) := by decide +kernel
theorem dX7_total_196 : decode cX7_total 196 = .ok (.bipush (-2), 2) := by decide +kernel
theorem dX7_total_198 : decode cX7_total 198 = .ok (.ireturn, 1) := by decide +kernel
theorem dX7_found_0 : decode cX7_found 0 = .ok (.aload_n 0, 1) := by decide +kernel
theorem dX7_found_1 : decode cX7_found 1 = .ok (.dup, 1) := by decide +kernel
theorem dX7_found_2 : decode cX7_found 2 = .ok (.getfield 245, 3) := by decide +kernel
theorem dX7_found_5 : decode cX7_found 5 = .ok (.iconst 1, 1) := by decide +kernel
theorem dX7_found_6 : decode cX7_found 6 = .ok (.iadd, 1) := by decide +kernel
theorem dX7_found_7 : decode cX7_found 7 = .ok (.putfield 245, 3) := by decide +kernel
theorem dX7_found_10 : decode cX7_found 10 = .ok (.iload_n 1, 1) := by decide +kernel
theorem dX7_found_11 : decode cX7_found 11 = .ok (.ireturn, 1) := by decide +kernel
theorem dX7_isSheet_0 : decode cX7_isSheet 0 = .ok (.iload_n 0, 1) := by decide +kernel
theorem dX7_isSheet_1 : decode cX7_isSheet 1 = .ok (.ifCond .lt 12, 3) := by decide +kernel
theorem dX7_isSheet_4 : decode cX7_isSheet 4 = .ok (.iload_n 0, 1) := by decide +kernel
theorem dX7_isSheet_5 : decode cX7_isSheet 5 = .ok (.iconst 4, 1) := by decide +kernel
theorem dX7_isSheet_6 : decode cX7_isSheet 6 = .ok (.if_icmp .ge 7, 3) := by decide +kernel
theorem dX7_isSheet_9 : decode cX7_isSheet 9 = .ok (.iconst 1, 1) := by decide +kernel
theorem dX7_isSheet_10 : decode cX7_isSheet 10 = .ok (.goto 4, 3) := by decide +kernel
theorem dX7_isSheet_13 : decode cX7_isSheet 13 = .ok (.iconst 0, 1) := by decide +kernel
theorem dX7_isSheet_14 : decode cX7_isSheet 14 = .ok (.ireturn, 1) := by decide +kernel
theorem dX7_isLane_0 : decode cX7_isLane 0 = .ok (.iload_n 0, 1) := by decide +kernel
theorem dX7_isLane_1 : decode cX7_isLane 1 = .ok (.ifCond .lt 12, 3) := by decide +kernel
theorem dX7_isLane_4 : decode cX7_isLane 4 = .ok (.iload_n 0, 1) := by decide +kernel
theorem dX7_isLane_5 : decode cX7_isLane 5 = .ok (.iconst 3, 1) := by decide +kernel
theorem dX7_isLane_6 : decode cX7_isLane 6 = .ok (.if_icmp .gt 7, 3) := by decide +kernel
theorem dX7_isLane_9 : decode cX7_isLane 9 = .ok (.iconst 1, 1) := by decide +kernel
theorem dX7_isLane_10 : decode cX7_isLane 10 = .ok (.goto 4, 3) := by decide +kernel
theorem dX7_isLane_13 : decode cX7_isLane 13 = .ok (.iconst 0, 1) := by decide +kernel
theorem dX7_isLane_14 : decode cX7_isLane 14 = .ok (.ireturn, 1) := by decide +kernel
theorem dX7_sheetsThere_0 : decode cX7_sheetsThere 0 = .ok (.iconst 0, 1) := by decide +kernel
theorem dX7_sheetsThere_1 : decode cX7_sheetsThere 1 = .ok (.istore_n 1, 1) := by decide +kernel
theorem dX7_sheetsThere_2 : decode cX7_sheetsThere 2 = .ok (.iconst 0, 1) := by decide +kernel
theorem dX7_sheetsThere_3 : decode cX7_sheetsThere 3 = .ok (.istore_n 2, 1) := by decide +kernel
theorem dX7_sheetsThere_4 : decode cX7_sheetsThere 4 = .ok (.iload_n 2, 1) := by decide +kernel
theorem dX7_sheetsThere_5 : decode cX7_sheetsThere 5 = .ok (.iconst 4, 1) := by decide +kernel
theorem dX7_sheetsThere_6 : decode cX7_sheetsThere 6 = .ok (.if_icmp .ge 24, 3) := by decide +kernel
theorem dX7_sheetsThere_9 : decode cX7_sheetsThere 9 = .ok (.aload_n 0, 1) := by decide +kernel
theorem dX7_sheetsThere_10 : decode cX7_sheetsThere 10 = .ok (.getfield 11, 3) := by decide +kernel
theorem dX7_sheetsThere_13 : decode cX7_sheetsThere 13 = .ok (.iload_n 2, 1) := by decide +kernel
theorem dX7_sheetsThere_14 : decode cX7_sheetsThere 14 = .ok (.aaload, 1) := by decide +kernel
theorem dX7_sheetsThere_15 : decode cX7_sheetsThere 15 = .ok (.getfield 77, 3) := by decide +kernel
theorem dX7_sheetsThere_18 : decode cX7_sheetsThere 18 = .ok (.ifCond .ne 6, 3) := by decide +kernel
theorem dX7_sheetsThere_21 : decode cX7_sheetsThere 21 = .ok (.iinc 1 1, 3) := by decide +kernel
theorem dX7_sheetsThere_24 : decode cX7_sheetsThere 24 = .ok (.iinc 2 1, 3) := by decide +kernel
theorem dX7_sheetsThere_27 : decode cX7_sheetsThere 27 = .ok (.goto (-23), 3) := by decide +kernel
theorem dX7_sheetsThere_30 : decode cX7_sheetsThere 30 = .ok (.iload_n 1, 1) := by decide +kernel
theorem dX7_sheetsThere_31 : decode cX7_sheetsThere 31 = .ok (.ireturn, 1) := by decide +kernel
set_option maxRecDepth 20000 in
theorem ggX7_collect_X7_isPlace : GoodIn wsX7_collect wsX7_isPlace := goodIn_r _ [6, 7] (by decide +kernel) (by decide +kernel)
set_option maxRecDepth 20000 in
theorem gX7_collect_X7_isPlace : GoodIn wsX7_collect (va_wsS RX7 251 yX7_isPlace wsX7_isPlace) := goodIn_app (goodIn_of _ (by decide +kernel)) ggX7_collect_X7_isPlace
set_option maxRecDepth 20000 in
theorem ggX7_collect_X4_standsAt : GoodIn wsX7_collect wsX4_standsAt := goodIn_r _ [12, 13, 14, 15, 31, 32, 33] (by decide +kernel) (by decide +kernel)
set_option maxRecDepth 20000 in
theorem gX7_collect_X4_standsAt : GoodIn wsX7_collect (wsV RX7 255 RX4 yX4_standsAt wsX4_standsAt) := goodIn_app (goodIn_of _ (by decide +kernel)) ggX7_collect_X4_standsAt
set_option maxRecDepth 20000 in
theorem ggX7_collect_X4_add : GoodIn wsX7_collect wsX4_add := goodIn_r _ [19, 13, 14, 15, 31, 32, 33] (by decide +kernel) (by decide +kernel)
set_option maxRecDepth 20000 in
theorem gX7_collect_X4_add : GoodIn wsX7_collect (wsV RX7 258 RX4 yX4_add wsX4_add) := goodIn_app (goodIn_of _ (by decide +kernel)) ggX7_collect_X4_add
theorem dX7_collect_0 : decode cX7_collect 0 = .ok (.lload_n 1, 1) := by decide +kernel
theorem dX7_collect_1 : decode cX7_collect 1 = .ok (.invokestatic 251, 3) := by decide +kernel
theorem dX7_collect_4 : decode cX7_collect 4 = .ok (.ifCond .eq 10, 3) := by decide +kernel
theorem dX7_collect_7 : decode cX7_collect 7 = .ok (.lload_n 3, 1) := by decide +kernel
theorem dX7_collect_8 : decode cX7_collect 8 = .ok (.invokestatic 251, 3) := by decide +kernel
theorem dX7_collect_11 : decode cX7_collect 11 = .ok (.ifCond .ne 6, 3) := by decide +kernel
theorem dX7_collect_14 : decode cX7_collect 14 = .ok (.bipush (-2), 2) := by decide +kernel
theorem dX7_collect_16 : decode cX7_collect 16 = .ok (.ireturn, 1) := by decide +kernel
theorem dX7_collect_17 : decode cX7_collect 17 = .ok (.aload_n 0, 1) := by decide +kernel
theorem dX7_collect_18 : decode cX7_collect 18 = .ok (.getfield 18, 3) := by decide +kernel
theorem dX7_collect_21 : decode cX7_collect 21 = .ok (.lload_n 1, 1) := by decide +kernel
theorem dX7_collect_22 : decode cX7_collect 22 = .ok (.l2i, 1) := by decide +kernel
theorem dX7_collect_23 : decode cX7_collect 23 = .ok (.lload_n 3, 1) := by decide +kernel
theorem dX7_collect_24 : decode cX7_collect 24 = .ok (.l2i, 1) := by decide +kernel
theorem dX7_collect_25 : decode cX7_collect 25 = .ok (.invokevirtual 255, 3) := by decide +kernel
theorem dX7_collect_28 : decode cX7_collect 28 = .ok (.ifCond .eq 6, 3) := by decide +kernel
theorem dX7_collect_31 : decode cX7_collect 31 = .ok (.bipush (-3), 2) := by decide +kernel
theorem dX7_collect_33 : decode cX7_collect 33 = .ok (.ireturn, 1) := by decide +kernel
theorem dX7_collect_34 : decode cX7_collect 34 = .ok (.aload_n 0, 1) := by decide +kernel
theorem dX7_collect_35 : decode cX7_collect 35 = .ok (.getfield 18, 3) := by decide +kernel
theorem dX7_collect_38 : decode cX7_collect 38 = .ok (.getfield 105, 3) := by decide +kernel
theorem dX7_collect_41 : decode cX7_collect 41 = .ok (.bipush 8, 2) := by decide +kernel
theorem dX7_collect_43 : decode cX7_collect 43 = .ok (.if_icmp .ne 6, 3) := by decide +kernel
theorem dX7_collect_46 : decode cX7_collect 46 = .ok (.bipush (-4), 2) := by decide +kernel
theorem dX7_collect_48 : decode cX7_collect 48 = .ok (.ireturn, 1) := by decide +kernel
theorem dX7_collect_49 : decode cX7_collect 49 = .ok (.aload_n 0, 1) := by decide +kernel
theorem dX7_collect_50 : decode cX7_collect 50 = .ok (.getfield 18, 3) := by decide +kernel
theorem dX7_collect_53 : decode cX7_collect 53 = .ok (.lload_n 1, 1) := by decide +kernel
theorem dX7_collect_54 : decode cX7_collect 54 = .ok (.l2i, 1) := by decide +kernel
theorem dX7_collect_55 : decode cX7_collect 55 = .ok (.lload_n 3, 1) := by decide +kernel
theorem dX7_collect_56 : decode cX7_collect 56 = .ok (.l2i, 1) := by decide +kernel
theorem dX7_collect_57 : decode cX7_collect 57 = .ok (.invokevirtual 258, 3) := by decide +kernel
theorem dX7_collect_60 : decode cX7_collect 60 = .ok (.aload_n 0, 1) := by decide +kernel
theorem dX7_collect_61 : decode cX7_collect 61 = .ok (.getfield 18, 3) := by decide +kernel
theorem dX7_collect_64 : decode cX7_collect 64 = .ok (.getfield 105, 3) := by decide +kernel
theorem dX7_collect_67 : decode cX7_collect 67 = .ok (.ireturn, 1) := by decide +kernel
theorem dX7_isPlace_0 : decode cX7_isPlace 0 = .ok (.lload_n 0, 1) := by decide +kernel
theorem dX7_isPlace_1 : decode cX7_isPlace 1 = .ok (.lconst 0, 1) := by decide +kernel
theorem dX7_isPlace_2 : decode cX7_isPlace 2 = .ok (.lcmp, 1) := by decide +kernel
theorem dX7_isPlace_3 : decode cX7_isPlace 3 = .ok (.ifCond .lt 15, 3) := by decide +kernel
theorem dX7_isPlace_6 : decode cX7_isPlace 6 = .ok (.lload_n 0, 1) := by decide +kernel
theorem dX7_isPlace_7 : decode cX7_isPlace 7 = .ok (.ldc2_w 261, 3) := by decide +kernel
theorem dX7_isPlace_10 : decode cX7_isPlace 10 = .ok (.lcmp, 1) := by decide +kernel
theorem dX7_isPlace_11 : decode cX7_isPlace 11 = .ok (.ifCond .gt 7, 3) := by decide +kernel
theorem dX7_isPlace_14 : decode cX7_isPlace 14 = .ok (.iconst 1, 1) := by decide +kernel
theorem dX7_isPlace_15 : decode cX7_isPlace 15 = .ok (.goto 4, 3) := by decide +kernel
theorem dX7_isPlace_18 : decode cX7_isPlace 18 = .ok (.iconst 0, 1) := by decide +kernel
theorem dX7_isPlace_19 : decode cX7_isPlace 19 = .ok (.ireturn, 1) := by decide +kernel
set_option maxRecDepth 20000 in
theorem ggX7_fenceRefusal_X2_isFence : GoodIn wsX7_fenceRefusal wsX2_isFence := goodIn_r _ [7, 8, 20, 21, 22, 23, 24, 25, 26, 27] (by decide +kernel) (by decide +kernel)
set_option maxRecDepth 20000 in
theorem gX7_fenceRefusal_X2_isFence : GoodIn wsX7_fenceRefusal (wsV RX7 263 RX2 yX2_isFence wsX2_isFence) := goodIn_app (goodIn_of _ (by decide +kernel)) ggX7_fenceRefusal_X2_isFence
theorem dX7_fenceRefusal_0 : decode cX7_fenceRefusal 0 = .ok (.aload_n 0, 1) := by decide +kernel
theorem dX7_fenceRefusal_1 : decode cX7_fenceRefusal 1 = .ok (.getfield 126, 3) := by decide +kernel
theorem dX7_fenceRefusal_4 : decode cX7_fenceRefusal 4 = .ok (.ifCond .ne 6, 3) := by decide +kernel
theorem dX7_fenceRefusal_7 : decode cX7_fenceRefusal 7 = .ok (.bipush (-3), 2) := by decide +kernel
theorem dX7_fenceRefusal_9 : decode cX7_fenceRefusal 9 = .ok (.ireturn, 1) := by decide +kernel
theorem dX7_fenceRefusal_10 : decode cX7_fenceRefusal 10 = .ok (.aload_n 0, 1) := by decide +kernel
theorem dX7_fenceRefusal_11 : decode cX7_fenceRefusal 11 = .ok (.getfield 25, 3) := by decide +kernel
theorem dX7_fenceRefusal_14 : decode cX7_fenceRefusal 14 = .ok (.iload_n 1, 1) := by decide +kernel
theorem dX7_fenceRefusal_15 : decode cX7_fenceRefusal 15 = .ok (.invokevirtual 263, 3) := by decide +kernel
theorem dX7_fenceRefusal_18 : decode cX7_fenceRefusal 18 = .ok (.ifCond .eq 7, 3) := by decide +kernel
theorem dX7_fenceRefusal_21 : decode cX7_fenceRefusal 21 = .ok (.iconst 0, 1) := by decide +kernel
theorem dX7_fenceRefusal_22 : decode cX7_fenceRefusal 22 = .ok (.goto 4, 3) := by decide +kernel
theorem dX7_fenceRefusal_25 : decode cX7_fenceRefusal 25 = .ok (.iconst (-1), 1) := by decide +kernel
theorem dX7_fenceRefusal_26 : decode cX7_fenceRefusal 26 = .ok (.ireturn, 1) := by decide +kernel
theorem dX7_rankRefusal_0 : decode cX7_rankRefusal 0 = .ok (.aload_n 0, 1) := by decide +kernel
theorem dX7_rankRefusal_1 : decode cX7_rankRefusal 1 = .ok (.getfield 126, 3) := by decide +kernel
theorem dX7_rankRefusal_4 : decode cX7_rankRefusal 4 = .ok (.ifCond .ne 6, 3) := by decide +kernel
theorem dX7_rankRefusal_7 : decode cX7_rankRefusal 7 = .ok (.bipush (-3), 2) := by decide +kernel
theorem dX7_rankRefusal_9 : decode cX7_rankRefusal 9 = .ok (.ireturn, 1) := by decide +kernel
theorem dX7_rankRefusal_10 : decode cX7_rankRefusal 10 = .ok (.iload_n 1, 1) := by decide +kernel
theorem dX7_rankRefusal_11 : decode cX7_rankRefusal 11 = .ok (.ifCond .lt 18, 3) := by decide +kernel
theorem dX7_rankRefusal_14 : decode cX7_rankRefusal 14 = .ok (.iload_n 1, 1) := by decide +kernel
theorem dX7_rankRefusal_15 : decode cX7_rankRefusal 15 = .ok (.aload_n 0, 1) := by decide +kernel
theorem dX7_rankRefusal_16 : decode cX7_rankRefusal 16 = .ok (.getfield 39, 3) := by decide +kernel
theorem dX7_rankRefusal_19 : decode cX7_rankRefusal 19 = .ok (.getfield 169, 3) := by decide +kernel
theorem dX7_rankRefusal_22 : decode cX7_rankRefusal 22 = .ok (.if_icmp .ge 7, 3) := by decide +kernel
theorem dX7_rankRefusal_25 : decode cX7_rankRefusal 25 = .ok (.iconst 0, 1) := by decide +kernel
theorem dX7_rankRefusal_26 : decode cX7_rankRefusal 26 = .ok (.goto 4, 3) := by decide +kernel
theorem dX7_rankRefusal_29 : decode cX7_rankRefusal 29 = .ok (.iconst (-1), 1) := by decide +kernel
theorem dX7_rankRefusal_30 : decode cX7_rankRefusal 30 = .ok (.ireturn, 1) := by decide +kernel
theorem dX7_isIn_0 : decode cX7_isIn 0 = .ok (.iload_n 1, 1) := by decide +kernel
theorem dX7_isIn_1 : decode cX7_isIn 1 = .ok (.iload_n 0, 1) := by decide +kernel
theorem dX7_isIn_2 : decode cX7_isIn 2 = .ok (.ishr, 1) := by decide +kernel
theorem dX7_isIn_3 : decode cX7_isIn 3 = .ok (.iconst 1, 1) := by decide +kernel
theorem dX7_isIn_4 : decode cX7_isIn 4 = .ok (.iand, 1) := by decide +kernel
theorem dX7_isIn_5 : decode cX7_isIn 5 = .ok (.ifCond .eq 7, 3) := by decide +kernel
theorem dX7_isIn_8 : decode cX7_isIn 8 = .ok (.iconst 1, 1) := by decide +kernel
theorem dX7_isIn_9 : decode cX7_isIn 9 = .ok (.goto 4, 3) := by decide +kernel
theorem dX7_isIn_12 : decode cX7_isIn 12 = .ok (.iconst 0, 1) := by decide +kernel
theorem dX7_isIn_13 : decode cX7_isIn 13 = .ok (.ireturn, 1) := by decide +kernel
theorem dX7_fencesNow_0 : decode cX7_fencesNow 0 = .ok (.aload_n 0, 1) := by decide +kernel
theorem dX7_fencesNow_1 : decode cX7_fencesNow 1 = .ok (.getfield 32, 3) := by decide +kernel
theorem dX7_fencesNow_4 : decode cX7_fencesNow 4 = .ok (.getfield 266, 3) := by decide +kernel
theorem dX7_fencesNow_7 : decode cX7_fencesNow 7 = .ok (.aload_n 0, 1) := by decide +kernel
theorem dX7_fencesNow_8 : decode cX7_fencesNow 8 = .ok (.getfield 123, 3) := by decide +kernel
theorem dX7_fencesNow_11 : decode cX7_fencesNow 11 = .ok (.iaload, 1) := by decide +kernel
theorem dX7_fencesNow_12 : decode cX7_fencesNow 12 = .ok (.ireturn, 1) := by decide +kernel
theorem dX7_fencesOf_0 : decode cX7_fencesOf 0 = .ok (.aload_n 0, 1) := by decide +kernel
theorem dX7_fencesOf_1 : decode cX7_fencesOf 1 = .ok (.getfield 32, 3) := by decide +kernel
theorem dX7_fencesOf_4 : decode cX7_fencesOf 4 = .ok (.getfield 266, 3) := by decide +kernel
theorem dX7_fencesOf_7 : decode cX7_fencesOf 7 = .ok (.aload_n 0, 1) := by decide +kernel
theorem dX7_fencesOf_8 : decode cX7_fencesOf 8 = .ok (.getfield 39, 3) := by decide +kernel
theorem dX7_fencesOf_11 : decode cX7_fencesOf 11 = .ok (.getfield 210, 3) := by decide +kernel
theorem dX7_fencesOf_14 : decode cX7_fencesOf 14 = .ok (.iload_n 1, 1) := by decide +kernel
theorem dX7_fencesOf_15 : decode cX7_fencesOf 15 = .ok (.iaload, 1) := by decide +kernel
theorem dX7_fencesOf_16 : decode cX7_fencesOf 16 = .ok (.iaload, 1) := by decide +kernel
theorem dX7_fencesOf_17 : decode cX7_fencesOf 17 = .ok (.ireturn, 1) := by decide +kernel
set_option maxRecDepth 20000 in
theorem ggX7_kindOf_X7_isIn : GoodIn wsX7_kindOf wsX7_isIn := goodIn_r _ [9] (by decide +kernel) (by decide +kernel)
set_option maxRecDepth 20000 in
theorem gX7_kindOf_X7_isIn : GoodIn wsX7_kindOf (va_wsS RX7 158 yX7_isIn wsX7_isIn) := goodIn_app (goodIn_of _ (by decide +kernel)) ggX7_kindOf_X7_isIn
set_option maxRecDepth 20000 in
theorem ggX7_kindOf_X7_fencesNow : GoodIn wsX7_kindOf wsX7_fencesNow := goodIn_r _ [13, 14, 15, 16, 37, 38, 39, 40, 41, 42, 43, 44, 45, 46, 47, 61, 62, 63] (by decide +kernel) (by decide +kernel)
set_option maxRecDepth 20000 in
theorem gX7_kindOf_X7_fencesNow : GoodIn wsX7_kindOf (wsV RX7 161 RX7 yX7_fencesNow wsX7_fencesNow) := goodIn_app (goodIn_of _ (by decide +kernel)) ggX7_kindOf_X7_fencesNow
set_option maxRecDepth 20000 in
theorem ggX7_kindOf_X2_isBare : GoodIn wsX7_kindOf wsX2_isBare := goodIn_r _ [21, 22, 23, 24, 25, 26, 27, 28, 20, 29, 30, 31, 32, 33, 34, 35, 36, 53, 54, 55, 56, 57, 58, 59, 60, 64, 65, 66] (by decide +kernel) (by decide +kernel)
set_option maxRecDepth 20000 in
theorem gX7_kindOf_X2_isBare : GoodIn wsX7_kindOf (wsV RX7 269 RX2 yX2_isBare wsX2_isBare) := goodIn_app (goodIn_of _ (by decide +kernel)) ggX7_kindOf_X2_isBare
theorem dX7_kindOf_0 : decode cX7_kindOf 0 = .ok (.iload_n 1, 1) := by decide +kernel
theorem dX7_kindOf_1 : decode cX7_kindOf 1 = .ok (.aload_n 0, 1) := by decide +kernel
theorem dX7_kindOf_2 : decode cX7_kindOf 2 = .ok (.getfield 39, 3) := by decide +kernel
theorem dX7_kindOf_5 : decode cX7_kindOf 5 = .ok (.getfield 239, 3) := by decide +kernel
theorem dX7_kindOf_8 : decode cX7_kindOf 8 = .ok (.invokestatic 158, 3) := by decide +kernel
theorem dX7_kindOf_11 : decode cX7_kindOf 11 = .ok (.ifCond .eq 5, 3) := by decide +kernel
theorem dX7_kindOf_14 : decode cX7_kindOf 14 = .ok (.iconst 4, 1) := by decide +kernel
theorem dX7_kindOf_15 : decode cX7_kindOf 15 = .ok (.ireturn, 1) := by decide +kernel
theorem dX7_kindOf_16 : decode cX7_kindOf 16 = .ok (.iload_n 1, 1) := by decide +kernel
theorem dX7_kindOf_17 : decode cX7_kindOf 17 = .ok (.aload_n 0, 1) := by decide +kernel
theorem dX7_kindOf_18 : decode cX7_kindOf 18 = .ok (.getfield 39, 3) := by decide +kernel
theorem dX7_kindOf_21 : decode cX7_kindOf 21 = .ok (.getfield 242, 3) := by decide +kernel
theorem dX7_kindOf_24 : decode cX7_kindOf 24 = .ok (.invokestatic 158, 3) := by decide +kernel
theorem dX7_kindOf_27 : decode cX7_kindOf 27 = .ok (.ifCond .eq 5, 3) := by decide +kernel
theorem dX7_kindOf_30 : decode cX7_kindOf 30 = .ok (.iconst 3, 1) := by decide +kernel
theorem dX7_kindOf_31 : decode cX7_kindOf 31 = .ok (.ireturn, 1) := by decide +kernel
theorem dX7_kindOf_32 : decode cX7_kindOf 32 = .ok (.iload_n 1, 1) := by decide +kernel
theorem dX7_kindOf_33 : decode cX7_kindOf 33 = .ok (.aload_n 0, 1) := by decide +kernel
theorem dX7_kindOf_34 : decode cX7_kindOf 34 = .ok (.getfield 25, 3) := by decide +kernel
theorem dX7_kindOf_37 : decode cX7_kindOf 37 = .ok (.getfield 236, 3) := by decide +kernel
theorem dX7_kindOf_40 : decode cX7_kindOf 40 = .ok (.invokestatic 158, 3) := by decide +kernel
theorem dX7_kindOf_43 : decode cX7_kindOf 43 = .ok (.ifCond .ne 5, 3) := by decide +kernel
theorem dX7_kindOf_46 : decode cX7_kindOf 46 = .ok (.iconst 0, 1) := by decide +kernel
theorem dX7_kindOf_47 : decode cX7_kindOf 47 = .ok (.ireturn, 1) := by decide +kernel
theorem dX7_kindOf_48 : decode cX7_kindOf 48 = .ok (.aload_n 0, 1) := by decide +kernel
theorem dX7_kindOf_49 : decode cX7_kindOf 49 = .ok (.getfield 25, 3) := by decide +kernel
theorem dX7_kindOf_52 : decode cX7_kindOf 52 = .ok (.iload_n 1, 1) := by decide +kernel
theorem dX7_kindOf_53 : decode cX7_kindOf 53 = .ok (.aload_n 0, 1) := by decide +kernel
theorem dX7_kindOf_54 : decode cX7_kindOf 54 = .ok (.invokevirtual 161, 3) := by decide +kernel
theorem dX7_kindOf_57 : decode cX7_kindOf 57 = .ok (.invokevirtual 269, 3) := by decide +kernel
theorem dX7_kindOf_60 : decode cX7_kindOf 60 = .ok (.ifCond .eq 7, 3) := by decide +kernel
theorem dX7_kindOf_63 : decode cX7_kindOf 63 = .ok (.iconst 2, 1) := by decide +kernel
theorem dX7_kindOf_64 : decode cX7_kindOf 64 = .ok (.goto 4, 3) := by decide +kernel
theorem dX7_kindOf_67 : decode cX7_kindOf 67 = .ok (.iconst 1, 1) := by decide +kernel
theorem dX7_kindOf_68 : decode cX7_kindOf 68 = .ok (.ireturn, 1) := by decide +kernel
theorem dX7_isOneOf_0 : decode cX7_isOneOf 0 = .ok (.iload_n 1, 1) := by decide +kernel
theorem dX7_isOneOf_1 : decode cX7_isOneOf 1 = .ok (.ifCond .eq 18, 3) := by decide +kernel
theorem dX7_isOneOf_4 : decode cX7_isOneOf 4 = .ok (.iload_n 0, 1) := by decide +kernel
theorem dX7_isOneOf_5 : decode cX7_isOneOf 5 = .ok (.iload_n 1, 1) := by decide +kernel
theorem dX7_isOneOf_6 : decode cX7_isOneOf 6 = .ok (.if_icmp .eq 13, 3) := by decide +kernel
theorem dX7_isOneOf_9 : decode cX7_isOneOf 9 = .ok (.iload_n 1, 1) := by decide +kernel
theorem dX7_isOneOf_10 : decode cX7_isOneOf 10 = .ok (.iconst 1, 1) := by decide +kernel
theorem dX7_isOneOf_11 : decode cX7_isOneOf 11 = .ok (.if_icmp .ne 12, 3) := by decide +kernel
theorem dX7_isOneOf_14 : decode cX7_isOneOf 14 = .ok (.iload_n 0, 1) := by decide +kernel
theorem dX7_isOneOf_15 : decode cX7_isOneOf 15 = .ok (.iconst 2, 1) := by decide +kernel
theorem dX7_isOneOf_16 : decode cX7_isOneOf 16 = .ok (.if_icmp .ne 7, 3) := by decide +kernel
theorem dX7_isOneOf_19 : decode cX7_isOneOf 19 = .ok (.iconst 1, 1) := by decide +kernel
theorem dX7_isOneOf_20 : decode cX7_isOneOf 20 = .ok (.goto 4, 3) := by decide +kernel
theorem dX7_isOneOf_23 : decode cX7_isOneOf 23 = .ok (.iconst 0, 1) := by decide +kernel
theorem dX7_isOneOf_24 : decode cX7_isOneOf 24 = .ok (.ireturn, 1) := by decide +kernel
set_option maxRecDepth 20000 in
theorem ggX7_comingFor_X1_afterTurn : GoodIn wsX7_comingFor wsX1_afterTurn := goodIn_r _ [10, 11, 64, 65, 66] (by decide +kernel) (by decide +kernel)
set_option maxRecDepth 20000 in
theorem gX7_comingFor_X1_afterTurn : GoodIn wsX7_comingFor (wsV RX7 190 RX1 yX1_afterTurn wsX1_afterTurn) := goodIn_app (goodIn_of _ (by decide +kernel)) ggX7_comingFor_X1_afterTurn
set_option maxRecDepth 20000 in
theorem ggX7_comingFor_X7_fencesNow : GoodIn wsX7_comingFor wsX7_fencesNow := goodIn_r _ [16, 1, 17, 2, 48, 49, 50, 51, 52, 53, 54, 55, 56, 57, 58, 64, 65, 66] (by decide +kernel) (by decide +kernel)
set_option maxRecDepth 20000 in
theorem gX7_comingFor_X7_fencesNow : GoodIn wsX7_comingFor (wsV RX7 161 RX7 yX7_fencesNow wsX7_fencesNow) := goodIn_app (goodIn_of _ (by decide +kernel)) ggX7_comingFor_X7_fencesNow
set_option maxRecDepth 20000 in
theorem ggX7_comingFor_X2_fenceAcross : GoodIn wsX7_comingFor wsX2_fenceAcross := goodIn_r _ [22, 23, 24, 25, 26, 27, 28, 29, 21, 30, 31, 32, 33, 34, 35, 36, 37, 38, 39, 40, 41, 42, 43, 44, 45, 46, 47, 67, 68, 69, 70, 71, 72, 73, 74, 75, 76, 77] (by decide +kernel) (by decide +kernel)
set_option maxRecDepth 20000 in
theorem gX7_comingFor_X2_fenceAcross : GoodIn wsX7_comingFor (wsV RX7 272 RX2 yX2_fenceAcross wsX2_fenceAcross) := goodIn_app (goodIn_of _ (by decide +kernel)) ggX7_comingFor_X2_fenceAcross
theorem dX7_comingFor_0 : decode cX7_comingFor 0 = .ok (.aload_n 0, 1) := by decide +kernel
theorem dX7_comingFor_1 : decode cX7_comingFor 1 = .ok (.getfield 32, 3) := by decide +kernel
theorem dX7_comingFor_4 : decode cX7_comingFor 4 = .ok (.aload_n 0, 1) := by decide +kernel
theorem dX7_comingFor_5 : decode cX7_comingFor 5 = .ok (.getfield 123, 3) := by decide +kernel
theorem dX7_comingFor_8 : decode cX7_comingFor 8 = .ok (.iload_n 1, 1) := by decide +kernel
theorem dX7_comingFor_9 : decode cX7_comingFor 9 = .ok (.invokevirtual 190, 3) := by decide +kernel
theorem dX7_comingFor_12 : decode cX7_comingFor 12 = .ok (.istore_n 2, 1) := by decide +kernel
theorem dX7_comingFor_13 : decode cX7_comingFor 13 = .ok (.iload_n 2, 1) := by decide +kernel
theorem dX7_comingFor_14 : decode cX7_comingFor 14 = .ok (.bipush (-9), 2) := by decide +kernel
theorem dX7_comingFor_16 : decode cX7_comingFor 16 = .ok (.if_icmp .eq 17, 3) := by decide +kernel
theorem dX7_comingFor_19 : decode cX7_comingFor 19 = .ok (.aload_n 0, 1) := by decide +kernel
theorem dX7_comingFor_20 : decode cX7_comingFor 20 = .ok (.getfield 39, 3) := by decide +kernel
theorem dX7_comingFor_23 : decode cX7_comingFor 23 = .ok (.getfield 201, 3) := by decide +kernel
theorem dX7_comingFor_26 : decode cX7_comingFor 26 = .ok (.iload_n 2, 1) := by decide +kernel
theorem dX7_comingFor_27 : decode cX7_comingFor 27 = .ok (.iaload, 1) := by decide +kernel
theorem dX7_comingFor_28 : decode cX7_comingFor 28 = .ok (.bipush (-9), 2) := by decide +kernel
theorem dX7_comingFor_30 : decode cX7_comingFor 30 = .ok (.if_icmp .ne 6, 3) := by decide +kernel
theorem dX7_comingFor_33 : decode cX7_comingFor 33 = .ok (.bipush (-9), 2) := by decide +kernel
theorem dX7_comingFor_35 : decode cX7_comingFor 35 = .ok (.ireturn, 1) := by decide +kernel
theorem dX7_comingFor_36 : decode cX7_comingFor 36 = .ok (.aload_n 0, 1) := by decide +kernel
theorem dX7_comingFor_37 : decode cX7_comingFor 37 = .ok (.getfield 25, 3) := by decide +kernel
theorem dX7_comingFor_40 : decode cX7_comingFor 40 = .ok (.iload_n 1, 1) := by decide +kernel
theorem dX7_comingFor_41 : decode cX7_comingFor 41 = .ok (.aload_n 0, 1) := by decide +kernel
theorem dX7_comingFor_42 : decode cX7_comingFor 42 = .ok (.invokevirtual 161, 3) := by decide +kernel
theorem dX7_comingFor_45 : decode cX7_comingFor 45 = .ok (.invokevirtual 272, 3) := by decide +kernel
theorem dX7_comingFor_48 : decode cX7_comingFor 48 = .ok (.ireturn, 1) := by decide +kernel
set_option maxRecDepth 20000 in
theorem ggX7_moveTo_X3_keep : GoodIn wsX7_moveTo wsX3_keep := goodIn_r _ [7, 8, 9, 10, 11, 12, 13, 14, 26, 27, 28] (by decide +kernel) (by decide +kernel)
set_option maxRecDepth 20000 in
theorem gX7_moveTo_X3_keep : GoodIn wsX7_moveTo (wsV RX7 275 RX3 yX3_keep wsX3_keep) := goodIn_app (goodIn_of _ (by decide +kernel)) ggX7_moveTo_X3_keep
theorem dX7_moveTo_0 : decode cX7_moveTo 0 = .ok (.aload_n 0, 1) := by decide +kernel
theorem dX7_moveTo_1 : decode cX7_moveTo 1 = .ok (.getfield 53, 3) := by decide +kernel
theorem dX7_moveTo_4 : decode cX7_moveTo 4 = .ok (.aload_n 0, 1) := by decide +kernel
theorem dX7_moveTo_5 : decode cX7_moveTo 5 = .ok (.getfield 123, 3) := by decide +kernel
theorem dX7_moveTo_8 : decode cX7_moveTo 8 = .ok (.invokevirtual 275, 3) := by decide +kernel
theorem dX7_moveTo_11 : decode cX7_moveTo 11 = .ok (.aload_n 0, 1) := by decide +kernel
theorem dX7_moveTo_12 : decode cX7_moveTo 12 = .ok (.iload_n 1, 1) := by decide +kernel
theorem dX7_moveTo_13 : decode cX7_moveTo 13 = .ok (.putfield 123, 3) := by decide +kernel
theorem dX7_moveTo_16 : decode cX7_moveTo 16 = .ok (.return_, 1) := by decide +kernel
set_option maxRecDepth 20000 in
theorem ggX7_weightOf_X7_isIn : GoodIn wsX7_weightOf wsX7_isIn := goodIn_r _ [7] (by decide +kernel) (by decide +kernel)
set_option maxRecDepth 20000 in
theorem gX7_weightOf_X7_isIn : GoodIn wsX7_weightOf (va_wsS RX7 158 yX7_isIn wsX7_isIn) := goodIn_app (goodIn_of _ (by decide +kernel)) ggX7_weightOf_X7_isIn
theorem dX7_weightOf_0 : decode cX7_weightOf 0 = .ok (.iconst 0, 1) := by decide +kernel
theorem dX7_weightOf_1 : decode cX7_weightOf 1 = .ok (.istore_n 2, 1) := by decide +kernel
theorem dX7_weightOf_2 : decode cX7_weightOf 2 = .ok (.iconst 0, 1) := by decide +kernel
theorem dX7_weightOf_3 : decode cX7_weightOf 3 = .ok (.istore_n 3, 1) := by decide +kernel
theorem dX7_weightOf_4 : decode cX7_weightOf 4 = .ok (.iload_n 3, 1) := by decide +kernel
theorem dX7_weightOf_5 : decode cX7_weightOf 5 = .ok (.aload_n 0, 1) := by decide +kernel
theorem dX7_weightOf_6 : decode cX7_weightOf 6 = .ok (.getfield 25, 3) := by decide +kernel
theorem dX7_weightOf_9 : decode cX7_weightOf 9 = .ok (.getfield 129, 3) := by decide +kernel
theorem dX7_weightOf_12 : decode cX7_weightOf 12 = .ok (.if_icmp .ge 26, 3) := by decide +kernel
theorem dX7_weightOf_15 : decode cX7_weightOf 15 = .ok (.iload_n 3, 1) := by decide +kernel
theorem dX7_weightOf_16 : decode cX7_weightOf 16 = .ok (.iload_n 1, 1) := by decide +kernel
theorem dX7_weightOf_17 : decode cX7_weightOf 17 = .ok (.invokestatic 158, 3) := by decide +kernel
theorem dX7_weightOf_20 : decode cX7_weightOf 20 = .ok (.ifCond .eq 12, 3) := by decide +kernel
theorem dX7_weightOf_23 : decode cX7_weightOf 23 = .ok (.iload_n 2, 1) := by decide +kernel
theorem dX7_weightOf_24 : decode cX7_weightOf 24 = .ok (.aload_n 0, 1) := by decide +kernel
theorem dX7_weightOf_25 : decode cX7_weightOf 25 = .ok (.getfield 57, 3) := by decide +kernel
theorem dX7_weightOf_28 : decode cX7_weightOf 28 = .ok (.iload_n 3, 1) := by decide +kernel
theorem dX7_weightOf_29 : decode cX7_weightOf 29 = .ok (.iaload, 1) := by decide +kernel
theorem dX7_weightOf_30 : decode cX7_weightOf 30 = .ok (.iadd, 1) := by decide +kernel
theorem dX7_weightOf_31 : decode cX7_weightOf 31 = .ok (.istore_n 2, 1) := by decide +kernel
theorem dX7_weightOf_32 : decode cX7_weightOf 32 = .ok (.iinc 3 1, 3) := by decide +kernel
theorem dX7_weightOf_35 : decode cX7_weightOf 35 = .ok (.goto (-31), 3) := by decide +kernel
theorem dX7_weightOf_38 : decode cX7_weightOf 38 = .ok (.iload_n 2, 1) := by decide +kernel
theorem dX7_weightOf_39 : decode cX7_weightOf 39 = .ok (.ireturn, 1) := by decide +kernel
set_option maxRecDepth 20000 in
theorem ggX7_leastBestRank_X7_fencesOf : GoodIn wsX7_leastBestRank wsX7_fencesOf := goodIn_r _ [7, 8, 9, 1, 10, 21, 22, 23, 24, 25, 26, 27, 28, 29, 30, 31, 37, 38, 39, 32, 33, 34, 35, 36] (by decide +kernel) (by decide +kernel)
set_option maxRecDepth 20000 in
theorem gX7_leastBestRank_X7_fencesOf : GoodIn wsX7_leastBestRank (wsV RX7 207 RX7 yX7_fencesOf wsX7_fencesOf) := goodIn_app (goodIn_of _ (by decide +kernel)) ggX7_leastBestRank_X7_fencesOf
set_option maxRecDepth 20000 in
theorem ggX7_leastBestRank_X7_weightOf : GoodIn wsX7_leastBestRank wsX7_weightOf := goodIn_r _ [14, 15, 16, 17, 18, 19, 6, 20, 21, 22, 23, 24, 25, 26, 27, 28, 29, 30, 31, 40, 41, 42, 43, 44, 45, 46, 47] (by decide +kernel) (by decide +kernel)
set_option maxRecDepth 20000 in
theorem gX7_leastBestRank_X7_weightOf : GoodIn wsX7_leastBestRank (wsV RX7 217 RX7 yX7_weightOf wsX7_weightOf) := goodIn_app (goodIn_of _ (by decide +kernel)) ggX7_leastBestRank_X7_weightOf
theorem dX7_leastBestRank_0 : decode cX7_leastBestRank 0 = .ok (.iconst 0, 1) := by decide +kernel
theorem dX7_leastBestRank_1 : decode cX7_leastBestRank 1 = .ok (.istore_n 2, 1) := by decide +kernel
theorem dX7_leastBestRank_2 : decode cX7_leastBestRank 2 = .ok (.aload_n 0, 1) := by decide +kernel
theorem dX7_leastBestRank_3 : decode cX7_leastBestRank 3 = .ok (.aload_n 0, 1) := by decide +kernel
theorem dX7_leastBestRank_4 : decode cX7_leastBestRank 4 = .ok (.iconst 0, 1) := by decide +kernel
theorem dX7_leastBestRank_5 : decode cX7_leastBestRank 5 = .ok (.invokevirtual 207, 3) := by decide +kernel
theorem dX7_leastBestRank_8 : decode cX7_leastBestRank 8 = .ok (.invokevirtual 217, 3) := by decide +kernel
theorem dX7_leastBestRank_11 : decode cX7_leastBestRank 11 = .ok (.istore_n 3, 1) := by decide +kernel
theorem dX7_leastBestRank_12 : decode cX7_leastBestRank 12 = .ok (.iconst 1, 1) := by decide +kernel
theorem dX7_leastBestRank_13 : decode cX7_leastBestRank 13 = .ok (.istore 4, 2) := by decide +kernel
theorem dX7_leastBestRank_15 : decode cX7_leastBestRank 15 = .ok (.iload 4, 2) := by decide +kernel
theorem dX7_leastBestRank_17 : decode cX7_leastBestRank 17 = .ok (.aload_n 0, 1) := by decide +kernel
theorem dX7_leastBestRank_18 : decode cX7_leastBestRank 18 = .ok (.getfield 39, 3) := by decide +kernel
theorem dX7_leastBestRank_21 : decode cX7_leastBestRank 21 = .ok (.getfield 169, 3) := by decide +kernel
theorem dX7_leastBestRank_24 : decode cX7_leastBestRank 24 = .ok (.if_icmp .ge 46, 3) := by decide +kernel
theorem dX7_leastBestRank_27 : decode cX7_leastBestRank 27 = .ok (.aload_n 0, 1) := by decide +kernel
theorem dX7_leastBestRank_28 : decode cX7_leastBestRank 28 = .ok (.aload_n 0, 1) := by decide +kernel
theorem dX7_leastBestRank_29 : decode cX7_leastBestRank 29 = .ok (.iload 4, 2) := by decide +kernel
theorem dX7_leastBestRank_31 : decode cX7_leastBestRank 31 = .ok (.invokevirtual 207, 3) := by decide +kernel
theorem dX7_leastBestRank_34 : decode cX7_leastBestRank 34 = .ok (.invokevirtual 217, 3) := by decide +kernel
theorem dX7_leastBestRank_37 : decode cX7_leastBestRank 37 = .ok (.istore 5, 2) := by decide +kernel
theorem dX7_leastBestRank_39 : decode cX7_leastBestRank 39 = .ok (.iload_n 1, 1) := by decide +kernel
theorem dX7_leastBestRank_40 : decode cX7_leastBestRank 40 = .ok (.ifCond .eq 12, 3) := by decide +kernel
theorem dX7_leastBestRank_43 : decode cX7_leastBestRank 43 = .ok (.iload 5, 2) := by decide +kernel
theorem dX7_leastBestRank_45 : decode cX7_leastBestRank 45 = .ok (.iload_n 3, 1) := by decide +kernel
theorem dX7_leastBestRank_46 : decode cX7_leastBestRank 46 = .ok (.if_icmp .le 18, 3) := by decide +kernel
theorem dX7_leastBestRank_49 : decode cX7_leastBestRank 49 = .ok (.goto 9, 3) := by decide +kernel
theorem dX7_leastBestRank_52 : decode cX7_leastBestRank 52 = .ok (.iload 5, 2) := by decide +kernel
theorem dX7_leastBestRank_54 : decode cX7_leastBestRank 54 = .ok (.iload_n 3, 1) := by decide +kernel
theorem dX7_leastBestRank_55 : decode cX7_leastBestRank 55 = .ok (.if_icmp .ge 9, 3) := by decide +kernel
theorem dX7_leastBestRank_58 : decode cX7_leastBestRank 58 = .ok (.iload 4, 2) := by decide +kernel
theorem dX7_leastBestRank_60 : decode cX7_leastBestRank 60 = .ok (.istore_n 2, 1) := by decide +kernel
theorem dX7_leastBestRank_61 : decode cX7_leastBestRank 61 = .ok (.iload 5, 2) := by decide +kernel
theorem dX7_leastBestRank_63 : decode cX7_leastBestRank 63 = .ok (.istore_n 3, 1) := by decide +kernel
theorem dX7_leastBestRank_64 : decode cX7_leastBestRank 64 = .ok (.iinc 4 1, 3) := by decide +kernel
theorem dX7_leastBestRank_67 : decode cX7_leastBestRank 67 = .ok (.goto (-52), 3) := by decide +kernel
theorem dX7_leastBestRank_70 : decode cX7_leastBestRank 70 = .ok (.iload_n 2, 1) := by decide +kernel
theorem dX7_leastBestRank_71 : decode cX7_leastBestRank 71 = .ok (.ireturn, 1) := by decide +kernel
