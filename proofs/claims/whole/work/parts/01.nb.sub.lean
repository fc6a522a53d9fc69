theorem dX0_init_0 : decode cX0_init 0 = .ok (.aload_n 0, 1) := by decide +kernel
theorem dX0_init_1 : decode cX0_init 1 = .ok (.invokespecial 3, 3) := by decide +kernel
theorem dX0_init_4 : decode cX0_init 4 = .ok (.aload_n 0, 1) := by decide +kernel
theorem dX0_init_5 : decode cX0_init 5 = .ok (.sipush 256, 3) := by decide +kernel
theorem dX0_init_8 : decode cX0_init 8 = .ok (.newarray .int, 2) := by decide +kernel
theorem dX0_init_10 : decode cX0_init 10 = .ok (.putfield 9, 3) := by decide +kernel
theorem dX0_init_13 : decode cX0_init 13 = .ok (.aload_n 0, 1) := by decide +kernel
theorem dX0_init_14 : decode cX0_init 14 = .ok (.sipush 256, 3) := by decide +kernel
theorem dX0_init_17 : decode cX0_init 17 = .ok (.newarray .int, 2) := by decide +kernel
theorem dX0_init_19 : decode cX0_init 19 = .ok (.putfield 15, 3) := by decide +kernel
theorem dX0_init_22 : decode cX0_init 22 = .ok (.return_, 1) := by decide +kernel
set_option maxRecDepth 20000 in
theorem ggX0_askForAll_X0_rankThem : GoodIn wsX0_askForAll wsX0_rankThem := goodIn_r _ [7, 8, 9, 10, 11, 1, 2, 12, 13, 14, 15, 16, 17, 18, 19, 20] (by decide +kernel) (by decide +kernel)
set_option maxRecDepth 20000 in
theorem gX0_askForAll_X0_rankThem : GoodIn wsX0_askForAll (wsV RX0 25 RX0 yX0_rankThem wsX0_rankThem) := goodIn_app (goodIn_of _ (by decide +kernel)) ggX0_askForAll_X0_rankThem
theorem dX0_askForAll_0 : decode cX0_askForAll 0 = .ok (.aload_n 0, 1) := by decide +kernel
theorem dX0_askForAll_1 : decode cX0_askForAll 1 = .ok (.iconst 0, 1) := by decide +kernel
theorem dX0_askForAll_2 : decode cX0_askForAll 2 = .ok (.putfield 18, 3) := by decide +kernel
theorem dX0_askForAll_5 : decode cX0_askForAll 5 = .ok (.aload_n 0, 1) := by decide +kernel
theorem dX0_askForAll_6 : decode cX0_askForAll 6 = .ok (.iconst 0, 1) := by decide +kernel
theorem dX0_askForAll_7 : decode cX0_askForAll 7 = .ok (.putfield 22, 3) := by decide +kernel
theorem dX0_askForAll_10 : decode cX0_askForAll 10 = .ok (.aload_n 0, 1) := by decide +kernel
theorem dX0_askForAll_11 : decode cX0_askForAll 11 = .ok (.aload_n 1, 1) := by decide +kernel
theorem dX0_askForAll_12 : decode cX0_askForAll 12 = .ok (.invokevirtual 25, 3) := by decide +kernel
theorem dX0_askForAll_15 : decode cX0_askForAll 15 = .ok (.return_, 1) := by decide +kernel
set_option maxRecDepth 20000 in
theorem ggX0_askAnew_X0_rankThem : GoodIn wsX0_askAnew wsX0_rankThem := goodIn_r _ [7, 8, 9, 10, 11, 1, 2, 12, 13, 14, 15, 16, 17, 18, 19, 20] (by decide +kernel) (by decide +kernel)
set_option maxRecDepth 20000 in
theorem gX0_askAnew_X0_rankThem : GoodIn wsX0_askAnew (wsV RX0 25 RX0 yX0_rankThem wsX0_rankThem) := goodIn_app (goodIn_of _ (by decide +kernel)) ggX0_askAnew_X0_rankThem
theorem dX0_askAnew_0 : decode cX0_askAnew 0 = .ok (.iconst 1, 1) := by decide +kernel
theorem dX0_askAnew_1 : decode cX0_askAnew 1 = .ok (.iload_n 2, 1) := by decide +kernel
theorem dX0_askAnew_2 : decode cX0_askAnew 2 = .ok (.ishl, 1) := by decide +kernel
theorem dX0_askAnew_3 : decode cX0_askAnew 3 = .ok (.istore 4, 2) := by decide +kernel
theorem dX0_askAnew_5 : decode cX0_askAnew 5 = .ok (.aload_n 0, 1) := by decide +kernel
theorem dX0_askAnew_6 : decode cX0_askAnew 6 = .ok (.dup, 1) := by decide +kernel
theorem dX0_askAnew_7 : decode cX0_askAnew 7 = .ok (.getfield 18, 3) := by decide +kernel
theorem dX0_askAnew_10 : decode cX0_askAnew 10 = .ok (.iload 4, 2) := by decide +kernel
theorem dX0_askAnew_12 : decode cX0_askAnew 12 = .ok (.iconst (-1), 1) := by decide +kernel
theorem dX0_askAnew_13 : decode cX0_askAnew 13 = .ok (.ixor, 1) := by decide +kernel
theorem dX0_askAnew_14 : decode cX0_askAnew 14 = .ok (.iand, 1) := by decide +kernel
theorem dX0_askAnew_15 : decode cX0_askAnew 15 = .ok (.putfield 18, 3) := by decide +kernel
theorem dX0_askAnew_18 : decode cX0_askAnew 18 = .ok (.aload_n 0, 1) := by decide +kernel
theorem dX0_askAnew_19 : decode cX0_askAnew 19 = .ok (.dup, 1) := by decide +kernel
theorem dX0_askAnew_20 : decode cX0_askAnew 20 = .ok (.getfield 22, 3) := by decide +kernel
theorem dX0_askAnew_23 : decode cX0_askAnew 23 = .ok (.iload 4, 2) := by decide +kernel
theorem dX0_askAnew_25 : decode cX0_askAnew 25 = .ok (.iconst (-1), 1) := by decide +kernel
theorem dX0_askAnew_26 : decode cX0_askAnew 26 = .ok (.ixor, 1) := by decide +kernel
theorem dX0_askAnew_27 : decode cX0_askAnew 27 = .ok (.iand, 1) := by decide +kernel
theorem dX0_askAnew_28 : decode cX0_askAnew 28 = .ok (.putfield 22, 3) := by decide +kernel
theorem dX0_askAnew_31 : decode cX0_askAnew 31 = .ok (.iload_n 3, 1) := by decide +kernel
theorem dX0_askAnew_32 : decode cX0_askAnew 32 = .ok (.iconst 1, 1) := by decide +kernel
theorem dX0_askAnew_33 : decode cX0_askAnew 33 = .ok (.if_icmp .ne 14, 3) := by decide +kernel
theorem dX0_askAnew_36 : decode cX0_askAnew 36 = .ok (.aload_n 0, 1) := by decide +kernel
theorem dX0_askAnew_37 : decode cX0_askAnew 37 = .ok (.dup, 1) := by decide +kernel
theorem dX0_askAnew_38 : decode cX0_askAnew 38 = .ok (.getfield 18, 3) := by decide +kernel
theorem dX0_askAnew_41 : decode cX0_askAnew 41 = .ok (.iload 4, 2) := by decide +kernel
theorem dX0_askAnew_43 : decode cX0_askAnew 43 = .ok (.ior, 1) := by decide +kernel
theorem dX0_askAnew_44 : decode cX0_askAnew 44 = .ok (.putfield 18, 3) := by decide +kernel
theorem dX0_askAnew_47 : decode cX0_askAnew 47 = .ok (.iload_n 3, 1) := by decide +kernel
theorem dX0_askAnew_48 : decode cX0_askAnew 48 = .ok (.iconst 2, 1) := by decide +kernel
theorem dX0_askAnew_49 : decode cX0_askAnew 49 = .ok (.if_icmp .ne 14, 3) := by decide +kernel
theorem dX0_askAnew_52 : decode cX0_askAnew 52 = .ok (.aload_n 0, 1) := by decide +kernel
theorem dX0_askAnew_53 : decode cX0_askAnew 53 = .ok (.dup, 1) := by decide +kernel
theorem dX0_askAnew_54 : decode cX0_askAnew 54 = .ok (.getfield 22, 3) := by decide +kernel
theorem dX0_askAnew_57 : decode cX0_askAnew 57 = .ok (.iload 4, 2) := by decide +kernel
theorem dX0_askAnew_59 : decode cX0_askAnew 59 = .ok (.ior, 1) := by decide +kernel
theorem dX0_askAnew_60 : decode cX0_askAnew 60 = .ok (.putfield 22, 3) := by decide +kernel
theorem dX0_askAnew_63 : decode cX0_askAnew 63 = .ok (.aload_n 0, 1) := by decide +kernel
theorem dX0_askAnew_64 : decode cX0_askAnew 64 = .ok (.aload_n 1, 1) := by decide +kernel
theorem dX0_askAnew_65 : decode cX0_askAnew 65 = .ok (.invokevirtual 25, 3) := by decide +kernel
theorem dX0_askAnew_68 : decode cX0_askAnew 68 = .ok (.return_, 1) := by decide +kernel
theorem dX0_rankThem_0 : decode cX0_rankThem 0 = .ok (.aload_n 0, 1) := by decide +kernel
theorem dX0_rankThem_1 : decode cX0_rankThem 1 = .ok (.iconst 0, 1) := by decide +kernel
theorem dX0_rankThem_2 : decode cX0_rankThem 2 = .ok (.putfield 29, 3) := by decide +kernel
theorem dX0_rankThem_5 : decode cX0_rankThem 5 = .ok (.iconst 0, 1) := by decide +kernel
theorem dX0_rankThem_6 : decode cX0_rankThem 6 = .ok (.istore_n 2, 1) := by decide +kernel
theorem dX0_rankThem_7 : decode cX0_rankThem 7 = .ok (.iload_n 2, 1) := by decide +kernel
theorem dX0_rankThem_8 : decode cX0_rankThem 8 = .ok (.aload_n 1, 1) := by decide +kernel
theorem dX0_rankThem_9 : decode cX0_rankThem 9 = .ok (.getfield 32, 3) := by decide +kernel
theorem dX0_rankThem_12 : decode cX0_rankThem 12 = .ok (.if_icmp .ge 76, 3) := by decide +kernel
theorem dX0_rankThem_15 : decode cX0_rankThem 15 = .ok (.aload_n 0, 1) := by decide +kernel
theorem dX0_rankThem_16 : decode cX0_rankThem 16 = .ok (.getfield 15, 3) := by decide +kernel
theorem dX0_rankThem_19 : decode cX0_rankThem 19 = .ok (.iload_n 2, 1) := by decide +kernel
theorem dX0_rankThem_20 : decode cX0_rankThem 20 = .ok (.bipush (-9), 2) := by decide +kernel
theorem dX0_rankThem_22 : decode cX0_rankThem 22 = .ok (.iastore, 1) := by decide +kernel
theorem dX0_rankThem_23 : decode cX0_rankThem 23 = .ok (.aload_n 1, 1) := by decide +kernel
theorem dX0_rankThem_24 : decode cX0_rankThem 24 = .ok (.getfield 35, 3) := by decide +kernel
theorem dX0_rankThem_27 : decode cX0_rankThem 27 = .ok (.iload_n 2, 1) := by decide +kernel
theorem dX0_rankThem_28 : decode cX0_rankThem 28 = .ok (.iaload, 1) := by decide +kernel
theorem dX0_rankThem_29 : decode cX0_rankThem 29 = .ok (.istore_n 3, 1) := by decide +kernel
theorem dX0_rankThem_30 : decode cX0_rankThem 30 = .ok (.iload_n 3, 1) := by decide +kernel
theorem dX0_rankThem_31 : decode cX0_rankThem 31 = .ok (.aload_n 0, 1) := by decide +kernel
theorem dX0_rankThem_32 : decode cX0_rankThem 32 = .ok (.getfield 18, 3) := by decide +kernel
theorem dX0_rankThem_35 : decode cX0_rankThem 35 = .ok (.iand, 1) := by decide +kernel
theorem dX0_rankThem_36 : decode cX0_rankThem 36 = .ok (.aload_n 0, 1) := by decide +kernel
theorem dX0_rankThem_37 : decode cX0_rankThem 37 = .ok (.getfield 18, 3) := by decide +kernel
theorem dX0_rankThem_40 : decode cX0_rankThem 40 = .ok (.if_icmp .ne 42, 3) := by decide +kernel
theorem dX0_rankThem_43 : decode cX0_rankThem 43 = .ok (.iload_n 3, 1) := by decide +kernel
theorem dX0_rankThem_44 : decode cX0_rankThem 44 = .ok (.aload_n 0, 1) := by decide +kernel
theorem dX0_rankThem_45 : decode cX0_rankThem 45 = .ok (.getfield 22, 3) := by decide +kernel
theorem dX0_rankThem_48 : decode cX0_rankThem 48 = .ok (.iand, 1) := by decide +kernel
theorem dX0_rankThem_49 : decode cX0_rankThem 49 = .ok (.ifCond .ne 33, 3) := by decide +kernel
theorem dX0_rankThem_52 : decode cX0_rankThem 52 = .ok (.aload_n 0, 1) := by decide +kernel
theorem dX0_rankThem_53 : decode cX0_rankThem 53 = .ok (.getfield 15, 3) := by decide +kernel
theorem dX0_rankThem_56 : decode cX0_rankThem 56 = .ok (.iload_n 2, 1) := by decide +kernel
theorem dX0_rankThem_57 : decode cX0_rankThem 57 = .ok (.aload_n 0, 1) := by decide +kernel
theorem dX0_rankThem_58 : decode cX0_rankThem 58 = .ok (.getfield 29, 3) := by decide +kernel
theorem dX0_rankThem_61 : decode cX0_rankThem 61 = .ok (.iastore, 1) := by decide +kernel
theorem dX0_rankThem_62 : decode cX0_rankThem 62 = .ok (.aload_n 0, 1) := by decide +kernel
theorem dX0_rankThem_63 : decode cX0_rankThem 63 = .ok (.getfield 9, 3) := by decide +kernel
theorem dX0_rankThem_66 : decode cX0_rankThem 66 = .ok (.aload_n 0, 1) := by decide +kernel
theorem dX0_rankThem_67 : decode cX0_rankThem 67 = .ok (.getfield 29, 3) := by decide +kernel
theorem dX0_rankThem_70 : decode cX0_rankThem 70 = .ok (.iload_n 2, 1) := by decide +kernel
theorem dX0_rankThem_71 : decode cX0_rankThem 71 = .ok (.iastore, 1) := by decide +kernel
theorem dX0_rankThem_72 : decode cX0_rankThem 72 = .ok (.aload_n 0, 1) := by decide +kernel
theorem dX0_rankThem_73 : decode cX0_rankThem 73 = .ok (.dup, 1) := by decide +kernel
theorem dX0_rankThem_74 : decode cX0_rankThem 74 = .ok (.getfield 29, 3) := by decide +kernel
theorem dX0_rankThem_77 : decode cX0_rankThem 77 = .ok (.iconst 1, 1) := by decide +kernel
theorem dX0_rankThem_78 : decode cX0_rankThem 78 = .ok (.iadd, 1) := by decide +kernel
theorem dX0_rankThem_79 : decode cX0_rankThem 79 = .ok (.putfield 29, 3) := by decide +kernel
theorem dX0_rankThem_82 : decode cX0_rankThem 82 = .ok (.iinc 2 1, 3) := by decide +kernel
theorem dX0_rankThem_85 : decode cX0_rankThem 85 = .ok (.goto (-78), 3) := by decide +kernel
theorem dX0_rankThem_88 : decode cX0_rankThem 88 = .ok (.return_, 1) := by decide +kernel
theorem dX1_init_0 : decode cX1_init 0 = .ok (.aload_n 0, 1) := by decide +kernel
theorem dX1_init_1 : decode cX1_init 1 = .ok (.invokespecial 3, 3) := by decide +kernel
theorem dX1_init_4 : decode cX1_init 4 = .ok (.aload_n 0, 1) := by decide +kernel
theorem dX1_init_5 : decode cX1_init 5 = .ok (.sipush 256, 3) := by decide +kernel
theorem dX1_init_8 : decode cX1_init 8 = .ok (.newarray .int, 2) := by decide +kernel
theorem dX1_init_10 : decode cX1_init 10 = .ok (.putfield 9, 3) := by decide +kernel
theorem dX1_init_13 : decode cX1_init 13 = .ok (.aload_n 0, 1) := by decide +kernel
theorem dX1_init_14 : decode cX1_init 14 = .ok (.sipush 7168, 3) := by decide +kernel
theorem dX1_init_17 : decode cX1_init 17 = .ok (.newarray .int, 2) := by decide +kernel
theorem dX1_init_19 : decode cX1_init 19 = .ok (.putfield 15, 3) := by decide +kernel
theorem dX1_init_22 : decode cX1_init 22 = .ok (.return_, 1) := by decide +kernel
set_option maxRecDepth 20000 in
theorem ggX1_cut_X1_decide : GoodIn wsX1_cut wsX1_decide := goodIn_r _ [7, 8, 9, 10, 11, 6, 12, 1, 13, 14, 15, 16, 2, 17, 18, 19, 4, 5, 61, 62, 63, 64, 65, 66, 67, 68, 58, 59, 60] (by decide +kernel) (by decide +kernel)
set_option maxRecDepth 20000 in
theorem gX1_cut_X1_decide : GoodIn wsX1_cut (va_wsS RX1 27 yX1_decide wsX1_decide) := goodIn_app (goodIn_of _ (by decide +kernel)) ggX1_cut_X1_decide
set_option maxRecDepth 20000 in
theorem ggX1_cut_X1_findAfter : GoodIn wsX1_cut wsX1_findAfter := goodIn_r _ [23, 13, 17, 18, 19, 24, 25, 26, 27, 28, 29, 30, 31, 32, 33, 34, 35, 36, 37, 38, 39, 40, 41, 42, 43, 44, 45, 46, 47, 48, 49, 50, 51, 52, 53, 54, 55, 56, 6, 57, 1, 58, 59, 60, 61, 62, 63, 64, 65, 66, 67, 68, 69, 70, 71] (by decide +kernel) (by decide +kernel)
set_option maxRecDepth 20000 in
theorem gX1_cut_X1_findAfter : GoodIn wsX1_cut (wsV RX1 31 RX1 yX1_findAfter wsX1_findAfter) := goodIn_app (goodIn_of _ (by decide +kernel)) ggX1_cut_X1_findAfter
theorem dX1_cut_0 : decode cX1_cut 0 = .ok (.aload_n 0, 1) := by decide +kernel
theorem dX1_cut_1 : decode cX1_cut 1 = .ok (.iconst 0, 1) := by decide +kernel
theorem dX1_cut_2 : decode cX1_cut 2 = .ok (.putfield 18, 3) := by decide +kernel
theorem dX1_cut_5 : decode cX1_cut 5 = .ok (.aload_n 0, 1) := by decide +kernel
theorem dX1_cut_6 : decode cX1_cut 6 = .ok (.aload_n 1, 1) := by decide +kernel
theorem dX1_cut_7 : decode cX1_cut 7 = .ok (.aload_n 1, 1) := by decide +kernel
theorem dX1_cut_8 : decode cX1_cut 8 = .ok (.getfield 22, 3) := by decide +kernel
theorem dX1_cut_11 : decode cX1_cut 11 = .ok (.iconst 1, 1) := by decide +kernel
theorem dX1_cut_12 : decode cX1_cut 12 = .ok (.isub, 1) := by decide +kernel
theorem dX1_cut_13 : decode cX1_cut 13 = .ok (.iconst 0, 1) := by decide +kernel
theorem dX1_cut_14 : decode cX1_cut 14 = .ok (.iconst 0, 1) := by decide +kernel
theorem dX1_cut_15 : decode cX1_cut 15 = .ok (.iconst 0, 1) := by decide +kernel
theorem dX1_cut_16 : decode cX1_cut 16 = .ok (.invokestatic 27, 3) := by decide +kernel
theorem dX1_cut_19 : decode cX1_cut 19 = .ok (.iconst 0, 1) := by decide +kernel
theorem dX1_cut_20 : decode cX1_cut 20 = .ok (.istore_n 2, 1) := by decide +kernel
theorem dX1_cut_21 : decode cX1_cut 21 = .ok (.iload_n 2, 1) := by decide +kernel
theorem dX1_cut_22 : decode cX1_cut 22 = .ok (.aload_n 0, 1) := by decide +kernel
theorem dX1_cut_23 : decode cX1_cut 23 = .ok (.getfield 18, 3) := by decide +kernel
theorem dX1_cut_26 : decode cX1_cut 26 = .ok (.if_icmp .ge 41, 3) := by decide +kernel
theorem dX1_cut_29 : decode cX1_cut 29 = .ok (.iconst 0, 1) := by decide +kernel
theorem dX1_cut_30 : decode cX1_cut 30 = .ok (.istore_n 3, 1) := by decide +kernel
theorem dX1_cut_31 : decode cX1_cut 31 = .ok (.iload_n 3, 1) := by decide +kernel
theorem dX1_cut_32 : decode cX1_cut 32 = .ok (.bipush 28, 2) := by decide +kernel
theorem dX1_cut_34 : decode cX1_cut 34 = .ok (.if_icmp .ge 27, 3) := by decide +kernel
theorem dX1_cut_37 : decode cX1_cut 37 = .ok (.aload_n 0, 1) := by decide +kernel
theorem dX1_cut_38 : decode cX1_cut 38 = .ok (.getfield 15, 3) := by decide +kernel
theorem dX1_cut_41 : decode cX1_cut 41 = .ok (.iload_n 2, 1) := by decide +kernel
theorem dX1_cut_42 : decode cX1_cut 42 = .ok (.bipush 28, 2) := by decide +kernel
theorem dX1_cut_44 : decode cX1_cut 44 = .ok (.imul, 1) := by decide +kernel
theorem dX1_cut_45 : decode cX1_cut 45 = .ok (.iload_n 3, 1) := by decide +kernel
theorem dX1_cut_46 : decode cX1_cut 46 = .ok (.iadd, 1) := by decide +kernel
theorem dX1_cut_47 : decode cX1_cut 47 = .ok (.aload_n 0, 1) := by decide +kernel
theorem dX1_cut_48 : decode cX1_cut 48 = .ok (.aload_n 1, 1) := by decide +kernel
theorem dX1_cut_49 : decode cX1_cut 49 = .ok (.iload_n 2, 1) := by decide +kernel
theorem dX1_cut_50 : decode cX1_cut 50 = .ok (.iload_n 3, 1) := by decide +kernel
theorem dX1_cut_51 : decode cX1_cut 51 = .ok (.invokevirtual 31, 3) := by decide +kernel
theorem dX1_cut_54 : decode cX1_cut 54 = .ok (.iastore, 1) := by decide +kernel
theorem dX1_cut_55 : decode cX1_cut 55 = .ok (.iinc 3 1, 3) := by decide +kernel
theorem dX1_cut_58 : decode cX1_cut 58 = .ok (.goto (-27), 3) := by decide +kernel
theorem dX1_cut_61 : decode cX1_cut 61 = .ok (.iinc 2 1, 3) := by decide +kernel
theorem dX1_cut_64 : decode cX1_cut 64 = .ok (.goto (-43), 3) := by decide +kernel
theorem dX1_cut_67 : decode cX1_cut 67 = .ok (.return_, 1) := by decide +kernel
theorem dX1_afterTurn_0 : decode cX1_afterTurn 0 = .ok (.aload_n 0, 1) := by decide +kernel
theorem dX1_afterTurn_1 : decode cX1_afterTurn 1 = .ok (.getfield 15, 3) := by decide +kernel
theorem dX1_afterTurn_4 : decode cX1_afterTurn 4 = .ok (.iload_n 1, 1) := by decide +kernel
theorem dX1_afterTurn_5 : decode cX1_afterTurn 5 = .ok (.bipush 28, 2) := by decide +kernel
theorem dX1_afterTurn_7 : decode cX1_afterTurn 7 = .ok (.imul, 1) := by decide +kernel
theorem dX1_afterTurn_8 : decode cX1_afterTurn 8 = .ok (.iload_n 2, 1) := by decide +kernel
theorem dX1_afterTurn_9 : decode cX1_afterTurn 9 = .ok (.iadd, 1) := by decide +kernel
theorem dX1_afterTurn_10 : decode cX1_afterTurn 10 = .ok (.iaload, 1) := by decide +kernel
theorem dX1_afterTurn_11 : decode cX1_afterTurn 11 = .ok (.ireturn, 1) := by decide +kernel
set_option maxRecDepth 20000 in
theorem ggX1_decide_X1_keep : GoodIn wsX1_decide wsX1_keep := goodIn_r _ [6, 7, 8, 26, 27, 28] (by decide +kernel) (by decide +kernel)
set_option maxRecDepth 20000 in
theorem gX1_decide_X1_keep : GoodIn wsX1_decide (wsV RX1 35 RX1 yX1_keep wsX1_keep) := goodIn_app (goodIn_of _ (by decide +kernel)) ggX1_decide_X1_keep
set_option maxRecDepth 20000 in
theorem ggX1_decide_X1_canBePaid : GoodIn wsX1_decide wsX1_canBePaid := goodIn_r _ [11, 12, 1, 13, 14, 15, 18, 19, 20, 21, 22, 23, 24, 25] (by decide +kernel) (by decide +kernel)
set_option maxRecDepth 20000 in
theorem gX1_decide_X1_canBePaid : GoodIn wsX1_decide (va_wsS RX1 39 yX1_canBePaid wsX1_canBePaid) := goodIn_app (goodIn_of _ (by decide +kernel)) ggX1_decide_X1_canBePaid
set_option maxRecDepth 20000 in
theorem ggX1_decide_X1_decide : GoodIn wsX1_decide wsX1_decide := goodIn_r _ [0, 1, 2, 3, 4, 5, 6, 7, 8, 9, 10, 11, 12, 13, 14, 15, 16, 17, 18, 19, 20, 21, 22, 23, 24, 25, 26, 27, 28] (by decide +kernel) (by decide +kernel)
set_option maxRecDepth 20000 in
theorem gX1_decide_X1_decide : GoodIn wsX1_decide (va_wsS RX1 27 yX1_decide wsX1_decide) := goodIn_app (goodIn_of _ (by decide +kernel)) ggX1_decide_X1_decide
theorem dX1_decide_0 : decode cX1_decide 0 = .ok (.iload_n 2, 1) := by decide +kernel
theorem dX1_decide_1 : decode cX1_decide 1 = .ok (.ifCond .ge 9, 3) := by decide +kernel
theorem dX1_decide_4 : decode cX1_decide 4 = .ok (.aload_n 0, 1) := by decide +kernel
theorem dX1_decide_5 : decode cX1_decide 5 = .ok (.iload_n 3, 1) := by decide +kernel
theorem dX1_decide_6 : decode cX1_decide 6 = .ok (.invokevirtual 35, 3) := by decide +kernel
theorem dX1_decide_9 : decode cX1_decide 9 = .ok (.return_, 1) := by decide +kernel
theorem dX1_decide_10 : decode cX1_decide 10 = .ok (.iconst 1, 1) := by decide +kernel
theorem dX1_decide_11 : decode cX1_decide 11 = .ok (.iload_n 2, 1) := by decide +kernel
theorem dX1_decide_12 : decode cX1_decide 12 = .ok (.ishl, 1) := by decide +kernel
theorem dX1_decide_13 : decode cX1_decide 13 = .ok (.istore 6, 2) := by decide +kernel
theorem dX1_decide_15 : decode cX1_decide 15 = .ok (.iload 4, 2) := by decide +kernel
theorem dX1_decide_17 : decode cX1_decide 17 = .ok (.iload 6, 2) := by decide +kernel
theorem dX1_decide_19 : decode cX1_decide 19 = .ok (.iand, 1) := by decide +kernel
theorem dX1_decide_20 : decode cX1_decide 20 = .ok (.ifCond .eq 29, 3) := by decide +kernel
theorem dX1_decide_23 : decode cX1_decide 23 = .ok (.aload_n 1, 1) := by decide +kernel
theorem dX1_decide_24 : decode cX1_decide 24 = .ok (.iload 5, 2) := by decide +kernel
theorem dX1_decide_26 : decode cX1_decide 26 = .ok (.iload 4, 2) := by decide +kernel
theorem dX1_decide_28 : decode cX1_decide 28 = .ok (.iload_n 2, 1) := by decide +kernel
theorem dX1_decide_29 : decode cX1_decide 29 = .ok (.invokestatic 39, 3) := by decide +kernel
theorem dX1_decide_32 : decode cX1_decide 32 = .ok (.ifCond .eq 16, 3) := by decide +kernel
theorem dX1_decide_35 : decode cX1_decide 35 = .ok (.aload_n 0, 1) := by decide +kernel
theorem dX1_decide_36 : decode cX1_decide 36 = .ok (.aload_n 1, 1) := by decide +kernel
theorem dX1_decide_37 : decode cX1_decide 37 = .ok (.iload_n 2, 1) := by decide +kernel
theorem dX1_decide_38 : decode cX1_decide 38 = .ok (.iconst 1, 1) := by decide +kernel
theorem dX1_decide_39 : decode cX1_decide 39 = .ok (.isub, 1) := by decide +kernel
theorem dX1_decide_40 : decode cX1_decide 40 = .ok (.iload_n 3, 1) := by decide +kernel
theorem dX1_decide_41 : decode cX1_decide 41 = .ok (.iload 4, 2) := by decide +kernel
theorem dX1_decide_43 : decode cX1_decide 43 = .ok (.iload 5, 2) := by decide +kernel
theorem dX1_decide_45 : decode cX1_decide 45 = .ok (.invokestatic 27, 3) := by decide +kernel
theorem dX1_decide_48 : decode cX1_decide 48 = .ok (.return_, 1) := by decide +kernel
theorem dX1_decide_49 : decode cX1_decide 49 = .ok (.aload_n 1, 1) := by decide +kernel
theorem dX1_decide_50 : decode cX1_decide 50 = .ok (.iload 5, 2) := by decide +kernel
theorem dX1_decide_52 : decode cX1_decide 52 = .ok (.iload 6, 2) := by decide +kernel
theorem dX1_decide_54 : decode cX1_decide 54 = .ok (.ior, 1) := by decide +kernel
theorem dX1_decide_55 : decode cX1_decide 55 = .ok (.iload 4, 2) := by decide +kernel
theorem dX1_decide_57 : decode cX1_decide 57 = .ok (.iload_n 2, 1) := by decide +kernel
theorem dX1_decide_58 : decode cX1_decide 58 = .ok (.invokestatic 39, 3) := by decide +kernel
theorem dX1_decide_61 : decode cX1_decide 61 = .ok (.ifCond .eq 19, 3) := by decide +kernel
theorem dX1_decide_64 : decode cX1_decide 64 = .ok (.aload_n 0, 1) := by decide +kernel
theorem dX1_decide_65 : decode cX1_decide 65 = .ok (.aload_n 1, 1) := by decide +kernel
theorem dX1_decide_66 : decode cX1_decide 66 = .ok (.iload_n 2, 1) := by decide +kernel
theorem dX1_decide_67 : decode cX1_decide 67 = .ok (.iconst 1, 1) := by decide +kernel
theorem dX1_decide_68 : decode cX1_decide 68 = .ok (.isub, 1) := by decide +kernel
theorem dX1_decide_69 : decode cX1_decide 69 = .ok (.iload_n 3, 1) := by decide +kernel
theorem dX1_decide_70 : decode cX1_decide 70 = .ok (.iload 4, 2) := by decide +kernel
theorem dX1_decide_72 : decode cX1_decide 72 = .ok (.iload 5, 2) := by decide +kernel
theorem dX1_decide_74 : decode cX1_decide 74 = .ok (.iload 6, 2) := by decide +kernel
theorem dX1_decide_76 : decode cX1_decide 76 = .ok (.ior, 1) := by decide +kernel
theorem dX1_decide_77 : decode cX1_decide 77 = .ok (.invokestatic 27, 3) := by decide +kernel
theorem dX1_decide_80 : decode cX1_decide 80 = .ok (.iload 4, 2) := by decide +kernel
theorem dX1_decide_82 : decode cX1_decide 82 = .ok (.aload_n 1, 1) := by decide +kernel
theorem dX1_decide_83 : decode cX1_decide 83 = .ok (.getfield 43, 3) := by decide +kernel
theorem dX1_decide_86 : decode cX1_decide 86 = .ok (.iload_n 2, 1) := by decide +kernel
theorem dX1_decide_87 : decode cX1_decide 87 = .ok (.iaload, 1) := by decide +kernel
theorem dX1_decide_88 : decode cX1_decide 88 = .ok (.ior, 1) := by decide +kernel
theorem dX1_decide_89 : decode cX1_decide 89 = .ok (.istore 7, 2) := by decide +kernel
theorem dX1_decide_91 : decode cX1_decide 91 = .ok (.iload 5, 2) := by decide +kernel
theorem dX1_decide_93 : decode cX1_decide 93 = .ok (.iload 7, 2) := by decide +kernel
theorem dX1_decide_95 : decode cX1_decide 95 = .ok (.iconst (-1), 1) := by decide +kernel
theorem dX1_decide_96 : decode cX1_decide 96 = .ok (.ixor, 1) := by decide +kernel
theorem dX1_decide_97 : decode cX1_decide 97 = .ok (.iand, 1) := by decide +kernel
theorem dX1_decide_98 : decode cX1_decide 98 = .ok (.istore 8, 2) := by decide +kernel
theorem dX1_decide_100 : decode cX1_decide 100 = .ok (.aload_n 1, 1) := by decide +kernel
theorem dX1_decide_101 : decode cX1_decide 101 = .ok (.iload 8, 2) := by decide +kernel
theorem dX1_decide_103 : decode cX1_decide 103 = .ok (.iload 7, 2) := by decide +kernel
theorem dX1_decide_105 : decode cX1_decide 105 = .ok (.iload_n 2, 1) := by decide +kernel
theorem dX1_decide_106 : decode cX1_decide 106 = .ok (.invokestatic 39, 3) := by decide +kernel
theorem dX1_decide_109 : decode cX1_decide 109 = .ok (.ifCond .eq 19, 3) := by decide +kernel
theorem dX1_decide_112 : decode cX1_decide 112 = .ok (.aload_n 0, 1) := by decide +kernel
theorem dX1_decide_113 : decode cX1_decide 113 = .ok (.aload_n 1, 1) := by decide +kernel
theorem dX1_decide_114 : decode cX1_decide 114 = .ok (.iload_n 2, 1) := by decide +kernel
theorem dX1_decide_115 : decode cX1_decide 115 = .ok (.iconst 1, 1) := by decide +kernel
theorem dX1_decide_116 : decode cX1_decide 116 = .ok (.isub, 1) := by decide +kernel
theorem dX1_decide_117 : decode cX1_decide 117 = .ok (.iload_n 3, 1) := by decide +kernel
theorem dX1_decide_118 : decode cX1_decide 118 = .ok (.iload 6, 2) := by decide +kernel
theorem dX1_decide_120 : decode cX1_decide 120 = .ok (.ior, 1) := by decide +kernel
theorem dX1_decide_121 : decode cX1_decide 121 = .ok (.iload 7, 2) := by decide +kernel
theorem dX1_decide_123 : decode cX1_decide 123 = .ok (.iload 8, 2) := by decide +kernel
theorem dX1_decide_125 : decode cX1_decide 125 = .ok (.invokestatic 27, 3) := by decide +kernel
theorem dX1_decide_128 : decode cX1_decide 128 = .ok (.return_, 1) := by decide +kernel
set_option maxRecDepth 20000 in
theorem ggX1_canBePaid_X7_isIn : GoodIn wsX1_canBePaid wsX7_isIn := goodIn_r _ [5] (by decide +kernel) (by decide +kernel)
set_option maxRecDepth 20000 in
theorem gX1_canBePaid_X7_isIn_n46 : GoodIn wsX1_canBePaid (wsX7_isIn) := ggX1_canBePaid_X7_isIn
theorem dX1_canBePaid_0 : decode cX1_canBePaid 0 = .ok (.iconst 1, 1) := by decide +kernel
theorem dX1_canBePaid_1 : decode cX1_canBePaid 1 = .ok (.iload_n 3, 1) := by decide +kernel
theorem dX1_canBePaid_2 : decode cX1_canBePaid 2 = .ok (.ishl, 1) := by decide +kernel
theorem dX1_canBePaid_3 : decode cX1_canBePaid 3 = .ok (.iconst 1, 1) := by decide +kernel
theorem dX1_canBePaid_4 : decode cX1_canBePaid 4 = .ok (.isub, 1) := by decide +kernel
theorem dX1_canBePaid_5 : decode cX1_canBePaid 5 = .ok (.iload_n 2, 1) := by decide +kernel
theorem dX1_canBePaid_6 : decode cX1_canBePaid 6 = .ok (.iconst (-1), 1) := by decide +kernel
theorem dX1_canBePaid_7 : decode cX1_canBePaid 7 = .ok (.ixor, 1) := by decide +kernel
theorem dX1_canBePaid_8 : decode cX1_canBePaid 8 = .ok (.iand, 1) := by decide +kernel
theorem dX1_canBePaid_9 : decode cX1_canBePaid 9 = .ok (.istore 4, 2) := by decide +kernel
theorem dX1_canBePaid_11 : decode cX1_canBePaid 11 = .ok (.iload_n 3, 1) := by decide +kernel
theorem dX1_canBePaid_12 : decode cX1_canBePaid 12 = .ok (.istore 5, 2) := by decide +kernel
theorem dX1_canBePaid_14 : decode cX1_canBePaid 14 = .ok (.iload 5, 2) := by decide +kernel
theorem dX1_canBePaid_16 : decode cX1_canBePaid 16 = .ok (.aload_n 0, 1) := by decide +kernel
theorem dX1_canBePaid_17 : decode cX1_canBePaid 17 = .ok (.getfield 22, 3) := by decide +kernel
theorem dX1_canBePaid_20 : decode cX1_canBePaid 20 = .ok (.if_icmp .ge 33, 3) := by decide +kernel
theorem dX1_canBePaid_23 : decode cX1_canBePaid 23 = .ok (.iload 5, 2) := by decide +kernel
theorem dX1_canBePaid_25 : decode cX1_canBePaid 25 = .ok (.iload_n 1, 1) := by decide +kernel
theorem dX1_canBePaid_26 : decode cX1_canBePaid 26 = .ok (.invokestatic 46, 3) := by decide +kernel
theorem dX1_canBePaid_29 : decode cX1_canBePaid 29 = .ok (.ifCond .eq 18, 3) := by decide +kernel
theorem dX1_canBePaid_32 : decode cX1_canBePaid 32 = .ok (.aload_n 0, 1) := by decide +kernel
theorem dX1_canBePaid_33 : decode cX1_canBePaid 33 = .ok (.getfield 43, 3) := by decide +kernel
theorem dX1_canBePaid_36 : decode cX1_canBePaid 36 = .ok (.iload 5, 2) := by decide +kernel
theorem dX1_canBePaid_38 : decode cX1_canBePaid 38 = .ok (.iaload, 1) := by decide +kernel
theorem dX1_canBePaid_39 : decode cX1_canBePaid 39 = .ok (.iload 4, 2) := by decide +kernel
theorem dX1_canBePaid_41 : decode cX1_canBePaid 41 = .ok (.iand, 1) := by decide +kernel
theorem dX1_canBePaid_42 : decode cX1_canBePaid 42 = .ok (.ifCond .ne 5, 3) := by decide +kernel
theorem dX1_canBePaid_45 : decode cX1_canBePaid 45 = .ok (.iconst 0, 1) := by decide +kernel
theorem dX1_canBePaid_46 : decode cX1_canBePaid 46 = .ok (.ireturn, 1) := by decide +kernel
theorem dX1_canBePaid_47 : decode cX1_canBePaid 47 = .ok (.iinc 5 1, 3) := by decide +kernel
theorem dX1_canBePaid_50 : decode cX1_canBePaid 50 = .ok (.goto (-36), 3) := by decide +kernel
theorem dX1_canBePaid_53 : decode cX1_canBePaid 53 = .ok (.iconst 1, 1) := by decide +kernel
theorem dX1_canBePaid_54 : decode cX1_canBePaid 54 = .ok (.ireturn, 1) := by decide +kernel
theorem dX1_keep_0 : decode cX1_keep 0 = .ok (.aload_n 0, 1) := by decide +kernel
theorem dX1_keep_1 : decode cX1_keep 1 = .ok (.getfield 18, 3) := by decide +kernel
theorem dX1_keep_4 : decode cX1_keep 4 = .ok (.sipush 256, 3) := by decide +kernel
theorem dX1_keep_7 : decode cX1_keep 7 = .ok (.if_icmp .ge 23, 3) := by decide +kernel
theorem dX1_keep_10 : decode cX1_keep 10 = .ok (.aload_n 0, 1) := by decide +kernel
theorem dX1_keep_11 : decode cX1_keep 11 = .ok (.getfield 9, 3) := by decide +kernel
theorem dX1_keep_14 : decode cX1_keep 14 = .ok (.aload_n 0, 1) := by decide +kernel
theorem dX1_keep_15 : decode cX1_keep 15 = .ok (.getfield 18, 3) := by decide +kernel
theorem dX1_keep_18 : decode cX1_keep 18 = .ok (.iload_n 1, 1) := by decide +kernel
theorem dX1_keep_19 : decode cX1_keep 19 = .ok (.iastore, 1) := by decide +kernel
theorem dX1_keep_20 : decode cX1_keep 20 = .ok (.aload_n 0, 1) := by decide +kernel
theorem dX1_keep_21 : decode cX1_keep 21 = .ok (.dup, 1) := by decide +kernel
theorem dX1_keep_22 : decode cX1_keep 22 = .ok (.getfield 18, 3) := by decide +kernel
theorem dX1_keep_25 : decode cX1_keep 25 = .ok (.iconst 1, 1) := by decide +kernel
theorem dX1_keep_26 : decode cX1_keep 26 = .ok (.iadd, 1) := by decide +kernel
theorem dX1_keep_27 : decode cX1_keep 27 = .ok (.putfield 18, 3) := by decide +kernel
theorem dX1_keep_30 : decode cX1_keep 30 = .ok (.return_, 1) := by decide +kernel
set_option maxRecDepth 20000 in
theorem ggX1_findAfter_X7_isIn : GoodIn wsX1_findAfter wsX7_isIn := goodIn_r _ [4] (by decide +kernel) (by decide +kernel)
set_option maxRecDepth 20000 in
theorem gX1_findAfter_X7_isIn_n46 : GoodIn wsX1_findAfter (wsX7_isIn) := ggX1_findAfter_X7_isIn
set_option maxRecDepth 20000 in
theorem ggX1_findAfter_X2_fenceAcross : GoodIn wsX1_findAfter wsX2_fenceAcross := goodIn_r _ [9, 10, 11, 12, 13, 14, 15, 16, 8, 17, 18, 19, 20, 21, 22, 23, 24, 25, 26, 27, 28, 29, 30, 31, 32, 33, 34, 44, 45, 46, 47, 48, 49, 50, 51, 52, 53, 54] (by decide +kernel) (by decide +kernel)
set_option maxRecDepth 20000 in
theorem gX1_findAfter_X2_fenceAcross : GoodIn wsX1_findAfter (wsV RX1 50 RX2 yX2_fenceAcross wsX2_fenceAcross) := goodIn_app (goodIn_of _ (by decide +kernel)) ggX1_findAfter_X2_fenceAcross
set_option maxRecDepth 20000 in
theorem ggX1_findAfter_X1_indexOf : GoodIn wsX1_findAfter wsX1_indexOf := goodIn_r _ [39, 40, 1, 41, 42, 43] (by decide +kernel) (by decide +kernel)
set_option maxRecDepth 20000 in
theorem gX1_findAfter_X1_indexOf : GoodIn wsX1_findAfter (wsV RX1 54 RX1 yX1_indexOf wsX1_indexOf) := goodIn_app (goodIn_of _ (by decide +kernel)) ggX1_findAfter_X1_indexOf
theorem dX1_findAfter_0 : decode cX1_findAfter 0 = .ok (.iload_n 3, 1) := by decide +kernel
theorem dX1_findAfter_1 : decode cX1_findAfter 1 = .ok (.aload_n 0, 1) := by decide +kernel
theorem dX1_findAfter_2 : decode cX1_findAfter 2 = .ok (.getfield 9, 3) := by decide +kernel
theorem dX1_findAfter_5 : decode cX1_findAfter 5 = .ok (.iload_n 2, 1) := by decide +kernel
theorem dX1_findAfter_6 : decode cX1_findAfter 6 = .ok (.iaload, 1) := by decide +kernel
theorem dX1_findAfter_7 : decode cX1_findAfter 7 = .ok (.invokestatic 46, 3) := by decide +kernel
theorem dX1_findAfter_10 : decode cX1_findAfter 10 = .ok (.ifCond .eq 17, 3) := by decide +kernel
theorem dX1_findAfter_13 : decode cX1_findAfter 13 = .ok (.aload_n 1, 1) := by decide +kernel
theorem dX1_findAfter_14 : decode cX1_findAfter 14 = .ok (.iload_n 3, 1) := by decide +kernel
theorem dX1_findAfter_15 : decode cX1_findAfter 15 = .ok (.aload_n 0, 1) := by decide +kernel
theorem dX1_findAfter_16 : decode cX1_findAfter 16 = .ok (.getfield 9, 3) := by decide +kernel
theorem dX1_findAfter_19 : decode cX1_findAfter 19 = .ok (.iload_n 2, 1) := by decide +kernel
theorem dX1_findAfter_20 : decode cX1_findAfter 20 = .ok (.iaload, 1) := by decide +kernel
theorem dX1_findAfter_21 : decode cX1_findAfter 21 = .ok (.invokevirtual 50, 3) := by decide +kernel
theorem dX1_findAfter_24 : decode cX1_findAfter 24 = .ok (.goto 5, 3) := by decide +kernel
theorem dX1_findAfter_27 : decode cX1_findAfter 27 = .ok (.bipush (-9), 2) := by decide +kernel
theorem dX1_findAfter_29 : decode cX1_findAfter 29 = .ok (.istore 4, 2) := by decide +kernel
theorem dX1_findAfter_31 : decode cX1_findAfter 31 = .ok (.iload 4, 2) := by decide +kernel
theorem dX1_findAfter_33 : decode cX1_findAfter 33 = .ok (.bipush (-9), 2) := by decide +kernel
theorem dX1_findAfter_35 : decode cX1_findAfter 35 = .ok (.if_icmp .ne 8, 3) := by decide +kernel
theorem dX1_findAfter_38 : decode cX1_findAfter 38 = .ok (.bipush (-9), 2) := by decide +kernel
theorem dX1_findAfter_40 : decode cX1_findAfter 40 = .ok (.goto 24, 3) := by decide +kernel
theorem dX1_findAfter_43 : decode cX1_findAfter 43 = .ok (.aload_n 0, 1) := by decide +kernel
theorem dX1_findAfter_44 : decode cX1_findAfter 44 = .ok (.aload_n 0, 1) := by decide +kernel
theorem dX1_findAfter_45 : decode cX1_findAfter 45 = .ok (.getfield 9, 3) := by decide +kernel
theorem dX1_findAfter_48 : decode cX1_findAfter 48 = .ok (.iload_n 2, 1) := by decide +kernel
theorem dX1_findAfter_49 : decode cX1_findAfter 49 = .ok (.iaload, 1) := by decide +kernel
theorem dX1_findAfter_50 : decode cX1_findAfter 50 = .ok (.iconst 1, 1) := by decide +kernel
theorem dX1_findAfter_51 : decode cX1_findAfter 51 = .ok (.iload_n 3, 1) := by decide +kernel
theorem dX1_findAfter_52 : decode cX1_findAfter 52 = .ok (.ishl, 1) := by decide +kernel
theorem dX1_findAfter_53 : decode cX1_findAfter 53 = .ok (.iconst (-1), 1) := by decide +kernel
theorem dX1_findAfter_54 : decode cX1_findAfter 54 = .ok (.ixor, 1) := by decide +kernel
theorem dX1_findAfter_55 : decode cX1_findAfter 55 = .ok (.iand, 1) := by decide +kernel
theorem dX1_findAfter_56 : decode cX1_findAfter 56 = .ok (.iconst 1, 1) := by decide +kernel
theorem dX1_findAfter_57 : decode cX1_findAfter 57 = .ok (.iload 4, 2) := by decide +kernel
theorem dX1_findAfter_59 : decode cX1_findAfter 59 = .ok (.ishl, 1) := by decide +kernel
theorem dX1_findAfter_60 : decode cX1_findAfter 60 = .ok (.ior, 1) := by decide +kernel
theorem dX1_findAfter_61 : decode cX1_findAfter 61 = .ok (.invokevirtual 54, 3) := by decide +kernel
theorem dX1_findAfter_64 : decode cX1_findAfter 64 = .ok (.ireturn, 1) := by decide +kernel
theorem dX1_indexOf_0 : decode cX1_indexOf 0 = .ok (.iconst 0, 1) := by decide +kernel
theorem dX1_indexOf_1 : decode cX1_indexOf 1 = .ok (.istore_n 2, 1) := by decide +kernel
theorem dX1_indexOf_2 : decode cX1_indexOf 2 = .ok (.sipush 128, 3) := by decide +kernel
theorem dX1_indexOf_5 : decode cX1_indexOf 5 = .ok (.istore_n 3, 1) := by decide +kernel
theorem dX1_indexOf_6 : decode cX1_indexOf 6 = .ok (.iload_n 3, 1) := by decide +kernel
theorem dX1_indexOf_7 : decode cX1_indexOf 7 = .ok (.ifCond .le 36, 3) := by decide +kernel
theorem dX1_indexOf_10 : decode cX1_indexOf 10 = .ok (.iload_n 2, 1) := by decide +kernel
theorem dX1_indexOf_11 : decode cX1_indexOf 11 = .ok (.iload_n 3, 1) := by decide +kernel
theorem dX1_indexOf_12 : decode cX1_indexOf 12 = .ok (.iadd, 1) := by decide +kernel
theorem dX1_indexOf_13 : decode cX1_indexOf 13 = .ok (.aload_n 0, 1) := by decide +kernel
theorem dX1_indexOf_14 : decode cX1_indexOf 14 = .ok (.getfield 18, 3) := by decide +kernel
theorem dX1_indexOf_17 : decode cX1_indexOf 17 = .ok (.if_icmp .ge 19, 3) := by decide +kernel
theorem dX1_indexOf_20 : decode cX1_indexOf 20 = .ok (.aload_n 0, 1) := by decide +kernel
theorem dX1_indexOf_21 : decode cX1_indexOf 21 = .ok (.getfield 9, 3) := by decide +kernel
theorem dX1_indexOf_24 : decode cX1_indexOf 24 = .ok (.iload_n 2, 1) := by decide +kernel
theorem dX1_indexOf_25 : decode cX1_indexOf 25 = .ok (.iload_n 3, 1) := by decide +kernel
theorem dX1_indexOf_26 : decode cX1_indexOf 26 = .ok (.iadd, 1) := by decide +kernel
theorem dX1_indexOf_27 : decode cX1_indexOf 27 = .ok (.iaload, 1) := by decide +kernel
theorem dX1_indexOf_28 : decode cX1_indexOf 28 = .ok (.iload_n 1, 1) := by decide +kernel
theorem dX1_indexOf_29 : decode cX1_indexOf 29 = .ok (.if_icmp .gt 7, 3) := by decide +kernel
theorem dX1_indexOf_32 : decode cX1_indexOf 32 = .ok (.iload_n 2, 1) := by decide +kernel
theorem dX1_indexOf_33 : decode cX1_indexOf 33 = .ok (.iload_n 3, 1) := by decide +kernel
theorem dX1_indexOf_34 : decode cX1_indexOf 34 = .ok (.iadd, 1) := by decide +kernel
theorem dX1_indexOf_35 : decode cX1_indexOf 35 = .ok (.istore_n 2, 1) := by decide +kernel
theorem dX1_indexOf_36 : decode cX1_indexOf 36 = .ok (.iload_n 3, 1) := by decide +kernel
theorem dX1_indexOf_37 : decode cX1_indexOf 37 = .ok (.iconst 2, 1) := by decide +kernel
theorem dX1_indexOf_38 : decode cX1_indexOf 38 = .ok (.idiv, 1) := by decide +kernel
theorem dX1_indexOf_39 : decode cX1_indexOf 39 = .ok (.istore_n 3, 1) := by decide +kernel
theorem dX1_indexOf_40 : decode cX1_indexOf 40 = .ok (.goto (-34), 3) := by decide +kernel
theorem dX1_indexOf_43 : decode cX1_indexOf 43 = .ok (.aload_n 0, 1) := by decide +kernel
theorem dX1_indexOf_44 : decode cX1_indexOf 44 = .ok (.getfield 9, 3) := by decide +kernel
theorem dX1_indexOf_47 : decode cX1_indexOf 47 = .ok (.iload_n 2, 1) := by decide +kernel
theorem dX1_indexOf_48 : decode cX1_indexOf 48 = .ok (.iaload, 1) := by decide +kernel
theorem dX1_indexOf_49 : decode cX1_indexOf 49 = .ok (.iload_n 1, 1) := by decide +kernel
theorem dX1_indexOf_50 : decode cX1_indexOf 50 = .ok (.if_icmp .ne 7, 3) := by decide +kernel
theorem dX1_indexOf_53 : decode cX1_indexOf 53 = .ok (.iload_n 2, 1) := by decide +kernel
theorem dX1_indexOf_54 : decode cX1_indexOf 54 = .ok (.goto 5, 3) := by decide +kernel
theorem dX1_indexOf_57 : decode cX1_indexOf 57 = .ok (.bipush (-9), 2) := by decide +kernel
theorem dX1_indexOf_59 : decode cX1_indexOf 59 = .ok (.ireturn, 1) := by decide +kernel
set_option maxRecDepth 20000 in
theorem ggX2_init_X4_init : GoodIn wsX2_init wsX4_init := goodIn_r _ [15, 16, 2, 3, 8, 17, 18, 19, 20, 21] (by decide +kernel) (by decide +kernel)
set_option maxRecDepth 20000 in
theorem gX2_init_X4_init_n11 : GoodIn wsX2_init (wsX4_init) := ggX2_init_X4_init
theorem dX2_init_0 : decode cX2_init 0 = .ok (.aload_n 0, 1) := by decide +kernel
theorem dX2_init_1 : decode cX2_init 1 = .ok (.invokespecial 3, 3) := by decide +kernel
theorem dX2_init_4 : decode cX2_init 4 = .ok (.aload_n 0, 1) := by decide +kernel
theorem dX2_init_5 : decode cX2_init 5 = .ok (.new 9, 3) := by decide +kernel
theorem dX2_init_8 : decode cX2_init 8 = .ok (.dup, 1) := by decide +kernel
theorem dX2_init_9 : decode cX2_init 9 = .ok (.invokespecial 11, 3) := by decide +kernel
theorem dX2_init_12 : decode cX2_init 12 = .ok (.putfield 12, 3) := by decide +kernel
theorem dX2_init_15 : decode cX2_init 15 = .ok (.aload_n 0, 1) := by decide +kernel
theorem dX2_init_16 : decode cX2_init 16 = .ok (.bipush 28, 2) := by decide +kernel
theorem dX2_init_18 : decode cX2_init 18 = .ok (.newarray .int, 2) := by decide +kernel
theorem dX2_init_20 : decode cX2_init 20 = .ok (.putfield 18, 3) := by decide +kernel
theorem dX2_init_23 : decode cX2_init 23 = .ok (.aload_n 0, 1) := by decide +kernel
theorem dX2_init_24 : decode cX2_init 24 = .ok (.bipush 28, 2) := by decide +kernel
theorem dX2_init_26 : decode cX2_init 26 = .ok (.newarray .int, 2) := by decide +kernel
theorem dX2_init_28 : decode cX2_init 28 = .ok (.putfield 22, 3) := by decide +kernel
theorem dX2_init_31 : decode cX2_init 31 = .ok (.aload_n 0, 1) := by decide +kernel
theorem dX2_init_32 : decode cX2_init 32 = .ok (.bipush 28, 2) := by decide +kernel
theorem dX2_init_34 : decode cX2_init 34 = .ok (.newarray .int, 2) := by decide +kernel
theorem dX2_init_36 : decode cX2_init 36 = .ok (.putfield 25, 3) := by decide +kernel
theorem dX2_init_39 : decode cX2_init 39 = .ok (.aload_n 0, 1) := by decide +kernel
theorem dX2_init_40 : decode cX2_init 40 = .ok (.bipush 64, 2) := by decide +kernel
theorem dX2_init_42 : decode cX2_init 42 = .ok (.newarray .int, 2) := by decide +kernel
theorem dX2_init_44 : decode cX2_init 44 = .ok (.putfield 28, 3) := by decide +kernel
theorem dX2_init_47 : decode cX2_init 47 = .ok (.aload_n 0, 1) := by decide +kernel
theorem dX2_init_48 : decode cX2_init 48 = .ok (.sipush 224, 3) := by decide +kernel
theorem dX2_init_51 : decode cX2_init 51 = .ok (.newarray .int, 2) := by decide +kernel
theorem dX2_init_53 : decode cX2_init 53 = .ok (.putfield 31, 3) := by decide +kernel
theorem dX2_init_56 : decode cX2_init 56 = .ok (.return_, 1) := by decide +kernel
set_option maxRecDepth 20000 in
theorem ggX2_layOf_X4_becomeThoseOf : GoodIn wsX2_layOf wsX4_becomeThoseOf := goodIn_r _ [6, 7, 8, 9, 10, 11, 12, 5, 13, 88, 89, 90] (by decide +kernel) (by decide +kernel)
set_option maxRecDepth 20000 in
theorem gX2_layOf_X4_becomeThoseOf : GoodIn wsX2_layOf (wsV RX2 34 RX4 yX4_becomeThoseOf wsX4_becomeThoseOf) := goodIn_app (goodIn_of _ (by decide +kernel)) ggX2_layOf_X4_becomeThoseOf
set_option maxRecDepth 20000 in
theorem ggX2_layOf_X2_numberFences : GoodIn wsX2_layOf wsX2_numberFences := goodIn_r _ [18, 19, 1, 20, 21, 22, 23, 24, 17, 25, 26, 27, 28, 5, 29, 8, 9, 30, 31, 32, 33, 34, 35, 36, 37, 38, 39, 80, 81, 82, 83, 84, 85, 86, 87, 88, 89, 90] (by decide +kernel) (by decide +kernel)
set_option maxRecDepth 20000 in
theorem gX2_layOf_X2_numberFences : GoodIn wsX2_layOf (wsV RX2 38 RX2 yX2_numberFences wsX2_numberFences) := goodIn_app (goodIn_of _ (by decide +kernel)) ggX2_layOf_X2_numberFences
set_option maxRecDepth 20000 in
theorem ggX2_layOf_X2_findCrossings : GoodIn wsX2_layOf wsX2_findCrossings := goodIn_r _ [43, 19, 44, 45, 46, 47, 17, 48, 1, 38, 39, 49, 50, 51, 5, 52, 30, 31, 32, 33, 8, 9, 80, 81, 82, 83, 84, 85, 86, 87, 88, 89, 90] (by decide +kernel) (by decide +kernel)
set_option maxRecDepth 20000 in
theorem gX2_layOf_X2_findCrossings : GoodIn wsX2_layOf (wsV RX2 41 RX2 yX2_findCrossings wsX2_findCrossings) := goodIn_app (goodIn_of _ (by decide +kernel)) ggX2_layOf_X2_findCrossings
set_option maxRecDepth 20000 in
theorem ggX2_layOf_X2_findHems : GoodIn wsX2_layOf wsX2_findHems := goodIn_r _ [56, 57, 19, 58, 59, 60, 17, 61, 1, 20, 38, 39, 62, 31, 32, 5, 33, 8, 9, 80, 81, 82, 83, 84, 85, 86, 87, 88, 89, 90] (by decide +kernel) (by decide +kernel)
set_option maxRecDepth 20000 in
theorem gX2_layOf_X2_findHems : GoodIn wsX2_layOf (wsV RX2 44 RX2 yX2_findHems wsX2_findHems) := goodIn_app (goodIn_of _ (by decide +kernel)) ggX2_layOf_X2_findHems
set_option maxRecDepth 20000 in
theorem ggX2_layOf_X2_findSides : GoodIn wsX2_layOf wsX2_findSides := goodIn_r _ [66, 19, 1, 20, 67, 68, 69, 70, 17, 71, 38, 39, 72, 73, 74, 75, 21, 62, 31, 32, 5, 33, 8, 9, 76, 77, 78, 79, 30, 80, 81, 82, 83, 84, 85, 86, 87, 88, 89, 90] (by decide +kernel) (by decide +kernel)
set_option maxRecDepth 20000 in
theorem gX2_layOf_X2_findSides : GoodIn wsX2_layOf (wsV RX2 47 RX2 yX2_findSides wsX2_findSides) := goodIn_app (goodIn_of _ (by decide +kernel)) ggX2_layOf_X2_findSides
theorem dX2_layOf_0 : decode cX2_layOf 0 = .ok (.aload_n 0, 1) := by decide +kernel
theorem dX2_layOf_1 : decode cX2_layOf 1 = .ok (.getfield 12, 3) := by decide +kernel
theorem dX2_layOf_4 : decode cX2_layOf 4 = .ok (.aload_n 1, 1) := by decide +kernel
theorem dX2_layOf_5 : decode cX2_layOf 5 = .ok (.invokevirtual 34, 3) := by decide +kernel
theorem dX2_layOf_8 : decode cX2_layOf 8 = .ok (.aload_n 0, 1) := by decide +kernel
theorem dX2_layOf_9 : decode cX2_layOf 9 = .ok (.invokevirtual 38, 3) := by decide +kernel
theorem dX2_layOf_12 : decode cX2_layOf 12 = .ok (.aload_n 0, 1) := by decide +kernel
theorem dX2_layOf_13 : decode cX2_layOf 13 = .ok (.invokevirtual 41, 3) := by decide +kernel
theorem dX2_layOf_16 : decode cX2_layOf 16 = .ok (.aload_n 0, 1) := by decide +kernel
theorem dX2_layOf_17 : decode cX2_layOf 17 = .ok (.invokevirtual 44, 3) := by decide +kernel
theorem dX2_layOf_20 : decode cX2_layOf 20 = .ok (.aload_n 0, 1) := by decide +kernel
theorem dX2_layOf_21 : decode cX2_layOf 21 = .ok (.invokevirtual 47, 3) := by decide +kernel
theorem dX2_layOf_24 : decode cX2_layOf 24 = .ok (.return_, 1) := by decide +kernel
theorem dX2_isPost_0 : decode cX2_isPost 0 = .ok (.iload_n 1, 1) := by decide +kernel
theorem dX2_isPost_1 : decode cX2_isPost 1 = .ok (.ifCond .lt 18, 3) := by decide +kernel
theorem dX2_isPost_4 : decode cX2_isPost 4 = .ok (.iload_n 1, 1) := by decide +kernel
theorem dX2_isPost_5 : decode cX2_isPost 5 = .ok (.aload_n 0, 1) := by decide +kernel
theorem dX2_isPost_6 : decode cX2_isPost 6 = .ok (.getfield 12, 3) := by decide +kernel
theorem dX2_isPost_9 : decode cX2_isPost 9 = .ok (.getfield 50, 3) := by decide +kernel
theorem dX2_isPost_12 : decode cX2_isPost 12 = .ok (.if_icmp .ge 7, 3) := by decide +kernel
theorem dX2_isPost_15 : decode cX2_isPost 15 = .ok (.iconst 1, 1) := by decide +kernel
theorem dX2_isPost_16 : decode cX2_isPost 16 = .ok (.goto 4, 3) := by decide +kernel
theorem dX2_isPost_19 : decode cX2_isPost 19 = .ok (.iconst 0, 1) := by decide +kernel
theorem dX2_isPost_20 : decode cX2_isPost 20 = .ok (.ireturn, 1) := by decide +kernel
theorem dX2_isFence_0 : decode cX2_isFence 0 = .ok (.iload_n 1, 1) := by decide +kernel
theorem dX2_isFence_1 : decode cX2_isFence 1 = .ok (.ifCond .lt 15, 3) := by decide +kernel
theorem dX2_isFence_4 : decode cX2_isFence 4 = .ok (.iload_n 1, 1) := by decide +kernel
theorem dX2_isFence_5 : decode cX2_isFence 5 = .ok (.aload_n 0, 1) := by decide +kernel
theorem dX2_isFence_6 : decode cX2_isFence 6 = .ok (.getfield 54, 3) := by decide +kernel
theorem dX2_isFence_9 : decode cX2_isFence 9 = .ok (.if_icmp .ge 7, 3) := by decide +kernel
theorem dX2_isFence_12 : decode cX2_isFence 12 = .ok (.iconst 1, 1) := by decide +kernel
theorem dX2_isFence_13 : decode cX2_isFence 13 = .ok (.goto 4, 3) := by decide +kernel
theorem dX2_isFence_16 : decode cX2_isFence 16 = .ok (.iconst 0, 1) := by decide +kernel
theorem dX2_isFence_17 : decode cX2_isFence 17 = .ok (.ireturn, 1) := by decide +kernel
theorem dX2_fenceBetween_0 : decode cX2_fenceBetween 0 = .ok (.aload_n 0, 1) := by decide +kernel
theorem dX2_fenceBetween_1 : decode cX2_fenceBetween 1 = .ok (.getfield 28, 3) := by decide +kernel
theorem dX2_fenceBetween_4 : decode cX2_fenceBetween 4 = .ok (.iload_n 1, 1) := by decide +kernel
theorem dX2_fenceBetween_5 : decode cX2_fenceBetween 5 = .ok (.bipush 8, 2) := by decide +kernel
theorem dX2_fenceBetween_7 : decode cX2_fenceBetween 7 = .ok (.imul, 1) := by decide +kernel
theorem dX2_fenceBetween_8 : decode cX2_fenceBetween 8 = .ok (.iload_n 2, 1) := by decide +kernel
theorem dX2_fenceBetween_9 : decode cX2_fenceBetween 9 = .ok (.iadd, 1) := by decide +kernel
theorem dX2_fenceBetween_10 : decode cX2_fenceBetween 10 = .ok (.iaload, 1) := by decide +kernel
theorem dX2_fenceBetween_11 : decode cX2_fenceBetween 11 = .ok (.ireturn, 1) := by decide +kernel
set_option maxRecDepth 20000 in
theorem ggX2_fencesAt_X2_fenceBetween : GoodIn wsX2_fencesAt wsX2_fenceBetween := goodIn_r _ [7, 8, 9, 10, 11, 12, 13, 14, 15, 16] (by decide +kernel) (by decide +kernel)
set_option maxRecDepth 20000 in
theorem gX2_fencesAt_X2_fenceBetween : GoodIn wsX2_fencesAt (wsV RX2 57 RX2 yX2_fenceBetween wsX2_fenceBetween) := goodIn_app (goodIn_of _ (by decide +kernel)) ggX2_fencesAt_X2_fenceBetween
theorem dX2_fencesAt_0 : decode cX2_fencesAt 0 = .ok (.iconst 0, 1) := by decide +kernel
theorem dX2_fencesAt_1 : decode cX2_fencesAt 1 = .ok (.istore_n 2, 1) := by decide +kernel
theorem dX2_fencesAt_2 : decode cX2_fencesAt 2 = .ok (.iconst 0, 1) := by decide +kernel
theorem dX2_fencesAt_3 : decode cX2_fencesAt 3 = .ok (.istore_n 3, 1) := by decide +kernel
theorem dX2_fencesAt_4 : decode cX2_fencesAt 4 = .ok (.iload_n 3, 1) := by decide +kernel
theorem dX2_fencesAt_5 : decode cX2_fencesAt 5 = .ok (.aload_n 0, 1) := by decide +kernel
theorem dX2_fencesAt_6 : decode cX2_fencesAt 6 = .ok (.getfield 12, 3) := by decide +kernel
theorem dX2_fencesAt_9 : decode cX2_fencesAt 9 = .ok (.getfield 50, 3) := by decide +kernel
theorem dX2_fencesAt_12 : decode cX2_fencesAt 12 = .ok (.if_icmp .ge 31, 3) := by decide +kernel
theorem dX2_fencesAt_15 : decode cX2_fencesAt 15 = .ok (.aload_n 0, 1) := by decide +kernel
theorem dX2_fencesAt_16 : decode cX2_fencesAt 16 = .ok (.iload_n 1, 1) := by decide +kernel
theorem dX2_fencesAt_17 : decode cX2_fencesAt 17 = .ok (.iload_n 3, 1) := by decide +kernel
theorem dX2_fencesAt_18 : decode cX2_fencesAt 18 = .ok (.invokevirtual 57, 3) := by decide +kernel
theorem dX2_fencesAt_21 : decode cX2_fencesAt 21 = .ok (.istore 4, 2) := by decide +kernel
theorem dX2_fencesAt_23 : decode cX2_fencesAt 23 = .ok (.iload 4, 2) := by decide +kernel
theorem dX2_fencesAt_25 : decode cX2_fencesAt 25 = .ok (.bipush (-9), 2) := by decide +kernel
theorem dX2_fencesAt_27 : decode cX2_fencesAt 27 = .ok (.if_icmp .eq 10, 3) := by decide +kernel
theorem dX2_fencesAt_30 : decode cX2_fencesAt 30 = .ok (.iload_n 2, 1) := by decide +kernel
theorem dX2_fencesAt_31 : decode cX2_fencesAt 31 = .ok (.iconst 1, 1) := by decide +kernel
theorem dX2_fencesAt_32 : decode cX2_fencesAt 32 = .ok (.iload 4, 2) := by decide +kernel
theorem dX2_fencesAt_34 : decode cX2_fencesAt 34 = .ok (.ishl, 1) := by decide +kernel
theorem dX2_fencesAt_35 : decode cX2_fencesAt 35 = .ok (.ior, 1) := by decide +kernel
theorem dX2_fencesAt_36 : decode cX2_fencesAt 36 = .ok (.istore_n 2, 1) := by decide +kernel
theorem dX2_fencesAt_37 : decode cX2_fencesAt 37 = .ok (.iinc 3 1, 3) := by decide +kernel
theorem dX2_fencesAt_40 : decode cX2_fencesAt 40 = .ok (.goto (-36), 3) := by decide +kernel
theorem dX2_fencesAt_43 : decode cX2_fencesAt 43 = .ok (.iload_n 2, 1) := by decide +kernel
theorem dX2_fencesAt_44 : decode cX2_fencesAt 44 = .ok (.ireturn, 1) := by decide +kernel
set_option maxRecDepth 20000 in
theorem ggX2_thirdsOf_X2_isThird : GoodIn wsX2_thirdsOf wsX2_isThird := goodIn_r _ [9, 10, 11, 12, 13, 14, 15, 16, 17, 18] (by decide +kernel) (by decide +kernel)
set_option maxRecDepth 20000 in
theorem gX2_thirdsOf_X2_isThird : GoodIn wsX2_thirdsOf (wsV RX2 61 RX2 yX2_isThird wsX2_isThird) := goodIn_app (goodIn_of _ (by decide +kernel)) ggX2_thirdsOf_X2_isThird
theorem dX2_thirdsOf_0 : decode cX2_thirdsOf 0 = .ok (.iconst 0, 1) := by decide +kernel
theorem dX2_thirdsOf_1 : decode cX2_thirdsOf 1 = .ok (.istore_n 2, 1) := by decide +kernel
theorem dX2_thirdsOf_2 : decode cX2_thirdsOf 2 = .ok (.iconst 0, 1) := by decide +kernel
theorem dX2_thirdsOf_3 : decode cX2_thirdsOf 3 = .ok (.istore_n 3, 1) := by decide +kernel
theorem dX2_thirdsOf_4 : decode cX2_thirdsOf 4 = .ok (.iload_n 3, 1) := by decide +kernel
theorem dX2_thirdsOf_5 : decode cX2_thirdsOf 5 = .ok (.aload_n 0, 1) := by decide +kernel
theorem dX2_thirdsOf_6 : decode cX2_thirdsOf 6 = .ok (.getfield 54, 3) := by decide +kernel
theorem dX2_thirdsOf_9 : decode cX2_thirdsOf 9 = .ok (.if_icmp .ge 51, 3) := by decide +kernel
theorem dX2_thirdsOf_12 : decode cX2_thirdsOf 12 = .ok (.aload_n 0, 1) := by decide +kernel
theorem dX2_thirdsOf_13 : decode cX2_thirdsOf 13 = .ok (.getfield 22, 3) := by decide +kernel
theorem dX2_thirdsOf_16 : decode cX2_thirdsOf 16 = .ok (.iload_n 3, 1) := by decide +kernel
theorem dX2_thirdsOf_17 : decode cX2_thirdsOf 17 = .ok (.iaload, 1) := by decide +kernel
theorem dX2_thirdsOf_18 : decode cX2_thirdsOf 18 = .ok (.iconst 1, 1) := by decide +kernel
theorem dX2_thirdsOf_19 : decode cX2_thirdsOf 19 = .ok (.iadd, 1) := by decide +kernel
theorem dX2_thirdsOf_20 : decode cX2_thirdsOf 20 = .ok (.istore 4, 2) := by decide +kernel
theorem dX2_thirdsOf_22 : decode cX2_thirdsOf 22 = .ok (.iload 4, 2) := by decide +kernel
theorem dX2_thirdsOf_24 : decode cX2_thirdsOf 24 = .ok (.aload_n 0, 1) := by decide +kernel
theorem dX2_thirdsOf_25 : decode cX2_thirdsOf 25 = .ok (.getfield 12, 3) := by decide +kernel
theorem dX2_thirdsOf_28 : decode cX2_thirdsOf 28 = .ok (.getfield 50, 3) := by decide +kernel
theorem dX2_thirdsOf_31 : decode cX2_thirdsOf 31 = .ok (.if_icmp .ge 23, 3) := by decide +kernel
theorem dX2_thirdsOf_34 : decode cX2_thirdsOf 34 = .ok (.aload_n 0, 1) := by decide +kernel
theorem dX2_thirdsOf_35 : decode cX2_thirdsOf 35 = .ok (.iload_n 3, 1) := by decide +kernel
theorem dX2_thirdsOf_36 : decode cX2_thirdsOf 36 = .ok (.iload 4, 2) := by decide +kernel
theorem dX2_thirdsOf_38 : decode cX2_thirdsOf 38 = .ok (.iload_n 1, 1) := by decide +kernel
theorem dX2_thirdsOf_39 : decode cX2_thirdsOf 39 = .ok (.invokevirtual 61, 3) := by decide +kernel
theorem dX2_thirdsOf_42 : decode cX2_thirdsOf 42 = .ok (.ifCond .eq 6, 3) := by decide +kernel
theorem dX2_thirdsOf_45 : decode cX2_thirdsOf 45 = .ok (.iinc 2 1, 3) := by decide +kernel
theorem dX2_thirdsOf_48 : decode cX2_thirdsOf 48 = .ok (.iinc 4 1, 3) := by decide +kernel
theorem dX2_thirdsOf_51 : decode cX2_thirdsOf 51 = .ok (.goto (-29), 3) := by decide +kernel
theorem dX2_thirdsOf_54 : decode cX2_thirdsOf 54 = .ok (.iinc 3 1, 3) := by decide +kernel
theorem dX2_thirdsOf_57 : decode cX2_thirdsOf 57 = .ok (.goto (-53), 3) := by decide +kernel
theorem dX2_thirdsOf_60 : decode cX2_thirdsOf 60 = .ok (.iload_n 2, 1) := by decide +kernel
theorem dX2_thirdsOf_61 : decode cX2_thirdsOf 61 = .ok (.ireturn, 1) := by decide +kernel
set_option maxRecDepth 20000 in
theorem ggX2_cornerOf_X2_isThird : GoodIn wsX2_cornerOf wsX2_isThird := goodIn_r _ [10, 11, 12, 13, 14, 15, 16, 17, 18, 19] (by decide +kernel) (by decide +kernel)
set_option maxRecDepth 20000 in
theorem gX2_cornerOf_X2_isThird : GoodIn wsX2_cornerOf (wsV RX2 61 RX2 yX2_isThird wsX2_isThird) := goodIn_app (goodIn_of _ (by decide +kernel)) ggX2_cornerOf_X2_isThird
theorem dX2_cornerOf_0 : decode cX2_cornerOf 0 = .ok (.iconst 0, 1) := by decide +kernel
theorem dX2_cornerOf_1 : decode cX2_cornerOf 1 = .ok (.istore 4, 2) := by decide +kernel
theorem dX2_cornerOf_3 : decode cX2_cornerOf 3 = .ok (.iconst 0, 1) := by decide +kernel
theorem dX2_cornerOf_4 : decode cX2_cornerOf 4 = .ok (.istore 5, 2) := by decide +kernel
theorem dX2_cornerOf_6 : decode cX2_cornerOf 6 = .ok (.iload 5, 2) := by decide +kernel
theorem dX2_cornerOf_8 : decode cX2_cornerOf 8 = .ok (.aload_n 0, 1) := by decide +kernel
theorem dX2_cornerOf_9 : decode cX2_cornerOf 9 = .ok (.getfield 54, 3) := by decide +kernel
theorem dX2_cornerOf_12 : decode cX2_cornerOf 12 = .ok (.if_icmp .ge 94, 3) := by decide +kernel
theorem dX2_cornerOf_15 : decode cX2_cornerOf 15 = .ok (.aload_n 0, 1) := by decide +kernel
theorem dX2_cornerOf_16 : decode cX2_cornerOf 16 = .ok (.getfield 22, 3) := by decide +kernel
theorem dX2_cornerOf_19 : decode cX2_cornerOf 19 = .ok (.iload 5, 2) := by decide +kernel
theorem dX2_cornerOf_21 : decode cX2_cornerOf 21 = .ok (.iaload, 1) := by decide +kernel
theorem dX2_cornerOf_22 : decode cX2_cornerOf 22 = .ok (.iconst 1, 1) := by decide +kernel
theorem dX2_cornerOf_23 : decode cX2_cornerOf 23 = .ok (.iadd, 1) := by decide +kernel
theorem dX2_cornerOf_24 : decode cX2_cornerOf 24 = .ok (.istore 6, 2) := by decide +kernel
theorem dX2_cornerOf_26 : decode cX2_cornerOf 26 = .ok (.iload 6, 2) := by decide +kernel
theorem dX2_cornerOf_28 : decode cX2_cornerOf 28 = .ok (.aload_n 0, 1) := by decide +kernel
theorem dX2_cornerOf_29 : decode cX2_cornerOf 29 = .ok (.getfield 12, 3) := by decide +kernel
theorem dX2_cornerOf_32 : decode cX2_cornerOf 32 = .ok (.getfield 50, 3) := by decide +kernel
theorem dX2_cornerOf_35 : decode cX2_cornerOf 35 = .ok (.if_icmp .ge 65, 3) := by decide +kernel
theorem dX2_cornerOf_38 : decode cX2_cornerOf 38 = .ok (.aload_n 0, 1) := by decide +kernel
theorem dX2_cornerOf_39 : decode cX2_cornerOf 39 = .ok (.iload 5, 2) := by decide +kernel
theorem dX2_cornerOf_41 : decode cX2_cornerOf 41 = .ok (.iload 6, 2) := by decide +kernel
theorem dX2_cornerOf_43 : decode cX2_cornerOf 43 = .ok (.iload_n 1, 1) := by decide +kernel
theorem dX2_cornerOf_44 : decode cX2_cornerOf 44 = .ok (.invokevirtual 61, 3) := by decide +kernel
theorem dX2_cornerOf_47 : decode cX2_cornerOf 47 = .ok (.ifCond .ne 6, 3) := by decide +kernel
theorem dX2_cornerOf_50 : decode cX2_cornerOf 50 = .ok (.goto 44, 3) := by decide +kernel
theorem dX2_cornerOf_53 : decode cX2_cornerOf 53 = .ok (.iload 4, 2) := by decide +kernel
theorem dX2_cornerOf_55 : decode cX2_cornerOf 55 = .ok (.iload_n 2, 1) := by decide +kernel
theorem dX2_cornerOf_56 : decode cX2_cornerOf 56 = .ok (.if_icmp .ne 35, 3) := by decide +kernel
theorem dX2_cornerOf_59 : decode cX2_cornerOf 59 = .ok (.iload_n 3, 1) := by decide +kernel
theorem dX2_cornerOf_60 : decode cX2_cornerOf 60 = .ok (.ifCond .ne 13, 3) := by decide +kernel
theorem dX2_cornerOf_63 : decode cX2_cornerOf 63 = .ok (.aload_n 0, 1) := by decide +kernel
theorem dX2_cornerOf_64 : decode cX2_cornerOf 64 = .ok (.getfield 18, 3) := by decide +kernel
theorem dX2_cornerOf_67 : decode cX2_cornerOf 67 = .ok (.iload 5, 2) := by decide +kernel
theorem dX2_cornerOf_69 : decode cX2_cornerOf 69 = .ok (.iaload, 1) := by decide +kernel
theorem dX2_cornerOf_70 : decode cX2_cornerOf 70 = .ok (.goto 20, 3) := by decide +kernel
theorem dX2_cornerOf_73 : decode cX2_cornerOf 73 = .ok (.iload_n 3, 1) := by decide +kernel
theorem dX2_cornerOf_74 : decode cX2_cornerOf 74 = .ok (.iconst 1, 1) := by decide +kernel
theorem dX2_cornerOf_75 : decode cX2_cornerOf 75 = .ok (.if_icmp .ne 13, 3) := by decide +kernel
theorem dX2_cornerOf_78 : decode cX2_cornerOf 78 = .ok (.aload_n 0, 1) := by decide +kernel
theorem dX2_cornerOf_79 : decode cX2_cornerOf 79 = .ok (.getfield 22, 3) := by decide +kernel
theorem dX2_cornerOf_82 : decode cX2_cornerOf 82 = .ok (.iload 5, 2) := by decide +kernel
theorem dX2_cornerOf_84 : decode cX2_cornerOf 84 = .ok (.iaload, 1) := by decide +kernel
theorem dX2_cornerOf_85 : decode cX2_cornerOf 85 = .ok (.goto 5, 3) := by decide +kernel
theorem dX2_cornerOf_88 : decode cX2_cornerOf 88 = .ok (.iload 6, 2) := by decide +kernel
theorem dX2_cornerOf_90 : decode cX2_cornerOf 90 = .ok (.ireturn, 1) := by decide +kernel
theorem dX2_cornerOf_91 : decode cX2_cornerOf 91 = .ok (.iinc 4 1, 3) := by decide +kernel
theorem dX2_cornerOf_94 : decode cX2_cornerOf 94 = .ok (.iinc 6 1, 3) := by decide +kernel
theorem dX2_cornerOf_97 : decode cX2_cornerOf 97 = .ok (.goto (-71), 3) := by decide +kernel
theorem dX2_cornerOf_100 : decode cX2_cornerOf 100 = .ok (.iinc 5 1, 3) := by decide +kernel
theorem dX2_cornerOf_103 : decode cX2_cornerOf 103 = .ok (.goto (-97), 3) := by decide +kernel
theorem dX2_cornerOf_106 : decode cX2_cornerOf 106 = .ok (.bipush (-9), 2) := by decide +kernel
theorem dX2_cornerOf_108 : decode cX2_cornerOf 108 = .ok (.ireturn, 1) := by decide +kernel
set_option maxRecDepth 20000 in
theorem ggX2_isBare_X2_isThird : GoodIn wsX2_isBare wsX2_isThird := goodIn_r _ [9, 3, 17, 18, 19, 20, 21, 22, 23, 24] (by decide +kernel) (by decide +kernel)
set_option maxRecDepth 20000 in
theorem gX2_isBare_X2_isThird : GoodIn wsX2_isBare (wsV RX2 61 RX2 yX2_isThird wsX2_isThird) := goodIn_app (goodIn_of _ (by decide +kernel)) ggX2_isBare_X2_isThird
set_option maxRecDepth 20000 in
theorem ggX2_isBare_J6_bitCount_0f7a4 : GoodIn wsX2_isBare wsJ6_bitCount_0f7a4 := goodIn_r _ [13, 14, 15, 16] (by decide +kernel) (by decide +kernel)
set_option maxRecDepth 20000 in
theorem gX2_isBare_J6_bitCount_0f7a4 : GoodIn wsX2_isBare (va_wsS RX2 68 yJ6_bitCount_0f7a4 wsJ6_bitCount_0f7a4) := goodIn_app (goodIn_of _ (by decide +kernel)) ggX2_isBare_J6_bitCount_0f7a4
theorem dX2_isBare_0 : decode cX2_isBare 0 = .ok (.iconst 0, 1) := by decide +kernel
theorem dX2_isBare_1 : decode cX2_isBare 1 = .ok (.istore_n 3, 1) := by decide +kernel
theorem dX2_isBare_2 : decode cX2_isBare 2 = .ok (.iload_n 3, 1) := by decide +kernel
theorem dX2_isBare_3 : decode cX2_isBare 3 = .ok (.aload_n 0, 1) := by decide +kernel
theorem dX2_isBare_4 : decode cX2_isBare 4 = .ok (.getfield 12, 3) := by decide +kernel
theorem dX2_isBare_7 : decode cX2_isBare 7 = .ok (.getfield 50, 3) := by decide +kernel
theorem dX2_isBare_10 : decode cX2_isBare 10 = .ok (.if_icmp .ge 44, 3) := by decide +kernel
theorem dX2_isBare_13 : decode cX2_isBare 13 = .ok (.aload_n 0, 1) := by decide +kernel
theorem dX2_isBare_14 : decode cX2_isBare 14 = .ok (.iload_n 1, 1) := by decide +kernel
theorem dX2_isBare_15 : decode cX2_isBare 15 = .ok (.iload_n 3, 1) := by decide +kernel
theorem dX2_isBare_16 : decode cX2_isBare 16 = .ok (.iload_n 2, 1) := by decide +kernel
theorem dX2_isBare_17 : decode cX2_isBare 17 = .ok (.invokevirtual 61, 3) := by decide +kernel
theorem dX2_isBare_20 : decode cX2_isBare 20 = .ok (.ifCond .eq 28, 3) := by decide +kernel
theorem dX2_isBare_23 : decode cX2_isBare 23 = .ok (.aload_n 0, 1) := by decide +kernel
theorem dX2_isBare_24 : decode cX2_isBare 24 = .ok (.getfield 31, 3) := by decide +kernel
theorem dX2_isBare_27 : decode cX2_isBare 27 = .ok (.iload_n 1, 1) := by decide +kernel
theorem dX2_isBare_28 : decode cX2_isBare 28 = .ok (.bipush 8, 2) := by decide +kernel
theorem dX2_isBare_30 : decode cX2_isBare 30 = .ok (.imul, 1) := by decide +kernel
theorem dX2_isBare_31 : decode cX2_isBare 31 = .ok (.iload_n 3, 1) := by decide +kernel
theorem dX2_isBare_32 : decode cX2_isBare 32 = .ok (.iadd, 1) := by decide +kernel
theorem dX2_isBare_33 : decode cX2_isBare 33 = .ok (.iaload, 1) := by decide +kernel
theorem dX2_isBare_34 : decode cX2_isBare 34 = .ok (.aload_n 0, 1) := by decide +kernel
theorem dX2_isBare_35 : decode cX2_isBare 35 = .ok (.getfield 65, 3) := by decide +kernel
theorem dX2_isBare_38 : decode cX2_isBare 38 = .ok (.iand, 1) := by decide +kernel
theorem dX2_isBare_39 : decode cX2_isBare 39 = .ok (.invokestatic 68, 3) := by decide +kernel
theorem dX2_isBare_42 : decode cX2_isBare 42 = .ok (.iconst 2, 1) := by decide +kernel
theorem dX2_isBare_43 : decode cX2_isBare 43 = .ok (.if_icmp .lt 5, 3) := by decide +kernel
theorem dX2_isBare_46 : decode cX2_isBare 46 = .ok (.iconst 1, 1) := by decide +kernel
theorem dX2_isBare_47 : decode cX2_isBare 47 = .ok (.ireturn, 1) := by decide +kernel
theorem dX2_isBare_48 : decode cX2_isBare 48 = .ok (.iinc 3 1, 3) := by decide +kernel
theorem dX2_isBare_51 : decode cX2_isBare 51 = .ok (.goto (-49), 3) := by decide +kernel
theorem dX2_isBare_54 : decode cX2_isBare 54 = .ok (.iconst 0, 1) := by decide +kernel
theorem dX2_isBare_55 : decode cX2_isBare 55 = .ok (.ireturn, 1) := by decide +kernel
set_option maxRecDepth 20000 in
theorem ggX2_fenceAcross_X2_isThird : GoodIn wsX2_fenceAcross wsX2_isThird := goodIn_r _ [9, 10, 27, 28, 29, 30, 31, 32, 33, 34] (by decide +kernel) (by decide +kernel)
set_option maxRecDepth 20000 in
theorem gX2_fenceAcross_X2_isThird : GoodIn wsX2_fenceAcross (wsV RX2 61 RX2 yX2_isThird wsX2_isThird) := goodIn_app (goodIn_of _ (by decide +kernel)) ggX2_fenceAcross_X2_isThird
set_option maxRecDepth 20000 in
theorem ggX2_fenceAcross_X4_areParted : GoodIn wsX2_fenceAcross wsX4_areParted := goodIn_r _ [15, 16, 17, 18, 14, 19, 20, 21, 35, 36, 37] (by decide +kernel) (by decide +kernel)
set_option maxRecDepth 20000 in
theorem gX2_fenceAcross_X4_areParted : GoodIn wsX2_fenceAcross (wsV RX2 74 RX4 yX4_areParted wsX4_areParted) := goodIn_app (goodIn_of _ (by decide +kernel)) ggX2_fenceAcross_X4_areParted
set_option maxRecDepth 20000 in
theorem ggX2_fenceAcross_X2_fenceBetween : GoodIn wsX2_fenceAcross wsX2_fenceBetween := goodIn_r _ [25, 26, 27, 28, 29, 30, 31, 32, 33, 34] (by decide +kernel) (by decide +kernel)
set_option maxRecDepth 20000 in
theorem gX2_fenceAcross_X2_fenceBetween : GoodIn wsX2_fenceAcross (wsV RX2 57 RX2 yX2_fenceBetween wsX2_fenceBetween) := goodIn_app (goodIn_of _ (by decide +kernel)) ggX2_fenceAcross_X2_fenceBetween
theorem dX2_fenceAcross_0 : decode cX2_fenceAcross 0 = .ok (.bipush (-9), 2) := by decide +kernel
theorem dX2_fenceAcross_2 : decode cX2_fenceAcross 2 = .ok (.istore_n 3, 1) := by decide +kernel
theorem dX2_fenceAcross_3 : decode cX2_fenceAcross 3 = .ok (.bipush (-9), 2) := by decide +kernel
theorem dX2_fenceAcross_5 : decode cX2_fenceAcross 5 = .ok (.istore 4, 2) := by decide +kernel
theorem dX2_fenceAcross_7 : decode cX2_fenceAcross 7 = .ok (.iconst 0, 1) := by decide +kernel
theorem dX2_fenceAcross_8 : decode cX2_fenceAcross 8 = .ok (.istore 5, 2) := by decide +kernel
theorem dX2_fenceAcross_10 : decode cX2_fenceAcross 10 = .ok (.iload 5, 2) := by decide +kernel
theorem dX2_fenceAcross_12 : decode cX2_fenceAcross 12 = .ok (.aload_n 0, 1) := by decide +kernel
theorem dX2_fenceAcross_13 : decode cX2_fenceAcross 13 = .ok (.getfield 12, 3) := by decide +kernel
theorem dX2_fenceAcross_16 : decode cX2_fenceAcross 16 = .ok (.getfield 50, 3) := by decide +kernel
theorem dX2_fenceAcross_19 : decode cX2_fenceAcross 19 = .ok (.if_icmp .ge 27, 3) := by decide +kernel
theorem dX2_fenceAcross_22 : decode cX2_fenceAcross 22 = .ok (.aload_n 0, 1) := by decide +kernel
theorem dX2_fenceAcross_23 : decode cX2_fenceAcross 23 = .ok (.iload_n 1, 1) := by decide +kernel
theorem dX2_fenceAcross_24 : decode cX2_fenceAcross 24 = .ok (.iload 5, 2) := by decide +kernel
theorem dX2_fenceAcross_26 : decode cX2_fenceAcross 26 = .ok (.iload_n 2, 1) := by decide +kernel
theorem dX2_fenceAcross_27 : decode cX2_fenceAcross 27 = .ok (.invokevirtual 61, 3) := by decide +kernel
theorem dX2_fenceAcross_30 : decode cX2_fenceAcross 30 = .ok (.ifCond .eq 10, 3) := by decide +kernel
theorem dX2_fenceAcross_33 : decode cX2_fenceAcross 33 = .ok (.iload 4, 2) := by decide +kernel
theorem dX2_fenceAcross_35 : decode cX2_fenceAcross 35 = .ok (.istore_n 3, 1) := by decide +kernel
theorem dX2_fenceAcross_36 : decode cX2_fenceAcross 36 = .ok (.iload 5, 2) := by decide +kernel
theorem dX2_fenceAcross_38 : decode cX2_fenceAcross 38 = .ok (.istore 4, 2) := by decide +kernel
theorem dX2_fenceAcross_40 : decode cX2_fenceAcross 40 = .ok (.iinc 5 1, 3) := by decide +kernel
theorem dX2_fenceAcross_43 : decode cX2_fenceAcross 43 = .ok (.goto (-33), 3) := by decide +kernel
theorem dX2_fenceAcross_46 : decode cX2_fenceAcross 46 = .ok (.iload_n 3, 1) := by decide +kernel
theorem dX2_fenceAcross_47 : decode cX2_fenceAcross 47 = .ok (.bipush (-9), 2) := by decide +kernel
theorem dX2_fenceAcross_49 : decode cX2_fenceAcross 49 = .ok (.if_icmp .ne 6, 3) := by decide +kernel
theorem dX2_fenceAcross_52 : decode cX2_fenceAcross 52 = .ok (.bipush (-9), 2) := by decide +kernel
theorem dX2_fenceAcross_54 : decode cX2_fenceAcross 54 = .ok (.ireturn, 1) := by decide +kernel
theorem dX2_fenceAcross_55 : decode cX2_fenceAcross 55 = .ok (.aload_n 0, 1) := by decide +kernel
theorem dX2_fenceAcross_56 : decode cX2_fenceAcross 56 = .ok (.getfield 18, 3) := by decide +kernel
theorem dX2_fenceAcross_59 : decode cX2_fenceAcross 59 = .ok (.iload_n 1, 1) := by decide +kernel
theorem dX2_fenceAcross_60 : decode cX2_fenceAcross 60 = .ok (.iaload, 1) := by decide +kernel
theorem dX2_fenceAcross_61 : decode cX2_fenceAcross 61 = .ok (.istore 5, 2) := by decide +kernel
theorem dX2_fenceAcross_63 : decode cX2_fenceAcross 63 = .ok (.aload_n 0, 1) := by decide +kernel
theorem dX2_fenceAcross_64 : decode cX2_fenceAcross 64 = .ok (.getfield 22, 3) := by decide +kernel
theorem dX2_fenceAcross_67 : decode cX2_fenceAcross 67 = .ok (.iload_n 1, 1) := by decide +kernel
theorem dX2_fenceAcross_68 : decode cX2_fenceAcross 68 = .ok (.iaload, 1) := by decide +kernel
theorem dX2_fenceAcross_69 : decode cX2_fenceAcross 69 = .ok (.istore 6, 2) := by decide +kernel
theorem dX2_fenceAcross_71 : decode cX2_fenceAcross 71 = .ok (.aload_n 0, 1) := by decide +kernel
theorem dX2_fenceAcross_72 : decode cX2_fenceAcross 72 = .ok (.getfield 12, 3) := by decide +kernel
theorem dX2_fenceAcross_75 : decode cX2_fenceAcross 75 = .ok (.iload_n 3, 1) := by decide +kernel
theorem dX2_fenceAcross_76 : decode cX2_fenceAcross 76 = .ok (.iload 4, 2) := by decide +kernel
theorem dX2_fenceAcross_78 : decode cX2_fenceAcross 78 = .ok (.iload 5, 2) := by decide +kernel
theorem dX2_fenceAcross_80 : decode cX2_fenceAcross 80 = .ok (.iload 6, 2) := by decide +kernel
theorem dX2_fenceAcross_82 : decode cX2_fenceAcross 82 = .ok (.invokevirtual 74, 3) := by decide +kernel
theorem dX2_fenceAcross_85 : decode cX2_fenceAcross 85 = .ok (.ifCond .eq 24, 3) := by decide +kernel
theorem dX2_fenceAcross_88 : decode cX2_fenceAcross 88 = .ok (.aload_n 0, 1) := by decide +kernel
theorem dX2_fenceAcross_89 : decode cX2_fenceAcross 89 = .ok (.getfield 12, 3) := by decide +kernel
theorem dX2_fenceAcross_92 : decode cX2_fenceAcross 92 = .ok (.iload 5, 2) := by decide +kernel
theorem dX2_fenceAcross_94 : decode cX2_fenceAcross 94 = .ok (.iload 6, 2) := by decide +kernel
theorem dX2_fenceAcross_96 : decode cX2_fenceAcross 96 = .ok (.iload_n 3, 1) := by decide +kernel
theorem dX2_fenceAcross_97 : decode cX2_fenceAcross 97 = .ok (.iload 4, 2) := by decide +kernel
theorem dX2_fenceAcross_99 : decode cX2_fenceAcross 99 = .ok (.invokevirtual 74, 3) := by decide +kernel
theorem dX2_fenceAcross_102 : decode cX2_fenceAcross 102 = .ok (.ifCond .eq 7, 3) := by decide +kernel
theorem dX2_fenceAcross_105 : decode cX2_fenceAcross 105 = .ok (.iconst 1, 1) := by decide +kernel
theorem dX2_fenceAcross_106 : decode cX2_fenceAcross 106 = .ok (.goto 4, 3) := by decide +kernel
theorem dX2_fenceAcross_109 : decode cX2_fenceAcross 109 = .ok (.iconst 0, 1) := by decide +kernel
theorem dX2_fenceAcross_110 : decode cX2_fenceAcross 110 = .ok (.istore 7, 2) := by decide +kernel
theorem dX2_fenceAcross_112 : decode cX2_fenceAcross 112 = .ok (.iload 7, 2) := by decide +kernel
theorem dX2_fenceAcross_114 : decode cX2_fenceAcross 114 = .ok (.ifCond .eq 13, 3) := by decide +kernel
theorem dX2_fenceAcross_117 : decode cX2_fenceAcross 117 = .ok (.aload_n 0, 1) := by decide +kernel
theorem dX2_fenceAcross_118 : decode cX2_fenceAcross 118 = .ok (.iload_n 3, 1) := by decide +kernel
theorem dX2_fenceAcross_119 : decode cX2_fenceAcross 119 = .ok (.iload 4, 2) := by decide +kernel
theorem dX2_fenceAcross_121 : decode cX2_fenceAcross 121 = .ok (.invokevirtual 57, 3) := by decide +kernel
theorem dX2_fenceAcross_124 : decode cX2_fenceAcross 124 = .ok (.goto 5, 3) := by decide +kernel
theorem dX2_fenceAcross_127 : decode cX2_fenceAcross 127 = .ok (.bipush (-9), 2) := by decide +kernel
theorem dX2_fenceAcross_129 : decode cX2_fenceAcross 129 = .ok (.ireturn, 1) := by decide +kernel
theorem dX2_isThird_0 : decode cX2_isThird 0 = .ok (.aload_n 0, 1) := by decide +kernel
theorem dX2_isThird_1 : decode cX2_isThird 1 = .ok (.getfield 31, 3) := by decide +kernel
theorem dX2_isThird_4 : decode cX2_isThird 4 = .ok (.iload_n 1, 1) := by decide +kernel
theorem dX2_isThird_5 : decode cX2_isThird 5 = .ok (.bipush 8, 2) := by decide +kernel
theorem dX2_isThird_7 : decode cX2_isThird 7 = .ok (.imul, 1) := by decide +kernel
theorem dX2_isThird_8 : decode cX2_isThird 8 = .ok (.iload_n 2, 1) := by decide +kernel
theorem dX2_isThird_9 : decode cX2_isThird 9 = .ok (.iadd, 1) := by decide +kernel
theorem dX2_isThird_10 : decode cX2_isThird 10 = .ok (.iaload, 1) := by decide +kernel
theorem dX2_isThird_11 : decode cX2_isThird 11 = .ok (.istore 4, 2) := by decide +kernel
theorem dX2_isThird_13 : decode cX2_isThird 13 = .ok (.iload 4, 2) := by decide +kernel
theorem dX2_isThird_15 : decode cX2_isThird 15 = .ok (.ifCond .eq 16, 3) := by decide +kernel
theorem dX2_isThird_18 : decode cX2_isThird 18 = .ok (.iload 4, 2) := by decide +kernel
theorem dX2_isThird_20 : decode cX2_isThird 20 = .ok (.iload_n 3, 1) := by decide +kernel
theorem dX2_isThird_21 : decode cX2_isThird 21 = .ok (.iand, 1) := by decide +kernel
theorem dX2_isThird_22 : decode cX2_isThird 22 = .ok (.iload 4, 2) := by decide +kernel
theorem dX2_isThird_24 : decode cX2_isThird 24 = .ok (.if_icmp .ne 7, 3) := by decide +kernel
theorem dX2_isThird_27 : decode cX2_isThird 27 = .ok (.iconst 1, 1) := by decide +kernel
theorem dX2_isThird_28 : decode cX2_isThird 28 = .ok (.goto 4, 3) := by decide +kernel
theorem dX2_isThird_31 : decode cX2_isThird 31 = .ok (.iconst 0, 1) := by decide +kernel
theorem dX2_isThird_32 : decode cX2_isThird 32 = .ok (.ireturn, 1) := by decide +kernel
set_option maxRecDepth 20000 in
theorem ggX2_numberFences_X2_isOpen : GoodIn wsX2_numberFences wsX2_isOpen := goodIn_r _ [9, 2, 3, 10, 11, 12, 13, 14, 15, 16, 17, 18, 19, 20, 27, 28, 29, 30, 31, 32, 33, 34, 35, 36, 37] (by decide +kernel) (by decide +kernel)
set_option maxRecDepth 20000 in
theorem gX2_numberFences_X2_isOpen : GoodIn wsX2_numberFences (wsV RX2 78 RX2 yX2_isOpen wsX2_isOpen) := goodIn_app (goodIn_of _ (by decide +kernel)) ggX2_numberFences_X2_isOpen
set_option maxRecDepth 20000 in
theorem ggX2_numberFences_X2_addFence : GoodIn wsX2_numberFences wsX2_addFence := goodIn_r _ [24, 25, 1, 26, 27, 28, 29, 30, 31, 32, 33, 34] (by decide +kernel) (by decide +kernel)
set_option maxRecDepth 20000 in
theorem gX2_numberFences_X2_addFence : GoodIn wsX2_numberFences (wsV RX2 82 RX2 yX2_addFence wsX2_addFence) := goodIn_app (goodIn_of _ (by decide +kernel)) ggX2_numberFences_X2_addFence
theorem dX2_numberFences_0 : decode cX2_numberFences 0 = .ok (.aload_n 0, 1) := by decide +kernel
theorem dX2_numberFences_1 : decode cX2_numberFences 1 = .ok (.iconst 0, 1) := by decide +kernel
theorem dX2_numberFences_2 : decode cX2_numberFences 2 = .ok (.putfield 54, 3) := by decide +kernel
theorem dX2_numberFences_5 : decode cX2_numberFences 5 = .ok (.iconst 0, 1) := by decide +kernel
theorem dX2_numberFences_6 : decode cX2_numberFences 6 = .ok (.istore_n 1, 1) := by decide +kernel
theorem dX2_numberFences_7 : decode cX2_numberFences 7 = .ok (.iload_n 1, 1) := by decide +kernel
theorem dX2_numberFences_8 : decode cX2_numberFences 8 = .ok (.aload_n 0, 1) := by decide +kernel
theorem dX2_numberFences_9 : decode cX2_numberFences 9 = .ok (.getfield 12, 3) := by decide +kernel
theorem dX2_numberFences_12 : decode cX2_numberFences 12 = .ok (.getfield 50, 3) := by decide +kernel
theorem dX2_numberFences_15 : decode cX2_numberFences 15 = .ok (.if_icmp .ge 88, 3) := by decide +kernel
theorem dX2_numberFences_18 : decode cX2_numberFences 18 = .ok (.aload_n 0, 1) := by decide +kernel
theorem dX2_numberFences_19 : decode cX2_numberFences 19 = .ok (.getfield 28, 3) := by decide +kernel
theorem dX2_numberFences_22 : decode cX2_numberFences 22 = .ok (.iload_n 1, 1) := by decide +kernel
theorem dX2_numberFences_23 : decode cX2_numberFences 23 = .ok (.bipush 8, 2) := by decide +kernel
theorem dX2_numberFences_25 : decode cX2_numberFences 25 = .ok (.imul, 1) := by decide +kernel
theorem dX2_numberFences_26 : decode cX2_numberFences 26 = .ok (.iload_n 1, 1) := by decide +kernel
theorem dX2_numberFences_27 : decode cX2_numberFences 27 = .ok (.iadd, 1) := by decide +kernel
theorem dX2_numberFences_28 : decode cX2_numberFences 28 = .ok (.bipush (-9), 2) := by decide +kernel
theorem dX2_numberFences_30 : decode cX2_numberFences 30 = .ok (.iastore, 1) := by decide +kernel
theorem dX2_numberFences_31 : decode cX2_numberFences 31 = .ok (.iload_n 1, 1) := by decide +kernel
theorem dX2_numberFences_32 : decode cX2_numberFences 32 = .ok (.iconst 1, 1) := by decide +kernel
theorem dX2_numberFences_33 : decode cX2_numberFences 33 = .ok (.iadd, 1) := by decide +kernel
theorem dX2_numberFences_34 : decode cX2_numberFences 34 = .ok (.istore_n 2, 1) := by decide +kernel
theorem dX2_numberFences_35 : decode cX2_numberFences 35 = .ok (.iload_n 2, 1) := by decide +kernel
theorem dX2_numberFences_36 : decode cX2_numberFences 36 = .ok (.aload_n 0, 1) := by decide +kernel
theorem dX2_numberFences_37 : decode cX2_numberFences 37 = .ok (.getfield 12, 3) := by decide +kernel
theorem dX2_numberFences_40 : decode cX2_numberFences 40 = .ok (.getfield 50, 3) := by decide +kernel
theorem dX2_numberFences_43 : decode cX2_numberFences 43 = .ok (.if_icmp .ge 54, 3) := by decide +kernel
theorem dX2_numberFences_46 : decode cX2_numberFences 46 = .ok (.aload_n 0, 1) := by decide +kernel
theorem dX2_numberFences_47 : decode cX2_numberFences 47 = .ok (.iload_n 1, 1) := by decide +kernel
theorem dX2_numberFences_48 : decode cX2_numberFences 48 = .ok (.iload_n 2, 1) := by decide +kernel
theorem dX2_numberFences_49 : decode cX2_numberFences 49 = .ok (.invokevirtual 78, 3) := by decide +kernel
theorem dX2_numberFences_52 : decode cX2_numberFences 52 = .ok (.ifCond .eq 12, 3) := by decide +kernel
theorem dX2_numberFences_55 : decode cX2_numberFences 55 = .ok (.aload_n 0, 1) := by decide +kernel
theorem dX2_numberFences_56 : decode cX2_numberFences 56 = .ok (.iload_n 1, 1) := by decide +kernel
theorem dX2_numberFences_57 : decode cX2_numberFences 57 = .ok (.iload_n 2, 1) := by decide +kernel
theorem dX2_numberFences_58 : decode cX2_numberFences 58 = .ok (.invokevirtual 82, 3) := by decide +kernel
theorem dX2_numberFences_61 : decode cX2_numberFences 61 = .ok (.goto 5, 3) := by decide +kernel
theorem dX2_numberFences_64 : decode cX2_numberFences 64 = .ok (.bipush (-9), 2) := by decide +kernel
theorem dX2_numberFences_66 : decode cX2_numberFences 66 = .ok (.istore_n 3, 1) := by decide +kernel
theorem dX2_numberFences_67 : decode cX2_numberFences 67 = .ok (.aload_n 0, 1) := by decide +kernel
theorem dX2_numberFences_68 : decode cX2_numberFences 68 = .ok (.getfield 28, 3) := by decide +kernel
theorem dX2_numberFences_71 : decode cX2_numberFences 71 = .ok (.iload_n 1, 1) := by decide +kernel
theorem dX2_numberFences_72 : decode cX2_numberFences 72 = .ok (.bipush 8, 2) := by decide +kernel
theorem dX2_numberFences_74 : decode cX2_numberFences 74 = .ok (.imul, 1) := by decide +kernel
theorem dX2_numberFences_75 : decode cX2_numberFences 75 = .ok (.iload_n 2, 1) := by decide +kernel
theorem dX2_numberFences_76 : decode cX2_numberFences 76 = .ok (.iadd, 1) := by decide +kernel
theorem dX2_numberFences_77 : decode cX2_numberFences 77 = .ok (.iload_n 3, 1) := by decide +kernel
theorem dX2_numberFences_78 : decode cX2_numberFences 78 = .ok (.iastore, 1) := by decide +kernel
theorem dX2_numberFences_79 : decode cX2_numberFences 79 = .ok (.aload_n 0, 1) := by decide +kernel
theorem dX2_numberFences_80 : decode cX2_numberFences 80 = .ok (.getfield 28, 3) := by decide +kernel
theorem dX2_numberFences_83 : decode cX2_numberFences 83 = .ok (.iload_n 2, 1) := by decide +kernel
theorem dX2_numberFences_84 : decode cX2_numberFences 84 = .ok (.bipush 8, 2) := by decide +kernel
theorem dX2_numberFences_86 : decode cX2_numberFences 86 = .ok (.imul, 1) := by decide +kernel
theorem dX2_numberFences_87 : decode cX2_numberFences 87 = .ok (.iload_n 1, 1) := by decide +kernel
theorem dX2_numberFences_88 : decode cX2_numberFences 88 = .ok (.iadd, 1) := by decide +kernel
theorem dX2_numberFences_89 : decode cX2_numberFences 89 = .ok (.iload_n 3, 1) := by decide +kernel
theorem dX2_numberFences_90 : decode cX2_numberFences 90 = .ok (.iastore, 1) := by decide +kernel
theorem dX2_numberFences_91 : decode cX2_numberFences 91 = .ok (.iinc 2 1, 3) := by decide +kernel
theorem dX2_numberFences_94 : decode cX2_numberFences 94 = .ok (.goto (-59), 3) := by decide +kernel
theorem dX2_numberFences_97 : decode cX2_numberFences 97 = .ok (.iinc 1 1, 3) := by decide +kernel
theorem dX2_numberFences_100 : decode cX2_numberFences 100 = .ok (.goto (-93), 3) := by decide +kernel
theorem dX2_numberFences_103 : decode cX2_numberFences 103 = .ok (.return_, 1) := by decide +kernel
theorem dX2_addFence_0 : decode cX2_addFence 0 = .ok (.aload_n 0, 1) := by decide +kernel
theorem dX2_addFence_1 : decode cX2_addFence 1 = .ok (.getfield 18, 3) := by decide +kernel
theorem dX2_addFence_4 : decode cX2_addFence 4 = .ok (.aload_n 0, 1) := by decide +kernel
theorem dX2_addFence_5 : decode cX2_addFence 5 = .ok (.getfield 54, 3) := by decide +kernel
theorem dX2_addFence_8 : decode cX2_addFence 8 = .ok (.iload_n 1, 1) := by decide +kernel
theorem dX2_addFence_9 : decode cX2_addFence 9 = .ok (.iastore, 1) := by decide +kernel
theorem dX2_addFence_10 : decode cX2_addFence 10 = .ok (.aload_n 0, 1) := by decide +kernel
theorem dX2_addFence_11 : decode cX2_addFence 11 = .ok (.getfield 22, 3) := by decide +kernel
theorem dX2_addFence_14 : decode cX2_addFence 14 = .ok (.aload_n 0, 1) := by decide +kernel
theorem dX2_addFence_15 : decode cX2_addFence 15 = .ok (.getfield 54, 3) := by decide +kernel
theorem dX2_addFence_18 : decode cX2_addFence 18 = .ok (.iload_n 2, 1) := by decide +kernel
theorem dX2_addFence_19 : decode cX2_addFence 19 = .ok (.iastore, 1) := by decide +kernel
theorem dX2_addFence_20 : decode cX2_addFence 20 = .ok (.aload_n 0, 1) := by decide +kernel
theorem dX2_addFence_21 : decode cX2_addFence 21 = .ok (.dup, 1) := by decide +kernel
theorem dX2_addFence_22 : decode cX2_addFence 22 = .ok (.getfield 54, 3) := by decide +kernel
theorem dX2_addFence_25 : decode cX2_addFence 25 = .ok (.iconst 1, 1) := by decide +kernel
theorem dX2_addFence_26 : decode cX2_addFence 26 = .ok (.iadd, 1) := by decide +kernel
theorem dX2_addFence_27 : decode cX2_addFence 27 = .ok (.putfield 54, 3) := by decide +kernel
theorem dX2_addFence_30 : decode cX2_addFence 30 = .ok (.aload_n 0, 1) := by decide +kernel
theorem dX2_addFence_31 : decode cX2_addFence 31 = .ok (.getfield 54, 3) := by decide +kernel
theorem dX2_addFence_34 : decode cX2_addFence 34 = .ok (.iconst 1, 1) := by decide +kernel
theorem dX2_addFence_35 : decode cX2_addFence 35 = .ok (.isub, 1) := by decide +kernel
theorem dX2_addFence_36 : decode cX2_addFence 36 = .ok (.ireturn, 1) := by decide +kernel
set_option maxRecDepth 20000 in
theorem ggX2_isOpen_X4_isBetween : GoodIn wsX2_isOpen wsX4_isBetween := goodIn_r _ [7, 8, 9, 10, 11, 12, 6, 13, 22, 23, 24] (by decide +kernel) (by decide +kernel)
set_option maxRecDepth 20000 in
theorem gX2_isOpen_X4_isBetween : GoodIn wsX2_isOpen (wsV RX2 85 RX4 yX4_isBetween wsX4_isBetween) := goodIn_app (goodIn_of _ (by decide +kernel)) ggX2_isOpen_X4_isBetween
theorem dX2_isOpen_0 : decode cX2_isOpen 0 = .ok (.iconst 0, 1) := by decide +kernel
theorem dX2_isOpen_1 : decode cX2_isOpen 1 = .ok (.istore_n 3, 1) := by decide +kernel
theorem dX2_isOpen_2 : decode cX2_isOpen 2 = .ok (.iload_n 3, 1) := by decide +kernel
theorem dX2_isOpen_3 : decode cX2_isOpen 3 = .ok (.aload_n 0, 1) := by decide +kernel
theorem dX2_isOpen_4 : decode cX2_isOpen 4 = .ok (.getfield 12, 3) := by decide +kernel
theorem dX2_isOpen_7 : decode cX2_isOpen 7 = .ok (.getfield 50, 3) := by decide +kernel
theorem dX2_isOpen_10 : decode cX2_isOpen 10 = .ok (.if_icmp .ge 24, 3) := by decide +kernel
theorem dX2_isOpen_13 : decode cX2_isOpen 13 = .ok (.aload_n 0, 1) := by decide +kernel
theorem dX2_isOpen_14 : decode cX2_isOpen 14 = .ok (.getfield 12, 3) := by decide +kernel
theorem dX2_isOpen_17 : decode cX2_isOpen 17 = .ok (.iload_n 3, 1) := by decide +kernel
theorem dX2_isOpen_18 : decode cX2_isOpen 18 = .ok (.iload_n 1, 1) := by decide +kernel
theorem dX2_isOpen_19 : decode cX2_isOpen 19 = .ok (.iload_n 2, 1) := by decide +kernel
theorem dX2_isOpen_20 : decode cX2_isOpen 20 = .ok (.invokevirtual 85, 3) := by decide +kernel
theorem dX2_isOpen_23 : decode cX2_isOpen 23 = .ok (.ifCond .eq 5, 3) := by decide +kernel
theorem dX2_isOpen_26 : decode cX2_isOpen 26 = .ok (.iconst 0, 1) := by decide +kernel
theorem dX2_isOpen_27 : decode cX2_isOpen 27 = .ok (.ireturn, 1) := by decide +kernel
theorem dX2_isOpen_28 : decode cX2_isOpen 28 = .ok (.iinc 3 1, 3) := by decide +kernel
theorem dX2_isOpen_31 : decode cX2_isOpen 31 = .ok (.goto (-29), 3) := by decide +kernel
theorem dX2_isOpen_34 : decode cX2_isOpen 34 = .ok (.iconst 1, 1) := by decide +kernel
theorem dX2_isOpen_35 : decode cX2_isOpen 35 = .ok (.ireturn, 1) := by decide +kernel
set_option maxRecDepth 20000 in
theorem ggX2_findCrossings_X2_doCross : GoodIn wsX2_findCrossings wsX2_doCross := goodIn_r _ [7, 8, 9, 10, 11, 12, 13, 14, 15, 16, 17, 18, 19, 20, 21, 22, 23, 24, 25, 26, 27, 28, 29, 30, 31, 32] (by decide +kernel) (by decide +kernel)
set_option maxRecDepth 20000 in
theorem gX2_findCrossings_X2_doCross : GoodIn wsX2_findCrossings (wsV RX2 88 RX2 yX2_doCross wsX2_doCross) := goodIn_app (goodIn_of _ (by decide +kernel)) ggX2_findCrossings_X2_doCross
theorem dX2_findCrossings_0 : decode cX2_findCrossings 0 = .ok (.iconst 0, 1) := by decide +kernel
theorem dX2_findCrossings_1 : decode cX2_findCrossings 1 = .ok (.istore_n 1, 1) := by decide +kernel
theorem dX2_findCrossings_2 : decode cX2_findCrossings 2 = .ok (.iload_n 1, 1) := by decide +kernel
theorem dX2_findCrossings_3 : decode cX2_findCrossings 3 = .ok (.aload_n 0, 1) := by decide +kernel
theorem dX2_findCrossings_4 : decode cX2_findCrossings 4 = .ok (.getfield 54, 3) := by decide +kernel
theorem dX2_findCrossings_7 : decode cX2_findCrossings 7 = .ok (.if_icmp .ge 53, 3) := by decide +kernel
theorem dX2_findCrossings_10 : decode cX2_findCrossings 10 = .ok (.aload_n 0, 1) := by decide +kernel
theorem dX2_findCrossings_11 : decode cX2_findCrossings 11 = .ok (.getfield 25, 3) := by decide +kernel
theorem dX2_findCrossings_14 : decode cX2_findCrossings 14 = .ok (.iload_n 1, 1) := by decide +kernel
theorem dX2_findCrossings_15 : decode cX2_findCrossings 15 = .ok (.iconst 0, 1) := by decide +kernel
theorem dX2_findCrossings_16 : decode cX2_findCrossings 16 = .ok (.iastore, 1) := by decide +kernel
theorem dX2_findCrossings_17 : decode cX2_findCrossings 17 = .ok (.iconst 0, 1) := by decide +kernel
theorem dX2_findCrossings_18 : decode cX2_findCrossings 18 = .ok (.istore_n 2, 1) := by decide +kernel
theorem dX2_findCrossings_19 : decode cX2_findCrossings 19 = .ok (.iload_n 2, 1) := by decide +kernel
theorem dX2_findCrossings_20 : decode cX2_findCrossings 20 = .ok (.aload_n 0, 1) := by decide +kernel
theorem dX2_findCrossings_21 : decode cX2_findCrossings 21 = .ok (.getfield 54, 3) := by decide +kernel
theorem dX2_findCrossings_24 : decode cX2_findCrossings 24 = .ok (.if_icmp .ge 30, 3) := by decide +kernel
theorem dX2_findCrossings_27 : decode cX2_findCrossings 27 = .ok (.aload_n 0, 1) := by decide +kernel
theorem dX2_findCrossings_28 : decode cX2_findCrossings 28 = .ok (.iload_n 1, 1) := by decide +kernel
theorem dX2_findCrossings_29 : decode cX2_findCrossings 29 = .ok (.iload_n 2, 1) := by decide +kernel
theorem dX2_findCrossings_30 : decode cX2_findCrossings 30 = .ok (.invokevirtual 88, 3) := by decide +kernel
theorem dX2_findCrossings_33 : decode cX2_findCrossings 33 = .ok (.ifCond .eq 15, 3) := by decide +kernel
theorem dX2_findCrossings_36 : decode cX2_findCrossings 36 = .ok (.aload_n 0, 1) := by decide +kernel
theorem dX2_findCrossings_37 : decode cX2_findCrossings 37 = .ok (.getfield 25, 3) := by decide +kernel
theorem dX2_findCrossings_40 : decode cX2_findCrossings 40 = .ok (.iload_n 1, 1) := by decide +kernel
theorem dX2_findCrossings_41 : decode cX2_findCrossings 41 = .ok (.dup2, 1) := by decide +kernel
theorem dX2_findCrossings_42 : decode cX2_findCrossings 42 = .ok (.iaload, 1) := by decide +kernel
theorem dX2_findCrossings_43 : decode cX2_findCrossings 43 = .ok (.iconst 1, 1) := by decide +kernel
theorem dX2_findCrossings_44 : decode cX2_findCrossings 44 = .ok (.iload_n 2, 1) := by decide +kernel
theorem dX2_findCrossings_45 : decode cX2_findCrossings 45 = .ok (.ishl, 1) := by decide +kernel
theorem dX2_findCrossings_46 : decode cX2_findCrossings 46 = .ok (.ior, 1) := by decide +kernel
theorem dX2_findCrossings_47 : decode cX2_findCrossings 47 = .ok (.iastore, 1) := by decide +kernel
theorem dX2_findCrossings_48 : decode cX2_findCrossings 48 = .ok (.iinc 2 1, 3) := by decide +kernel
theorem dX2_findCrossings_51 : decode cX2_findCrossings 51 = .ok (.goto (-32), 3) := by decide +kernel
theorem dX2_findCrossings_54 : decode cX2_findCrossings 54 = .ok (.iinc 1 1, 3) := by decide +kernel
theorem dX2_findCrossings_57 : decode cX2_findCrossings 57 = .ok (.goto (-55), 3) := by decide +kernel
theorem dX2_findCrossings_60 : decode cX2_findCrossings 60 = .ok (.return_, 1) := by decide +kernel
set_option maxRecDepth 20000 in
theorem ggX2_doCross_X4_areParted : GoodIn wsX2_doCross wsX4_areParted := goodIn_r _ [8, 9, 10, 11, 7, 12, 13, 14, 23, 24, 25] (by decide +kernel) (by decide +kernel)
set_option maxRecDepth 20000 in
theorem gX2_doCross_X4_areParted : GoodIn wsX2_doCross (wsV RX2 74 RX4 yX4_areParted wsX4_areParted) := goodIn_app (goodIn_of _ (by decide +kernel)) ggX2_doCross_X4_areParted
theorem dX2_doCross_0 : decode cX2_doCross 0 = .ok (.aload_n 0, 1) := by decide +kernel
theorem dX2_doCross_1 : decode cX2_doCross 1 = .ok (.getfield 12, 3) := by decide +kernel
theorem dX2_doCross_4 : decode cX2_doCross 4 = .ok (.aload_n 0, 1) := by decide +kernel
theorem dX2_doCross_5 : decode cX2_doCross 5 = .ok (.getfield 18, 3) := by decide +kernel
theorem dX2_doCross_8 : decode cX2_doCross 8 = .ok (.iload_n 1, 1) := by decide +kernel
theorem dX2_doCross_9 : decode cX2_doCross 9 = .ok (.iaload, 1) := by decide +kernel
theorem dX2_doCross_10 : decode cX2_doCross 10 = .ok (.aload_n 0, 1) := by decide +kernel
theorem dX2_doCross_11 : decode cX2_doCross 11 = .ok (.getfield 22, 3) := by decide +kernel
theorem dX2_doCross_14 : decode cX2_doCross 14 = .ok (.iload_n 1, 1) := by decide +kernel
theorem dX2_doCross_15 : decode cX2_doCross 15 = .ok (.iaload, 1) := by decide +kernel
theorem dX2_doCross_16 : decode cX2_doCross 16 = .ok (.aload_n 0, 1) := by decide +kernel
theorem dX2_doCross_17 : decode cX2_doCross 17 = .ok (.getfield 18, 3) := by decide +kernel
theorem dX2_doCross_20 : decode cX2_doCross 20 = .ok (.iload_n 2, 1) := by decide +kernel
theorem dX2_doCross_21 : decode cX2_doCross 21 = .ok (.iaload, 1) := by decide +kernel
theorem dX2_doCross_22 : decode cX2_doCross 22 = .ok (.aload_n 0, 1) := by decide +kernel
theorem dX2_doCross_23 : decode cX2_doCross 23 = .ok (.getfield 22, 3) := by decide +kernel
theorem dX2_doCross_26 : decode cX2_doCross 26 = .ok (.iload_n 2, 1) := by decide +kernel
theorem dX2_doCross_27 : decode cX2_doCross 27 = .ok (.iaload, 1) := by decide +kernel
theorem dX2_doCross_28 : decode cX2_doCross 28 = .ok (.invokevirtual 74, 3) := by decide +kernel
theorem dX2_doCross_31 : decode cX2_doCross 31 = .ok (.ifCond .eq 41, 3) := by decide +kernel
theorem dX2_doCross_34 : decode cX2_doCross 34 = .ok (.aload_n 0, 1) := by decide +kernel
theorem dX2_doCross_35 : decode cX2_doCross 35 = .ok (.getfield 12, 3) := by decide +kernel
theorem dX2_doCross_38 : decode cX2_doCross 38 = .ok (.aload_n 0, 1) := by decide +kernel
theorem dX2_doCross_39 : decode cX2_doCross 39 = .ok (.getfield 18, 3) := by decide +kernel
theorem dX2_doCross_42 : decode cX2_doCross 42 = .ok (.iload_n 2, 1) := by decide +kernel
theorem dX2_doCross_43 : decode cX2_doCross 43 = .ok (.iaload, 1) := by decide +kernel
theorem dX2_doCross_44 : decode cX2_doCross 44 = .ok (.aload_n 0, 1) := by decide +kernel
theorem dX2_doCross_45 : decode cX2_doCross 45 = .ok (.getfield 22, 3) := by decide +kernel
theorem dX2_doCross_48 : decode cX2_doCross 48 = .ok (.iload_n 2, 1) := by decide +kernel
theorem dX2_doCross_49 : decode cX2_doCross 49 = .ok (.iaload, 1) := by decide +kernel
theorem dX2_doCross_50 : decode cX2_doCross 50 = .ok (.aload_n 0, 1) := by decide +kernel
theorem dX2_doCross_51 : decode cX2_doCross 51 = .ok (.getfield 18, 3) := by decide +kernel
theorem dX2_doCross_54 : decode cX2_doCross 54 = .ok (.iload_n 1, 1) := by decide +kernel
theorem dX2_doCross_55 : decode cX2_doCross 55 = .ok (.iaload, 1) := by decide +kernel
theorem dX2_doCross_56 : decode cX2_doCross 56 = .ok (.aload_n 0, 1) := by decide +kernel
theorem dX2_doCross_57 : decode cX2_doCross 57 = .ok (.getfield 22, 3) := by decide +kernel
theorem dX2_doCross_60 : decode cX2_doCross 60 = .ok (.iload_n 1, 1) := by decide +kernel
theorem dX2_doCross_61 : decode cX2_doCross 61 = .ok (.iaload, 1) := by decide +kernel
theorem dX2_doCross_62 : decode cX2_doCross 62 = .ok (.invokevirtual 74, 3) := by decide +kernel
theorem dX2_doCross_65 : decode cX2_doCross 65 = .ok (.ifCond .eq 7, 3) := by decide +kernel
theorem dX2_doCross_68 : decode cX2_doCross 68 = .ok (.iconst 1, 1) := by decide +kernel
theorem dX2_doCross_69 : decode cX2_doCross 69 = .ok (.goto 4, 3) := by decide +kernel
theorem dX2_doCross_72 : decode cX2_doCross 72 = .ok (.iconst 0, 1) := by decide +kernel
theorem dX2_doCross_73 : decode cX2_doCross 73 = .ok (.ireturn, 1) := by decide +kernel
set_option maxRecDepth 20000 in
theorem ggX2_findHems_X2_isHem : GoodIn wsX2_findHems wsX2_isHem := goodIn_r _ [7, 8, 9, 10, 11, 12, 13, 14, 15, 16, 17, 18, 19, 20, 21, 22, 23, 24, 25, 26, 27, 28, 29] (by decide +kernel) (by decide +kernel)
set_option maxRecDepth 20000 in
theorem gX2_findHems_X2_isHem : GoodIn wsX2_findHems (wsV RX2 91 RX2 yX2_isHem wsX2_isHem) := goodIn_app (goodIn_of _ (by decide +kernel)) ggX2_findHems_X2_isHem
theorem dX2_findHems_0 : decode cX2_findHems 0 = .ok (.aload_n 0, 1) := by decide +kernel
theorem dX2_findHems_1 : decode cX2_findHems 1 = .ok (.iconst 0, 1) := by decide +kernel
theorem dX2_findHems_2 : decode cX2_findHems 2 = .ok (.putfield 65, 3) := by decide +kernel
theorem dX2_findHems_5 : decode cX2_findHems 5 = .ok (.iconst 0, 1) := by decide +kernel
theorem dX2_findHems_6 : decode cX2_findHems 6 = .ok (.istore_n 1, 1) := by decide +kernel
theorem dX2_findHems_7 : decode cX2_findHems 7 = .ok (.iload_n 1, 1) := by decide +kernel
theorem dX2_findHems_8 : decode cX2_findHems 8 = .ok (.aload_n 0, 1) := by decide +kernel
theorem dX2_findHems_9 : decode cX2_findHems 9 = .ok (.getfield 54, 3) := by decide +kernel
theorem dX2_findHems_12 : decode cX2_findHems 12 = .ok (.if_icmp .ge 29, 3) := by decide +kernel
theorem dX2_findHems_15 : decode cX2_findHems 15 = .ok (.aload_n 0, 1) := by decide +kernel
theorem dX2_findHems_16 : decode cX2_findHems 16 = .ok (.iload_n 1, 1) := by decide +kernel
theorem dX2_findHems_17 : decode cX2_findHems 17 = .ok (.invokevirtual 91, 3) := by decide +kernel
theorem dX2_findHems_20 : decode cX2_findHems 20 = .ok (.ifCond .eq 15, 3) := by decide +kernel
theorem dX2_findHems_23 : decode cX2_findHems 23 = .ok (.aload_n 0, 1) := by decide +kernel
theorem dX2_findHems_24 : decode cX2_findHems 24 = .ok (.dup, 1) := by decide +kernel
theorem dX2_findHems_25 : decode cX2_findHems 25 = .ok (.getfield 65, 3) := by decide +kernel
theorem dX2_findHems_28 : decode cX2_findHems 28 = .ok (.iconst 1, 1) := by decide +kernel
theorem dX2_findHems_29 : decode cX2_findHems 29 = .ok (.iload_n 1, 1) := by decide +kernel
theorem dX2_findHems_30 : decode cX2_findHems 30 = .ok (.ishl, 1) := by decide +kernel
theorem dX2_findHems_31 : decode cX2_findHems 31 = .ok (.ior, 1) := by decide +kernel
theorem dX2_findHems_32 : decode cX2_findHems 32 = .ok (.putfield 65, 3) := by decide +kernel
theorem dX2_findHems_35 : decode cX2_findHems 35 = .ok (.iinc 1 1, 3) := by decide +kernel
theorem dX2_findHems_38 : decode cX2_findHems 38 = .ok (.goto (-31), 3) := by decide +kernel
theorem dX2_findHems_41 : decode cX2_findHems 41 = .ok (.return_, 1) := by decide +kernel
set_option maxRecDepth 20000 in
theorem ggX2_isHem_X4_side : GoodIn wsX2_isHem wsX4_side := goodIn_r _ [9, 10, 11, 20, 21, 22] (by decide +kernel) (by decide +kernel)
set_option maxRecDepth 20000 in
theorem gX2_isHem_X4_side : GoodIn wsX2_isHem (wsV RX2 95 RX4 yX4_side wsX4_side) := goodIn_app (goodIn_of _ (by decide +kernel)) ggX2_isHem_X4_side
theorem dX2_isHem_0 : decode cX2_isHem 0 = .ok (.iconst 0, 1) := by decide +kernel
theorem dX2_isHem_1 : decode cX2_isHem 1 = .ok (.istore_n 2, 1) := by decide +kernel
theorem dX2_isHem_2 : decode cX2_isHem 2 = .ok (.iconst 0, 1) := by decide +kernel
theorem dX2_isHem_3 : decode cX2_isHem 3 = .ok (.istore_n 3, 1) := by decide +kernel
theorem dX2_isHem_4 : decode cX2_isHem 4 = .ok (.iconst 0, 1) := by decide +kernel
theorem dX2_isHem_5 : decode cX2_isHem 5 = .ok (.istore 4, 2) := by decide +kernel
theorem dX2_isHem_7 : decode cX2_isHem 7 = .ok (.iload 4, 2) := by decide +kernel
theorem dX2_isHem_9 : decode cX2_isHem 9 = .ok (.aload_n 0, 1) := by decide +kernel
theorem dX2_isHem_10 : decode cX2_isHem 10 = .ok (.getfield 12, 3) := by decide +kernel
theorem dX2_isHem_13 : decode cX2_isHem 13 = .ok (.getfield 50, 3) := by decide +kernel
theorem dX2_isHem_16 : decode cX2_isHem 16 = .ok (.if_icmp .ge 62, 3) := by decide +kernel
theorem dX2_isHem_19 : decode cX2_isHem 19 = .ok (.aload_n 0, 1) := by decide +kernel
theorem dX2_isHem_20 : decode cX2_isHem 20 = .ok (.getfield 12, 3) := by decide +kernel
theorem dX2_isHem_23 : decode cX2_isHem 23 = .ok (.aload_n 0, 1) := by decide +kernel
theorem dX2_isHem_24 : decode cX2_isHem 24 = .ok (.getfield 18, 3) := by decide +kernel
theorem dX2_isHem_27 : decode cX2_isHem 27 = .ok (.iload_n 1, 1) := by decide +kernel
theorem dX2_isHem_28 : decode cX2_isHem 28 = .ok (.iaload, 1) := by decide +kernel
theorem dX2_isHem_29 : decode cX2_isHem 29 = .ok (.aload_n 0, 1) := by decide +kernel
theorem dX2_isHem_30 : decode cX2_isHem 30 = .ok (.getfield 22, 3) := by decide +kernel
theorem dX2_isHem_33 : decode cX2_isHem 33 = .ok (.iload_n 1, 1) := by decide +kernel
theorem dX2_isHem_34 : decode cX2_isHem 34 = .ok (.iaload, 1) := by decide +kernel
theorem dX2_isHem_35 : decode cX2_isHem 35 = .ok (.iload 4, 2) := by decide +kernel
theorem dX2_isHem_37 : decode cX2_isHem 37 = .ok (.invokevirtual 95, 3) := by decide +kernel
theorem dX2_isHem_40 : decode cX2_isHem 40 = .ok (.istore 5, 2) := by decide +kernel
theorem dX2_isHem_42 : decode cX2_isHem 42 = .ok (.iload_n 2, 1) := by decide +kernel
theorem dX2_isHem_43 : decode cX2_isHem 43 = .ok (.ifCond .ne 8, 3) := by decide +kernel
theorem dX2_isHem_46 : decode cX2_isHem 46 = .ok (.iload 5, 2) := by decide +kernel
theorem dX2_isHem_48 : decode cX2_isHem 48 = .ok (.ifCond .le 7, 3) := by decide +kernel
theorem dX2_isHem_51 : decode cX2_isHem 51 = .ok (.iconst 1, 1) := by decide +kernel
theorem dX2_isHem_52 : decode cX2_isHem 52 = .ok (.goto 4, 3) := by decide +kernel
theorem dX2_isHem_55 : decode cX2_isHem 55 = .ok (.iconst 0, 1) := by decide +kernel
theorem dX2_isHem_56 : decode cX2_isHem 56 = .ok (.istore_n 2, 1) := by decide +kernel
theorem dX2_isHem_57 : decode cX2_isHem 57 = .ok (.iload_n 3, 1) := by decide +kernel
theorem dX2_isHem_58 : decode cX2_isHem 58 = .ok (.ifCond .ne 8, 3) := by decide +kernel
theorem dX2_isHem_61 : decode cX2_isHem 61 = .ok (.iload 5, 2) := by decide +kernel
theorem dX2_isHem_63 : decode cX2_isHem 63 = .ok (.ifCond .ge 7, 3) := by decide +kernel
theorem dX2_isHem_66 : decode cX2_isHem 66 = .ok (.iconst 1, 1) := by decide +kernel
theorem dX2_isHem_67 : decode cX2_isHem 67 = .ok (.goto 4, 3) := by decide +kernel
theorem dX2_isHem_70 : decode cX2_isHem 70 = .ok (.iconst 0, 1) := by decide +kernel
theorem dX2_isHem_71 : decode cX2_isHem 71 = .ok (.istore_n 3, 1) := by decide +kernel
theorem dX2_isHem_72 : decode cX2_isHem 72 = .ok (.iinc 4 1, 3) := by decide +kernel
theorem dX2_isHem_75 : decode cX2_isHem 75 = .ok (.goto (-68), 3) := by decide +kernel
theorem dX2_isHem_78 : decode cX2_isHem 78 = .ok (.iload_n 2, 1) := by decide +kernel
theorem dX2_isHem_79 : decode cX2_isHem 79 = .ok (.ifCond .eq 7, 3) := by decide +kernel
theorem dX2_isHem_82 : decode cX2_isHem 82 = .ok (.iload_n 3, 1) := by decide +kernel
theorem dX2_isHem_83 : decode cX2_isHem 83 = .ok (.ifCond .ne 7, 3) := by decide +kernel
theorem dX2_isHem_86 : decode cX2_isHem 86 = .ok (.iconst 1, 1) := by decide +kernel
theorem dX2_isHem_87 : decode cX2_isHem 87 = .ok (.goto 4, 3) := by decide +kernel
theorem dX2_isHem_90 : decode cX2_isHem 90 = .ok (.iconst 0, 1) := by decide +kernel
theorem dX2_isHem_91 : decode cX2_isHem 91 = .ok (.ireturn, 1) := by decide +kernel
set_option maxRecDepth 20000 in
theorem ggX2_findSides_X2_sidesOf : GoodIn wsX2_findSides wsX2_sidesOf := goodIn_r _ [9, 10, 11, 2, 3, 12, 13, 14, 8, 15, 16, 17, 18, 19, 20, 21, 22, 23, 24, 25, 26, 27, 28, 29, 30, 31, 32, 33, 34, 35, 36, 37, 38, 39] (by decide +kernel) (by decide +kernel)
set_option maxRecDepth 20000 in
theorem gX2_findSides_X2_sidesOf : GoodIn wsX2_findSides (wsV RX2 99 RX2 yX2_sidesOf wsX2_sidesOf) := goodIn_app (goodIn_of _ (by decide +kernel)) ggX2_findSides_X2_sidesOf
theorem dX2_findSides_0 : decode cX2_findSides 0 = .ok (.iconst 0, 1) := by decide +kernel
theorem dX2_findSides_1 : decode cX2_findSides 1 = .ok (.istore_n 1, 1) := by decide +kernel
theorem dX2_findSides_2 : decode cX2_findSides 2 = .ok (.iload_n 1, 1) := by decide +kernel
theorem dX2_findSides_3 : decode cX2_findSides 3 = .ok (.aload_n 0, 1) := by decide +kernel
theorem dX2_findSides_4 : decode cX2_findSides 4 = .ok (.getfield 54, 3) := by decide +kernel
theorem dX2_findSides_7 : decode cX2_findSides 7 = .ok (.if_icmp .ge 45, 3) := by decide +kernel
theorem dX2_findSides_10 : decode cX2_findSides 10 = .ok (.iconst 0, 1) := by decide +kernel
theorem dX2_findSides_11 : decode cX2_findSides 11 = .ok (.istore_n 2, 1) := by decide +kernel
theorem dX2_findSides_12 : decode cX2_findSides 12 = .ok (.iload_n 2, 1) := by decide +kernel
theorem dX2_findSides_13 : decode cX2_findSides 13 = .ok (.aload_n 0, 1) := by decide +kernel
theorem dX2_findSides_14 : decode cX2_findSides 14 = .ok (.getfield 12, 3) := by decide +kernel
theorem dX2_findSides_17 : decode cX2_findSides 17 = .ok (.getfield 50, 3) := by decide +kernel
theorem dX2_findSides_20 : decode cX2_findSides 20 = .ok (.if_icmp .ge 26, 3) := by decide +kernel
theorem dX2_findSides_23 : decode cX2_findSides 23 = .ok (.aload_n 0, 1) := by decide +kernel
theorem dX2_findSides_24 : decode cX2_findSides 24 = .ok (.getfield 31, 3) := by decide +kernel
theorem dX2_findSides_27 : decode cX2_findSides 27 = .ok (.iload_n 1, 1) := by decide +kernel
theorem dX2_findSides_28 : decode cX2_findSides 28 = .ok (.bipush 8, 2) := by decide +kernel
theorem dX2_findSides_30 : decode cX2_findSides 30 = .ok (.imul, 1) := by decide +kernel
theorem dX2_findSides_31 : decode cX2_findSides 31 = .ok (.iload_n 2, 1) := by decide +kernel
theorem dX2_findSides_32 : decode cX2_findSides 32 = .ok (.iadd, 1) := by decide +kernel
theorem dX2_findSides_33 : decode cX2_findSides 33 = .ok (.aload_n 0, 1) := by decide +kernel
theorem dX2_findSides_34 : decode cX2_findSides 34 = .ok (.iload_n 1, 1) := by decide +kernel
theorem dX2_findSides_35 : decode cX2_findSides 35 = .ok (.iload_n 2, 1) := by decide +kernel
theorem dX2_findSides_36 : decode cX2_findSides 36 = .ok (.invokevirtual 99, 3) := by decide +kernel
theorem dX2_findSides_39 : decode cX2_findSides 39 = .ok (.iastore, 1) := by decide +kernel
theorem dX2_findSides_40 : decode cX2_findSides 40 = .ok (.iinc 2 1, 3) := by decide +kernel
theorem dX2_findSides_43 : decode cX2_findSides 43 = .ok (.goto (-31), 3) := by decide +kernel
theorem dX2_findSides_46 : decode cX2_findSides 46 = .ok (.iinc 1 1, 3) := by decide +kernel
theorem dX2_findSides_49 : decode cX2_findSides 49 = .ok (.goto (-47), 3) := by decide +kernel
theorem dX2_findSides_52 : decode cX2_findSides 52 = .ok (.return_, 1) := by decide +kernel
set_option maxRecDepth 20000 in
theorem ggX2_sidesOf_X2_fenceBetween : GoodIn wsX2_sidesOf wsX2_fenceBetween := goodIn_r _ [9, 10, 23, 24, 25, 26, 27, 28, 29, 30] (by decide +kernel) (by decide +kernel)
set_option maxRecDepth 20000 in
theorem gX2_sidesOf_X2_fenceBetween : GoodIn wsX2_sidesOf (wsV RX2 57 RX2 yX2_fenceBetween wsX2_fenceBetween) := goodIn_app (goodIn_of _ (by decide +kernel)) ggX2_sidesOf_X2_fenceBetween
set_option maxRecDepth 20000 in
theorem ggX2_sidesOf_X4_side : GoodIn wsX2_sidesOf wsX4_side := goodIn_r _ [15, 16, 17, 31, 32, 33] (by decide +kernel) (by decide +kernel)
set_option maxRecDepth 20000 in
theorem gX2_sidesOf_X4_side : GoodIn wsX2_sidesOf (wsV RX2 95 RX4 yX4_side wsX4_side) := goodIn_app (goodIn_of _ (by decide +kernel)) ggX2_sidesOf_X4_side
set_option maxRecDepth 20000 in
theorem ggX2_sidesOf_X4_isWithin : GoodIn wsX2_sidesOf wsX4_isWithin := goodIn_r _ [21, 22, 12, 13, 14, 15, 16, 17, 31, 32, 33] (by decide +kernel) (by decide +kernel)
set_option maxRecDepth 20000 in
theorem gX2_sidesOf_X4_isWithin : GoodIn wsX2_sidesOf (wsV RX2 102 RX4 yX4_isWithin wsX4_isWithin) := goodIn_app (goodIn_of _ (by decide +kernel)) ggX2_sidesOf_X4_isWithin
theorem dX2_sidesOf_0 : decode cX2_sidesOf 0 = .ok (.aload_n 0, 1) := by decide +kernel
theorem dX2_sidesOf_1 : decode cX2_sidesOf 1 = .ok (.getfield 18, 3) := by decide +kernel
theorem dX2_sidesOf_4 : decode cX2_sidesOf 4 = .ok (.iload_n 1, 1) := by decide +kernel
theorem dX2_sidesOf_5 : decode cX2_sidesOf 5 = .ok (.iaload, 1) := by decide +kernel
theorem dX2_sidesOf_6 : decode cX2_sidesOf 6 = .ok (.istore_n 3, 1) := by decide +kernel
theorem dX2_sidesOf_7 : decode cX2_sidesOf 7 = .ok (.aload_n 0, 1) := by decide +kernel
theorem dX2_sidesOf_8 : decode cX2_sidesOf 8 = .ok (.getfield 22, 3) := by decide +kernel
theorem dX2_sidesOf_11 : decode cX2_sidesOf 11 = .ok (.iload_n 1, 1) := by decide +kernel
theorem dX2_sidesOf_12 : decode cX2_sidesOf 12 = .ok (.iaload, 1) := by decide +kernel
theorem dX2_sidesOf_13 : decode cX2_sidesOf 13 = .ok (.istore 4, 2) := by decide +kernel
theorem dX2_sidesOf_15 : decode cX2_sidesOf 15 = .ok (.aload_n 0, 1) := by decide +kernel
theorem dX2_sidesOf_16 : decode cX2_sidesOf 16 = .ok (.iload_n 3, 1) := by decide +kernel
theorem dX2_sidesOf_17 : decode cX2_sidesOf 17 = .ok (.iload_n 2, 1) := by decide +kernel
theorem dX2_sidesOf_18 : decode cX2_sidesOf 18 = .ok (.invokevirtual 57, 3) := by decide +kernel
theorem dX2_sidesOf_21 : decode cX2_sidesOf 21 = .ok (.istore 5, 2) := by decide +kernel
theorem dX2_sidesOf_23 : decode cX2_sidesOf 23 = .ok (.aload_n 0, 1) := by decide +kernel
theorem dX2_sidesOf_24 : decode cX2_sidesOf 24 = .ok (.iload 4, 2) := by decide +kernel
theorem dX2_sidesOf_26 : decode cX2_sidesOf 26 = .ok (.iload_n 2, 1) := by decide +kernel
theorem dX2_sidesOf_27 : decode cX2_sidesOf 27 = .ok (.invokevirtual 57, 3) := by decide +kernel
theorem dX2_sidesOf_30 : decode cX2_sidesOf 30 = .ok (.istore 6, 2) := by decide +kernel
theorem dX2_sidesOf_32 : decode cX2_sidesOf 32 = .ok (.iload 5, 2) := by decide +kernel
theorem dX2_sidesOf_34 : decode cX2_sidesOf 34 = .ok (.bipush (-9), 2) := by decide +kernel
theorem dX2_sidesOf_36 : decode cX2_sidesOf 36 = .ok (.if_icmp .eq 24, 3) := by decide +kernel
theorem dX2_sidesOf_39 : decode cX2_sidesOf 39 = .ok (.iload 6, 2) := by decide +kernel
theorem dX2_sidesOf_41 : decode cX2_sidesOf 41 = .ok (.bipush (-9), 2) := by decide +kernel
theorem dX2_sidesOf_43 : decode cX2_sidesOf 43 = .ok (.if_icmp .eq 17, 3) := by decide +kernel
theorem dX2_sidesOf_46 : decode cX2_sidesOf 46 = .ok (.aload_n 0, 1) := by decide +kernel
theorem dX2_sidesOf_47 : decode cX2_sidesOf 47 = .ok (.getfield 12, 3) := by decide +kernel
theorem dX2_sidesOf_50 : decode cX2_sidesOf 50 = .ok (.iload_n 3, 1) := by decide +kernel
theorem dX2_sidesOf_51 : decode cX2_sidesOf 51 = .ok (.iload 4, 2) := by decide +kernel
theorem dX2_sidesOf_53 : decode cX2_sidesOf 53 = .ok (.iload_n 2, 1) := by decide +kernel
theorem dX2_sidesOf_54 : decode cX2_sidesOf 54 = .ok (.invokevirtual 95, 3) := by decide +kernel
theorem dX2_sidesOf_57 : decode cX2_sidesOf 57 = .ok (.ifCond .ne 5, 3) := by decide +kernel
theorem dX2_sidesOf_60 : decode cX2_sidesOf 60 = .ok (.iconst 0, 1) := by decide +kernel
theorem dX2_sidesOf_61 : decode cX2_sidesOf 61 = .ok (.ireturn, 1) := by decide +kernel
theorem dX2_sidesOf_62 : decode cX2_sidesOf 62 = .ok (.iconst 0, 1) := by decide +kernel
theorem dX2_sidesOf_63 : decode cX2_sidesOf 63 = .ok (.istore 7, 2) := by decide +kernel
theorem dX2_sidesOf_65 : decode cX2_sidesOf 65 = .ok (.iload 7, 2) := by decide +kernel
theorem dX2_sidesOf_67 : decode cX2_sidesOf 67 = .ok (.aload_n 0, 1) := by decide +kernel
theorem dX2_sidesOf_68 : decode cX2_sidesOf 68 = .ok (.getfield 12, 3) := by decide +kernel
theorem dX2_sidesOf_71 : decode cX2_sidesOf 71 = .ok (.getfield 50, 3) := by decide +kernel
theorem dX2_sidesOf_74 : decode cX2_sidesOf 74 = .ok (.if_icmp .ge 27, 3) := by decide +kernel
theorem dX2_sidesOf_77 : decode cX2_sidesOf 77 = .ok (.aload_n 0, 1) := by decide +kernel
theorem dX2_sidesOf_78 : decode cX2_sidesOf 78 = .ok (.getfield 12, 3) := by decide +kernel
theorem dX2_sidesOf_81 : decode cX2_sidesOf 81 = .ok (.iload 7, 2) := by decide +kernel
theorem dX2_sidesOf_83 : decode cX2_sidesOf 83 = .ok (.iload_n 3, 1) := by decide +kernel
theorem dX2_sidesOf_84 : decode cX2_sidesOf 84 = .ok (.iload 4, 2) := by decide +kernel
theorem dX2_sidesOf_86 : decode cX2_sidesOf 86 = .ok (.iload_n 2, 1) := by decide +kernel
theorem dX2_sidesOf_87 : decode cX2_sidesOf 87 = .ok (.invokevirtual 102, 3) := by decide +kernel
theorem dX2_sidesOf_90 : decode cX2_sidesOf 90 = .ok (.ifCond .eq 5, 3) := by decide +kernel
theorem dX2_sidesOf_93 : decode cX2_sidesOf 93 = .ok (.iconst 0, 1) := by decide +kernel
theorem dX2_sidesOf_94 : decode cX2_sidesOf 94 = .ok (.ireturn, 1) := by decide +kernel
theorem dX2_sidesOf_95 : decode cX2_sidesOf 95 = .ok (.iinc 7 1, 3) := by decide +kernel
theorem dX2_sidesOf_98 : decode cX2_sidesOf 98 = .ok (.goto (-33), 3) := by decide +kernel
theorem dX2_sidesOf_101 : decode cX2_sidesOf 101 = .ok (.iconst 1, 1) := by decide +kernel
theorem dX2_sidesOf_102 : decode cX2_sidesOf 102 = .ok (.iload_n 1, 1) := by decide +kernel
theorem dX2_sidesOf_103 : decode cX2_sidesOf 103 = .ok (.ishl, 1) := by decide +kernel
theorem dX2_sidesOf_104 : decode cX2_sidesOf 104 = .ok (.iconst 1, 1) := by decide +kernel
theorem dX2_sidesOf_105 : decode cX2_sidesOf 105 = .ok (.iload 5, 2) := by decide +kernel
theorem dX2_sidesOf_107 : decode cX2_sidesOf 107 = .ok (.ishl, 1) := by decide +kernel
theorem dX2_sidesOf_108 : decode cX2_sidesOf 108 = .ok (.ior, 1) := by decide +kernel
theorem dX2_sidesOf_109 : decode cX2_sidesOf 109 = .ok (.iconst 1, 1) := by decide +kernel
theorem dX2_sidesOf_110 : decode cX2_sidesOf 110 = .ok (.iload 6, 2) := by decide +kernel
theorem dX2_sidesOf_112 : decode cX2_sidesOf 112 = .ok (.ishl, 1) := by decide +kernel
theorem dX2_sidesOf_113 : decode cX2_sidesOf 113 = .ok (.ior, 1) := by decide +kernel
theorem dX2_sidesOf_114 : decode cX2_sidesOf 114 = .ok (.ireturn, 1) := by decide +kernel
theorem dX3_init_0 : decode cX3_init 0 = .ok (.aload_n 0, 1) := by decide +kernel
theorem dX3_init_1 : decode cX3_init 1 = .ok (.invokespecial 3, 3) := by decide +kernel
theorem dX3_init_4 : decode cX3_init 4 = .ok (.aload_n 0, 1) := by decide +kernel
theorem dX3_init_5 : decode cX3_init 5 = .ok (.bipush 10, 2) := by decide +kernel
theorem dX3_init_7 : decode cX3_init 7 = .ok (.newarray .int, 2) := by decide +kernel
theorem dX3_init_9 : decode cX3_init 9 = .ok (.putfield 9, 3) := by decide +kernel
theorem dX3_init_12 : decode cX3_init 12 = .ok (.return_, 1) := by decide +kernel
theorem dX3_forget_0 : decode cX3_forget 0 = .ok (.aload_n 0, 1) := by decide +kernel
theorem dX3_forget_1 : decode cX3_forget 1 = .ok (.iconst 0, 1) := by decide +kernel
theorem dX3_forget_2 : decode cX3_forget 2 = .ok (.putfield 15, 3) := by decide +kernel
theorem dX3_forget_5 : decode cX3_forget 5 = .ok (.return_, 1) := by decide +kernel
theorem dX3_keep_0 : decode cX3_keep 0 = .ok (.aload_n 0, 1) := by decide +kernel
theorem dX3_keep_1 : decode cX3_keep 1 = .ok (.getfield 9, 3) := by decide +kernel
theorem dX3_keep_4 : decode cX3_keep 4 = .ok (.aload_n 0, 1) := by decide +kernel
theorem dX3_keep_5 : decode cX3_keep 5 = .ok (.getfield 19, 3) := by decide +kernel
theorem dX3_keep_8 : decode cX3_keep 8 = .ok (.iload_n 1, 1) := by decide +kernel
theorem dX3_keep_9 : decode cX3_keep 9 = .ok (.iastore, 1) := by decide +kernel
theorem dX3_keep_10 : decode cX3_keep 10 = .ok (.aload_n 0, 1) := by decide +kernel
theorem dX3_keep_11 : decode cX3_keep 11 = .ok (.aload_n 0, 1) := by decide +kernel
theorem dX3_keep_12 : decode cX3_keep 12 = .ok (.getfield 19, 3) := by decide +kernel
theorem dX3_keep_15 : decode cX3_keep 15 = .ok (.iconst 1, 1) := by decide +kernel
theorem dX3_keep_16 : decode cX3_keep 16 = .ok (.iadd, 1) := by decide +kernel
theorem dX3_keep_17 : decode cX3_keep 17 = .ok (.bipush 10, 2) := by decide +kernel
theorem dX3_keep_19 : decode cX3_keep 19 = .ok (.irem, 1) := by decide +kernel
theorem dX3_keep_20 : decode cX3_keep 20 = .ok (.putfield 19, 3) := by decide +kernel
theorem dX3_keep_23 : decode cX3_keep 23 = .ok (.aload_n 0, 1) := by decide +kernel
theorem dX3_keep_24 : decode cX3_keep 24 = .ok (.aload_n 0, 1) := by decide +kernel
theorem dX3_keep_25 : decode cX3_keep 25 = .ok (.getfield 15, 3) := by decide +kernel
theorem dX3_keep_28 : decode cX3_keep 28 = .ok (.iconst 1, 1) := by decide +kernel
theorem dX3_keep_29 : decode cX3_keep 29 = .ok (.iadd, 1) := by decide +kernel
theorem dX3_keep_30 : decode cX3_keep 30 = .ok (.bipush 10, 2) := by decide +kernel
theorem dX3_keep_32 : decode cX3_keep 32 = .ok (.invokestatic 22, 3) := by decide +kernel
theorem dX3_keep_35 : decode cX3_keep 35 = .ok (.putfield 15, 3) := by decide +kernel
theorem dX3_keep_38 : decode cX3_keep 38 = .ok (.return_, 1) := by decide +kernel
theorem dX3_latest_0 : decode cX3_latest 0 = .ok (.aload_n 0, 1) := by decide +kernel
theorem dX3_latest_1 : decode cX3_latest 1 = .ok (.aload_n 0, 1) := by decide +kernel
theorem dX3_latest_2 : decode cX3_latest 2 = .ok (.getfield 19, 3) := by decide +kernel
theorem dX3_latest_5 : decode cX3_latest 5 = .ok (.bipush 10, 2) := by decide +kernel
theorem dX3_latest_7 : decode cX3_latest 7 = .ok (.iadd, 1) := by decide +kernel
theorem dX3_latest_8 : decode cX3_latest 8 = .ok (.iconst 1, 1) := by decide +kernel
theorem dX3_latest_9 : decode cX3_latest 9 = .ok (.isub, 1) := by decide +kernel
theorem dX3_latest_10 : decode cX3_latest 10 = .ok (.bipush 10, 2) := by decide +kernel
theorem dX3_latest_12 : decode cX3_latest 12 = .ok (.irem, 1) := by decide +kernel
theorem dX3_latest_13 : decode cX3_latest 13 = .ok (.putfield 19, 3) := by decide +kernel
theorem dX3_latest_16 : decode cX3_latest 16 = .ok (.aload_n 0, 1) := by decide +kernel
theorem dX3_latest_17 : decode cX3_latest 17 = .ok (.dup, 1) := by decide +kernel
theorem dX3_latest_18 : decode cX3_latest 18 = .ok (.getfield 15, 3) := by decide +kernel
theorem dX3_latest_21 : decode cX3_latest 21 = .ok (.iconst 1, 1) := by decide +kernel
theorem dX3_latest_22 : decode cX3_latest 22 = .ok (.isub, 1) := by decide +kernel
theorem dX3_latest_23 : decode cX3_latest 23 = .ok (.putfield 15, 3) := by decide +kernel
theorem dX3_latest_26 : decode cX3_latest 26 = .ok (.aload_n 0, 1) := by decide +kernel
theorem dX3_latest_27 : decode cX3_latest 27 = .ok (.getfield 9, 3) := by decide +kernel
theorem dX3_latest_30 : decode cX3_latest 30 = .ok (.aload_n 0, 1) := by decide +kernel
theorem dX3_latest_31 : decode cX3_latest 31 = .ok (.getfield 19, 3) := by decide +kernel
theorem dX3_latest_34 : decode cX3_latest 34 = .ok (.iaload, 1) := by decide +kernel
theorem dX3_latest_35 : decode cX3_latest 35 = .ok (.ireturn, 1) := by decide +kernel
theorem dX4_init_0 : decode cX4_init 0 = .ok (.aload_n 0, 1) := by decide +kernel
theorem dX4_init_1 : decode cX4_init 1 = .ok (.invokespecial 3, 3) := by decide +kernel
theorem dX4_init_4 : decode cX4_init 4 = .ok (.aload_n 0, 1) := by decide +kernel
theorem dX4_init_5 : decode cX4_init 5 = .ok (.bipush 8, 2) := by decide +kernel
theorem dX4_init_7 : decode cX4_init 7 = .ok (.newarray .int, 2) := by decide +kernel
theorem dX4_init_9 : decode cX4_init 9 = .ok (.putfield 9, 3) := by decide +kernel
theorem dX4_init_12 : decode cX4_init 12 = .ok (.aload_n 0, 1) := by decide +kernel
theorem dX4_init_13 : decode cX4_init 13 = .ok (.bipush 8, 2) := by decide +kernel
theorem dX4_init_15 : decode cX4_init 15 = .ok (.newarray .int, 2) := by decide +kernel
theorem dX4_init_17 : decode cX4_init 17 = .ok (.putfield 15, 3) := by decide +kernel
theorem dX4_init_20 : decode cX4_init 20 = .ok (.return_, 1) := by decide +kernel
theorem dX4_standsAt_0 : decode cX4_standsAt 0 = .ok (.iconst 0, 1) := by decide +kernel
theorem dX4_standsAt_1 : decode cX4_standsAt 1 = .ok (.istore_n 3, 1) := by decide +kernel
theorem dX4_standsAt_2 : decode cX4_standsAt 2 = .ok (.iload_n 3, 1) := by decide +kernel
theorem dX4_standsAt_3 : decode cX4_standsAt 3 = .ok (.aload_n 0, 1) := by decide +kernel
theorem dX4_standsAt_4 : decode cX4_standsAt 4 = .ok (.getfield 18, 3) := by decide +kernel
theorem dX4_standsAt_7 : decode cX4_standsAt 7 = .ok (.if_icmp .ge 31, 3) := by decide +kernel
theorem dX4_standsAt_10 : decode cX4_standsAt 10 = .ok (.aload_n 0, 1) := by decide +kernel
theorem dX4_standsAt_11 : decode cX4_standsAt 11 = .ok (.getfield 9, 3) := by decide +kernel
theorem dX4_standsAt_14 : decode cX4_standsAt 14 = .ok (.iload_n 3, 1) := by decide +kernel
theorem dX4_standsAt_15 : decode cX4_standsAt 15 = .ok (.iaload, 1) := by decide +kernel
theorem dX4_standsAt_16 : decode cX4_standsAt 16 = .ok (.iload_n 1, 1) := by decide +kernel
theorem dX4_standsAt_17 : decode cX4_standsAt 17 = .ok (.if_icmp .ne 15, 3) := by decide +kernel
theorem dX4_standsAt_20 : decode cX4_standsAt 20 = .ok (.aload_n 0, 1) := by decide +kernel
theorem dX4_standsAt_21 : decode cX4_standsAt 21 = .ok (.getfield 15, 3) := by decide +kernel
theorem dX4_standsAt_24 : decode cX4_standsAt 24 = .ok (.iload_n 3, 1) := by decide +kernel
theorem dX4_standsAt_25 : decode cX4_standsAt 25 = .ok (.iaload, 1) := by decide +kernel
theorem dX4_standsAt_26 : decode cX4_standsAt 26 = .ok (.iload_n 2, 1) := by decide +kernel
theorem dX4_standsAt_27 : decode cX4_standsAt 27 = .ok (.if_icmp .ne 5, 3) := by decide +kernel
theorem dX4_standsAt_30 : decode cX4_standsAt 30 = .ok (.iconst 1, 1) := by decide +kernel
theorem dX4_standsAt_31 : decode cX4_standsAt 31 = .ok (.ireturn, 1) := by decide +kernel
theorem dX4_standsAt_32 : decode cX4_standsAt 32 = .ok (.iinc 3 1, 3) := by decide +kernel
theorem dX4_standsAt_35 : decode cX4_standsAt 35 = .ok (.goto (-33), 3) := by decide +kernel
theorem dX4_standsAt_38 : decode cX4_standsAt 38 = .ok (.iconst 0, 1) := by decide +kernel
theorem dX4_standsAt_39 : decode cX4_standsAt 39 = .ok (.ireturn, 1) := by decide +kernel
theorem dX4_add_0 : decode cX4_add 0 = .ok (.aload_n 0, 1) := by decide +kernel
theorem dX4_add_1 : decode cX4_add 1 = .ok (.getfield 18, 3) := by decide +kernel
theorem dX4_add_4 : decode cX4_add 4 = .ok (.bipush 8, 2) := by decide +kernel
theorem dX4_add_6 : decode cX4_add 6 = .ok (.if_icmp .ge 33, 3) := by decide +kernel
theorem dX4_add_9 : decode cX4_add 9 = .ok (.aload_n 0, 1) := by decide +kernel
theorem dX4_add_10 : decode cX4_add 10 = .ok (.getfield 9, 3) := by decide +kernel
theorem dX4_add_13 : decode cX4_add 13 = .ok (.aload_n 0, 1) := by decide +kernel
theorem dX4_add_14 : decode cX4_add 14 = .ok (.getfield 18, 3) := by decide +kernel
theorem dX4_add_17 : decode cX4_add 17 = .ok (.iload_n 1, 1) := by decide +kernel
theorem dX4_add_18 : decode cX4_add 18 = .ok (.iastore, 1) := by decide +kernel
theorem dX4_add_19 : decode cX4_add 19 = .ok (.aload_n 0, 1) := by decide +kernel
theorem dX4_add_20 : decode cX4_add 20 = .ok (.getfield 15, 3) := by decide +kernel
theorem dX4_add_23 : decode cX4_add 23 = .ok (.aload_n 0, 1) := by decide +kernel
theorem dX4_add_24 : decode cX4_add 24 = .ok (.getfield 18, 3) := by decide +kernel
theorem dX4_add_27 : decode cX4_add 27 = .ok (.iload_n 2, 1) := by decide +kernel
theorem dX4_add_28 : decode cX4_add 28 = .ok (.iastore, 1) := by decide +kernel
theorem dX4_add_29 : decode cX4_add 29 = .ok (.aload_n 0, 1) := by decide +kernel
theorem dX4_add_30 : decode cX4_add 30 = .ok (.dup, 1) := by decide +kernel
theorem dX4_add_31 : decode cX4_add 31 = .ok (.getfield 18, 3) := by decide +kernel
theorem dX4_add_34 : decode cX4_add 34 = .ok (.iconst 1, 1) := by decide +kernel
theorem dX4_add_35 : decode cX4_add 35 = .ok (.iadd, 1) := by decide +kernel
theorem dX4_add_36 : decode cX4_add 36 = .ok (.putfield 18, 3) := by decide +kernel
theorem dX4_add_39 : decode cX4_add 39 = .ok (.return_, 1) := by decide +kernel
set_option maxRecDepth 20000 in
theorem ggX4_becomeThoseOf_X4_add : GoodIn wsX4_becomeThoseOf wsX4_add := goodIn_r _ [8, 1, 2, 3, 9, 10, 11] (by decide +kernel) (by decide +kernel)
set_option maxRecDepth 20000 in
theorem gX4_becomeThoseOf_X4_add : GoodIn wsX4_becomeThoseOf (wsV RX4 22 RX4 yX4_add wsX4_add) := goodIn_app (goodIn_of _ (by decide +kernel)) ggX4_becomeThoseOf_X4_add
theorem dX4_becomeThoseOf_0 : decode cX4_becomeThoseOf 0 = .ok (.aload_n 0, 1) := by decide +kernel
theorem dX4_becomeThoseOf_1 : decode cX4_becomeThoseOf 1 = .ok (.iconst 0, 1) := by decide +kernel
theorem dX4_becomeThoseOf_2 : decode cX4_becomeThoseOf 2 = .ok (.putfield 18, 3) := by decide +kernel
theorem dX4_becomeThoseOf_5 : decode cX4_becomeThoseOf 5 = .ok (.iconst 0, 1) := by decide +kernel
theorem dX4_becomeThoseOf_6 : decode cX4_becomeThoseOf 6 = .ok (.istore_n 2, 1) := by decide +kernel
theorem dX4_becomeThoseOf_7 : decode cX4_becomeThoseOf 7 = .ok (.iload_n 2, 1) := by decide +kernel
theorem dX4_becomeThoseOf_8 : decode cX4_becomeThoseOf 8 = .ok (.aload_n 1, 1) := by decide +kernel
theorem dX4_becomeThoseOf_9 : decode cX4_becomeThoseOf 9 = .ok (.getfield 18, 3) := by decide +kernel
theorem dX4_becomeThoseOf_12 : decode cX4_becomeThoseOf 12 = .ok (.if_icmp .ge 25, 3) := by decide +kernel
theorem dX4_becomeThoseOf_15 : decode cX4_becomeThoseOf 15 = .ok (.aload_n 0, 1) := by decide +kernel
theorem dX4_becomeThoseOf_16 : decode cX4_becomeThoseOf 16 = .ok (.aload_n 1, 1) := by decide +kernel
theorem dX4_becomeThoseOf_17 : decode cX4_becomeThoseOf 17 = .ok (.getfield 9, 3) := by decide +kernel
theorem dX4_becomeThoseOf_20 : decode cX4_becomeThoseOf 20 = .ok (.iload_n 2, 1) := by decide +kernel
theorem dX4_becomeThoseOf_21 : decode cX4_becomeThoseOf 21 = .ok (.iaload, 1) := by decide +kernel
theorem dX4_becomeThoseOf_22 : decode cX4_becomeThoseOf 22 = .ok (.aload_n 1, 1) := by decide +kernel
theorem dX4_becomeThoseOf_23 : decode cX4_becomeThoseOf 23 = .ok (.getfield 15, 3) := by decide +kernel
theorem dX4_becomeThoseOf_26 : decode cX4_becomeThoseOf 26 = .ok (.iload_n 2, 1) := by decide +kernel
theorem dX4_becomeThoseOf_27 : decode cX4_becomeThoseOf 27 = .ok (.iaload, 1) := by decide +kernel
theorem dX4_becomeThoseOf_28 : decode cX4_becomeThoseOf 28 = .ok (.invokevirtual 22, 3) := by decide +kernel
theorem dX4_becomeThoseOf_31 : decode cX4_becomeThoseOf 31 = .ok (.iinc 2 1, 3) := by decide +kernel
theorem dX4_becomeThoseOf_34 : decode cX4_becomeThoseOf 34 = .ok (.goto (-27), 3) := by decide +kernel
theorem dX4_becomeThoseOf_37 : decode cX4_becomeThoseOf 37 = .ok (.return_, 1) := by decide +kernel
theorem dX4_side_0 : decode cX4_side 0 = .ok (.aload_n 0, 1) := by decide +kernel
theorem dX4_side_1 : decode cX4_side 1 = .ok (.getfield 9, 3) := by decide +kernel
theorem dX4_side_4 : decode cX4_side 4 = .ok (.iload_n 2, 1) := by decide +kernel
theorem dX4_side_5 : decode cX4_side 5 = .ok (.iaload, 1) := by decide +kernel
theorem dX4_side_6 : decode cX4_side 6 = .ok (.aload_n 0, 1) := by decide +kernel
theorem dX4_side_7 : decode cX4_side 7 = .ok (.getfield 9, 3) := by decide +kernel
theorem dX4_side_10 : decode cX4_side 10 = .ok (.iload_n 1, 1) := by decide +kernel
theorem dX4_side_11 : decode cX4_side 11 = .ok (.iaload, 1) := by decide +kernel
theorem dX4_side_12 : decode cX4_side 12 = .ok (.isub, 1) := by decide +kernel
theorem dX4_side_13 : decode cX4_side 13 = .ok (.aload_n 0, 1) := by decide +kernel
theorem dX4_side_14 : decode cX4_side 14 = .ok (.getfield 15, 3) := by decide +kernel
theorem dX4_side_17 : decode cX4_side 17 = .ok (.iload_n 3, 1) := by decide +kernel
theorem dX4_side_18 : decode cX4_side 18 = .ok (.iaload, 1) := by decide +kernel
theorem dX4_side_19 : decode cX4_side 19 = .ok (.aload_n 0, 1) := by decide +kernel
theorem dX4_side_20 : decode cX4_side 20 = .ok (.getfield 15, 3) := by decide +kernel
theorem dX4_side_23 : decode cX4_side 23 = .ok (.iload_n 1, 1) := by decide +kernel
theorem dX4_side_24 : decode cX4_side 24 = .ok (.iaload, 1) := by decide +kernel
theorem dX4_side_25 : decode cX4_side 25 = .ok (.isub, 1) := by decide +kernel
theorem dX4_side_26 : decode cX4_side 26 = .ok (.imul, 1) := by decide +kernel
theorem dX4_side_27 : decode cX4_side 27 = .ok (.aload_n 0, 1) := by decide +kernel
theorem dX4_side_28 : decode cX4_side 28 = .ok (.getfield 15, 3) := by decide +kernel
theorem dX4_side_31 : decode cX4_side 31 = .ok (.iload_n 2, 1) := by decide +kernel
theorem dX4_side_32 : decode cX4_side 32 = .ok (.iaload, 1) := by decide +kernel
theorem dX4_side_33 : decode cX4_side 33 = .ok (.aload_n 0, 1) := by decide +kernel
theorem dX4_side_34 : decode cX4_side 34 = .ok (.getfield 15, 3) := by decide +kernel
theorem dX4_side_37 : decode cX4_side 37 = .ok (.iload_n 1, 1) := by decide +kernel
theorem dX4_side_38 : decode cX4_side 38 = .ok (.iaload, 1) := by decide +kernel
theorem dX4_side_39 : decode cX4_side 39 = .ok (.isub, 1) := by decide +kernel
theorem dX4_side_40 : decode cX4_side 40 = .ok (.aload_n 0, 1) := by decide +kernel
theorem dX4_side_41 : decode cX4_side 41 = .ok (.getfield 9, 3) := by decide +kernel
theorem dX4_side_44 : decode cX4_side 44 = .ok (.iload_n 3, 1) := by decide +kernel
theorem dX4_side_45 : decode cX4_side 45 = .ok (.iaload, 1) := by decide +kernel
theorem dX4_side_46 : decode cX4_side 46 = .ok (.aload_n 0, 1) := by decide +kernel
theorem dX4_side_47 : decode cX4_side 47 = .ok (.getfield 9, 3) := by decide +kernel
theorem dX4_side_50 : decode cX4_side 50 = .ok (.iload_n 1, 1) := by decide +kernel
theorem dX4_side_51 : decode cX4_side 51 = .ok (.iaload, 1) := by decide +kernel
theorem dX4_side_52 : decode cX4_side 52 = .ok (.isub, 1) := by decide +kernel
theorem dX4_side_53 : decode cX4_side 53 = .ok (.imul, 1) := by decide +kernel
theorem dX4_side_54 : decode cX4_side 54 = .ok (.isub, 1) := by decide +kernel
theorem dX4_side_55 : decode cX4_side 55 = .ok (.istore 4, 2) := by decide +kernel
theorem dX4_side_57 : decode cX4_side 57 = .ok (.iload 4, 2) := by decide +kernel
theorem dX4_side_59 : decode cX4_side 59 = .ok (.ifCond .le 7, 3) := by decide +kernel
theorem dX4_side_62 : decode cX4_side 62 = .ok (.iconst 1, 1) := by decide +kernel
theorem dX4_side_63 : decode cX4_side 63 = .ok (.goto 13, 3) := by decide +kernel
theorem dX4_side_66 : decode cX4_side 66 = .ok (.iload 4, 2) := by decide +kernel
theorem dX4_side_68 : decode cX4_side 68 = .ok (.ifCond .ge 7, 3) := by decide +kernel
theorem dX4_side_71 : decode cX4_side 71 = .ok (.iconst (-1), 1) := by decide +kernel
theorem dX4_side_72 : decode cX4_side 72 = .ok (.goto 4, 3) := by decide +kernel
theorem dX4_side_75 : decode cX4_side 75 = .ok (.iconst 0, 1) := by decide +kernel
theorem dX4_side_76 : decode cX4_side 76 = .ok (.ireturn, 1) := by decide +kernel
set_option maxRecDepth 20000 in
theorem ggX4_areParted_X4_side : GoodIn wsX4_areParted wsX4_side := goodIn_r _ [5, 6, 7, 8, 9, 10] (by decide +kernel) (by decide +kernel)
set_option maxRecDepth 20000 in
theorem gX4_areParted_X4_side : GoodIn wsX4_areParted (wsV RX4 26 RX4 yX4_side wsX4_side) := goodIn_app (goodIn_of _ (by decide +kernel)) ggX4_areParted_X4_side
theorem dX4_areParted_0 : decode cX4_areParted 0 = .ok (.aload_n 0, 1) := by decide +kernel
theorem dX4_areParted_1 : decode cX4_areParted 1 = .ok (.iload_n 3, 1) := by decide +kernel
theorem dX4_areParted_2 : decode cX4_areParted 2 = .ok (.iload 4, 2) := by decide +kernel
theorem dX4_areParted_4 : decode cX4_areParted 4 = .ok (.iload_n 1, 1) := by decide +kernel
theorem dX4_areParted_5 : decode cX4_areParted 5 = .ok (.invokevirtual 26, 3) := by decide +kernel
theorem dX4_areParted_8 : decode cX4_areParted 8 = .ok (.aload_n 0, 1) := by decide +kernel
theorem dX4_areParted_9 : decode cX4_areParted 9 = .ok (.iload_n 3, 1) := by decide +kernel
theorem dX4_areParted_10 : decode cX4_areParted 10 = .ok (.iload 4, 2) := by decide +kernel
theorem dX4_areParted_12 : decode cX4_areParted 12 = .ok (.iload_n 2, 1) := by decide +kernel
theorem dX4_areParted_13 : decode cX4_areParted 13 = .ok (.invokevirtual 26, 3) := by decide +kernel
theorem dX4_areParted_16 : decode cX4_areParted 16 = .ok (.imul, 1) := by decide +kernel
theorem dX4_areParted_17 : decode cX4_areParted 17 = .ok (.ifCond .ge 7, 3) := by decide +kernel
theorem dX4_areParted_20 : decode cX4_areParted 20 = .ok (.iconst 1, 1) := by decide +kernel
theorem dX4_areParted_21 : decode cX4_areParted 21 = .ok (.goto 4, 3) := by decide +kernel
theorem dX4_areParted_24 : decode cX4_areParted 24 = .ok (.iconst 0, 1) := by decide +kernel
theorem dX4_areParted_25 : decode cX4_areParted 25 = .ok (.ireturn, 1) := by decide +kernel
set_option maxRecDepth 20000 in
theorem ggX4_isBetween_X4_side : GoodIn wsX4_isBetween wsX4_side := goodIn_r _ [7, 1, 2, 8, 9, 10] (by decide +kernel) (by decide +kernel)
set_option maxRecDepth 20000 in
theorem gX4_isBetween_X4_side : GoodIn wsX4_isBetween (wsV RX4 26 RX4 yX4_side wsX4_side) := goodIn_app (goodIn_of _ (by decide +kernel)) ggX4_isBetween_X4_side
theorem dX4_isBetween_0 : decode cX4_isBetween 0 = .ok (.aload_n 0, 1) := by decide +kernel
theorem dX4_isBetween_1 : decode cX4_isBetween 1 = .ok (.getfield 9, 3) := by decide +kernel
theorem dX4_isBetween_4 : decode cX4_isBetween 4 = .ok (.iload_n 2, 1) := by decide +kernel
theorem dX4_isBetween_5 : decode cX4_isBetween 5 = .ok (.iaload, 1) := by decide +kernel
theorem dX4_isBetween_6 : decode cX4_isBetween 6 = .ok (.aload_n 0, 1) := by decide +kernel
theorem dX4_isBetween_7 : decode cX4_isBetween 7 = .ok (.getfield 9, 3) := by decide +kernel
theorem dX4_isBetween_10 : decode cX4_isBetween 10 = .ok (.iload_n 1, 1) := by decide +kernel
theorem dX4_isBetween_11 : decode cX4_isBetween 11 = .ok (.iaload, 1) := by decide +kernel
theorem dX4_isBetween_12 : decode cX4_isBetween 12 = .ok (.isub, 1) := by decide +kernel
theorem dX4_isBetween_13 : decode cX4_isBetween 13 = .ok (.aload_n 0, 1) := by decide +kernel
theorem dX4_isBetween_14 : decode cX4_isBetween 14 = .ok (.getfield 9, 3) := by decide +kernel
theorem dX4_isBetween_17 : decode cX4_isBetween 17 = .ok (.iload_n 3, 1) := by decide +kernel
theorem dX4_isBetween_18 : decode cX4_isBetween 18 = .ok (.iaload, 1) := by decide +kernel
theorem dX4_isBetween_19 : decode cX4_isBetween 19 = .ok (.aload_n 0, 1) := by decide +kernel
theorem dX4_isBetween_20 : decode cX4_isBetween 20 = .ok (.getfield 9, 3) := by decide +kernel
theorem dX4_isBetween_23 : decode cX4_isBetween 23 = .ok (.iload_n 1, 1) := by decide +kernel
theorem dX4_isBetween_24 : decode cX4_isBetween 24 = .ok (.iaload, 1) := by decide +kernel
theorem dX4_isBetween_25 : decode cX4_isBetween 25 = .ok (.isub, 1) := by decide +kernel
theorem dX4_isBetween_26 : decode cX4_isBetween 26 = .ok (.imul, 1) := by decide +kernel
theorem dX4_isBetween_27 : decode cX4_isBetween 27 = .ok (.aload_n 0, 1) := by decide +kernel
theorem dX4_isBetween_28 : decode cX4_isBetween 28 = .ok (.getfield 15, 3) := by decide +kernel
theorem dX4_isBetween_31 : decode cX4_isBetween 31 = .ok (.iload_n 2, 1) := by decide +kernel
theorem dX4_isBetween_32 : decode cX4_isBetween 32 = .ok (.iaload, 1) := by decide +kernel
theorem dX4_isBetween_33 : decode cX4_isBetween 33 = .ok (.aload_n 0, 1) := by decide +kernel
theorem dX4_isBetween_34 : decode cX4_isBetween 34 = .ok (.getfield 15, 3) := by decide +kernel
theorem dX4_isBetween_37 : decode cX4_isBetween 37 = .ok (.iload_n 1, 1) := by decide +kernel
theorem dX4_isBetween_38 : decode cX4_isBetween 38 = .ok (.iaload, 1) := by decide +kernel
theorem dX4_isBetween_39 : decode cX4_isBetween 39 = .ok (.isub, 1) := by decide +kernel
theorem dX4_isBetween_40 : decode cX4_isBetween 40 = .ok (.aload_n 0, 1) := by decide +kernel
theorem dX4_isBetween_41 : decode cX4_isBetween 41 = .ok (.getfield 15, 3) := by decide +kernel
theorem dX4_isBetween_44 : decode cX4_isBetween 44 = .ok (.iload_n 3, 1) := by decide +kernel
theorem dX4_isBetween_45 : decode cX4_isBetween 45 = .ok (.iaload, 1) := by decide +kernel
theorem dX4_isBetween_46 : decode cX4_isBetween 46 = .ok (.aload_n 0, 1) := by decide +kernel
theorem dX4_isBetween_47 : decode cX4_isBetween 47 = .ok (.getfield 15, 3) := by decide +kernel
theorem dX4_isBetween_50 : decode cX4_isBetween 50 = .ok (.iload_n 1, 1) := by decide +kernel
theorem dX4_isBetween_51 : decode cX4_isBetween 51 = .ok (.iaload, 1) := by decide +kernel
theorem dX4_isBetween_52 : decode cX4_isBetween 52 = .ok (.isub, 1) := by decide +kernel
theorem dX4_isBetween_53 : decode cX4_isBetween 53 = .ok (.imul, 1) := by decide +kernel
theorem dX4_isBetween_54 : decode cX4_isBetween 54 = .ok (.iadd, 1) := by decide +kernel
theorem dX4_isBetween_55 : decode cX4_isBetween 55 = .ok (.istore 4, 2) := by decide +kernel
theorem dX4_isBetween_57 : decode cX4_isBetween 57 = .ok (.aload_n 0, 1) := by decide +kernel
theorem dX4_isBetween_58 : decode cX4_isBetween 58 = .ok (.iload_n 2, 1) := by decide +kernel
theorem dX4_isBetween_59 : decode cX4_isBetween 59 = .ok (.iload_n 3, 1) := by decide +kernel
theorem dX4_isBetween_60 : decode cX4_isBetween 60 = .ok (.iload_n 1, 1) := by decide +kernel
theorem dX4_isBetween_61 : decode cX4_isBetween 61 = .ok (.invokevirtual 26, 3) := by decide +kernel
theorem dX4_isBetween_64 : decode cX4_isBetween 64 = .ok (.ifCond .ne 12, 3) := by decide +kernel
theorem dX4_isBetween_67 : decode cX4_isBetween 67 = .ok (.iload 4, 2) := by decide +kernel
theorem dX4_isBetween_69 : decode cX4_isBetween 69 = .ok (.ifCond .ge 7, 3) := by decide +kernel
theorem dX4_isBetween_72 : decode cX4_isBetween 72 = .ok (.iconst 1, 1) := by decide +kernel
theorem dX4_isBetween_73 : decode cX4_isBetween 73 = .ok (.goto 4, 3) := by decide +kernel
theorem dX4_isBetween_76 : decode cX4_isBetween 76 = .ok (.iconst 0, 1) := by decide +kernel
theorem dX4_isBetween_77 : decode cX4_isBetween 77 = .ok (.ireturn, 1) := by decide +kernel
set_option maxRecDepth 20000 in
theorem ggX4_isWithin_X4_side : GoodIn wsX4_isWithin wsX4_side := goodIn_r _ [5, 6, 7, 8, 9, 10] (by decide +kernel) (by decide +kernel)
set_option maxRecDepth 20000 in
theorem gX4_isWithin_X4_side : GoodIn wsX4_isWithin (wsV RX4 26 RX4 yX4_side wsX4_side) := goodIn_app (goodIn_of _ (by decide +kernel)) ggX4_isWithin_X4_side
theorem dX4_isWithin_0 : decode cX4_isWithin 0 = .ok (.aload_n 0, 1) := by decide +kernel
theorem dX4_isWithin_1 : decode cX4_isWithin 1 = .ok (.iload_n 2, 1) := by decide +kernel
theorem dX4_isWithin_2 : decode cX4_isWithin 2 = .ok (.iload_n 3, 1) := by decide +kernel
theorem dX4_isWithin_3 : decode cX4_isWithin 3 = .ok (.iload_n 1, 1) := by decide +kernel
theorem dX4_isWithin_4 : decode cX4_isWithin 4 = .ok (.invokevirtual 26, 3) := by decide +kernel
theorem dX4_isWithin_7 : decode cX4_isWithin 7 = .ok (.istore 5, 2) := by decide +kernel
theorem dX4_isWithin_9 : decode cX4_isWithin 9 = .ok (.iload 5, 2) := by decide +kernel
theorem dX4_isWithin_11 : decode cX4_isWithin 11 = .ok (.ifCond .eq 33, 3) := by decide +kernel
theorem dX4_isWithin_14 : decode cX4_isWithin 14 = .ok (.iload 5, 2) := by decide +kernel
theorem dX4_isWithin_16 : decode cX4_isWithin 16 = .ok (.aload_n 0, 1) := by decide +kernel
theorem dX4_isWithin_17 : decode cX4_isWithin 17 = .ok (.iload_n 3, 1) := by decide +kernel
theorem dX4_isWithin_18 : decode cX4_isWithin 18 = .ok (.iload 4, 2) := by decide +kernel
theorem dX4_isWithin_20 : decode cX4_isWithin 20 = .ok (.iload_n 1, 1) := by decide +kernel
theorem dX4_isWithin_21 : decode cX4_isWithin 21 = .ok (.invokevirtual 26, 3) := by decide +kernel
theorem dX4_isWithin_24 : decode cX4_isWithin 24 = .ok (.if_icmp .ne 20, 3) := by decide +kernel
theorem dX4_isWithin_27 : decode cX4_isWithin 27 = .ok (.iload 5, 2) := by decide +kernel
theorem dX4_isWithin_29 : decode cX4_isWithin 29 = .ok (.aload_n 0, 1) := by decide +kernel
theorem dX4_isWithin_30 : decode cX4_isWithin 30 = .ok (.iload 4, 2) := by decide +kernel
theorem dX4_isWithin_32 : decode cX4_isWithin 32 = .ok (.iload_n 2, 1) := by decide +kernel
theorem dX4_isWithin_33 : decode cX4_isWithin 33 = .ok (.iload_n 1, 1) := by decide +kernel
theorem dX4_isWithin_34 : decode cX4_isWithin 34 = .ok (.invokevirtual 26, 3) := by decide +kernel
theorem dX4_isWithin_37 : decode cX4_isWithin 37 = .ok (.if_icmp .ne 7, 3) := by decide +kernel
theorem dX4_isWithin_40 : decode cX4_isWithin 40 = .ok (.iconst 1, 1) := by decide +kernel
theorem dX4_isWithin_41 : decode cX4_isWithin 41 = .ok (.goto 4, 3) := by decide +kernel
theorem dX4_isWithin_44 : decode cX4_isWithin 44 = .ok (.iconst 0, 1) := by decide +kernel
theorem dX4_isWithin_45 : decode cX4_isWithin 45 = .ok (.ireturn, 1) := by decide +kernel
theorem dX5_init_0 : decode cX5_init 0 = .ok (.aload_n 0, 1) := by decide +kernel
theorem dX5_init_1 : decode cX5_init 1 = .ok (.invokespecial 3, 3) := by decide +kernel
theorem dX5_init_4 : decode cX5_init 4 = .ok (.aload_n 0, 1) := by decide +kernel
theorem dX5_init_5 : decode cX5_init 5 = .ok (.bipush 20, 2) := by decide +kernel
theorem dX5_init_7 : decode cX5_init 7 = .ok (.newarray .long, 2) := by decide +kernel
theorem dX5_init_9 : decode cX5_init 9 = .ok (.putfield 9, 3) := by decide +kernel
theorem dX5_init_12 : decode cX5_init 12 = .ok (.aload_n 0, 1) := by decide +kernel
theorem dX5_init_13 : decode cX5_init 13 = .ok (.iconst 1, 1) := by decide +kernel
theorem dX5_init_14 : decode cX5_init 14 = .ok (.putfield 15, 3) := by decide +kernel
theorem dX5_init_17 : decode cX5_init 17 = .ok (.return_, 1) := by decide +kernel
theorem dX5_become_0 : decode cX5_become 0 = .ok (.aload_n 0, 1) := by decide +kernel
theorem dX5_become_1 : decode cX5_become 1 = .ok (.iconst 0, 1) := by decide +kernel
theorem dX5_become_2 : decode cX5_become 2 = .ok (.putfield 15, 3) := by decide +kernel
theorem dX5_become_5 : decode cX5_become 5 = .ok (.aload_n 0, 1) := by decide +kernel
theorem dX5_become_6 : decode cX5_become 6 = .ok (.iload_n 1, 1) := by decide +kernel
theorem dX5_become_7 : decode cX5_become 7 = .ok (.putfield 19, 3) := by decide +kernel
theorem dX5_become_10 : decode cX5_become 10 = .ok (.aload_n 0, 1) := by decide +kernel
theorem dX5_become_11 : decode cX5_become 11 = .ok (.iload_n 2, 1) := by decide +kernel
theorem dX5_become_12 : decode cX5_become 12 = .ok (.putfield 23, 3) := by decide +kernel
theorem dX5_become_15 : decode cX5_become 15 = .ok (.iconst 0, 1) := by decide +kernel
theorem dX5_become_16 : decode cX5_become 16 = .ok (.istore_n 3, 1) := by decide +kernel
theorem dX5_become_17 : decode cX5_become 17 = .ok (.iload_n 3, 1) := by decide +kernel
theorem dX5_become_18 : decode cX5_become 18 = .ok (.bipush 20, 2) := by decide +kernel
theorem dX5_become_20 : decode cX5_become 20 = .ok (.if_icmp .ge 16, 3) := by decide +kernel
theorem dX5_become_23 : decode cX5_become 23 = .ok (.aload_n 0, 1) := by decide +kernel
theorem dX5_become_24 : decode cX5_become 24 = .ok (.getfield 9, 3) := by decide +kernel
theorem dX5_become_27 : decode cX5_become 27 = .ok (.iload_n 3, 1) := by decide +kernel
theorem dX5_become_28 : decode cX5_become 28 = .ok (.lconst 0, 1) := by decide +kernel
theorem dX5_become_29 : decode cX5_become 29 = .ok (.lastore, 1) := by decide +kernel
theorem dX5_become_30 : decode cX5_become 30 = .ok (.iinc 3 1, 3) := by decide +kernel
theorem dX5_become_33 : decode cX5_become 33 = .ok (.goto (-16), 3) := by decide +kernel
theorem dX5_become_36 : decode cX5_become 36 = .ok (.return_, 1) := by decide +kernel
theorem dX5_hasPlace_0 : decode cX5_hasPlace 0 = .ok (.iload_n 1, 1) := by decide +kernel
theorem dX5_hasPlace_1 : decode cX5_hasPlace 1 = .ok (.ifCond .lt 15, 3) := by decide +kernel
theorem dX5_hasPlace_4 : decode cX5_hasPlace 4 = .ok (.iload_n 1, 1) := by decide +kernel
theorem dX5_hasPlace_5 : decode cX5_hasPlace 5 = .ok (.aload_n 0, 1) := by decide +kernel
theorem dX5_hasPlace_6 : decode cX5_hasPlace 6 = .ok (.getfield 23, 3) := by decide +kernel
theorem dX5_hasPlace_9 : decode cX5_hasPlace 9 = .ok (.if_icmp .ge 7, 3) := by decide +kernel
theorem dX5_hasPlace_12 : decode cX5_hasPlace 12 = .ok (.iconst 1, 1) := by decide +kernel
theorem dX5_hasPlace_13 : decode cX5_hasPlace 13 = .ok (.goto 4, 3) := by decide +kernel
theorem dX5_hasPlace_16 : decode cX5_hasPlace 16 = .ok (.iconst 0, 1) := by decide +kernel
theorem dX5_hasPlace_17 : decode cX5_hasPlace 17 = .ok (.ireturn, 1) := by decide +kernel
theorem dX5_lowestBits_0 : decode cX5_lowestBits 0 = .ok (.aload_n 0, 1) := by decide +kernel
theorem dX5_lowestBits_1 : decode cX5_lowestBits 1 = .ok (.getfield 19, 3) := by decide +kernel
theorem dX5_lowestBits_4 : decode cX5_lowestBits 4 = .ok (.tableswitch 42 0 2 #[28, 33, 38], 28) := by decide +kernel
theorem dX5_lowestBits_32 : decode cX5_lowestBits 32 = .ok (.lload_n 1, 1) := by decide +kernel
theorem dX5_lowestBits_33 : decode cX5_lowestBits 33 = .ok (.l2i, 1) := by decide +kernel
theorem dX5_lowestBits_34 : decode cX5_lowestBits 34 = .ok (.i2b, 1) := by decide +kernel
theorem dX5_lowestBits_35 : decode cX5_lowestBits 35 = .ok (.i2l, 1) := by decide +kernel
theorem dX5_lowestBits_36 : decode cX5_lowestBits 36 = .ok (.lreturn, 1) := by decide +kernel
theorem dX5_lowestBits_37 : decode cX5_lowestBits 37 = .ok (.lload_n 1, 1) := by decide +kernel
theorem dX5_lowestBits_38 : decode cX5_lowestBits 38 = .ok (.l2i, 1) := by decide +kernel
theorem dX5_lowestBits_39 : decode cX5_lowestBits 39 = .ok (.i2s, 1) := by decide +kernel
theorem dX5_lowestBits_40 : decode cX5_lowestBits 40 = .ok (.i2l, 1) := by decide +kernel
theorem dX5_lowestBits_41 : decode cX5_lowestBits 41 = .ok (.lreturn, 1) := by decide +kernel
theorem dX5_lowestBits_42 : decode cX5_lowestBits 42 = .ok (.lload_n 1, 1) := by decide +kernel
theorem dX5_lowestBits_43 : decode cX5_lowestBits 43 = .ok (.l2i, 1) := by decide +kernel
theorem dX5_lowestBits_44 : decode cX5_lowestBits 44 = .ok (.i2l, 1) := by decide +kernel
theorem dX5_lowestBits_45 : decode cX5_lowestBits 45 = .ok (.lreturn, 1) := by decide +kernel
theorem dX5_lowestBits_46 : decode cX5_lowestBits 46 = .ok (.lload_n 1, 1) := by decide +kernel
theorem dX5_lowestBits_47 : decode cX5_lowestBits 47 = .ok (.lreturn, 1) := by decide +kernel
theorem dX6_init_0 : decode cX6_init 0 = .ok (.aload_n 0, 1) := by decide +kernel
theorem dX6_init_1 : decode cX6_init 1 = .ok (.invokespecial 3, 3) := by decide +kernel
theorem dX6_init_4 : decode cX6_init 4 = .ok (.aload_n 0, 1) := by decide +kernel
theorem dX6_init_5 : decode cX6_init 5 = .ok (.sipush 256, 3) := by decide +kernel
theorem dX6_init_8 : decode cX6_init 8 = .ok (.newarray .int, 2) := by decide +kernel
theorem dX6_init_10 : decode cX6_init 10 = .ok (.putfield 9, 3) := by decide +kernel
theorem dX6_init_13 : decode cX6_init 13 = .ok (.aload_n 0, 1) := by decide +kernel
theorem dX6_init_14 : decode cX6_init 14 = .ok (.sipush 256, 3) := by decide +kernel
theorem dX6_init_17 : decode cX6_init 17 = .ok (.newarray .int, 2) := by decide +kernel
theorem dX6_init_19 : decode cX6_init 19 = .ok (.putfield 15, 3) := by decide +kernel
theorem dX6_init_22 : decode cX6_init 22 = .ok (.return_, 1) := by decide +kernel
set_option maxRecDepth 20000 in
theorem ggX6_measure_X6_reach : GoodIn wsX6_measure wsX6_reach := goodIn_r _ [10, 2, 3, 4, 20, 21, 22] (by decide +kernel) (by decide +kernel)
set_option maxRecDepth 20000 in
theorem gX6_measure_X6_reach : GoodIn wsX6_measure (wsV RX6 25 RX6 yX6_reach wsX6_reach) := goodIn_app (goodIn_of _ (by decide +kernel)) ggX6_measure_X6_reach
set_option maxRecDepth 20000 in
theorem ggX6_measure_X1_afterTurn : GoodIn wsX6_measure wsX1_afterTurn := goodIn_r _ [15, 16, 17, 18, 19] (by decide +kernel) (by decide +kernel)
set_option maxRecDepth 20000 in
theorem gX6_measure_X1_afterTurn : GoodIn wsX6_measure (wsV RX6 29 RX1 yX1_afterTurn wsX1_afterTurn) := goodIn_app (goodIn_of _ (by decide +kernel)) ggX6_measure_X1_afterTurn
theorem dX6_measure_0 : decode cX6_measure 0 = .ok (.iconst 0, 1) := by decide +kernel
theorem dX6_measure_1 : decode cX6_measure 1 = .ok (.istore 4, 2) := by decide +kernel
theorem dX6_measure_3 : decode cX6_measure 3 = .ok (.iload 4, 2) := by decide +kernel
theorem dX6_measure_5 : decode cX6_measure 5 = .ok (.aload_n 1, 1) := by decide +kernel
theorem dX6_measure_6 : decode cX6_measure 6 = .ok (.getfield 18, 3) := by decide +kernel
theorem dX6_measure_9 : decode cX6_measure 9 = .ok (.if_icmp .ge 18, 3) := by decide +kernel
theorem dX6_measure_12 : decode cX6_measure 12 = .ok (.aload_n 0, 1) := by decide +kernel
theorem dX6_measure_13 : decode cX6_measure 13 = .ok (.getfield 9, 3) := by decide +kernel
theorem dX6_measure_16 : decode cX6_measure 16 = .ok (.iload 4, 2) := by decide +kernel
theorem dX6_measure_18 : decode cX6_measure 18 = .ok (.bipush (-9), 2) := by decide +kernel
theorem dX6_measure_20 : decode cX6_measure 20 = .ok (.iastore, 1) := by decide +kernel
theorem dX6_measure_21 : decode cX6_measure 21 = .ok (.iinc 4 1, 3) := by decide +kernel
theorem dX6_measure_24 : decode cX6_measure 24 = .ok (.goto (-21), 3) := by decide +kernel
theorem dX6_measure_27 : decode cX6_measure 27 = .ok (.aload_n 0, 1) := by decide +kernel
theorem dX6_measure_28 : decode cX6_measure 28 = .ok (.iconst 0, 1) := by decide +kernel
theorem dX6_measure_29 : decode cX6_measure 29 = .ok (.putfield 24, 3) := by decide +kernel
theorem dX6_measure_32 : decode cX6_measure 32 = .ok (.aload_n 0, 1) := by decide +kernel
theorem dX6_measure_33 : decode cX6_measure 33 = .ok (.iload_n 3, 1) := by decide +kernel
theorem dX6_measure_34 : decode cX6_measure 34 = .ok (.iconst 0, 1) := by decide +kernel
theorem dX6_measure_35 : decode cX6_measure 35 = .ok (.invokevirtual 25, 3) := by decide +kernel
theorem dX6_measure_38 : decode cX6_measure 38 = .ok (.iconst 0, 1) := by decide +kernel
theorem dX6_measure_39 : decode cX6_measure 39 = .ok (.istore 4, 2) := by decide +kernel
theorem dX6_measure_41 : decode cX6_measure 41 = .ok (.iload 4, 2) := by decide +kernel
theorem dX6_measure_43 : decode cX6_measure 43 = .ok (.sipush 256, 3) := by decide +kernel
theorem dX6_measure_46 : decode cX6_measure 46 = .ok (.if_icmp .ge 99, 3) := by decide +kernel
theorem dX6_measure_49 : decode cX6_measure 49 = .ok (.iload 4, 2) := by decide +kernel
theorem dX6_measure_51 : decode cX6_measure 51 = .ok (.aload_n 0, 1) := by decide +kernel
theorem dX6_measure_52 : decode cX6_measure 52 = .ok (.getfield 24, 3) := by decide +kernel
theorem dX6_measure_55 : decode cX6_measure 55 = .ok (.if_icmp .ge 90, 3) := by decide +kernel
theorem dX6_measure_58 : decode cX6_measure 58 = .ok (.aload_n 0, 1) := by decide +kernel
theorem dX6_measure_59 : decode cX6_measure 59 = .ok (.getfield 15, 3) := by decide +kernel
theorem dX6_measure_62 : decode cX6_measure 62 = .ok (.iload 4, 2) := by decide +kernel
theorem dX6_measure_64 : decode cX6_measure 64 = .ok (.iaload, 1) := by decide +kernel
theorem dX6_measure_65 : decode cX6_measure 65 = .ok (.istore 5, 2) := by decide +kernel
theorem dX6_measure_67 : decode cX6_measure 67 = .ok (.iconst 0, 1) := by decide +kernel
theorem dX6_measure_68 : decode cX6_measure 68 = .ok (.istore 6, 2) := by decide +kernel
theorem dX6_measure_70 : decode cX6_measure 70 = .ok (.iload 6, 2) := by decide +kernel
theorem dX6_measure_72 : decode cX6_measure 72 = .ok (.bipush 28, 2) := by decide +kernel
theorem dX6_measure_74 : decode cX6_measure 74 = .ok (.if_icmp .ge 65, 3) := by decide +kernel
theorem dX6_measure_77 : decode cX6_measure 77 = .ok (.aload_n 1, 1) := by decide +kernel
theorem dX6_measure_78 : decode cX6_measure 78 = .ok (.iload 5, 2) := by decide +kernel
theorem dX6_measure_80 : decode cX6_measure 80 = .ok (.iload 6, 2) := by decide +kernel
theorem dX6_measure_82 : decode cX6_measure 82 = .ok (.invokevirtual 29, 3) := by decide +kernel
theorem dX6_measure_85 : decode cX6_measure 85 = .ok (.istore 7, 2) := by decide +kernel
theorem dX6_measure_87 : decode cX6_measure 87 = .ok (.iload 7, 2) := by decide +kernel
theorem dX6_measure_89 : decode cX6_measure 89 = .ok (.bipush (-9), 2) := by decide +kernel
theorem dX6_measure_91 : decode cX6_measure 91 = .ok (.if_icmp .eq 42, 3) := by decide +kernel
theorem dX6_measure_94 : decode cX6_measure 94 = .ok (.aload_n 2, 1) := by decide +kernel
theorem dX6_measure_95 : decode cX6_measure 95 = .ok (.getfield 33, 3) := by decide +kernel
theorem dX6_measure_98 : decode cX6_measure 98 = .ok (.iload 7, 2) := by decide +kernel
theorem dX6_measure_100 : decode cX6_measure 100 = .ok (.iaload, 1) := by decide +kernel
theorem dX6_measure_101 : decode cX6_measure 101 = .ok (.bipush (-9), 2) := by decide +kernel
theorem dX6_measure_103 : decode cX6_measure 103 = .ok (.if_icmp .eq 30, 3) := by decide +kernel
theorem dX6_measure_106 : decode cX6_measure 106 = .ok (.aload_n 0, 1) := by decide +kernel
theorem dX6_measure_107 : decode cX6_measure 107 = .ok (.getfield 9, 3) := by decide +kernel
theorem dX6_measure_110 : decode cX6_measure 110 = .ok (.iload 7, 2) := by decide +kernel
theorem dX6_measure_112 : decode cX6_measure 112 = .ok (.iaload, 1) := by decide +kernel
theorem dX6_measure_113 : decode cX6_measure 113 = .ok (.bipush (-9), 2) := by decide +kernel
theorem dX6_measure_115 : decode cX6_measure 115 = .ok (.if_icmp .ne 18, 3) := by decide +kernel
theorem dX6_measure_118 : decode cX6_measure 118 = .ok (.aload_n 0, 1) := by decide +kernel
theorem dX6_measure_119 : decode cX6_measure 119 = .ok (.iload 7, 2) := by decide +kernel
theorem dX6_measure_121 : decode cX6_measure 121 = .ok (.aload_n 0, 1) := by decide +kernel
theorem dX6_measure_122 : decode cX6_measure 122 = .ok (.getfield 9, 3) := by decide +kernel
theorem dX6_measure_125 : decode cX6_measure 125 = .ok (.iload 5, 2) := by decide +kernel
theorem dX6_measure_127 : decode cX6_measure 127 = .ok (.iaload, 1) := by decide +kernel
theorem dX6_measure_128 : decode cX6_measure 128 = .ok (.iconst 1, 1) := by decide +kernel
theorem dX6_measure_129 : decode cX6_measure 129 = .ok (.iadd, 1) := by decide +kernel
theorem dX6_measure_130 : decode cX6_measure 130 = .ok (.invokevirtual 25, 3) := by decide +kernel
theorem dX6_measure_133 : decode cX6_measure 133 = .ok (.iinc 6 1, 3) := by decide +kernel
theorem dX6_measure_136 : decode cX6_measure 136 = .ok (.goto (-66), 3) := by decide +kernel
theorem dX6_measure_139 : decode cX6_measure 139 = .ok (.iinc 4 1, 3) := by decide +kernel
theorem dX6_measure_142 : decode cX6_measure 142 = .ok (.goto (-101), 3) := by decide +kernel
theorem dX6_measure_145 : decode cX6_measure 145 = .ok (.return_, 1) := by decide +kernel
theorem dX6_reach_0 : decode cX6_reach 0 = .ok (.aload_n 0, 1) := by decide +kernel
theorem dX6_reach_1 : decode cX6_reach 1 = .ok (.getfield 9, 3) := by decide +kernel
theorem dX6_reach_4 : decode cX6_reach 4 = .ok (.iload_n 1, 1) := by decide +kernel
theorem dX6_reach_5 : decode cX6_reach 5 = .ok (.iload_n 2, 1) := by decide +kernel
theorem dX6_reach_6 : decode cX6_reach 6 = .ok (.iastore, 1) := by decide +kernel
theorem dX6_reach_7 : decode cX6_reach 7 = .ok (.aload_n 0, 1) := by decide +kernel
theorem dX6_reach_8 : decode cX6_reach 8 = .ok (.getfield 24, 3) := by decide +kernel
theorem dX6_reach_11 : decode cX6_reach 11 = .ok (.sipush 256, 3) := by decide +kernel
theorem dX6_reach_14 : decode cX6_reach 14 = .ok (.if_icmp .ge 23, 3) := by decide +kernel
theorem dX6_reach_17 : decode cX6_reach 17 = .ok (.aload_n 0, 1) := by decide +kernel
theorem dX6_reach_18 : decode cX6_reach 18 = .ok (.getfield 15, 3) := by decide +kernel
theorem dX6_reach_21 : decode cX6_reach 21 = .ok (.aload_n 0, 1) := by decide +kernel
theorem dX6_reach_22 : decode cX6_reach 22 = .ok (.getfield 24, 3) := by decide +kernel
theorem dX6_reach_25 : decode cX6_reach 25 = .ok (.iload_n 1, 1) := by decide +kernel
theorem dX6_reach_26 : decode cX6_reach 26 = .ok (.iastore, 1) := by decide +kernel
theorem dX6_reach_27 : decode cX6_reach 27 = .ok (.aload_n 0, 1) := by decide +kernel
theorem dX6_reach_28 : decode cX6_reach 28 = .ok (.dup, 1) := by decide +kernel
theorem dX6_reach_29 : decode cX6_reach 29 = .ok (.getfield 24, 3) := by decide +kernel
theorem dX6_reach_32 : decode cX6_reach 32 = .ok (.iconst 1, 1) := by decide +kernel
theorem dX6_reach_33 : decode cX6_reach 33 = .ok (.iadd, 1) := by decide +kernel
theorem dX6_reach_34 : decode cX6_reach 34 = .ok (.putfield 24, 3) := by decide +kernel
theorem dX6_reach_37 : decode cX6_reach 37 = .ok (.return_, 1) := by decide +kernel
