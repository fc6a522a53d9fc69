set_option maxRecDepth 20000 in
theorem ggX8_kindOf_X8_isBare : GoodIn wsX8_kindOf wsX8_isBare := goodIn_r _ [7, 8, 9, 10, 11, 12, 13, 14, 15, 16, 6, 17, 18, 19, 20, 21, 22, 23, 24, 25, 26, 27, 28, 29, 30, 31, 32, 33, 34, 35, 36, 37, 38, 39, 40, 41, 42, 43, 44, 45, 46, 47, 48, 49, 50, 51, 52, 53, 54, 55, 56, 57, 58, 59, 60, 61, 62, 63, 64, 65, 66, 67, 68, 69, 70, 71, 72, 73, 74, 75, 76] (by decide +kernel) (by decide +kernel)
set_option maxRecDepth 20000 in
theorem gX8_kindOf_X8_isBare : GoodIn wsX8_kindOf (wsV RX8 178 RX8 yX8_isBare wsX8_isBare) := goodIn_app (goodIn_of _ (by decide +kernel)) ggX8_kindOf_X8_isBare
set_option maxRecDepth 20000 in
theorem ggX8_kindOf_X8_isHem : GoodIn wsX8_kindOf wsX8_isHem := goodIn_r _ [17, 18, 19, 20, 21, 22, 23, 6, 24, 25, 26, 43, 44, 45, 46, 47, 48, 49, 50, 51, 52, 53, 54, 55, 56, 57, 58, 59, 60, 61, 62, 63, 64, 65, 66, 67, 68, 69, 70, 71, 72, 73, 74, 75, 76] (by decide +kernel) (by decide +kernel)
set_option maxRecDepth 20000 in
theorem gX8_kindOf_X8_isHem : GoodIn wsX8_kindOf (wsV RX8 171 RX8 yX8_isHem wsX8_isHem) := goodIn_app (goodIn_of _ (by decide +kernel)) ggX8_kindOf_X8_isHem
theorem dX8_kindOf_0 : decode cX8_kindOf 0 = .ok (.aload_n 0, 1) := by decide +kernel
theorem dX8_kindOf_1 : decode cX8_kindOf 1 = .ok (.getfield 130, 3) := by decide +kernel
theorem dX8_kindOf_4 : decode cX8_kindOf 4 = .ok (.iload_n 1, 1) := by decide +kernel
theorem dX8_kindOf_5 : decode cX8_kindOf 5 = .ok (.ishr, 1) := by decide +kernel
theorem dX8_kindOf_6 : decode cX8_kindOf 6 = .ok (.iconst 1, 1) := by decide +kernel
theorem dX8_kindOf_7 : decode cX8_kindOf 7 = .ok (.iand, 1) := by decide +kernel
theorem dX8_kindOf_8 : decode cX8_kindOf 8 = .ok (.iconst 1, 1) := by decide +kernel
theorem dX8_kindOf_9 : decode cX8_kindOf 9 = .ok (.if_icmp .ne 7, 3) := by decide +kernel
theorem dX8_kindOf_12 : decode cX8_kindOf 12 = .ok (.iconst 4, 1) := by decide +kernel
theorem dX8_kindOf_13 : decode cX8_kindOf 13 = .ok (.goto 44, 3) := by decide +kernel
theorem dX8_kindOf_16 : decode cX8_kindOf 16 = .ok (.aload_n 0, 1) := by decide +kernel
theorem dX8_kindOf_17 : decode cX8_kindOf 17 = .ok (.getfield 133, 3) := by decide +kernel
theorem dX8_kindOf_20 : decode cX8_kindOf 20 = .ok (.iload_n 1, 1) := by decide +kernel
theorem dX8_kindOf_21 : decode cX8_kindOf 21 = .ok (.ishr, 1) := by decide +kernel
theorem dX8_kindOf_22 : decode cX8_kindOf 22 = .ok (.iconst 1, 1) := by decide +kernel
theorem dX8_kindOf_23 : decode cX8_kindOf 23 = .ok (.iand, 1) := by decide +kernel
theorem dX8_kindOf_24 : decode cX8_kindOf 24 = .ok (.iconst 1, 1) := by decide +kernel
theorem dX8_kindOf_25 : decode cX8_kindOf 25 = .ok (.if_icmp .ne 7, 3) := by decide +kernel
theorem dX8_kindOf_28 : decode cX8_kindOf 28 = .ok (.iconst 3, 1) := by decide +kernel
theorem dX8_kindOf_29 : decode cX8_kindOf 29 = .ok (.goto 28, 3) := by decide +kernel
theorem dX8_kindOf_32 : decode cX8_kindOf 32 = .ok (.aload_n 0, 1) := by decide +kernel
theorem dX8_kindOf_33 : decode cX8_kindOf 33 = .ok (.iload_n 1, 1) := by decide +kernel
theorem dX8_kindOf_34 : decode cX8_kindOf 34 = .ok (.invokevirtual 178, 3) := by decide +kernel
theorem dX8_kindOf_37 : decode cX8_kindOf 37 = .ok (.ifCond .eq 7, 3) := by decide +kernel
theorem dX8_kindOf_40 : decode cX8_kindOf 40 = .ok (.iconst 2, 1) := by decide +kernel
theorem dX8_kindOf_41 : decode cX8_kindOf 41 = .ok (.goto 16, 3) := by decide +kernel
theorem dX8_kindOf_44 : decode cX8_kindOf 44 = .ok (.aload_n 0, 1) := by decide +kernel
theorem dX8_kindOf_45 : decode cX8_kindOf 45 = .ok (.iload_n 1, 1) := by decide +kernel
theorem dX8_kindOf_46 : decode cX8_kindOf 46 = .ok (.invokevirtual 171, 3) := by decide +kernel
theorem dX8_kindOf_49 : decode cX8_kindOf 49 = .ok (.ifCond .eq 7, 3) := by decide +kernel
theorem dX8_kindOf_52 : decode cX8_kindOf 52 = .ok (.iconst 1, 1) := by decide +kernel
theorem dX8_kindOf_53 : decode cX8_kindOf 53 = .ok (.goto 4, 3) := by decide +kernel
theorem dX8_kindOf_56 : decode cX8_kindOf 56 = .ok (.iconst 0, 1) := by decide +kernel
theorem dX8_kindOf_57 : decode cX8_kindOf 57 = .ok (.ireturn, 1) := by decide +kernel
set_option maxRecDepth 20000 in
theorem ggX8_kind_X8_noFence : GoodIn wsX8_kind wsX8_noFence := goodIn_r _ [7, 8, 9, 10, 6, 11, 57, 58, 59, 60, 61, 62, 63, 64, 65, 66, 67, 68, 69, 70, 71, 72, 73, 74, 75, 76, 77, 78, 79, 80, 81, 82, 83, 84, 85, 86, 87, 88, 89, 90] (by decide +kernel) (by decide +kernel)
set_option maxRecDepth 20000 in
theorem gX8_kind_X8_noFence : GoodIn wsX8_kind (wsV RX8 155 RX8 yX8_noFence wsX8_noFence) := goodIn_app (goodIn_of _ (by decide +kernel)) ggX8_kind_X8_noFence
set_option maxRecDepth 20000 in
theorem ggX8_kind_X8_kindOf : GoodIn wsX8_kind wsX8_kindOf := goodIn_r _ [15, 16, 17, 18, 19, 20, 6, 21, 22, 23, 24, 25, 26, 27, 28, 29, 30, 31, 32, 33, 34, 35, 36, 37, 38, 39, 40, 41, 42, 43, 44, 45, 46, 47, 48, 49, 50, 51, 52, 53, 54, 55, 56, 57, 58, 59, 60, 61, 62, 63, 64, 65, 66, 67, 68, 69, 70, 71, 72, 73, 74, 75, 76, 77, 78, 79, 80, 81, 82, 83, 84, 85, 86, 87, 88, 89, 90] (by decide +kernel) (by decide +kernel)
set_option maxRecDepth 20000 in
theorem gX8_kind_X8_kindOf : GoodIn wsX8_kind (wsV RX8 181 RX8 yX8_kindOf wsX8_kindOf) := goodIn_app (goodIn_of _ (by decide +kernel)) ggX8_kind_X8_kindOf
theorem dX8_kind_0 : decode cX8_kind 0 = .ok (.aload_n 0, 1) := by decide +kernel
theorem dX8_kind_1 : decode cX8_kind 1 = .ok (.iconst 0, 1) := by decide +kernel
theorem dX8_kind_2 : decode cX8_kind 2 = .ok (.putfield 74, 3) := by decide +kernel
theorem dX8_kind_5 : decode cX8_kind 5 = .ok (.aload_n 0, 1) := by decide +kernel
theorem dX8_kind_6 : decode cX8_kind 6 = .ok (.getfield 151, 3) := by decide +kernel
theorem dX8_kind_9 : decode cX8_kind 9 = .ok (.ifCond .ne 8, 3) := by decide +kernel
theorem dX8_kind_12 : decode cX8_kind 12 = .ok (.bipush (-3), 2) := by decide +kernel
theorem dX8_kind_14 : decode cX8_kind 14 = .ok (.goto 20, 3) := by decide +kernel
theorem dX8_kind_17 : decode cX8_kind 17 = .ok (.aload_n 0, 1) := by decide +kernel
theorem dX8_kind_18 : decode cX8_kind 18 = .ok (.iload_n 1, 1) := by decide +kernel
theorem dX8_kind_19 : decode cX8_kind 19 = .ok (.invokevirtual 155, 3) := by decide +kernel
theorem dX8_kind_22 : decode cX8_kind 22 = .ok (.ifCond .eq 7, 3) := by decide +kernel
theorem dX8_kind_25 : decode cX8_kind 25 = .ok (.iconst (-1), 1) := by decide +kernel
theorem dX8_kind_26 : decode cX8_kind 26 = .ok (.goto 8, 3) := by decide +kernel
theorem dX8_kind_29 : decode cX8_kind 29 = .ok (.aload_n 0, 1) := by decide +kernel
theorem dX8_kind_30 : decode cX8_kind 30 = .ok (.iload_n 1, 1) := by decide +kernel
theorem dX8_kind_31 : decode cX8_kind 31 = .ok (.invokevirtual 181, 3) := by decide +kernel
theorem dX8_kind_34 : decode cX8_kind 34 = .ok (.ireturn, 1) := by decide +kernel
set_option maxRecDepth 20000 in
theorem ggX8_weightAs_X8_in : GoodIn wsX8_weightAs wsX8_in := goodIn_r _ [8] (by decide +kernel) (by decide +kernel)
set_option maxRecDepth 20000 in
theorem gX8_weightAs_X8_in : GoodIn wsX8_weightAs (va_wsS RX8 83 yX8_in wsX8_in) := goodIn_app (goodIn_of _ (by decide +kernel)) ggX8_weightAs_X8_in
set_option maxRecDepth 20000 in
theorem ggX8_weightAs_X8_noFence : GoodIn wsX8_weightAs wsX8_noFence := goodIn_r _ [12, 13, 5, 6, 7, 8, 64, 65, 66, 67, 68, 69, 70, 71, 72, 73, 74, 75, 76, 77, 78, 79, 80, 81, 82, 83, 84, 85, 86, 87, 88, 89, 90, 91, 92, 93, 94, 95, 96, 97] (by decide +kernel) (by decide +kernel)
set_option maxRecDepth 20000 in
theorem gX8_weightAs_X8_noFence : GoodIn wsX8_weightAs (wsV RX8 155 RX8 yX8_noFence wsX8_noFence) := goodIn_app (goodIn_of _ (by decide +kernel)) ggX8_weightAs_X8_noFence
set_option maxRecDepth 20000 in
theorem ggX8_weightAs_X8_kindOf : GoodIn wsX8_weightAs wsX8_kindOf := goodIn_r _ [17, 18, 19, 20, 21, 22, 7, 23, 24, 25, 26, 27, 28, 29, 30, 31, 32, 33, 34, 35, 36, 37, 38, 39, 40, 41, 42, 43, 44, 45, 46, 47, 48, 49, 50, 51, 52, 53, 54, 55, 56, 57, 58, 64, 65, 66, 67, 68, 69, 70, 71, 72, 73, 74, 75, 76, 77, 78, 79, 80, 81, 82, 83, 84, 85, 86, 87, 88, 89, 90, 91, 92, 93, 94, 95, 96, 97] (by decide +kernel) (by decide +kernel)
set_option maxRecDepth 20000 in
theorem gX8_weightAs_X8_kindOf : GoodIn wsX8_weightAs (wsV RX8 181 RX8 yX8_kindOf wsX8_kindOf) := goodIn_app (goodIn_of _ (by decide +kernel)) ggX8_weightAs_X8_kindOf
set_option maxRecDepth 20000 in
theorem ggX8_weightAs_X8_finds : GoodIn wsX8_weightAs wsX8_finds := goodIn_r _ [62, 63, 64, 65, 66, 67, 68, 69, 70, 71, 72, 73, 74, 75, 76, 77, 78, 79, 80, 81, 82, 83, 84, 85, 86, 87, 88, 89, 90, 91, 92, 93, 94, 95, 96, 97] (by decide +kernel) (by decide +kernel)
set_option maxRecDepth 20000 in
theorem gX8_weightAs_X8_finds : GoodIn wsX8_weightAs (wsV RX8 87 RX8 yX8_finds wsX8_finds) := goodIn_app (goodIn_of _ (by decide +kernel)) ggX8_weightAs_X8_finds
theorem dX8_weightAs_0 : decode cX8_weightAs 0 = .ok (.aload_n 0, 1) := by decide +kernel
theorem dX8_weightAs_1 : decode cX8_weightAs 1 = .ok (.iconst 0, 1) := by decide +kernel
theorem dX8_weightAs_2 : decode cX8_weightAs 2 = .ok (.putfield 74, 3) := by decide +kernel
theorem dX8_weightAs_5 : decode cX8_weightAs 5 = .ok (.iload_n 2, 1) := by decide +kernel
theorem dX8_weightAs_6 : decode cX8_weightAs 6 = .ok (.i2l, 1) := by decide +kernel
theorem dX8_weightAs_7 : decode cX8_weightAs 7 = .ok (.lconst 0, 1) := by decide +kernel
theorem dX8_weightAs_8 : decode cX8_weightAs 8 = .ok (.ldc2_w 184, 3) := by decide +kernel
theorem dX8_weightAs_11 : decode cX8_weightAs 11 = .ok (.invokestatic 83, 3) := by decide +kernel
theorem dX8_weightAs_14 : decode cX8_weightAs 14 = .ok (.ifCond .ne 6, 3) := by decide +kernel
theorem dX8_weightAs_17 : decode cX8_weightAs 17 = .ok (.bipush (-2), 2) := by decide +kernel
theorem dX8_weightAs_19 : decode cX8_weightAs 19 = .ok (.ireturn, 1) := by decide +kernel
theorem dX8_weightAs_20 : decode cX8_weightAs 20 = .ok (.aload_n 0, 1) := by decide +kernel
theorem dX8_weightAs_21 : decode cX8_weightAs 21 = .ok (.getfield 151, 3) := by decide +kernel
theorem dX8_weightAs_24 : decode cX8_weightAs 24 = .ok (.ifCond .ne 6, 3) := by decide +kernel
theorem dX8_weightAs_27 : decode cX8_weightAs 27 = .ok (.bipush (-3), 2) := by decide +kernel
theorem dX8_weightAs_29 : decode cX8_weightAs 29 = .ok (.ireturn, 1) := by decide +kernel
theorem dX8_weightAs_30 : decode cX8_weightAs 30 = .ok (.aload_n 0, 1) := by decide +kernel
theorem dX8_weightAs_31 : decode cX8_weightAs 31 = .ok (.iload_n 1, 1) := by decide +kernel
theorem dX8_weightAs_32 : decode cX8_weightAs 32 = .ok (.invokevirtual 155, 3) := by decide +kernel
theorem dX8_weightAs_35 : decode cX8_weightAs 35 = .ok (.ifCond .eq 5, 3) := by decide +kernel
theorem dX8_weightAs_38 : decode cX8_weightAs 38 = .ok (.iconst (-1), 1) := by decide +kernel
theorem dX8_weightAs_39 : decode cX8_weightAs 39 = .ok (.ireturn, 1) := by decide +kernel
theorem dX8_weightAs_40 : decode cX8_weightAs 40 = .ok (.aload_n 0, 1) := by decide +kernel
theorem dX8_weightAs_41 : decode cX8_weightAs 41 = .ok (.iload_n 1, 1) := by decide +kernel
theorem dX8_weightAs_42 : decode cX8_weightAs 42 = .ok (.invokevirtual 181, 3) := by decide +kernel
theorem dX8_weightAs_45 : decode cX8_weightAs 45 = .ok (.istore_n 3, 1) := by decide +kernel
theorem dX8_weightAs_46 : decode cX8_weightAs 46 = .ok (.iload_n 2, 1) := by decide +kernel
theorem dX8_weightAs_47 : decode cX8_weightAs 47 = .ok (.ifCond .eq 18, 3) := by decide +kernel
theorem dX8_weightAs_50 : decode cX8_weightAs 50 = .ok (.iload_n 2, 1) := by decide +kernel
theorem dX8_weightAs_51 : decode cX8_weightAs 51 = .ok (.iload_n 3, 1) := by decide +kernel
theorem dX8_weightAs_52 : decode cX8_weightAs 52 = .ok (.if_icmp .eq 13, 3) := by decide +kernel
theorem dX8_weightAs_55 : decode cX8_weightAs 55 = .ok (.iload_n 2, 1) := by decide +kernel
theorem dX8_weightAs_56 : decode cX8_weightAs 56 = .ok (.iconst 1, 1) := by decide +kernel
theorem dX8_weightAs_57 : decode cX8_weightAs 57 = .ok (.if_icmp .ne 17, 3) := by decide +kernel
theorem dX8_weightAs_60 : decode cX8_weightAs 60 = .ok (.iload_n 3, 1) := by decide +kernel
theorem dX8_weightAs_61 : decode cX8_weightAs 61 = .ok (.iconst 2, 1) := by decide +kernel
theorem dX8_weightAs_62 : decode cX8_weightAs 62 = .ok (.if_icmp .ne 12, 3) := by decide +kernel
theorem dX8_weightAs_65 : decode cX8_weightAs 65 = .ok (.aload_n 0, 1) := by decide +kernel
theorem dX8_weightAs_66 : decode cX8_weightAs 66 = .ok (.getfield 44, 3) := by decide +kernel
theorem dX8_weightAs_69 : decode cX8_weightAs 69 = .ok (.iload_n 1, 1) := by decide +kernel
theorem dX8_weightAs_70 : decode cX8_weightAs 70 = .ok (.iaload, 1) := by decide +kernel
theorem dX8_weightAs_71 : decode cX8_weightAs 71 = .ok (.goto 9, 3) := by decide +kernel
theorem dX8_weightAs_74 : decode cX8_weightAs 74 = .ok (.aload_n 0, 1) := by decide +kernel
theorem dX8_weightAs_75 : decode cX8_weightAs 75 = .ok (.bipush (-13), 2) := by decide +kernel
theorem dX8_weightAs_77 : decode cX8_weightAs 77 = .ok (.invokevirtual 87, 3) := by decide +kernel
theorem dX8_weightAs_80 : decode cX8_weightAs 80 = .ok (.ireturn, 1) := by decide +kernel
set_option maxRecDepth 20000 in
theorem ggX8_crosses_X8_noFence : GoodIn wsX8_crosses wsX8_noFence := goodIn_r _ [8, 9, 10, 11, 7, 12, 13, 14, 15, 16, 17, 18, 19, 20, 21, 22, 23, 24, 25, 26, 27, 28, 29, 30, 31, 32, 33, 34, 35, 36, 37, 38, 39, 40, 41, 42, 43, 44, 45, 46] (by decide +kernel) (by decide +kernel)
set_option maxRecDepth 20000 in
theorem gX8_crosses_X8_noFence : GoodIn wsX8_crosses (wsV RX8 155 RX8 yX8_noFence wsX8_noFence) := goodIn_app (goodIn_of _ (by decide +kernel)) ggX8_crosses_X8_noFence
theorem dX8_crosses_0 : decode cX8_crosses 0 = .ok (.aload_n 0, 1) := by decide +kernel
theorem dX8_crosses_1 : decode cX8_crosses 1 = .ok (.iconst 0, 1) := by decide +kernel
theorem dX8_crosses_2 : decode cX8_crosses 2 = .ok (.putfield 74, 3) := by decide +kernel
theorem dX8_crosses_5 : decode cX8_crosses 5 = .ok (.aload_n 0, 1) := by decide +kernel
theorem dX8_crosses_6 : decode cX8_crosses 6 = .ok (.getfield 151, 3) := by decide +kernel
theorem dX8_crosses_9 : decode cX8_crosses 9 = .ok (.ifCond .ne 8, 3) := by decide +kernel
theorem dX8_crosses_12 : decode cX8_crosses 12 = .ok (.bipush (-3), 2) := by decide +kernel
theorem dX8_crosses_14 : decode cX8_crosses 14 = .ok (.goto 33, 3) := by decide +kernel
theorem dX8_crosses_17 : decode cX8_crosses 17 = .ok (.aload_n 0, 1) := by decide +kernel
theorem dX8_crosses_18 : decode cX8_crosses 18 = .ok (.iload_n 1, 1) := by decide +kernel
theorem dX8_crosses_19 : decode cX8_crosses 19 = .ok (.invokevirtual 155, 3) := by decide +kernel
theorem dX8_crosses_22 : decode cX8_crosses 22 = .ok (.ifCond .ne 11, 3) := by decide +kernel
theorem dX8_crosses_25 : decode cX8_crosses 25 = .ok (.aload_n 0, 1) := by decide +kernel
theorem dX8_crosses_26 : decode cX8_crosses 26 = .ok (.iload_n 2, 1) := by decide +kernel
theorem dX8_crosses_27 : decode cX8_crosses 27 = .ok (.invokevirtual 155, 3) := by decide +kernel
theorem dX8_crosses_30 : decode cX8_crosses 30 = .ok (.ifCond .eq 7, 3) := by decide +kernel
theorem dX8_crosses_33 : decode cX8_crosses 33 = .ok (.iconst (-1), 1) := by decide +kernel
theorem dX8_crosses_34 : decode cX8_crosses 34 = .ok (.goto 13, 3) := by decide +kernel
theorem dX8_crosses_37 : decode cX8_crosses 37 = .ok (.aload_n 0, 1) := by decide +kernel
theorem dX8_crosses_38 : decode cX8_crosses 38 = .ok (.getfield 41, 3) := by decide +kernel
theorem dX8_crosses_41 : decode cX8_crosses 41 = .ok (.iload_n 1, 1) := by decide +kernel
theorem dX8_crosses_42 : decode cX8_crosses 42 = .ok (.iaload, 1) := by decide +kernel
theorem dX8_crosses_43 : decode cX8_crosses 43 = .ok (.iload_n 2, 1) := by decide +kernel
theorem dX8_crosses_44 : decode cX8_crosses 44 = .ok (.ishr, 1) := by decide +kernel
theorem dX8_crosses_45 : decode cX8_crosses 45 = .ok (.iconst 1, 1) := by decide +kernel
theorem dX8_crosses_46 : decode cX8_crosses 46 = .ok (.iand, 1) := by decide +kernel
theorem dX8_crosses_47 : decode cX8_crosses 47 = .ok (.ireturn, 1) := by decide +kernel
set_option maxRecDepth 20000 in
theorem ggX8_tell_X8_in : GoodIn wsX8_tell wsX8_in := goodIn_r _ [12] (by decide +kernel) (by decide +kernel)
set_option maxRecDepth 20000 in
theorem gX8_tell_X8_in : GoodIn wsX8_tell (va_wsS RX8 83 yX8_in wsX8_in) := goodIn_app (goodIn_of _ (by decide +kernel)) ggX8_tell_X8_in
set_option maxRecDepth 20000 in
theorem ggX8_tell_X8_noFence : GoodIn wsX8_tell wsX8_noFence := goodIn_r _ [16, 17, 9, 10, 11, 12, 25, 26, 27, 28, 29, 30, 31, 32, 33, 34, 35, 36, 37, 38, 39, 40, 41, 42, 43, 44, 45, 46, 47, 48, 49, 50, 51, 52, 53, 54, 55, 56, 57, 58] (by decide +kernel) (by decide +kernel)
set_option maxRecDepth 20000 in
theorem gX8_tell_X8_noFence : GoodIn wsX8_tell (wsV RX8 155 RX8 yX8_noFence wsX8_noFence) := goodIn_app (goodIn_of _ (by decide +kernel)) ggX8_tell_X8_noFence
set_option maxRecDepth 20000 in
theorem ggX8_tell_X8_findAsked : GoodIn wsX8_tell wsX8_findAsked := goodIn_r _ [21, 8, 22, 23, 5, 6, 24, 25, 26, 27, 28, 29, 30, 31, 32, 33, 34, 35, 36, 37, 38, 39, 40, 41, 42, 43, 44, 45, 46, 47, 48, 49, 50, 51, 52, 53, 54, 55, 56, 57, 58] (by decide +kernel) (by decide +kernel)
set_option maxRecDepth 20000 in
theorem gX8_tell_X8_findAsked : GoodIn wsX8_tell (wsV RX8 142 RX8 yX8_findAsked wsX8_findAsked) := goodIn_app (goodIn_of _ (by decide +kernel)) ggX8_tell_X8_findAsked
theorem dX8_tell_0 : decode cX8_tell 0 = .ok (.aload_n 0, 1) := by decide +kernel
theorem dX8_tell_1 : decode cX8_tell 1 = .ok (.iconst 0, 1) := by decide +kernel
theorem dX8_tell_2 : decode cX8_tell 2 = .ok (.putfield 74, 3) := by decide +kernel
theorem dX8_tell_5 : decode cX8_tell 5 = .ok (.iload_n 2, 1) := by decide +kernel
theorem dX8_tell_6 : decode cX8_tell 6 = .ok (.i2l, 1) := by decide +kernel
theorem dX8_tell_7 : decode cX8_tell 7 = .ok (.lconst 0, 1) := by decide +kernel
theorem dX8_tell_8 : decode cX8_tell 8 = .ok (.ldc2_w 186, 3) := by decide +kernel
theorem dX8_tell_11 : decode cX8_tell 11 = .ok (.invokestatic 83, 3) := by decide +kernel
theorem dX8_tell_14 : decode cX8_tell 14 = .ok (.ifCond .ne 6, 3) := by decide +kernel
theorem dX8_tell_17 : decode cX8_tell 17 = .ok (.bipush (-2), 2) := by decide +kernel
theorem dX8_tell_19 : decode cX8_tell 19 = .ok (.ireturn, 1) := by decide +kernel
theorem dX8_tell_20 : decode cX8_tell 20 = .ok (.aload_n 0, 1) := by decide +kernel
theorem dX8_tell_21 : decode cX8_tell 21 = .ok (.getfield 151, 3) := by decide +kernel
theorem dX8_tell_24 : decode cX8_tell 24 = .ok (.ifCond .ne 6, 3) := by decide +kernel
theorem dX8_tell_27 : decode cX8_tell 27 = .ok (.bipush (-3), 2) := by decide +kernel
theorem dX8_tell_29 : decode cX8_tell 29 = .ok (.ireturn, 1) := by decide +kernel
theorem dX8_tell_30 : decode cX8_tell 30 = .ok (.aload_n 0, 1) := by decide +kernel
theorem dX8_tell_31 : decode cX8_tell 31 = .ok (.iload_n 1, 1) := by decide +kernel
theorem dX8_tell_32 : decode cX8_tell 32 = .ok (.invokevirtual 155, 3) := by decide +kernel
theorem dX8_tell_35 : decode cX8_tell 35 = .ok (.ifCond .eq 5, 3) := by decide +kernel
theorem dX8_tell_38 : decode cX8_tell 38 = .ok (.iconst (-1), 1) := by decide +kernel
theorem dX8_tell_39 : decode cX8_tell 39 = .ok (.ireturn, 1) := by decide +kernel
theorem dX8_tell_40 : decode cX8_tell 40 = .ok (.aload_n 0, 1) := by decide +kernel
theorem dX8_tell_41 : decode cX8_tell 41 = .ok (.getfield 145, 3) := by decide +kernel
theorem dX8_tell_44 : decode cX8_tell 44 = .ok (.iload_n 1, 1) := by decide +kernel
theorem dX8_tell_45 : decode cX8_tell 45 = .ok (.ishr, 1) := by decide +kernel
theorem dX8_tell_46 : decode cX8_tell 46 = .ok (.iconst 1, 1) := by decide +kernel
theorem dX8_tell_47 : decode cX8_tell 47 = .ok (.iand, 1) := by decide +kernel
theorem dX8_tell_48 : decode cX8_tell 48 = .ok (.iconst 1, 1) := by decide +kernel
theorem dX8_tell_49 : decode cX8_tell 49 = .ok (.if_icmp .ne 7, 3) := by decide +kernel
theorem dX8_tell_52 : decode cX8_tell 52 = .ok (.iconst 1, 1) := by decide +kernel
theorem dX8_tell_53 : decode cX8_tell 53 = .ok (.goto 4, 3) := by decide +kernel
theorem dX8_tell_56 : decode cX8_tell 56 = .ok (.iconst 0, 1) := by decide +kernel
theorem dX8_tell_57 : decode cX8_tell 57 = .ok (.istore_n 3, 1) := by decide +kernel
theorem dX8_tell_58 : decode cX8_tell 58 = .ok (.iload_n 2, 1) := by decide +kernel
theorem dX8_tell_59 : decode cX8_tell 59 = .ok (.iconst 1, 1) := by decide +kernel
theorem dX8_tell_60 : decode cX8_tell 60 = .ok (.if_icmp .ne 7, 3) := by decide +kernel
theorem dX8_tell_63 : decode cX8_tell 63 = .ok (.iload_n 3, 1) := by decide +kernel
theorem dX8_tell_64 : decode cX8_tell 64 = .ok (.ifCond .eq 12, 3) := by decide +kernel
theorem dX8_tell_67 : decode cX8_tell 67 = .ok (.iload_n 2, 1) := by decide +kernel
theorem dX8_tell_68 : decode cX8_tell 68 = .ok (.iconst 2, 1) := by decide +kernel
theorem dX8_tell_69 : decode cX8_tell 69 = .ok (.if_icmp .ne 10, 3) := by decide +kernel
theorem dX8_tell_72 : decode cX8_tell 72 = .ok (.iload_n 3, 1) := by decide +kernel
theorem dX8_tell_73 : decode cX8_tell 73 = .ok (.ifCond .eq 6, 3) := by decide +kernel
theorem dX8_tell_76 : decode cX8_tell 76 = .ok (.bipush (-3), 2) := by decide +kernel
theorem dX8_tell_78 : decode cX8_tell 78 = .ok (.ireturn, 1) := by decide +kernel
theorem dX8_tell_79 : decode cX8_tell 79 = .ok (.aload_n 0, 1) := by decide +kernel
theorem dX8_tell_80 : decode cX8_tell 80 = .ok (.aload_n 0, 1) := by decide +kernel
theorem dX8_tell_81 : decode cX8_tell 81 = .ok (.getfield 130, 3) := by decide +kernel
theorem dX8_tell_84 : decode cX8_tell 84 = .ok (.iconst 1, 1) := by decide +kernel
theorem dX8_tell_85 : decode cX8_tell 85 = .ok (.iload_n 1, 1) := by decide +kernel
theorem dX8_tell_86 : decode cX8_tell 86 = .ok (.ishl, 1) := by decide +kernel
theorem dX8_tell_87 : decode cX8_tell 87 = .ok (.iconst (-1), 1) := by decide +kernel
theorem dX8_tell_88 : decode cX8_tell 88 = .ok (.ixor, 1) := by decide +kernel
theorem dX8_tell_89 : decode cX8_tell 89 = .ok (.iand, 1) := by decide +kernel
theorem dX8_tell_90 : decode cX8_tell 90 = .ok (.iload_n 2, 1) := by decide +kernel
theorem dX8_tell_91 : decode cX8_tell 91 = .ok (.iconst 1, 1) := by decide +kernel
theorem dX8_tell_92 : decode cX8_tell 92 = .ok (.if_icmp .ne 9, 3) := by decide +kernel
theorem dX8_tell_95 : decode cX8_tell 95 = .ok (.iconst 1, 1) := by decide +kernel
theorem dX8_tell_96 : decode cX8_tell 96 = .ok (.iload_n 1, 1) := by decide +kernel
theorem dX8_tell_97 : decode cX8_tell 97 = .ok (.ishl, 1) := by decide +kernel
theorem dX8_tell_98 : decode cX8_tell 98 = .ok (.goto 4, 3) := by decide +kernel
theorem dX8_tell_101 : decode cX8_tell 101 = .ok (.iconst 0, 1) := by decide +kernel
theorem dX8_tell_102 : decode cX8_tell 102 = .ok (.ior, 1) := by decide +kernel
theorem dX8_tell_103 : decode cX8_tell 103 = .ok (.putfield 130, 3) := by decide +kernel
theorem dX8_tell_106 : decode cX8_tell 106 = .ok (.aload_n 0, 1) := by decide +kernel
theorem dX8_tell_107 : decode cX8_tell 107 = .ok (.aload_n 0, 1) := by decide +kernel
theorem dX8_tell_108 : decode cX8_tell 108 = .ok (.getfield 133, 3) := by decide +kernel
theorem dX8_tell_111 : decode cX8_tell 111 = .ok (.iconst 1, 1) := by decide +kernel
theorem dX8_tell_112 : decode cX8_tell 112 = .ok (.iload_n 1, 1) := by decide +kernel
theorem dX8_tell_113 : decode cX8_tell 113 = .ok (.ishl, 1) := by decide +kernel
theorem dX8_tell_114 : decode cX8_tell 114 = .ok (.iconst (-1), 1) := by decide +kernel
theorem dX8_tell_115 : decode cX8_tell 115 = .ok (.ixor, 1) := by decide +kernel
theorem dX8_tell_116 : decode cX8_tell 116 = .ok (.iand, 1) := by decide +kernel
theorem dX8_tell_117 : decode cX8_tell 117 = .ok (.iload_n 2, 1) := by decide +kernel
theorem dX8_tell_118 : decode cX8_tell 118 = .ok (.iconst 2, 1) := by decide +kernel
theorem dX8_tell_119 : decode cX8_tell 119 = .ok (.if_icmp .ne 9, 3) := by decide +kernel
theorem dX8_tell_122 : decode cX8_tell 122 = .ok (.iconst 1, 1) := by decide +kernel
theorem dX8_tell_123 : decode cX8_tell 123 = .ok (.iload_n 1, 1) := by decide +kernel
theorem dX8_tell_124 : decode cX8_tell 124 = .ok (.ishl, 1) := by decide +kernel
theorem dX8_tell_125 : decode cX8_tell 125 = .ok (.goto 4, 3) := by decide +kernel
theorem dX8_tell_128 : decode cX8_tell 128 = .ok (.iconst 0, 1) := by decide +kernel
theorem dX8_tell_129 : decode cX8_tell 129 = .ok (.ior, 1) := by decide +kernel
theorem dX8_tell_130 : decode cX8_tell 130 = .ok (.putfield 133, 3) := by decide +kernel
theorem dX8_tell_133 : decode cX8_tell 133 = .ok (.aload_n 0, 1) := by decide +kernel
theorem dX8_tell_134 : decode cX8_tell 134 = .ok (.invokevirtual 142, 3) := by decide +kernel
theorem dX8_tell_137 : decode cX8_tell 137 = .ok (.aload_n 0, 1) := by decide +kernel
theorem dX8_tell_138 : decode cX8_tell 138 = .ok (.iconst 0, 1) := by decide +kernel
theorem dX8_tell_139 : decode cX8_tell 139 = .ok (.putfield 148, 3) := by decide +kernel
theorem dX8_tell_142 : decode cX8_tell 142 = .ok (.aload_n 0, 1) := by decide +kernel
theorem dX8_tell_143 : decode cX8_tell 143 = .ok (.getfield 127, 3) := by decide +kernel
theorem dX8_tell_146 : decode cX8_tell 146 = .ok (.ireturn, 1) := by decide +kernel
set_option maxRecDepth 20000 in
theorem ggX8_weigh_X8_in : GoodIn wsX8_weigh wsX8_in := goodIn_r _ [9] (by decide +kernel) (by decide +kernel)
set_option maxRecDepth 20000 in
theorem gX8_weigh_X8_in : GoodIn wsX8_weigh (va_wsS RX8 83 yX8_in wsX8_in) := goodIn_app (goodIn_of _ (by decide +kernel)) ggX8_weigh_X8_in
set_option maxRecDepth 20000 in
theorem ggX8_weigh_X8_noFence : GoodIn wsX8_weigh wsX8_noFence := goodIn_r _ [13, 14, 6, 7, 8, 9, 15, 16, 17, 18, 19, 20, 21, 22, 23, 24, 25, 26, 27, 28, 29, 30, 31, 32, 33, 34, 35, 36, 37, 38, 39, 40, 41, 42, 43, 44, 45, 46, 47, 48] (by decide +kernel) (by decide +kernel)
set_option maxRecDepth 20000 in
theorem gX8_weigh_X8_noFence : GoodIn wsX8_weigh (wsV RX8 155 RX8 yX8_noFence wsX8_noFence) := goodIn_app (goodIn_of _ (by decide +kernel)) ggX8_weigh_X8_noFence
theorem dX8_weigh_0 : decode cX8_weigh 0 = .ok (.aload_n 0, 1) := by decide +kernel
theorem dX8_weigh_1 : decode cX8_weigh 1 = .ok (.iconst 0, 1) := by decide +kernel
theorem dX8_weigh_2 : decode cX8_weigh 2 = .ok (.putfield 74, 3) := by decide +kernel
theorem dX8_weigh_5 : decode cX8_weigh 5 = .ok (.iload_n 2, 1) := by decide +kernel
theorem dX8_weigh_6 : decode cX8_weigh 6 = .ok (.i2l, 1) := by decide +kernel
theorem dX8_weigh_7 : decode cX8_weigh 7 = .ok (.ldc2_w 188, 3) := by decide +kernel
theorem dX8_weigh_10 : decode cX8_weigh 10 = .ok (.ldc2_w 190, 3) := by decide +kernel
theorem dX8_weigh_13 : decode cX8_weigh 13 = .ok (.invokestatic 83, 3) := by decide +kernel
theorem dX8_weigh_16 : decode cX8_weigh 16 = .ok (.ifCond .ne 6, 3) := by decide +kernel
theorem dX8_weigh_19 : decode cX8_weigh 19 = .ok (.bipush (-2), 2) := by decide +kernel
theorem dX8_weigh_21 : decode cX8_weigh 21 = .ok (.ireturn, 1) := by decide +kernel
theorem dX8_weigh_22 : decode cX8_weigh 22 = .ok (.aload_n 0, 1) := by decide +kernel
theorem dX8_weigh_23 : decode cX8_weigh 23 = .ok (.getfield 151, 3) := by decide +kernel
theorem dX8_weigh_26 : decode cX8_weigh 26 = .ok (.ifCond .ne 6, 3) := by decide +kernel
theorem dX8_weigh_29 : decode cX8_weigh 29 = .ok (.bipush (-3), 2) := by decide +kernel
theorem dX8_weigh_31 : decode cX8_weigh 31 = .ok (.ireturn, 1) := by decide +kernel
theorem dX8_weigh_32 : decode cX8_weigh 32 = .ok (.aload_n 0, 1) := by decide +kernel
theorem dX8_weigh_33 : decode cX8_weigh 33 = .ok (.iload_n 1, 1) := by decide +kernel
theorem dX8_weigh_34 : decode cX8_weigh 34 = .ok (.invokevirtual 155, 3) := by decide +kernel
theorem dX8_weigh_37 : decode cX8_weigh 37 = .ok (.ifCond .eq 5, 3) := by decide +kernel
theorem dX8_weigh_40 : decode cX8_weigh 40 = .ok (.iconst (-1), 1) := by decide +kernel
theorem dX8_weigh_41 : decode cX8_weigh 41 = .ok (.ireturn, 1) := by decide +kernel
theorem dX8_weigh_42 : decode cX8_weigh 42 = .ok (.aload_n 0, 1) := by decide +kernel
theorem dX8_weigh_43 : decode cX8_weigh 43 = .ok (.getfield 44, 3) := by decide +kernel
theorem dX8_weigh_46 : decode cX8_weigh 46 = .ok (.iload_n 1, 1) := by decide +kernel
theorem dX8_weigh_47 : decode cX8_weigh 47 = .ok (.iaload, 1) := by decide +kernel
theorem dX8_weigh_48 : decode cX8_weigh 48 = .ok (.istore_n 3, 1) := by decide +kernel
theorem dX8_weigh_49 : decode cX8_weigh 49 = .ok (.aload_n 0, 1) := by decide +kernel
theorem dX8_weigh_50 : decode cX8_weigh 50 = .ok (.getfield 44, 3) := by decide +kernel
theorem dX8_weigh_53 : decode cX8_weigh 53 = .ok (.iload_n 1, 1) := by decide +kernel
theorem dX8_weigh_54 : decode cX8_weigh 54 = .ok (.iload_n 2, 1) := by decide +kernel
theorem dX8_weigh_55 : decode cX8_weigh 55 = .ok (.iastore, 1) := by decide +kernel
theorem dX8_weigh_56 : decode cX8_weigh 56 = .ok (.iload_n 3, 1) := by decide +kernel
theorem dX8_weigh_57 : decode cX8_weigh 57 = .ok (.ireturn, 1) := by decide +kernel
theorem dX8_cutting_0 : decode cX8_cutting 0 = .ok (.aload_n 0, 1) := by decide +kernel
theorem dX8_cutting_1 : decode cX8_cutting 1 = .ok (.iconst 0, 1) := by decide +kernel
theorem dX8_cutting_2 : decode cX8_cutting 2 = .ok (.putfield 74, 3) := by decide +kernel
theorem dX8_cutting_5 : decode cX8_cutting 5 = .ok (.aload_n 0, 1) := by decide +kernel
theorem dX8_cutting_6 : decode cX8_cutting 6 = .ok (.getfield 151, 3) := by decide +kernel
theorem dX8_cutting_9 : decode cX8_cutting 9 = .ok (.ifCond .eq 11, 3) := by decide +kernel
theorem dX8_cutting_12 : decode cX8_cutting 12 = .ok (.aload_n 0, 1) := by decide +kernel
theorem dX8_cutting_13 : decode cX8_cutting 13 = .ok (.getfield 145, 3) := by decide +kernel
theorem dX8_cutting_16 : decode cX8_cutting 16 = .ok (.i2l, 1) := by decide +kernel
theorem dX8_cutting_17 : decode cX8_cutting 17 = .ok (.goto 6, 3) := by decide +kernel
theorem dX8_cutting_20 : decode cX8_cutting 20 = .ok (.ldc2_w 192, 3) := by decide +kernel
theorem dX8_cutting_23 : decode cX8_cutting 23 = .ok (.lreturn, 1) := by decide +kernel
set_option maxRecDepth 20000 in
theorem ggX8_has_X8_noFence : GoodIn wsX8_has wsX8_noFence := goodIn_r _ [8, 9, 10, 11, 7, 12, 13, 14, 15, 16, 17, 18, 19, 20, 21, 22, 23, 24, 25, 26, 27, 28, 29, 30, 31, 32, 33, 34, 35, 36, 37, 38, 39, 40, 41, 42, 43, 44, 45, 46] (by decide +kernel) (by decide +kernel)
set_option maxRecDepth 20000 in
theorem gX8_has_X8_noFence : GoodIn wsX8_has (wsV RX8 155 RX8 yX8_noFence wsX8_noFence) := goodIn_app (goodIn_of _ (by decide +kernel)) ggX8_has_X8_noFence
theorem dX8_has_0 : decode cX8_has 0 = .ok (.aload_n 0, 1) := by decide +kernel
theorem dX8_has_1 : decode cX8_has 1 = .ok (.iconst 0, 1) := by decide +kernel
theorem dX8_has_2 : decode cX8_has 2 = .ok (.putfield 74, 3) := by decide +kernel
theorem dX8_has_5 : decode cX8_has 5 = .ok (.aload_n 0, 1) := by decide +kernel
theorem dX8_has_6 : decode cX8_has 6 = .ok (.getfield 151, 3) := by decide +kernel
theorem dX8_has_9 : decode cX8_has 9 = .ok (.ifCond .ne 8, 3) := by decide +kernel
theorem dX8_has_12 : decode cX8_has 12 = .ok (.bipush (-3), 2) := by decide +kernel
theorem dX8_has_14 : decode cX8_has 14 = .ok (.goto 23, 3) := by decide +kernel
theorem dX8_has_17 : decode cX8_has 17 = .ok (.aload_n 0, 1) := by decide +kernel
theorem dX8_has_18 : decode cX8_has 18 = .ok (.iload_n 1, 1) := by decide +kernel
theorem dX8_has_19 : decode cX8_has 19 = .ok (.invokevirtual 155, 3) := by decide +kernel
theorem dX8_has_22 : decode cX8_has 22 = .ok (.ifCond .eq 7, 3) := by decide +kernel
theorem dX8_has_25 : decode cX8_has 25 = .ok (.iconst (-1), 1) := by decide +kernel
theorem dX8_has_26 : decode cX8_has 26 = .ok (.goto 11, 3) := by decide +kernel
theorem dX8_has_29 : decode cX8_has 29 = .ok (.aload_n 0, 1) := by decide +kernel
theorem dX8_has_30 : decode cX8_has 30 = .ok (.getfield 145, 3) := by decide +kernel
theorem dX8_has_33 : decode cX8_has 33 = .ok (.iload_n 1, 1) := by decide +kernel
theorem dX8_has_34 : decode cX8_has 34 = .ok (.ishr, 1) := by decide +kernel
theorem dX8_has_35 : decode cX8_has 35 = .ok (.iconst 1, 1) := by decide +kernel
theorem dX8_has_36 : decode cX8_has 36 = .ok (.iand, 1) := by decide +kernel
theorem dX8_has_37 : decode cX8_has 37 = .ok (.ireturn, 1) := by decide +kernel
set_option maxRecDepth 20000 in
theorem ggX8_thirds_X8_findThirds : GoodIn wsX8_thirds wsX8_findThirds := goodIn_r _ [9, 4, 10, 11, 12, 13, 14, 15, 16, 8, 17, 18, 19, 20, 21, 22, 23, 24, 25, 26, 27, 28, 29, 30, 31, 32, 33, 34, 35, 36, 37, 38, 39, 40, 41, 42, 43, 44, 45, 46, 47, 48, 49, 50, 51, 52, 53, 54, 55, 56, 57, 58, 59, 60, 61, 62, 63, 64, 65, 66] (by decide +kernel) (by decide +kernel)
set_option maxRecDepth 20000 in
theorem gX8_thirds_X8_findThirds : GoodIn wsX8_thirds (wsV RX8 174 RX8 yX8_findThirds wsX8_findThirds) := goodIn_app (goodIn_of _ (by decide +kernel)) ggX8_thirds_X8_findThirds
theorem dX8_thirds_0 : decode cX8_thirds 0 = .ok (.aload_n 0, 1) := by decide +kernel
theorem dX8_thirds_1 : decode cX8_thirds 1 = .ok (.iconst 0, 1) := by decide +kernel
theorem dX8_thirds_2 : decode cX8_thirds 2 = .ok (.putfield 74, 3) := by decide +kernel
theorem dX8_thirds_5 : decode cX8_thirds 5 = .ok (.aload_n 0, 1) := by decide +kernel
theorem dX8_thirds_6 : decode cX8_thirds 6 = .ok (.getfield 151, 3) := by decide +kernel
theorem dX8_thirds_9 : decode cX8_thirds 9 = .ok (.ifCond .ne 6, 3) := by decide +kernel
theorem dX8_thirds_12 : decode cX8_thirds 12 = .ok (.bipush (-3), 2) := by decide +kernel
theorem dX8_thirds_14 : decode cX8_thirds 14 = .ok (.ireturn, 1) := by decide +kernel
theorem dX8_thirds_15 : decode cX8_thirds 15 = .ok (.aload_n 0, 1) := by decide +kernel
theorem dX8_thirds_16 : decode cX8_thirds 16 = .ok (.aload_n 0, 1) := by decide +kernel
theorem dX8_thirds_17 : decode cX8_thirds 17 = .ok (.getfield 145, 3) := by decide +kernel
theorem dX8_thirds_20 : decode cX8_thirds 20 = .ok (.invokevirtual 174, 3) := by decide +kernel
theorem dX8_thirds_23 : decode cX8_thirds 23 = .ok (.aload_n 0, 1) := by decide +kernel
theorem dX8_thirds_24 : decode cX8_thirds 24 = .ok (.getfield 165, 3) := by decide +kernel
theorem dX8_thirds_27 : decode cX8_thirds 27 = .ok (.ireturn, 1) := by decide +kernel
set_option maxRecDepth 20000 in
theorem ggX8_third_X8_in : GoodIn wsX8_third wsX8_in := goodIn_r _ [12] (by decide +kernel) (by decide +kernel)
set_option maxRecDepth 20000 in
theorem gX8_third_X8_in : GoodIn wsX8_third (va_wsS RX8 83 yX8_in wsX8_in) := goodIn_app (goodIn_of _ (by decide +kernel)) ggX8_third_X8_in
set_option maxRecDepth 20000 in
theorem ggX8_third_X8_findThirds : GoodIn wsX8_third wsX8_findThirds := goodIn_r _ [16, 5, 17, 6, 7, 8, 18, 19, 20, 11, 21, 22, 23, 24, 25, 26, 27, 28, 29, 30, 31, 32, 33, 34, 35, 36, 37, 38, 39, 40, 41, 42, 43, 44, 45, 46, 47, 48, 49, 50, 51, 52, 53, 54, 55, 56, 57, 58, 59, 60, 61, 62, 63, 64, 65, 66, 67, 68, 69, 70] (by decide +kernel) (by decide +kernel)
set_option maxRecDepth 20000 in
theorem gX8_third_X8_findThirds : GoodIn wsX8_third (wsV RX8 174 RX8 yX8_findThirds wsX8_findThirds) := goodIn_app (goodIn_of _ (by decide +kernel)) ggX8_third_X8_findThirds
theorem dX8_third_0 : decode cX8_third 0 = .ok (.aload_n 0, 1) := by decide +kernel
theorem dX8_third_1 : decode cX8_third 1 = .ok (.iconst 0, 1) := by decide +kernel
theorem dX8_third_2 : decode cX8_third 2 = .ok (.putfield 74, 3) := by decide +kernel
theorem dX8_third_5 : decode cX8_third 5 = .ok (.iload_n 2, 1) := by decide +kernel
theorem dX8_third_6 : decode cX8_third 6 = .ok (.i2l, 1) := by decide +kernel
theorem dX8_third_7 : decode cX8_third 7 = .ok (.lconst 0, 1) := by decide +kernel
theorem dX8_third_8 : decode cX8_third 8 = .ok (.ldc2_w 186, 3) := by decide +kernel
theorem dX8_third_11 : decode cX8_third 11 = .ok (.invokestatic 83, 3) := by decide +kernel
theorem dX8_third_14 : decode cX8_third 14 = .ok (.ifCond .ne 6, 3) := by decide +kernel
theorem dX8_third_17 : decode cX8_third 17 = .ok (.bipush (-2), 2) := by decide +kernel
theorem dX8_third_19 : decode cX8_third 19 = .ok (.ireturn, 1) := by decide +kernel
theorem dX8_third_20 : decode cX8_third 20 = .ok (.aload_n 0, 1) := by decide +kernel
theorem dX8_third_21 : decode cX8_third 21 = .ok (.getfield 151, 3) := by decide +kernel
theorem dX8_third_24 : decode cX8_third 24 = .ok (.ifCond .ne 6, 3) := by decide +kernel
theorem dX8_third_27 : decode cX8_third 27 = .ok (.bipush (-3), 2) := by decide +kernel
theorem dX8_third_29 : decode cX8_third 29 = .ok (.ireturn, 1) := by decide +kernel
theorem dX8_third_30 : decode cX8_third 30 = .ok (.aload_n 0, 1) := by decide +kernel
theorem dX8_third_31 : decode cX8_third 31 = .ok (.aload_n 0, 1) := by decide +kernel
theorem dX8_third_32 : decode cX8_third 32 = .ok (.getfield 145, 3) := by decide +kernel
theorem dX8_third_35 : decode cX8_third 35 = .ok (.invokevirtual 174, 3) := by decide +kernel
theorem dX8_third_38 : decode cX8_third 38 = .ok (.iload_n 1, 1) := by decide +kernel
theorem dX8_third_39 : decode cX8_third 39 = .ok (.i2l, 1) := by decide +kernel
theorem dX8_third_40 : decode cX8_third 40 = .ok (.lconst 0, 1) := by decide +kernel
theorem dX8_third_41 : decode cX8_third 41 = .ok (.aload_n 0, 1) := by decide +kernel
theorem dX8_third_42 : decode cX8_third 42 = .ok (.getfield 165, 3) := by decide +kernel
theorem dX8_third_45 : decode cX8_third 45 = .ok (.iconst 1, 1) := by decide +kernel
theorem dX8_third_46 : decode cX8_third 46 = .ok (.isub, 1) := by decide +kernel
theorem dX8_third_47 : decode cX8_third 47 = .ok (.i2l, 1) := by decide +kernel
theorem dX8_third_48 : decode cX8_third 48 = .ok (.invokestatic 83, 3) := by decide +kernel
theorem dX8_third_51 : decode cX8_third 51 = .ok (.ifCond .ne 6, 3) := by decide +kernel
theorem dX8_third_54 : decode cX8_third 54 = .ok (.bipush (-9), 2) := by decide +kernel
theorem dX8_third_56 : decode cX8_third 56 = .ok (.ireturn, 1) := by decide +kernel
theorem dX8_third_57 : decode cX8_third 57 = .ok (.iload_n 2, 1) := by decide +kernel
theorem dX8_third_58 : decode cX8_third 58 = .ok (.ifCond .ne 12, 3) := by decide +kernel
theorem dX8_third_61 : decode cX8_third 61 = .ok (.aload_n 0, 1) := by decide +kernel
theorem dX8_third_62 : decode cX8_third 62 = .ok (.getfield 56, 3) := by decide +kernel
theorem dX8_third_65 : decode cX8_third 65 = .ok (.iload_n 1, 1) := by decide +kernel
theorem dX8_third_66 : decode cX8_third 66 = .ok (.iaload, 1) := by decide +kernel
theorem dX8_third_67 : decode cX8_third 67 = .ok (.goto 23, 3) := by decide +kernel
theorem dX8_third_70 : decode cX8_third 70 = .ok (.iload_n 2, 1) := by decide +kernel
theorem dX8_third_71 : decode cX8_third 71 = .ok (.iconst 1, 1) := by decide +kernel
theorem dX8_third_72 : decode cX8_third 72 = .ok (.if_icmp .ne 12, 3) := by decide +kernel
theorem dX8_third_75 : decode cX8_third 75 = .ok (.aload_n 0, 1) := by decide +kernel
theorem dX8_third_76 : decode cX8_third 76 = .ok (.getfield 59, 3) := by decide +kernel
theorem dX8_third_79 : decode cX8_third 79 = .ok (.iload_n 1, 1) := by decide +kernel
theorem dX8_third_80 : decode cX8_third 80 = .ok (.iaload, 1) := by decide +kernel
theorem dX8_third_81 : decode cX8_third 81 = .ok (.goto 9, 3) := by decide +kernel
theorem dX8_third_84 : decode cX8_third 84 = .ok (.aload_n 0, 1) := by decide +kernel
theorem dX8_third_85 : decode cX8_third 85 = .ok (.getfield 62, 3) := by decide +kernel
theorem dX8_third_88 : decode cX8_third 88 = .ok (.iload_n 1, 1) := by decide +kernel
theorem dX8_third_89 : decode cX8_third 89 = .ok (.iaload, 1) := by decide +kernel
theorem dX8_third_90 : decode cX8_third 90 = .ok (.ireturn, 1) := by decide +kernel
set_option maxRecDepth 20000 in
theorem ggX8_degree_X8_in : GoodIn wsX8_degree wsX8_in := goodIn_r _ [8] (by decide +kernel) (by decide +kernel)
set_option maxRecDepth 20000 in
theorem gX8_degree_X8_in : GoodIn wsX8_degree (va_wsS RX8 83 yX8_in wsX8_in) := goodIn_app (goodIn_of _ (by decide +kernel)) ggX8_degree_X8_in
set_option maxRecDepth 20000 in
theorem ggX8_degree_X8_hasFence : GoodIn wsX8_degree wsX8_hasFence := goodIn_r _ [12, 13, 14, 15, 16, 17, 18, 19, 20, 21, 22, 23, 24, 25, 26, 27, 28, 29, 30, 31, 32, 33, 34, 35, 36, 37, 38, 39, 40, 41, 42, 43, 44, 45, 46, 47] (by decide +kernel) (by decide +kernel)
set_option maxRecDepth 20000 in
theorem gX8_degree_X8_hasFence : GoodIn wsX8_degree (wsV RX8 158 RX8 yX8_hasFence wsX8_hasFence) := goodIn_app (goodIn_of _ (by decide +kernel)) ggX8_degree_X8_hasFence
theorem dX8_degree_0 : decode cX8_degree 0 = .ok (.aload_n 0, 1) := by decide +kernel
theorem dX8_degree_1 : decode cX8_degree 1 = .ok (.iconst 0, 1) := by decide +kernel
theorem dX8_degree_2 : decode cX8_degree 2 = .ok (.putfield 74, 3) := by decide +kernel
theorem dX8_degree_5 : decode cX8_degree 5 = .ok (.aload_n 0, 1) := by decide +kernel
theorem dX8_degree_6 : decode cX8_degree 6 = .ok (.getfield 151, 3) := by decide +kernel
theorem dX8_degree_9 : decode cX8_degree 9 = .ok (.ifCond .ne 6, 3) := by decide +kernel
theorem dX8_degree_12 : decode cX8_degree 12 = .ok (.bipush (-3), 2) := by decide +kernel
theorem dX8_degree_14 : decode cX8_degree 14 = .ok (.ireturn, 1) := by decide +kernel
theorem dX8_degree_15 : decode cX8_degree 15 = .ok (.iload_n 1, 1) := by decide +kernel
theorem dX8_degree_16 : decode cX8_degree 16 = .ok (.i2l, 1) := by decide +kernel
theorem dX8_degree_17 : decode cX8_degree 17 = .ok (.lconst 0, 1) := by decide +kernel
theorem dX8_degree_18 : decode cX8_degree 18 = .ok (.aload_n 0, 1) := by decide +kernel
theorem dX8_degree_19 : decode cX8_degree 19 = .ok (.getfield 109, 3) := by decide +kernel
theorem dX8_degree_22 : decode cX8_degree 22 = .ok (.iconst 1, 1) := by decide +kernel
theorem dX8_degree_23 : decode cX8_degree 23 = .ok (.isub, 1) := by decide +kernel
theorem dX8_degree_24 : decode cX8_degree 24 = .ok (.i2l, 1) := by decide +kernel
theorem dX8_degree_25 : decode cX8_degree 25 = .ok (.invokestatic 83, 3) := by decide +kernel
theorem dX8_degree_28 : decode cX8_degree 28 = .ok (.ifCond .ne 5, 3) := by decide +kernel
theorem dX8_degree_31 : decode cX8_degree 31 = .ok (.iconst (-1), 1) := by decide +kernel
theorem dX8_degree_32 : decode cX8_degree 32 = .ok (.ireturn, 1) := by decide +kernel
theorem dX8_degree_33 : decode cX8_degree 33 = .ok (.iconst 0, 1) := by decide +kernel
theorem dX8_degree_34 : decode cX8_degree 34 = .ok (.istore_n 2, 1) := by decide +kernel
theorem dX8_degree_35 : decode cX8_degree 35 = .ok (.iconst 0, 1) := by decide +kernel
theorem dX8_degree_36 : decode cX8_degree 36 = .ok (.istore_n 3, 1) := by decide +kernel
theorem dX8_degree_37 : decode cX8_degree 37 = .ok (.iload_n 3, 1) := by decide +kernel
theorem dX8_degree_38 : decode cX8_degree 38 = .ok (.aload_n 0, 1) := by decide +kernel
theorem dX8_degree_39 : decode cX8_degree 39 = .ok (.getfield 109, 3) := by decide +kernel
theorem dX8_degree_42 : decode cX8_degree 42 = .ok (.if_icmp .ge 30, 3) := by decide +kernel
theorem dX8_degree_45 : decode cX8_degree 45 = .ok (.iload_n 2, 1) := by decide +kernel
theorem dX8_degree_46 : decode cX8_degree 46 = .ok (.aload_n 0, 1) := by decide +kernel
theorem dX8_degree_47 : decode cX8_degree 47 = .ok (.aload_n 0, 1) := by decide +kernel
theorem dX8_degree_48 : decode cX8_degree 48 = .ok (.getfield 145, 3) := by decide +kernel
theorem dX8_degree_51 : decode cX8_degree 51 = .ok (.iload_n 1, 1) := by decide +kernel
theorem dX8_degree_52 : decode cX8_degree 52 = .ok (.iload_n 3, 1) := by decide +kernel
theorem dX8_degree_53 : decode cX8_degree 53 = .ok (.invokevirtual 158, 3) := by decide +kernel
theorem dX8_degree_56 : decode cX8_degree 56 = .ok (.ifCond .eq 7, 3) := by decide +kernel
theorem dX8_degree_59 : decode cX8_degree 59 = .ok (.iconst 1, 1) := by decide +kernel
theorem dX8_degree_60 : decode cX8_degree 60 = .ok (.goto 4, 3) := by decide +kernel
theorem dX8_degree_63 : decode cX8_degree 63 = .ok (.iconst 0, 1) := by decide +kernel
theorem dX8_degree_64 : decode cX8_degree 64 = .ok (.iadd, 1) := by decide +kernel
theorem dX8_degree_65 : decode cX8_degree 65 = .ok (.istore_n 2, 1) := by decide +kernel
theorem dX8_degree_66 : decode cX8_degree 66 = .ok (.iinc 3 1, 3) := by decide +kernel
theorem dX8_degree_69 : decode cX8_degree 69 = .ok (.goto (-32), 3) := by decide +kernel
theorem dX8_degree_72 : decode cX8_degree 72 = .ok (.iload_n 2, 1) := by decide +kernel
theorem dX8_degree_73 : decode cX8_degree 73 = .ok (.ireturn, 1) := by decide +kernel
set_option maxRecDepth 20000 in
theorem ggX8_comes_X8_isThird : GoodIn wsX8_comes wsX8_isThird := goodIn_r _ [11, 4, 12, 13, 14, 10, 15, 16, 17, 18, 19, 20, 21, 5, 22, 23, 24, 25, 26, 27, 28, 29, 30, 31, 32, 33, 34, 35, 36, 37, 38, 39, 40, 41, 42, 43, 44, 45, 46, 47, 48, 49, 50, 51, 52, 53, 54, 55, 56, 57, 58, 59] (by decide +kernel) (by decide +kernel)
set_option maxRecDepth 20000 in
theorem gX8_comes_X8_isThird : GoodIn wsX8_comes (wsV RX8 168 RX8 yX8_isThird wsX8_isThird) := goodIn_app (goodIn_of _ (by decide +kernel)) ggX8_comes_X8_isThird
set_option maxRecDepth 20000 in
theorem ggX8_comes_X8_side : GoodIn wsX8_comes wsX8_side := goodIn_r _ [15, 16, 17, 26, 27, 28, 29, 30, 31, 32, 33, 34, 35, 36, 37, 38, 39, 40, 41, 42, 43, 44, 45, 46, 47, 48, 49, 50, 51, 52, 53, 54, 55, 56, 57, 58, 59] (by decide +kernel) (by decide +kernel)
set_option maxRecDepth 20000 in
theorem gX8_comes_X8_side : GoodIn wsX8_comes (wsV RX8 102 RX8 yX8_side wsX8_side) := goodIn_app (goodIn_of _ (by decide +kernel)) ggX8_comes_X8_side
theorem dX8_comes_0 : decode cX8_comes 0 = .ok (.iload_n 1, 1) := by decide +kernel
theorem dX8_comes_1 : decode cX8_comes 1 = .ok (.iload_n 2, 1) := by decide +kernel
theorem dX8_comes_2 : decode cX8_comes 2 = .ok (.ishr, 1) := by decide +kernel
theorem dX8_comes_3 : decode cX8_comes 3 = .ok (.iconst 1, 1) := by decide +kernel
theorem dX8_comes_4 : decode cX8_comes 4 = .ok (.iand, 1) := by decide +kernel
theorem dX8_comes_5 : decode cX8_comes 5 = .ok (.ifCond .eq 15, 3) := by decide +kernel
theorem dX8_comes_8 : decode cX8_comes 8 = .ok (.aload_n 0, 1) := by decide +kernel
theorem dX8_comes_9 : decode cX8_comes 9 = .ok (.getfield 130, 3) := by decide +kernel
theorem dX8_comes_12 : decode cX8_comes 12 = .ok (.iload_n 2, 1) := by decide +kernel
theorem dX8_comes_13 : decode cX8_comes 13 = .ok (.ishr, 1) := by decide +kernel
theorem dX8_comes_14 : decode cX8_comes 14 = .ok (.iconst 1, 1) := by decide +kernel
theorem dX8_comes_15 : decode cX8_comes 15 = .ok (.iand, 1) := by decide +kernel
theorem dX8_comes_16 : decode cX8_comes 16 = .ok (.iconst 1, 1) := by decide +kernel
theorem dX8_comes_17 : decode cX8_comes 17 = .ok (.if_icmp .ne 6, 3) := by decide +kernel
theorem dX8_comes_20 : decode cX8_comes 20 = .ok (.bipush (-9), 2) := by decide +kernel
theorem dX8_comes_22 : decode cX8_comes 22 = .ok (.ireturn, 1) := by decide +kernel
theorem dX8_comes_23 : decode cX8_comes 23 = .ok (.aload_n 0, 1) := by decide +kernel
theorem dX8_comes_24 : decode cX8_comes 24 = .ok (.getfield 32, 3) := by decide +kernel
theorem dX8_comes_27 : decode cX8_comes 27 = .ok (.iload_n 2, 1) := by decide +kernel
theorem dX8_comes_28 : decode cX8_comes 28 = .ok (.iaload, 1) := by decide +kernel
theorem dX8_comes_29 : decode cX8_comes 29 = .ok (.istore_n 3, 1) := by decide +kernel
theorem dX8_comes_30 : decode cX8_comes 30 = .ok (.aload_n 0, 1) := by decide +kernel
theorem dX8_comes_31 : decode cX8_comes 31 = .ok (.getfield 35, 3) := by decide +kernel
theorem dX8_comes_34 : decode cX8_comes 34 = .ok (.iload_n 2, 1) := by decide +kernel
theorem dX8_comes_35 : decode cX8_comes 35 = .ok (.iaload, 1) := by decide +kernel
theorem dX8_comes_36 : decode cX8_comes 36 = .ok (.istore 4, 2) := by decide +kernel
theorem dX8_comes_38 : decode cX8_comes 38 = .ok (.bipush (-9), 2) := by decide +kernel
theorem dX8_comes_40 : decode cX8_comes 40 = .ok (.istore 5, 2) := by decide +kernel
theorem dX8_comes_42 : decode cX8_comes 42 = .ok (.bipush (-9), 2) := by decide +kernel
theorem dX8_comes_44 : decode cX8_comes 44 = .ok (.istore 6, 2) := by decide +kernel
theorem dX8_comes_46 : decode cX8_comes 46 = .ok (.iconst 0, 1) := by decide +kernel
theorem dX8_comes_47 : decode cX8_comes 47 = .ok (.istore 7, 2) := by decide +kernel
theorem dX8_comes_49 : decode cX8_comes 49 = .ok (.iload 7, 2) := by decide +kernel
theorem dX8_comes_51 : decode cX8_comes 51 = .ok (.aload_n 0, 1) := by decide +kernel
theorem dX8_comes_52 : decode cX8_comes 52 = .ok (.getfield 109, 3) := by decide +kernel
theorem dX8_comes_55 : decode cX8_comes 55 = .ok (.if_icmp .ge 77, 3) := by decide +kernel
theorem dX8_comes_58 : decode cX8_comes 58 = .ok (.iload 7, 2) := by decide +kernel
theorem dX8_comes_60 : decode cX8_comes 60 = .ok (.iload_n 3, 1) := by decide +kernel
theorem dX8_comes_61 : decode cX8_comes 61 = .ok (.if_icmp .eq 65, 3) := by decide +kernel
theorem dX8_comes_64 : decode cX8_comes 64 = .ok (.iload 7, 2) := by decide +kernel
theorem dX8_comes_66 : decode cX8_comes 66 = .ok (.iload 4, 2) := by decide +kernel
theorem dX8_comes_68 : decode cX8_comes 68 = .ok (.if_icmp .eq 58, 3) := by decide +kernel
theorem dX8_comes_71 : decode cX8_comes 71 = .ok (.aload_n 0, 1) := by decide +kernel
theorem dX8_comes_72 : decode cX8_comes 72 = .ok (.iload_n 1, 1) := by decide +kernel
theorem dX8_comes_73 : decode cX8_comes 73 = .ok (.iload_n 3, 1) := by decide +kernel
theorem dX8_comes_74 : decode cX8_comes 74 = .ok (.iload 4, 2) := by decide +kernel
theorem dX8_comes_76 : decode cX8_comes 76 = .ok (.iload 7, 2) := by decide +kernel
theorem dX8_comes_78 : decode cX8_comes 78 = .ok (.invokevirtual 168, 3) := by decide +kernel
theorem dX8_comes_81 : decode cX8_comes 81 = .ok (.ifCond .eq 45, 3) := by decide +kernel
theorem dX8_comes_84 : decode cX8_comes 84 = .ok (.aload_n 0, 1) := by decide +kernel
theorem dX8_comes_85 : decode cX8_comes 85 = .ok (.iload_n 3, 1) := by decide +kernel
theorem dX8_comes_86 : decode cX8_comes 86 = .ok (.iload 4, 2) := by decide +kernel
theorem dX8_comes_88 : decode cX8_comes 88 = .ok (.iload 7, 2) := by decide +kernel
theorem dX8_comes_90 : decode cX8_comes 90 = .ok (.invokevirtual 102, 3) := by decide +kernel
theorem dX8_comes_93 : decode cX8_comes 93 = .ok (.ifCond .le 8, 3) := by decide +kernel
theorem dX8_comes_96 : decode cX8_comes 96 = .ok (.iload 7, 2) := by decide +kernel
theorem dX8_comes_98 : decode cX8_comes 98 = .ok (.goto 5, 3) := by decide +kernel
theorem dX8_comes_101 : decode cX8_comes 101 = .ok (.iload 5, 2) := by decide +kernel
theorem dX8_comes_103 : decode cX8_comes 103 = .ok (.istore 5, 2) := by decide +kernel
theorem dX8_comes_105 : decode cX8_comes 105 = .ok (.aload_n 0, 1) := by decide +kernel
theorem dX8_comes_106 : decode cX8_comes 106 = .ok (.iload_n 3, 1) := by decide +kernel
theorem dX8_comes_107 : decode cX8_comes 107 = .ok (.iload 4, 2) := by decide +kernel
theorem dX8_comes_109 : decode cX8_comes 109 = .ok (.iload 7, 2) := by decide +kernel
theorem dX8_comes_111 : decode cX8_comes 111 = .ok (.invokevirtual 102, 3) := by decide +kernel
theorem dX8_comes_114 : decode cX8_comes 114 = .ok (.ifCond .ge 8, 3) := by decide +kernel
theorem dX8_comes_117 : decode cX8_comes 117 = .ok (.iload 7, 2) := by decide +kernel
theorem dX8_comes_119 : decode cX8_comes 119 = .ok (.goto 5, 3) := by decide +kernel
theorem dX8_comes_122 : decode cX8_comes 122 = .ok (.iload 6, 2) := by decide +kernel
theorem dX8_comes_124 : decode cX8_comes 124 = .ok (.istore 6, 2) := by decide +kernel
theorem dX8_comes_126 : decode cX8_comes 126 = .ok (.iinc 7 1, 3) := by decide +kernel
theorem dX8_comes_129 : decode cX8_comes 129 = .ok (.goto (-80), 3) := by decide +kernel
theorem dX8_comes_132 : decode cX8_comes 132 = .ok (.iload 5, 2) := by decide +kernel
theorem dX8_comes_134 : decode cX8_comes 134 = .ok (.bipush (-9), 2) := by decide +kernel
theorem dX8_comes_136 : decode cX8_comes 136 = .ok (.if_icmp .eq 33, 3) := by decide +kernel
theorem dX8_comes_139 : decode cX8_comes 139 = .ok (.iload 6, 2) := by decide +kernel
theorem dX8_comes_141 : decode cX8_comes 141 = .ok (.bipush (-9), 2) := by decide +kernel
theorem dX8_comes_143 : decode cX8_comes 143 = .ok (.if_icmp .eq 26, 3) := by decide +kernel
theorem dX8_comes_146 : decode cX8_comes 146 = .ok (.aload_n 0, 1) := by decide +kernel
theorem dX8_comes_147 : decode cX8_comes 147 = .ok (.iload 5, 2) := by decide +kernel
theorem dX8_comes_149 : decode cX8_comes 149 = .ok (.iload 6, 2) := by decide +kernel
theorem dX8_comes_151 : decode cX8_comes 151 = .ok (.iload_n 3, 1) := by decide +kernel
theorem dX8_comes_152 : decode cX8_comes 152 = .ok (.invokevirtual 102, 3) := by decide +kernel
theorem dX8_comes_155 : decode cX8_comes 155 = .ok (.aload_n 0, 1) := by decide +kernel
theorem dX8_comes_156 : decode cX8_comes 156 = .ok (.iload 5, 2) := by decide +kernel
theorem dX8_comes_158 : decode cX8_comes 158 = .ok (.iload 6, 2) := by decide +kernel
theorem dX8_comes_160 : decode cX8_comes 160 = .ok (.iload 4, 2) := by decide +kernel
theorem dX8_comes_162 : decode cX8_comes 162 = .ok (.invokevirtual 102, 3) := by decide +kernel
theorem dX8_comes_165 : decode cX8_comes 165 = .ok (.imul, 1) := by decide +kernel
theorem dX8_comes_166 : decode cX8_comes 166 = .ok (.ifCond .lt 6, 3) := by decide +kernel
theorem dX8_comes_169 : decode cX8_comes 169 = .ok (.bipush (-9), 2) := by decide +kernel
theorem dX8_comes_171 : decode cX8_comes 171 = .ok (.ireturn, 1) := by decide +kernel
theorem dX8_comes_172 : decode cX8_comes 172 = .ok (.aload_n 0, 1) := by decide +kernel
theorem dX8_comes_173 : decode cX8_comes 173 = .ok (.getfield 38, 3) := by decide +kernel
theorem dX8_comes_176 : decode cX8_comes 176 = .ok (.bipush 8, 2) := by decide +kernel
theorem dX8_comes_178 : decode cX8_comes 178 = .ok (.iload 5, 2) := by decide +kernel
theorem dX8_comes_180 : decode cX8_comes 180 = .ok (.imul, 1) := by decide +kernel
theorem dX8_comes_181 : decode cX8_comes 181 = .ok (.iload 6, 2) := by decide +kernel
theorem dX8_comes_183 : decode cX8_comes 183 = .ok (.iadd, 1) := by decide +kernel
theorem dX8_comes_184 : decode cX8_comes 184 = .ok (.iaload, 1) := by decide +kernel
theorem dX8_comes_185 : decode cX8_comes 185 = .ok (.istore 7, 2) := by decide +kernel
theorem dX8_comes_187 : decode cX8_comes 187 = .ok (.aload_n 0, 1) := by decide +kernel
theorem dX8_comes_188 : decode cX8_comes 188 = .ok (.getfield 133, 3) := by decide +kernel
theorem dX8_comes_191 : decode cX8_comes 191 = .ok (.iload 7, 2) := by decide +kernel
theorem dX8_comes_193 : decode cX8_comes 193 = .ok (.ishr, 1) := by decide +kernel
theorem dX8_comes_194 : decode cX8_comes 194 = .ok (.iconst 1, 1) := by decide +kernel
theorem dX8_comes_195 : decode cX8_comes 195 = .ok (.iand, 1) := by decide +kernel
theorem dX8_comes_196 : decode cX8_comes 196 = .ok (.iconst 1, 1) := by decide +kernel
theorem dX8_comes_197 : decode cX8_comes 197 = .ok (.if_icmp .ne 8, 3) := by decide +kernel
theorem dX8_comes_200 : decode cX8_comes 200 = .ok (.bipush (-9), 2) := by decide +kernel
theorem dX8_comes_202 : decode cX8_comes 202 = .ok (.goto 5, 3) := by decide +kernel
theorem dX8_comes_205 : decode cX8_comes 205 = .ok (.iload 7, 2) := by decide +kernel
theorem dX8_comes_207 : decode cX8_comes 207 = .ok (.ireturn, 1) := by decide +kernel
set_option maxRecDepth 20000 in
theorem ggX8_turns_X8_noFence : GoodIn wsX8_turns wsX8_noFence := goodIn_r _ [8, 9, 10, 11, 7, 12, 41, 42, 43, 44, 45, 46, 47, 48, 49, 50, 51, 52, 53, 54, 55, 56, 57, 58, 59, 60, 61, 62, 63, 64, 65, 66, 67, 68, 69, 70, 71, 72, 73, 74] (by decide +kernel) (by decide +kernel)
set_option maxRecDepth 20000 in
theorem gX8_turns_X8_noFence : GoodIn wsX8_turns (wsV RX8 155 RX8 yX8_noFence wsX8_noFence) := goodIn_app (goodIn_of _ (by decide +kernel)) ggX8_turns_X8_noFence
set_option maxRecDepth 20000 in
theorem ggX8_turns_X8_comes : GoodIn wsX8_turns wsX8_comes := goodIn_r _ [16, 17, 18, 19, 20, 21, 22, 23, 24, 25, 7, 26, 27, 28, 29, 30, 31, 32, 33, 34, 35, 36, 37, 38, 39, 40, 41, 42, 43, 44, 45, 46, 47, 48, 49, 50, 51, 52, 53, 54, 55, 56, 57, 58, 59, 60, 61, 62, 63, 64, 65, 66, 67, 68, 69, 70, 71, 72, 73, 74] (by decide +kernel) (by decide +kernel)
set_option maxRecDepth 20000 in
theorem gX8_turns_X8_comes : GoodIn wsX8_turns (wsV RX8 194 RX8 yX8_comes wsX8_comes) := goodIn_app (goodIn_of _ (by decide +kernel)) ggX8_turns_X8_comes
theorem dX8_turns_0 : decode cX8_turns 0 = .ok (.aload_n 0, 1) := by decide +kernel
theorem dX8_turns_1 : decode cX8_turns 1 = .ok (.iconst 0, 1) := by decide +kernel
theorem dX8_turns_2 : decode cX8_turns 2 = .ok (.putfield 74, 3) := by decide +kernel
theorem dX8_turns_5 : decode cX8_turns 5 = .ok (.aload_n 0, 1) := by decide +kernel
theorem dX8_turns_6 : decode cX8_turns 6 = .ok (.getfield 151, 3) := by decide +kernel
theorem dX8_turns_9 : decode cX8_turns 9 = .ok (.ifCond .ne 8, 3) := by decide +kernel
theorem dX8_turns_12 : decode cX8_turns 12 = .ok (.bipush (-3), 2) := by decide +kernel
theorem dX8_turns_14 : decode cX8_turns 14 = .ok (.goto 24, 3) := by decide +kernel
theorem dX8_turns_17 : decode cX8_turns 17 = .ok (.aload_n 0, 1) := by decide +kernel
theorem dX8_turns_18 : decode cX8_turns 18 = .ok (.iload_n 1, 1) := by decide +kernel
theorem dX8_turns_19 : decode cX8_turns 19 = .ok (.invokevirtual 155, 3) := by decide +kernel
theorem dX8_turns_22 : decode cX8_turns 22 = .ok (.ifCond .eq 7, 3) := by decide +kernel
theorem dX8_turns_25 : decode cX8_turns 25 = .ok (.iconst (-1), 1) := by decide +kernel
theorem dX8_turns_26 : decode cX8_turns 26 = .ok (.goto 12, 3) := by decide +kernel
theorem dX8_turns_29 : decode cX8_turns 29 = .ok (.aload_n 0, 1) := by decide +kernel
theorem dX8_turns_30 : decode cX8_turns 30 = .ok (.aload_n 0, 1) := by decide +kernel
theorem dX8_turns_31 : decode cX8_turns 31 = .ok (.getfield 145, 3) := by decide +kernel
theorem dX8_turns_34 : decode cX8_turns 34 = .ok (.iload_n 1, 1) := by decide +kernel
theorem dX8_turns_35 : decode cX8_turns 35 = .ok (.invokevirtual 194, 3) := by decide +kernel
theorem dX8_turns_38 : decode cX8_turns 38 = .ok (.ireturn, 1) := by decide +kernel
theorem dX8_remember_0 : decode cX8_remember 0 = .ok (.aload_n 0, 1) := by decide +kernel
theorem dX8_remember_1 : decode cX8_remember 1 = .ok (.getfield 148, 3) := by decide +kernel
theorem dX8_remember_4 : decode cX8_remember 4 = .ok (.bipush 10, 2) := by decide +kernel
theorem dX8_remember_6 : decode cX8_remember 6 = .ok (.if_icmp .ne 41, 3) := by decide +kernel
theorem dX8_remember_9 : decode cX8_remember 9 = .ok (.iconst 1, 1) := by decide +kernel
theorem dX8_remember_10 : decode cX8_remember 10 = .ok (.istore_n 1, 1) := by decide +kernel
theorem dX8_remember_11 : decode cX8_remember 11 = .ok (.iload_n 1, 1) := by decide +kernel
theorem dX8_remember_12 : decode cX8_remember 12 = .ok (.bipush 10, 2) := by decide +kernel
theorem dX8_remember_14 : decode cX8_remember 14 = .ok (.if_icmp .ge 23, 3) := by decide +kernel
theorem dX8_remember_17 : decode cX8_remember 17 = .ok (.aload_n 0, 1) := by decide +kernel
theorem dX8_remember_18 : decode cX8_remember 18 = .ok (.getfield 53, 3) := by decide +kernel
theorem dX8_remember_21 : decode cX8_remember 21 = .ok (.iload_n 1, 1) := by decide +kernel
theorem dX8_remember_22 : decode cX8_remember 22 = .ok (.iconst 1, 1) := by decide +kernel
theorem dX8_remember_23 : decode cX8_remember 23 = .ok (.isub, 1) := by decide +kernel
theorem dX8_remember_24 : decode cX8_remember 24 = .ok (.aload_n 0, 1) := by decide +kernel
theorem dX8_remember_25 : decode cX8_remember 25 = .ok (.getfield 53, 3) := by decide +kernel
theorem dX8_remember_28 : decode cX8_remember 28 = .ok (.iload_n 1, 1) := by decide +kernel
theorem dX8_remember_29 : decode cX8_remember 29 = .ok (.iaload, 1) := by decide +kernel
theorem dX8_remember_30 : decode cX8_remember 30 = .ok (.iastore, 1) := by decide +kernel
theorem dX8_remember_31 : decode cX8_remember 31 = .ok (.iinc 1 1, 3) := by decide +kernel
theorem dX8_remember_34 : decode cX8_remember 34 = .ok (.goto (-23), 3) := by decide +kernel
theorem dX8_remember_37 : decode cX8_remember 37 = .ok (.aload_n 0, 1) := by decide +kernel
theorem dX8_remember_38 : decode cX8_remember 38 = .ok (.dup, 1) := by decide +kernel
theorem dX8_remember_39 : decode cX8_remember 39 = .ok (.getfield 148, 3) := by decide +kernel
theorem dX8_remember_42 : decode cX8_remember 42 = .ok (.iconst 1, 1) := by decide +kernel
theorem dX8_remember_43 : decode cX8_remember 43 = .ok (.isub, 1) := by decide +kernel
theorem dX8_remember_44 : decode cX8_remember 44 = .ok (.putfield 148, 3) := by decide +kernel
theorem dX8_remember_47 : decode cX8_remember 47 = .ok (.aload_n 0, 1) := by decide +kernel
theorem dX8_remember_48 : decode cX8_remember 48 = .ok (.getfield 53, 3) := by decide +kernel
theorem dX8_remember_51 : decode cX8_remember 51 = .ok (.aload_n 0, 1) := by decide +kernel
theorem dX8_remember_52 : decode cX8_remember 52 = .ok (.getfield 148, 3) := by decide +kernel
theorem dX8_remember_55 : decode cX8_remember 55 = .ok (.aload_n 0, 1) := by decide +kernel
theorem dX8_remember_56 : decode cX8_remember 56 = .ok (.getfield 145, 3) := by decide +kernel
theorem dX8_remember_59 : decode cX8_remember 59 = .ok (.iastore, 1) := by decide +kernel
theorem dX8_remember_60 : decode cX8_remember 60 = .ok (.aload_n 0, 1) := by decide +kernel
theorem dX8_remember_61 : decode cX8_remember 61 = .ok (.dup, 1) := by decide +kernel
theorem dX8_remember_62 : decode cX8_remember 62 = .ok (.getfield 148, 3) := by decide +kernel
theorem dX8_remember_65 : decode cX8_remember 65 = .ok (.iconst 1, 1) := by decide +kernel
theorem dX8_remember_66 : decode cX8_remember 66 = .ok (.iadd, 1) := by decide +kernel
theorem dX8_remember_67 : decode cX8_remember 67 = .ok (.putfield 148, 3) := by decide +kernel
theorem dX8_remember_70 : decode cX8_remember 70 = .ok (.return_, 1) := by decide +kernel
set_option maxRecDepth 20000 in
theorem ggX8_turn_X8_noFence : GoodIn wsX8_turn wsX8_noFence := goodIn_r _ [8, 9, 10, 11, 7, 12, 47, 48, 49, 50, 51, 52, 53, 54, 55, 56, 57, 58, 59, 60, 61, 62, 63, 64, 65, 66, 67, 68, 69, 70, 71, 72, 73, 74, 75, 76, 77, 78, 79, 80] (by decide +kernel) (by decide +kernel)
set_option maxRecDepth 20000 in
theorem gX8_turn_X8_noFence : GoodIn wsX8_turn (wsV RX8 155 RX8 yX8_noFence wsX8_noFence) := goodIn_app (goodIn_of _ (by decide +kernel)) ggX8_turn_X8_noFence
set_option maxRecDepth 20000 in
theorem ggX8_turn_X8_comes : GoodIn wsX8_turn wsX8_comes := goodIn_r _ [16, 17, 18, 19, 20, 21, 22, 23, 24, 25, 7, 26, 27, 28, 29, 30, 31, 32, 33, 34, 35, 36, 37, 38, 39, 40, 47, 48, 49, 50, 51, 52, 53, 54, 55, 56, 57, 58, 59, 60, 61, 62, 63, 64, 65, 66, 67, 68, 69, 70, 71, 72, 73, 74, 75, 76, 77, 78, 79, 80] (by decide +kernel) (by decide +kernel)
set_option maxRecDepth 20000 in
theorem gX8_turn_X8_comes : GoodIn wsX8_turn (wsV RX8 194 RX8 yX8_comes wsX8_comes) := goodIn_app (goodIn_of _ (by decide +kernel)) ggX8_turn_X8_comes
set_option maxRecDepth 20000 in
theorem ggX8_turn_X8_remember : GoodIn wsX8_turn wsX8_remember := goodIn_r _ [44, 45, 46, 3, 47, 48, 49, 50, 51, 52, 53, 54, 55, 56, 57, 58, 59, 60, 61, 62, 63, 64, 65, 66, 67, 68, 69, 70, 71, 72, 73, 74, 75, 76, 77, 78, 79, 80] (by decide +kernel) (by decide +kernel)
set_option maxRecDepth 20000 in
theorem gX8_turn_X8_remember : GoodIn wsX8_turn (wsV RX8 198 RX8 yX8_remember wsX8_remember) := goodIn_app (goodIn_of _ (by decide +kernel)) ggX8_turn_X8_remember
theorem dX8_turn_0 : decode cX8_turn 0 = .ok (.aload_n 0, 1) := by decide +kernel
theorem dX8_turn_1 : decode cX8_turn 1 = .ok (.iconst 0, 1) := by decide +kernel
theorem dX8_turn_2 : decode cX8_turn 2 = .ok (.putfield 74, 3) := by decide +kernel
theorem dX8_turn_5 : decode cX8_turn 5 = .ok (.aload_n 0, 1) := by decide +kernel
theorem dX8_turn_6 : decode cX8_turn 6 = .ok (.getfield 151, 3) := by decide +kernel
theorem dX8_turn_9 : decode cX8_turn 9 = .ok (.ifCond .ne 6, 3) := by decide +kernel
theorem dX8_turn_12 : decode cX8_turn 12 = .ok (.bipush (-3), 2) := by decide +kernel
theorem dX8_turn_14 : decode cX8_turn 14 = .ok (.ireturn, 1) := by decide +kernel
theorem dX8_turn_15 : decode cX8_turn 15 = .ok (.aload_n 0, 1) := by decide +kernel
theorem dX8_turn_16 : decode cX8_turn 16 = .ok (.iload_n 1, 1) := by decide +kernel
theorem dX8_turn_17 : decode cX8_turn 17 = .ok (.invokevirtual 155, 3) := by decide +kernel
theorem dX8_turn_20 : decode cX8_turn 20 = .ok (.ifCond .eq 5, 3) := by decide +kernel
theorem dX8_turn_23 : decode cX8_turn 23 = .ok (.iconst (-1), 1) := by decide +kernel
theorem dX8_turn_24 : decode cX8_turn 24 = .ok (.ireturn, 1) := by decide +kernel
theorem dX8_turn_25 : decode cX8_turn 25 = .ok (.aload_n 0, 1) := by decide +kernel
theorem dX8_turn_26 : decode cX8_turn 26 = .ok (.aload_n 0, 1) := by decide +kernel
theorem dX8_turn_27 : decode cX8_turn 27 = .ok (.getfield 145, 3) := by decide +kernel
theorem dX8_turn_30 : decode cX8_turn 30 = .ok (.iload_n 1, 1) := by decide +kernel
theorem dX8_turn_31 : decode cX8_turn 31 = .ok (.invokevirtual 194, 3) := by decide +kernel
theorem dX8_turn_34 : decode cX8_turn 34 = .ok (.istore_n 2, 1) := by decide +kernel
theorem dX8_turn_35 : decode cX8_turn 35 = .ok (.iload_n 2, 1) := by decide +kernel
theorem dX8_turn_36 : decode cX8_turn 36 = .ok (.bipush (-9), 2) := by decide +kernel
theorem dX8_turn_38 : decode cX8_turn 38 = .ok (.if_icmp .ne 6, 3) := by decide +kernel
theorem dX8_turn_41 : decode cX8_turn 41 = .ok (.bipush (-3), 2) := by decide +kernel
theorem dX8_turn_43 : decode cX8_turn 43 = .ok (.ireturn, 1) := by decide +kernel
theorem dX8_turn_44 : decode cX8_turn 44 = .ok (.aload_n 0, 1) := by decide +kernel
theorem dX8_turn_45 : decode cX8_turn 45 = .ok (.invokevirtual 198, 3) := by decide +kernel
theorem dX8_turn_48 : decode cX8_turn 48 = .ok (.aload_n 0, 1) := by decide +kernel
theorem dX8_turn_49 : decode cX8_turn 49 = .ok (.aload_n 0, 1) := by decide +kernel
theorem dX8_turn_50 : decode cX8_turn 50 = .ok (.getfield 145, 3) := by decide +kernel
theorem dX8_turn_53 : decode cX8_turn 53 = .ok (.iconst 1, 1) := by decide +kernel
theorem dX8_turn_54 : decode cX8_turn 54 = .ok (.iload_n 1, 1) := by decide +kernel
theorem dX8_turn_55 : decode cX8_turn 55 = .ok (.ishl, 1) := by decide +kernel
theorem dX8_turn_56 : decode cX8_turn 56 = .ok (.iconst (-1), 1) := by decide +kernel
theorem dX8_turn_57 : decode cX8_turn 57 = .ok (.ixor, 1) := by decide +kernel
theorem dX8_turn_58 : decode cX8_turn 58 = .ok (.iand, 1) := by decide +kernel
theorem dX8_turn_59 : decode cX8_turn 59 = .ok (.iconst 1, 1) := by decide +kernel
theorem dX8_turn_60 : decode cX8_turn 60 = .ok (.iload_n 2, 1) := by decide +kernel
theorem dX8_turn_61 : decode cX8_turn 61 = .ok (.ishl, 1) := by decide +kernel
theorem dX8_turn_62 : decode cX8_turn 62 = .ok (.ior, 1) := by decide +kernel
theorem dX8_turn_63 : decode cX8_turn 63 = .ok (.putfield 145, 3) := by decide +kernel
theorem dX8_turn_66 : decode cX8_turn 66 = .ok (.iload_n 2, 1) := by decide +kernel
theorem dX8_turn_67 : decode cX8_turn 67 = .ok (.ireturn, 1) := by decide +kernel
theorem dX8_back_0 : decode cX8_back 0 = .ok (.aload_n 0, 1) := by decide +kernel
theorem dX8_back_1 : decode cX8_back 1 = .ok (.iconst 0, 1) := by decide +kernel
theorem dX8_back_2 : decode cX8_back 2 = .ok (.putfield 74, 3) := by decide +kernel
theorem dX8_back_5 : decode cX8_back 5 = .ok (.aload_n 0, 1) := by decide +kernel
theorem dX8_back_6 : decode cX8_back 6 = .ok (.getfield 151, 3) := by decide +kernel
theorem dX8_back_9 : decode cX8_back 9 = .ok (.ifCond .eq 10, 3) := by decide +kernel
theorem dX8_back_12 : decode cX8_back 12 = .ok (.aload_n 0, 1) := by decide +kernel
theorem dX8_back_13 : decode cX8_back 13 = .ok (.getfield 148, 3) := by decide +kernel
theorem dX8_back_16 : decode cX8_back 16 = .ok (.ifCond .ne 6, 3) := by decide +kernel
theorem dX8_back_19 : decode cX8_back 19 = .ok (.bipush (-3), 2) := by decide +kernel
theorem dX8_back_21 : decode cX8_back 21 = .ok (.ireturn, 1) := by decide +kernel
theorem dX8_back_22 : decode cX8_back 22 = .ok (.aload_n 0, 1) := by decide +kernel
theorem dX8_back_23 : decode cX8_back 23 = .ok (.dup, 1) := by decide +kernel
theorem dX8_back_24 : decode cX8_back 24 = .ok (.getfield 148, 3) := by decide +kernel
theorem dX8_back_27 : decode cX8_back 27 = .ok (.iconst 1, 1) := by decide +kernel
theorem dX8_back_28 : decode cX8_back 28 = .ok (.isub, 1) := by decide +kernel
theorem dX8_back_29 : decode cX8_back 29 = .ok (.putfield 148, 3) := by decide +kernel
theorem dX8_back_32 : decode cX8_back 32 = .ok (.aload_n 0, 1) := by decide +kernel
theorem dX8_back_33 : decode cX8_back 33 = .ok (.aload_n 0, 1) := by decide +kernel
theorem dX8_back_34 : decode cX8_back 34 = .ok (.getfield 53, 3) := by decide +kernel
theorem dX8_back_37 : decode cX8_back 37 = .ok (.aload_n 0, 1) := by decide +kernel
theorem dX8_back_38 : decode cX8_back 38 = .ok (.getfield 148, 3) := by decide +kernel
theorem dX8_back_41 : decode cX8_back 41 = .ok (.iaload, 1) := by decide +kernel
theorem dX8_back_42 : decode cX8_back 42 = .ok (.putfield 145, 3) := by decide +kernel
theorem dX8_back_45 : decode cX8_back 45 = .ok (.aload_n 0, 1) := by decide +kernel
theorem dX8_back_46 : decode cX8_back 46 = .ok (.getfield 148, 3) := by decide +kernel
theorem dX8_back_49 : decode cX8_back 49 = .ok (.ireturn, 1) := by decide +kernel
set_option maxRecDepth 20000 in
theorem ggX8_noRank_X8_in : GoodIn wsX8_noRank wsX8_in := goodIn_r _ [5] (by decide +kernel) (by decide +kernel)
set_option maxRecDepth 20000 in
theorem gX8_noRank_X8_in : GoodIn wsX8_noRank (va_wsS RX8 83 yX8_in wsX8_in) := goodIn_app (goodIn_of _ (by decide +kernel)) ggX8_noRank_X8_in
theorem dX8_noRank_0 : decode cX8_noRank 0 = .ok (.iload_n 1, 1) := by decide +kernel
theorem dX8_noRank_1 : decode cX8_noRank 1 = .ok (.i2l, 1) := by decide +kernel
theorem dX8_noRank_2 : decode cX8_noRank 2 = .ok (.lconst 0, 1) := by decide +kernel
theorem dX8_noRank_3 : decode cX8_noRank 3 = .ok (.aload_n 0, 1) := by decide +kernel
theorem dX8_noRank_4 : decode cX8_noRank 4 = .ok (.getfield 127, 3) := by decide +kernel
theorem dX8_noRank_7 : decode cX8_noRank 7 = .ok (.iconst 1, 1) := by decide +kernel
theorem dX8_noRank_8 : decode cX8_noRank 8 = .ok (.isub, 1) := by decide +kernel
theorem dX8_noRank_9 : decode cX8_noRank 9 = .ok (.i2l, 1) := by decide +kernel
theorem dX8_noRank_10 : decode cX8_noRank 10 = .ok (.invokestatic 83, 3) := by decide +kernel
theorem dX8_noRank_13 : decode cX8_noRank 13 = .ok (.ifCond .ne 7, 3) := by decide +kernel
theorem dX8_noRank_16 : decode cX8_noRank 16 = .ok (.iconst 1, 1) := by decide +kernel
theorem dX8_noRank_17 : decode cX8_noRank 17 = .ok (.goto 4, 3) := by decide +kernel
theorem dX8_noRank_20 : decode cX8_noRank 20 = .ok (.iconst 0, 1) := by decide +kernel
theorem dX8_noRank_21 : decode cX8_noRank 21 = .ok (.ireturn, 1) := by decide +kernel
theorem dX8_rankOf_0 : decode cX8_rankOf 0 = .ok (.iconst 0, 1) := by decide +kernel
theorem dX8_rankOf_1 : decode cX8_rankOf 1 = .ok (.istore_n 2, 1) := by decide +kernel
theorem dX8_rankOf_2 : decode cX8_rankOf 2 = .ok (.aload_n 0, 1) := by decide +kernel
theorem dX8_rankOf_3 : decode cX8_rankOf 3 = .ok (.getfield 50, 3) := by decide +kernel
theorem dX8_rankOf_6 : decode cX8_rankOf 6 = .ok (.iload_n 2, 1) := by decide +kernel
theorem dX8_rankOf_7 : decode cX8_rankOf 7 = .ok (.iaload, 1) := by decide +kernel
theorem dX8_rankOf_8 : decode cX8_rankOf 8 = .ok (.iload_n 1, 1) := by decide +kernel
theorem dX8_rankOf_9 : decode cX8_rankOf 9 = .ok (.if_icmp .eq 9, 3) := by decide +kernel
theorem dX8_rankOf_12 : decode cX8_rankOf 12 = .ok (.iinc 2 1, 3) := by decide +kernel
theorem dX8_rankOf_15 : decode cX8_rankOf 15 = .ok (.goto (-13), 3) := by decide +kernel
theorem dX8_rankOf_18 : decode cX8_rankOf 18 = .ok (.iload_n 2, 1) := by decide +kernel
theorem dX8_rankOf_19 : decode cX8_rankOf 19 = .ok (.ireturn, 1) := by decide +kernel
theorem dX8_count_0 : decode cX8_count 0 = .ok (.aload_n 0, 1) := by decide +kernel
theorem dX8_count_1 : decode cX8_count 1 = .ok (.iconst 0, 1) := by decide +kernel
theorem dX8_count_2 : decode cX8_count 2 = .ok (.putfield 74, 3) := by decide +kernel
theorem dX8_count_5 : decode cX8_count 5 = .ok (.aload_n 0, 1) := by decide +kernel
theorem dX8_count_6 : decode cX8_count 6 = .ok (.getfield 151, 3) := by decide +kernel
theorem dX8_count_9 : decode cX8_count 9 = .ok (.ifCond .eq 10, 3) := by decide +kernel
theorem dX8_count_12 : decode cX8_count 12 = .ok (.aload_n 0, 1) := by decide +kernel
theorem dX8_count_13 : decode cX8_count 13 = .ok (.getfield 127, 3) := by decide +kernel
theorem dX8_count_16 : decode cX8_count 16 = .ok (.goto 5, 3) := by decide +kernel
theorem dX8_count_19 : decode cX8_count 19 = .ok (.bipush (-3), 2) := by decide +kernel
theorem dX8_count_21 : decode cX8_count 21 = .ok (.ireturn, 1) := by decide +kernel
set_option maxRecDepth 20000 in
theorem ggX8_rank_X8_rankOf : GoodIn wsX8_rank wsX8_rankOf := goodIn_r _ [8, 9, 10, 11, 12, 13, 14, 15, 16, 17, 18, 19, 20, 21, 22, 23, 24, 25, 26, 27, 28, 29, 30, 31, 32, 33, 34, 35, 36, 37, 38, 39, 40, 41, 42, 43] (by decide +kernel) (by decide +kernel)
set_option maxRecDepth 20000 in
theorem gX8_rank_X8_rankOf : GoodIn wsX8_rank (wsV RX8 201 RX8 yX8_rankOf wsX8_rankOf) := goodIn_app (goodIn_of _ (by decide +kernel)) ggX8_rank_X8_rankOf
theorem dX8_rank_0 : decode cX8_rank 0 = .ok (.aload_n 0, 1) := by decide +kernel
theorem dX8_rank_1 : decode cX8_rank 1 = .ok (.iconst 0, 1) := by decide +kernel
theorem dX8_rank_2 : decode cX8_rank 2 = .ok (.putfield 74, 3) := by decide +kernel
theorem dX8_rank_5 : decode cX8_rank 5 = .ok (.aload_n 0, 1) := by decide +kernel
theorem dX8_rank_6 : decode cX8_rank 6 = .ok (.getfield 151, 3) := by decide +kernel
theorem dX8_rank_9 : decode cX8_rank 9 = .ok (.ifCond .eq 14, 3) := by decide +kernel
theorem dX8_rank_12 : decode cX8_rank 12 = .ok (.aload_n 0, 1) := by decide +kernel
theorem dX8_rank_13 : decode cX8_rank 13 = .ok (.aload_n 0, 1) := by decide +kernel
theorem dX8_rank_14 : decode cX8_rank 14 = .ok (.getfield 145, 3) := by decide +kernel
theorem dX8_rank_17 : decode cX8_rank 17 = .ok (.invokevirtual 201, 3) := by decide +kernel
theorem dX8_rank_20 : decode cX8_rank 20 = .ok (.goto 5, 3) := by decide +kernel
theorem dX8_rank_23 : decode cX8_rank 23 = .ok (.bipush (-3), 2) := by decide +kernel
theorem dX8_rank_25 : decode cX8_rank 25 = .ok (.ireturn, 1) := by decide +kernel
set_option maxRecDepth 20000 in
theorem ggX8_of_X8_noRank : GoodIn wsX8_of wsX8_noRank := goodIn_r _ [10, 11, 12, 13, 9, 14, 15, 16, 17, 18, 19, 20, 21, 22, 23, 24, 25, 26, 27, 28, 29, 30, 31, 32, 33, 34, 35, 36, 37, 38, 39, 40, 41, 42, 43, 44, 45, 46, 47, 48] (by decide +kernel) (by decide +kernel)
set_option maxRecDepth 20000 in
theorem gX8_of_X8_noRank : GoodIn wsX8_of (wsV RX8 204 RX8 yX8_noRank wsX8_noRank) := goodIn_app (goodIn_of _ (by decide +kernel)) ggX8_of_X8_noRank
theorem dX8_of_0 : decode cX8_of 0 = .ok (.aload_n 0, 1) := by decide +kernel
theorem dX8_of_1 : decode cX8_of 1 = .ok (.iconst 0, 1) := by decide +kernel
theorem dX8_of_2 : decode cX8_of 2 = .ok (.putfield 74, 3) := by decide +kernel
theorem dX8_of_5 : decode cX8_of 5 = .ok (.aload_n 0, 1) := by decide +kernel
theorem dX8_of_6 : decode cX8_of 6 = .ok (.getfield 151, 3) := by decide +kernel
theorem dX8_of_9 : decode cX8_of 9 = .ok (.ifCond .ne 9, 3) := by decide +kernel
theorem dX8_of_12 : decode cX8_of 12 = .ok (.ldc2_w 192, 3) := by decide +kernel
theorem dX8_of_15 : decode cX8_of 15 = .ok (.goto 24, 3) := by decide +kernel
theorem dX8_of_18 : decode cX8_of 18 = .ok (.aload_n 0, 1) := by decide +kernel
theorem dX8_of_19 : decode cX8_of 19 = .ok (.iload_n 1, 1) := by decide +kernel
theorem dX8_of_20 : decode cX8_of 20 = .ok (.invokevirtual 204, 3) := by decide +kernel
theorem dX8_of_23 : decode cX8_of 23 = .ok (.ifCond .eq 9, 3) := by decide +kernel
theorem dX8_of_26 : decode cX8_of 26 = .ok (.ldc2_w 207, 3) := by decide +kernel
theorem dX8_of_29 : decode cX8_of 29 = .ok (.goto 10, 3) := by decide +kernel
theorem dX8_of_32 : decode cX8_of 32 = .ok (.aload_n 0, 1) := by decide +kernel
theorem dX8_of_33 : decode cX8_of 33 = .ok (.getfield 50, 3) := by decide +kernel
theorem dX8_of_36 : decode cX8_of 36 = .ok (.iload_n 1, 1) := by decide +kernel
theorem dX8_of_37 : decode cX8_of 37 = .ok (.iaload, 1) := by decide +kernel
theorem dX8_of_38 : decode cX8_of 38 = .ok (.i2l, 1) := by decide +kernel
theorem dX8_of_39 : decode cX8_of 39 = .ok (.lreturn, 1) := by decide +kernel
set_option maxRecDepth 20000 in
theorem ggX8_go_X8_noRank : GoodIn wsX8_go wsX8_noRank := goodIn_r _ [9, 10, 11, 12, 8, 13, 20, 21, 22, 23, 24, 25, 26, 27, 28, 29, 30, 31, 32, 33, 34, 35, 36, 37, 38, 39, 40, 41, 42, 43, 44, 45, 46, 47, 48, 49, 50, 51, 52, 53] (by decide +kernel) (by decide +kernel)
set_option maxRecDepth 20000 in
theorem gX8_go_X8_noRank : GoodIn wsX8_go (wsV RX8 204 RX8 yX8_noRank wsX8_noRank) := goodIn_app (goodIn_of _ (by decide +kernel)) ggX8_go_X8_noRank
set_option maxRecDepth 20000 in
theorem ggX8_go_X8_remember : GoodIn wsX8_go wsX8_remember := goodIn_r _ [17, 18, 19, 4, 20, 21, 22, 23, 24, 25, 26, 27, 28, 29, 30, 31, 32, 33, 34, 35, 36, 37, 38, 39, 40, 41, 42, 43, 44, 45, 46, 47, 48, 49, 50, 51, 52, 53] (by decide +kernel) (by decide +kernel)
set_option maxRecDepth 20000 in
theorem gX8_go_X8_remember : GoodIn wsX8_go (wsV RX8 198 RX8 yX8_remember wsX8_remember) := goodIn_app (goodIn_of _ (by decide +kernel)) ggX8_go_X8_remember
theorem dX8_go_0 : decode cX8_go 0 = .ok (.aload_n 0, 1) := by decide +kernel
theorem dX8_go_1 : decode cX8_go 1 = .ok (.iconst 0, 1) := by decide +kernel
theorem dX8_go_2 : decode cX8_go 2 = .ok (.putfield 74, 3) := by decide +kernel
theorem dX8_go_5 : decode cX8_go 5 = .ok (.aload_n 0, 1) := by decide +kernel
theorem dX8_go_6 : decode cX8_go 6 = .ok (.getfield 151, 3) := by decide +kernel
theorem dX8_go_9 : decode cX8_go 9 = .ok (.ifCond .ne 6, 3) := by decide +kernel
theorem dX8_go_12 : decode cX8_go 12 = .ok (.bipush (-3), 2) := by decide +kernel
theorem dX8_go_14 : decode cX8_go 14 = .ok (.ireturn, 1) := by decide +kernel
theorem dX8_go_15 : decode cX8_go 15 = .ok (.aload_n 0, 1) := by decide +kernel
theorem dX8_go_16 : decode cX8_go 16 = .ok (.iload_n 1, 1) := by decide +kernel
theorem dX8_go_17 : decode cX8_go 17 = .ok (.invokevirtual 204, 3) := by decide +kernel
theorem dX8_go_20 : decode cX8_go 20 = .ok (.ifCond .eq 5, 3) := by decide +kernel
theorem dX8_go_23 : decode cX8_go 23 = .ok (.iconst (-1), 1) := by decide +kernel
theorem dX8_go_24 : decode cX8_go 24 = .ok (.ireturn, 1) := by decide +kernel
theorem dX8_go_25 : decode cX8_go 25 = .ok (.aload_n 0, 1) := by decide +kernel
theorem dX8_go_26 : decode cX8_go 26 = .ok (.invokevirtual 198, 3) := by decide +kernel
theorem dX8_go_29 : decode cX8_go 29 = .ok (.aload_n 0, 1) := by decide +kernel
theorem dX8_go_30 : decode cX8_go 30 = .ok (.aload_n 0, 1) := by decide +kernel
theorem dX8_go_31 : decode cX8_go 31 = .ok (.getfield 50, 3) := by decide +kernel
theorem dX8_go_34 : decode cX8_go 34 = .ok (.iload_n 1, 1) := by decide +kernel
theorem dX8_go_35 : decode cX8_go 35 = .ok (.iaload, 1) := by decide +kernel
theorem dX8_go_36 : decode cX8_go 36 = .ok (.putfield 145, 3) := by decide +kernel
theorem dX8_go_39 : decode cX8_go 39 = .ok (.iconst 1, 1) := by decide +kernel
theorem dX8_go_40 : decode cX8_go 40 = .ok (.ireturn, 1) := by decide +kernel
set_option maxRecDepth 20000 in
theorem ggX8_sure_X8_noFence : GoodIn wsX8_sure wsX8_noFence := goodIn_r _ [9, 10, 11, 12, 8, 13, 14, 15, 16, 17, 18, 19, 20, 21, 22, 23, 24, 25, 26, 27, 28, 29, 30, 31, 32, 33, 34, 35, 36, 37, 38, 39, 40, 41, 42, 43, 44, 45, 46, 47] (by decide +kernel) (by decide +kernel)
set_option maxRecDepth 20000 in
theorem gX8_sure_X8_noFence : GoodIn wsX8_sure (wsV RX8 155 RX8 yX8_noFence wsX8_noFence) := goodIn_app (goodIn_of _ (by decide +kernel)) ggX8_sure_X8_noFence
theorem dX8_sure_0 : decode cX8_sure 0 = .ok (.aload_n 0, 1) := by decide +kernel
theorem dX8_sure_1 : decode cX8_sure 1 = .ok (.iconst 0, 1) := by decide +kernel
theorem dX8_sure_2 : decode cX8_sure 2 = .ok (.putfield 74, 3) := by decide +kernel
theorem dX8_sure_5 : decode cX8_sure 5 = .ok (.aload_n 0, 1) := by decide +kernel
theorem dX8_sure_6 : decode cX8_sure 6 = .ok (.getfield 151, 3) := by decide +kernel
theorem dX8_sure_9 : decode cX8_sure 9 = .ok (.ifCond .ne 6, 3) := by decide +kernel
theorem dX8_sure_12 : decode cX8_sure 12 = .ok (.bipush (-3), 2) := by decide +kernel
theorem dX8_sure_14 : decode cX8_sure 14 = .ok (.ireturn, 1) := by decide +kernel
theorem dX8_sure_15 : decode cX8_sure 15 = .ok (.aload_n 0, 1) := by decide +kernel
theorem dX8_sure_16 : decode cX8_sure 16 = .ok (.iload_n 1, 1) := by decide +kernel
theorem dX8_sure_17 : decode cX8_sure 17 = .ok (.invokevirtual 155, 3) := by decide +kernel
theorem dX8_sure_20 : decode cX8_sure 20 = .ok (.ifCond .eq 5, 3) := by decide +kernel
theorem dX8_sure_23 : decode cX8_sure 23 = .ok (.iconst (-1), 1) := by decide +kernel
theorem dX8_sure_24 : decode cX8_sure 24 = .ok (.ireturn, 1) := by decide +kernel
theorem dX8_sure_25 : decode cX8_sure 25 = .ok (.iconst 0, 1) := by decide +kernel
theorem dX8_sure_26 : decode cX8_sure 26 = .ok (.istore_n 2, 1) := by decide +kernel
theorem dX8_sure_27 : decode cX8_sure 27 = .ok (.iconst 0, 1) := by decide +kernel
theorem dX8_sure_28 : decode cX8_sure 28 = .ok (.istore_n 3, 1) := by decide +kernel
theorem dX8_sure_29 : decode cX8_sure 29 = .ok (.iload_n 3, 1) := by decide +kernel
theorem dX8_sure_30 : decode cX8_sure 30 = .ok (.aload_n 0, 1) := by decide +kernel
theorem dX8_sure_31 : decode cX8_sure 31 = .ok (.getfield 127, 3) := by decide +kernel
theorem dX8_sure_34 : decode cX8_sure 34 = .ok (.if_icmp .ge 22, 3) := by decide +kernel
theorem dX8_sure_37 : decode cX8_sure 37 = .ok (.iload_n 2, 1) := by decide +kernel
theorem dX8_sure_38 : decode cX8_sure 38 = .ok (.aload_n 0, 1) := by decide +kernel
theorem dX8_sure_39 : decode cX8_sure 39 = .ok (.getfield 50, 3) := by decide +kernel
theorem dX8_sure_42 : decode cX8_sure 42 = .ok (.iload_n 3, 1) := by decide +kernel
theorem dX8_sure_43 : decode cX8_sure 43 = .ok (.iaload, 1) := by decide +kernel
theorem dX8_sure_44 : decode cX8_sure 44 = .ok (.iload_n 1, 1) := by decide +kernel
theorem dX8_sure_45 : decode cX8_sure 45 = .ok (.ishr, 1) := by decide +kernel
theorem dX8_sure_46 : decode cX8_sure 46 = .ok (.iconst 1, 1) := by decide +kernel
theorem dX8_sure_47 : decode cX8_sure 47 = .ok (.iand, 1) := by decide +kernel
theorem dX8_sure_48 : decode cX8_sure 48 = .ok (.iadd, 1) := by decide +kernel
theorem dX8_sure_49 : decode cX8_sure 49 = .ok (.istore_n 2, 1) := by decide +kernel
theorem dX8_sure_50 : decode cX8_sure 50 = .ok (.iinc 3 1, 3) := by decide +kernel
theorem dX8_sure_53 : decode cX8_sure 53 = .ok (.goto (-24), 3) := by decide +kernel
theorem dX8_sure_56 : decode cX8_sure 56 = .ok (.iload_n 2, 1) := by decide +kernel
theorem dX8_sure_57 : decode cX8_sure 57 = .ok (.aload_n 0, 1) := by decide +kernel
theorem dX8_sure_58 : decode cX8_sure 58 = .ok (.getfield 127, 3) := by decide +kernel
theorem dX8_sure_61 : decode cX8_sure 61 = .ok (.if_icmp .ne 7, 3) := by decide +kernel
theorem dX8_sure_64 : decode cX8_sure 64 = .ok (.iconst 2, 1) := by decide +kernel
theorem dX8_sure_65 : decode cX8_sure 65 = .ok (.goto 12, 3) := by decide +kernel
theorem dX8_sure_68 : decode cX8_sure 68 = .ok (.iload_n 2, 1) := by decide +kernel
theorem dX8_sure_69 : decode cX8_sure 69 = .ok (.ifCond .le 7, 3) := by decide +kernel
theorem dX8_sure_72 : decode cX8_sure 72 = .ok (.iconst 1, 1) := by decide +kernel
theorem dX8_sure_73 : decode cX8_sure 73 = .ok (.goto 4, 3) := by decide +kernel
theorem dX8_sure_76 : decode cX8_sure 76 = .ok (.iconst 0, 1) := by decide +kernel
theorem dX8_sure_77 : decode cX8_sure 77 = .ok (.ireturn, 1) := by decide +kernel
theorem dX8_sumOf_0 : decode cX8_sumOf 0 = .ok (.iconst 0, 1) := by decide +kernel
theorem dX8_sumOf_1 : decode cX8_sumOf 1 = .ok (.istore_n 2, 1) := by decide +kernel
theorem dX8_sumOf_2 : decode cX8_sumOf 2 = .ok (.iconst 0, 1) := by decide +kernel
theorem dX8_sumOf_3 : decode cX8_sumOf 3 = .ok (.istore_n 3, 1) := by decide +kernel
theorem dX8_sumOf_4 : decode cX8_sumOf 4 = .ok (.iload_n 3, 1) := by decide +kernel
theorem dX8_sumOf_5 : decode cX8_sumOf 5 = .ok (.aload_n 0, 1) := by decide +kernel
theorem dX8_sumOf_6 : decode cX8_sumOf 6 = .ok (.getfield 106, 3) := by decide +kernel
theorem dX8_sumOf_9 : decode cX8_sumOf 9 = .ok (.if_icmp .ge 31, 3) := by decide +kernel
theorem dX8_sumOf_12 : decode cX8_sumOf 12 = .ok (.iload_n 2, 1) := by decide +kernel
theorem dX8_sumOf_13 : decode cX8_sumOf 13 = .ok (.iload_n 1, 1) := by decide +kernel
theorem dX8_sumOf_14 : decode cX8_sumOf 14 = .ok (.iload_n 3, 1) := by decide +kernel
theorem dX8_sumOf_15 : decode cX8_sumOf 15 = .ok (.ishr, 1) := by decide +kernel
theorem dX8_sumOf_16 : decode cX8_sumOf 16 = .ok (.iconst 1, 1) := by decide +kernel
theorem dX8_sumOf_17 : decode cX8_sumOf 17 = .ok (.iand, 1) := by decide +kernel
theorem dX8_sumOf_18 : decode cX8_sumOf 18 = .ok (.iconst 1, 1) := by decide +kernel
theorem dX8_sumOf_19 : decode cX8_sumOf 19 = .ok (.if_icmp .ne 12, 3) := by decide +kernel
theorem dX8_sumOf_22 : decode cX8_sumOf 22 = .ok (.aload_n 0, 1) := by decide +kernel
theorem dX8_sumOf_23 : decode cX8_sumOf 23 = .ok (.getfield 44, 3) := by decide +kernel
theorem dX8_sumOf_26 : decode cX8_sumOf 26 = .ok (.iload_n 3, 1) := by decide +kernel
theorem dX8_sumOf_27 : decode cX8_sumOf 27 = .ok (.iaload, 1) := by decide +kernel
theorem dX8_sumOf_28 : decode cX8_sumOf 28 = .ok (.goto 4, 3) := by decide +kernel
theorem dX8_sumOf_31 : decode cX8_sumOf 31 = .ok (.iconst 0, 1) := by decide +kernel
theorem dX8_sumOf_32 : decode cX8_sumOf 32 = .ok (.iadd, 1) := by decide +kernel
theorem dX8_sumOf_33 : decode cX8_sumOf 33 = .ok (.istore_n 2, 1) := by decide +kernel
theorem dX8_sumOf_34 : decode cX8_sumOf 34 = .ok (.iinc 3 1, 3) := by decide +kernel
theorem dX8_sumOf_37 : decode cX8_sumOf 37 = .ok (.goto (-33), 3) := by decide +kernel
theorem dX8_sumOf_40 : decode cX8_sumOf 40 = .ok (.iload_n 2, 1) := by decide +kernel
theorem dX8_sumOf_41 : decode cX8_sumOf 41 = .ok (.ireturn, 1) := by decide +kernel
set_option maxRecDepth 20000 in
theorem ggX8_bestOf_X8_sumOf : GoodIn wsX8_bestOf wsX8_sumOf := goodIn_r _ [7, 8, 9, 10, 11, 12, 13, 14, 15, 16, 17, 18, 19, 20, 21, 22, 23, 24, 25, 26, 27, 28, 29, 30, 31, 32, 33, 34, 35, 36, 37, 38, 39, 40, 41, 42, 43] (by decide +kernel) (by decide +kernel)
set_option maxRecDepth 20000 in
theorem gX8_bestOf_X8_sumOf : GoodIn wsX8_bestOf (wsV RX8 209 RX8 yX8_sumOf wsX8_sumOf) := goodIn_app (goodIn_of _ (by decide +kernel)) ggX8_bestOf_X8_sumOf
theorem dX8_bestOf_0 : decode cX8_bestOf 0 = .ok (.iconst 0, 1) := by decide +kernel
theorem dX8_bestOf_1 : decode cX8_bestOf 1 = .ok (.istore_n 2, 1) := by decide +kernel
theorem dX8_bestOf_2 : decode cX8_bestOf 2 = .ok (.iconst 1, 1) := by decide +kernel
theorem dX8_bestOf_3 : decode cX8_bestOf 3 = .ok (.istore_n 3, 1) := by decide +kernel
theorem dX8_bestOf_4 : decode cX8_bestOf 4 = .ok (.iload_n 3, 1) := by decide +kernel
theorem dX8_bestOf_5 : decode cX8_bestOf 5 = .ok (.aload_n 0, 1) := by decide +kernel
theorem dX8_bestOf_6 : decode cX8_bestOf 6 = .ok (.getfield 127, 3) := by decide +kernel
theorem dX8_bestOf_9 : decode cX8_bestOf 9 = .ok (.if_icmp .ge 60, 3) := by decide +kernel
theorem dX8_bestOf_12 : decode cX8_bestOf 12 = .ok (.aload_n 0, 1) := by decide +kernel
theorem dX8_bestOf_13 : decode cX8_bestOf 13 = .ok (.aload_n 0, 1) := by decide +kernel
theorem dX8_bestOf_14 : decode cX8_bestOf 14 = .ok (.getfield 50, 3) := by decide +kernel
theorem dX8_bestOf_17 : decode cX8_bestOf 17 = .ok (.iload_n 3, 1) := by decide +kernel
theorem dX8_bestOf_18 : decode cX8_bestOf 18 = .ok (.iaload, 1) := by decide +kernel
theorem dX8_bestOf_19 : decode cX8_bestOf 19 = .ok (.invokevirtual 209, 3) := by decide +kernel
theorem dX8_bestOf_22 : decode cX8_bestOf 22 = .ok (.istore 4, 2) := by decide +kernel
theorem dX8_bestOf_24 : decode cX8_bestOf 24 = .ok (.aload_n 0, 1) := by decide +kernel
theorem dX8_bestOf_25 : decode cX8_bestOf 25 = .ok (.aload_n 0, 1) := by decide +kernel
theorem dX8_bestOf_26 : decode cX8_bestOf 26 = .ok (.getfield 50, 3) := by decide +kernel
theorem dX8_bestOf_29 : decode cX8_bestOf 29 = .ok (.iload_n 2, 1) := by decide +kernel
theorem dX8_bestOf_30 : decode cX8_bestOf 30 = .ok (.iaload, 1) := by decide +kernel
theorem dX8_bestOf_31 : decode cX8_bestOf 31 = .ok (.invokevirtual 209, 3) := by decide +kernel
theorem dX8_bestOf_34 : decode cX8_bestOf 34 = .ok (.istore 5, 2) := by decide +kernel
theorem dX8_bestOf_36 : decode cX8_bestOf 36 = .ok (.iload_n 1, 1) := by decide +kernel
theorem dX8_bestOf_37 : decode cX8_bestOf 37 = .ok (.ifCond .eq 13, 3) := by decide +kernel
theorem dX8_bestOf_40 : decode cX8_bestOf 40 = .ok (.iload 4, 2) := by decide +kernel
theorem dX8_bestOf_42 : decode cX8_bestOf 42 = .ok (.iload 5, 2) := by decide +kernel
theorem dX8_bestOf_44 : decode cX8_bestOf 44 = .ok (.if_icmp .le 17, 3) := by decide +kernel
theorem dX8_bestOf_47 : decode cX8_bestOf 47 = .ok (.goto 10, 3) := by decide +kernel
theorem dX8_bestOf_50 : decode cX8_bestOf 50 = .ok (.iload 4, 2) := by decide +kernel
theorem dX8_bestOf_52 : decode cX8_bestOf 52 = .ok (.iload 5, 2) := by decide +kernel
theorem dX8_bestOf_54 : decode cX8_bestOf 54 = .ok (.if_icmp .ge 7, 3) := by decide +kernel
theorem dX8_bestOf_57 : decode cX8_bestOf 57 = .ok (.iload_n 3, 1) := by decide +kernel
theorem dX8_bestOf_58 : decode cX8_bestOf 58 = .ok (.goto 4, 3) := by decide +kernel
theorem dX8_bestOf_61 : decode cX8_bestOf 61 = .ok (.iload_n 2, 1) := by decide +kernel
theorem dX8_bestOf_62 : decode cX8_bestOf 62 = .ok (.istore_n 2, 1) := by decide +kernel
theorem dX8_bestOf_63 : decode cX8_bestOf 63 = .ok (.iinc 3 1, 3) := by decide +kernel
theorem dX8_bestOf_66 : decode cX8_bestOf 66 = .ok (.goto (-62), 3) := by decide +kernel
theorem dX8_bestOf_69 : decode cX8_bestOf 69 = .ok (.iload_n 2, 1) := by decide +kernel
theorem dX8_bestOf_70 : decode cX8_bestOf 70 = .ok (.ireturn, 1) := by decide +kernel
set_option maxRecDepth 20000 in
theorem ggX8_best_X8_bestOf : GoodIn wsX8_best wsX8_bestOf := goodIn_r _ [8, 9, 3, 10, 11, 12, 7, 13, 14, 15, 16, 17, 18, 19, 20, 21, 22, 23, 24, 25, 26, 27, 28, 29, 30, 31, 32, 33, 34, 35, 36, 37, 38, 39, 40, 41, 42, 43, 44, 45, 46, 47, 48, 49] (by decide +kernel) (by decide +kernel)
set_option maxRecDepth 20000 in
theorem gX8_best_X8_bestOf : GoodIn wsX8_best (wsV RX8 212 RX8 yX8_bestOf wsX8_bestOf) := goodIn_app (goodIn_of _ (by decide +kernel)) ggX8_best_X8_bestOf
set_option maxRecDepth 20000 in
theorem ggX8_best_X8_sumOf : GoodIn wsX8_best wsX8_sumOf := goodIn_r _ [13, 14, 15, 16, 17, 18, 19, 20, 21, 22, 23, 24, 25, 26, 27, 28, 29, 30, 31, 32, 33, 34, 35, 36, 37, 38, 39, 40, 41, 42, 43, 44, 45, 46, 47, 48, 49] (by decide +kernel) (by decide +kernel)
set_option maxRecDepth 20000 in
theorem gX8_best_X8_sumOf : GoodIn wsX8_best (wsV RX8 209 RX8 yX8_sumOf wsX8_sumOf) := goodIn_app (goodIn_of _ (by decide +kernel)) ggX8_best_X8_sumOf
theorem dX8_best_0 : decode cX8_best 0 = .ok (.aload_n 0, 1) := by decide +kernel
theorem dX8_best_1 : decode cX8_best 1 = .ok (.iconst 0, 1) := by decide +kernel
theorem dX8_best_2 : decode cX8_best 2 = .ok (.putfield 74, 3) := by decide +kernel
theorem dX8_best_5 : decode cX8_best 5 = .ok (.aload_n 0, 1) := by decide +kernel
theorem dX8_best_6 : decode cX8_best 6 = .ok (.getfield 151, 3) := by decide +kernel
theorem dX8_best_9 : decode cX8_best 9 = .ok (.ifCond .eq 20, 3) := by decide +kernel
theorem dX8_best_12 : decode cX8_best 12 = .ok (.aload_n 0, 1) := by decide +kernel
theorem dX8_best_13 : decode cX8_best 13 = .ok (.aload_n 0, 1) := by decide +kernel
theorem dX8_best_14 : decode cX8_best 14 = .ok (.getfield 50, 3) := by decide +kernel
theorem dX8_best_17 : decode cX8_best 17 = .ok (.aload_n 0, 1) := by decide +kernel
theorem dX8_best_18 : decode cX8_best 18 = .ok (.iload_n 1, 1) := by decide +kernel
theorem dX8_best_19 : decode cX8_best 19 = .ok (.invokevirtual 212, 3) := by decide +kernel
theorem dX8_best_22 : decode cX8_best 22 = .ok (.iaload, 1) := by decide +kernel
theorem dX8_best_23 : decode cX8_best 23 = .ok (.invokevirtual 209, 3) := by decide +kernel
theorem dX8_best_26 : decode cX8_best 26 = .ok (.goto 5, 3) := by decide +kernel
theorem dX8_best_29 : decode cX8_best 29 = .ok (.bipush (-3), 2) := by decide +kernel
theorem dX8_best_31 : decode cX8_best 31 = .ok (.ireturn, 1) := by decide +kernel
set_option maxRecDepth 20000 in
theorem ggX8_bestRank_X8_bestOf : GoodIn wsX8_bestRank wsX8_bestOf := goodIn_r _ [7, 8, 9, 10, 11, 12, 6, 13, 14, 15, 16, 17, 18, 19, 20, 21, 22, 23, 24, 25, 26, 27, 28, 29, 30, 31, 32, 33, 34, 35, 36, 37, 38, 39, 40, 41, 42, 43, 44, 45, 46, 47, 48, 49] (by decide +kernel) (by decide +kernel)
set_option maxRecDepth 20000 in
theorem gX8_bestRank_X8_bestOf : GoodIn wsX8_bestRank (wsV RX8 212 RX8 yX8_bestOf wsX8_bestOf) := goodIn_app (goodIn_of _ (by decide +kernel)) ggX8_bestRank_X8_bestOf
theorem dX8_bestRank_0 : decode cX8_bestRank 0 = .ok (.aload_n 0, 1) := by decide +kernel
theorem dX8_bestRank_1 : decode cX8_bestRank 1 = .ok (.iconst 0, 1) := by decide +kernel
theorem dX8_bestRank_2 : decode cX8_bestRank 2 = .ok (.putfield 74, 3) := by decide +kernel
theorem dX8_bestRank_5 : decode cX8_bestRank 5 = .ok (.aload_n 0, 1) := by decide +kernel
theorem dX8_bestRank_6 : decode cX8_bestRank 6 = .ok (.getfield 151, 3) := by decide +kernel
theorem dX8_bestRank_9 : decode cX8_bestRank 9 = .ok (.ifCond .eq 11, 3) := by decide +kernel
theorem dX8_bestRank_12 : decode cX8_bestRank 12 = .ok (.aload_n 0, 1) := by decide +kernel
theorem dX8_bestRank_13 : decode cX8_bestRank 13 = .ok (.iload_n 1, 1) := by decide +kernel
theorem dX8_bestRank_14 : decode cX8_bestRank 14 = .ok (.invokevirtual 212, 3) := by decide +kernel
theorem dX8_bestRank_17 : decode cX8_bestRank 17 = .ok (.goto 5, 3) := by decide +kernel
theorem dX8_bestRank_20 : decode cX8_bestRank 20 = .ok (.bipush (-3), 2) := by decide +kernel
theorem dX8_bestRank_22 : decode cX8_bestRank 22 = .ok (.ireturn, 1) := by decide +kernel
set_option maxRecDepth 20000 in
theorem ggX8_measure_X8_comes : GoodIn wsX8_measure wsX8_comes := goodIn_r _ [10, 11, 12, 13, 14, 15, 16, 17, 18, 19, 9, 20, 21, 22, 23, 24, 25, 26, 27, 28, 29, 30, 31, 32, 33, 34, 39, 40, 41, 42, 43, 44, 45, 46, 47, 48, 49, 50, 51, 52, 53, 54, 55, 56, 57, 58, 59, 60, 61, 62, 63, 64, 65, 66, 67, 68, 69, 70, 71, 72] (by decide +kernel) (by decide +kernel)
set_option maxRecDepth 20000 in
theorem gX8_measure_X8_comes : GoodIn wsX8_measure (wsV RX8 194 RX8 yX8_comes wsX8_comes) := goodIn_app (goodIn_of _ (by decide +kernel)) ggX8_measure_X8_comes
set_option maxRecDepth 20000 in
theorem ggX8_measure_X8_rankOf : GoodIn wsX8_measure wsX8_rankOf := goodIn_r _ [38, 4, 39, 40, 41, 42, 43, 44, 45, 46, 47, 48, 49, 50, 51, 52, 53, 54, 55, 56, 57, 58, 59, 60, 61, 62, 63, 64, 65, 66, 67, 68, 69, 70, 71, 72] (by decide +kernel) (by decide +kernel)
set_option maxRecDepth 20000 in
theorem gX8_measure_X8_rankOf : GoodIn wsX8_measure (wsV RX8 201 RX8 yX8_rankOf wsX8_rankOf) := goodIn_app (goodIn_of _ (by decide +kernel)) ggX8_measure_X8_rankOf
theorem dX8_measure_0 : decode cX8_measure 0 = .ok (.iconst 0, 1) := by decide +kernel
theorem dX8_measure_1 : decode cX8_measure 1 = .ok (.istore_n 2, 1) := by decide +kernel
theorem dX8_measure_2 : decode cX8_measure 2 = .ok (.iload_n 2, 1) := by decide +kernel
theorem dX8_measure_3 : decode cX8_measure 3 = .ok (.aload_n 0, 1) := by decide +kernel
theorem dX8_measure_4 : decode cX8_measure 4 = .ok (.getfield 127, 3) := by decide +kernel
theorem dX8_measure_7 : decode cX8_measure 7 = .ok (.if_icmp .ge 17, 3) := by decide +kernel
theorem dX8_measure_10 : decode cX8_measure 10 = .ok (.aload_n 0, 1) := by decide +kernel
theorem dX8_measure_11 : decode cX8_measure 11 = .ok (.getfield 65, 3) := by decide +kernel
theorem dX8_measure_14 : decode cX8_measure 14 = .ok (.iload_n 2, 1) := by decide +kernel
theorem dX8_measure_15 : decode cX8_measure 15 = .ok (.bipush (-9), 2) := by decide +kernel
theorem dX8_measure_17 : decode cX8_measure 17 = .ok (.iastore, 1) := by decide +kernel
theorem dX8_measure_18 : decode cX8_measure 18 = .ok (.iinc 2 1, 3) := by decide +kernel
theorem dX8_measure_21 : decode cX8_measure 21 = .ok (.goto (-19), 3) := by decide +kernel
theorem dX8_measure_24 : decode cX8_measure 24 = .ok (.aload_n 0, 1) := by decide +kernel
theorem dX8_measure_25 : decode cX8_measure 25 = .ok (.getfield 65, 3) := by decide +kernel
theorem dX8_measure_28 : decode cX8_measure 28 = .ok (.iload_n 1, 1) := by decide +kernel
theorem dX8_measure_29 : decode cX8_measure 29 = .ok (.iconst 0, 1) := by decide +kernel
theorem dX8_measure_30 : decode cX8_measure 30 = .ok (.iastore, 1) := by decide +kernel
theorem dX8_measure_31 : decode cX8_measure 31 = .ok (.aload_n 0, 1) := by decide +kernel
theorem dX8_measure_32 : decode cX8_measure 32 = .ok (.getfield 68, 3) := by decide +kernel
theorem dX8_measure_35 : decode cX8_measure 35 = .ok (.iconst 0, 1) := by decide +kernel
theorem dX8_measure_36 : decode cX8_measure 36 = .ok (.iload_n 1, 1) := by decide +kernel
theorem dX8_measure_37 : decode cX8_measure 37 = .ok (.iastore, 1) := by decide +kernel
theorem dX8_measure_38 : decode cX8_measure 38 = .ok (.iconst 1, 1) := by decide +kernel
theorem dX8_measure_39 : decode cX8_measure 39 = .ok (.istore_n 2, 1) := by decide +kernel
theorem dX8_measure_40 : decode cX8_measure 40 = .ok (.iconst 0, 1) := by decide +kernel
theorem dX8_measure_41 : decode cX8_measure 41 = .ok (.istore_n 3, 1) := by decide +kernel
theorem dX8_measure_42 : decode cX8_measure 42 = .ok (.iload_n 3, 1) := by decide +kernel
theorem dX8_measure_43 : decode cX8_measure 43 = .ok (.iload_n 2, 1) := by decide +kernel
theorem dX8_measure_44 : decode cX8_measure 44 = .ok (.if_icmp .ge 120, 3) := by decide +kernel
theorem dX8_measure_47 : decode cX8_measure 47 = .ok (.aload_n 0, 1) := by decide +kernel
theorem dX8_measure_48 : decode cX8_measure 48 = .ok (.getfield 50, 3) := by decide +kernel
theorem dX8_measure_51 : decode cX8_measure 51 = .ok (.aload_n 0, 1) := by decide +kernel
theorem dX8_measure_52 : decode cX8_measure 52 = .ok (.getfield 68, 3) := by decide +kernel
theorem dX8_measure_55 : decode cX8_measure 55 = .ok (.iload_n 3, 1) := by decide +kernel
theorem dX8_measure_56 : decode cX8_measure 56 = .ok (.iaload, 1) := by decide +kernel
theorem dX8_measure_57 : decode cX8_measure 57 = .ok (.iaload, 1) := by decide +kernel
theorem dX8_measure_58 : decode cX8_measure 58 = .ok (.istore 4, 2) := by decide +kernel
theorem dX8_measure_60 : decode cX8_measure 60 = .ok (.iconst 0, 1) := by decide +kernel
theorem dX8_measure_61 : decode cX8_measure 61 = .ok (.istore 5, 2) := by decide +kernel
theorem dX8_measure_63 : decode cX8_measure 63 = .ok (.iload 5, 2) := by decide +kernel
theorem dX8_measure_65 : decode cX8_measure 65 = .ok (.aload_n 0, 1) := by decide +kernel
theorem dX8_measure_66 : decode cX8_measure 66 = .ok (.getfield 106, 3) := by decide +kernel
theorem dX8_measure_69 : decode cX8_measure 69 = .ok (.if_icmp .ge 89, 3) := by decide +kernel
theorem dX8_measure_72 : decode cX8_measure 72 = .ok (.aload_n 0, 1) := by decide +kernel
theorem dX8_measure_73 : decode cX8_measure 73 = .ok (.iload 4, 2) := by decide +kernel
theorem dX8_measure_75 : decode cX8_measure 75 = .ok (.iload 5, 2) := by decide +kernel
theorem dX8_measure_77 : decode cX8_measure 77 = .ok (.invokevirtual 194, 3) := by decide +kernel
theorem dX8_measure_80 : decode cX8_measure 80 = .ok (.istore 6, 2) := by decide +kernel
theorem dX8_measure_82 : decode cX8_measure 82 = .ok (.iload 6, 2) := by decide +kernel
theorem dX8_measure_84 : decode cX8_measure 84 = .ok (.bipush (-9), 2) := by decide +kernel
theorem dX8_measure_86 : decode cX8_measure 86 = .ok (.if_icmp .eq 66, 3) := by decide +kernel
theorem dX8_measure_89 : decode cX8_measure 89 = .ok (.aload_n 0, 1) := by decide +kernel
theorem dX8_measure_90 : decode cX8_measure 90 = .ok (.iload 4, 2) := by decide +kernel
theorem dX8_measure_92 : decode cX8_measure 92 = .ok (.iconst 1, 1) := by decide +kernel
theorem dX8_measure_93 : decode cX8_measure 93 = .ok (.iload 5, 2) := by decide +kernel
theorem dX8_measure_95 : decode cX8_measure 95 = .ok (.ishl, 1) := by decide +kernel
theorem dX8_measure_96 : decode cX8_measure 96 = .ok (.iconst (-1), 1) := by decide +kernel
theorem dX8_measure_97 : decode cX8_measure 97 = .ok (.ixor, 1) := by decide +kernel
theorem dX8_measure_98 : decode cX8_measure 98 = .ok (.iand, 1) := by decide +kernel
theorem dX8_measure_99 : decode cX8_measure 99 = .ok (.iconst 1, 1) := by decide +kernel
theorem dX8_measure_100 : decode cX8_measure 100 = .ok (.iload 6, 2) := by decide +kernel
theorem dX8_measure_102 : decode cX8_measure 102 = .ok (.ishl, 1) := by decide +kernel
theorem dX8_measure_103 : decode cX8_measure 103 = .ok (.ior, 1) := by decide +kernel
theorem dX8_measure_104 : decode cX8_measure 104 = .ok (.invokevirtual 201, 3) := by decide +kernel
theorem dX8_measure_107 : decode cX8_measure 107 = .ok (.istore 7, 2) := by decide +kernel
theorem dX8_measure_109 : decode cX8_measure 109 = .ok (.aload_n 0, 1) := by decide +kernel
theorem dX8_measure_110 : decode cX8_measure 110 = .ok (.getfield 65, 3) := by decide +kernel
theorem dX8_measure_113 : decode cX8_measure 113 = .ok (.iload 7, 2) := by decide +kernel
theorem dX8_measure_115 : decode cX8_measure 115 = .ok (.iaload, 1) := by decide +kernel
theorem dX8_measure_116 : decode cX8_measure 116 = .ok (.bipush (-9), 2) := by decide +kernel
theorem dX8_measure_118 : decode cX8_measure 118 = .ok (.if_icmp .ne 34, 3) := by decide +kernel
theorem dX8_measure_121 : decode cX8_measure 121 = .ok (.aload_n 0, 1) := by decide +kernel
theorem dX8_measure_122 : decode cX8_measure 122 = .ok (.getfield 65, 3) := by decide +kernel
theorem dX8_measure_125 : decode cX8_measure 125 = .ok (.iload 7, 2) := by decide +kernel
theorem dX8_measure_127 : decode cX8_measure 127 = .ok (.aload_n 0, 1) := by decide +kernel
theorem dX8_measure_128 : decode cX8_measure 128 = .ok (.getfield 65, 3) := by decide +kernel
theorem dX8_measure_131 : decode cX8_measure 131 = .ok (.aload_n 0, 1) := by decide +kernel
theorem dX8_measure_132 : decode cX8_measure 132 = .ok (.getfield 68, 3) := by decide +kernel
theorem dX8_measure_135 : decode cX8_measure 135 = .ok (.iload_n 3, 1) := by decide +kernel
theorem dX8_measure_136 : decode cX8_measure 136 = .ok (.iaload, 1) := by decide +kernel
theorem dX8_measure_137 : decode cX8_measure 137 = .ok (.iaload, 1) := by decide +kernel
theorem dX8_measure_138 : decode cX8_measure 138 = .ok (.iconst 1, 1) := by decide +kernel
theorem dX8_measure_139 : decode cX8_measure 139 = .ok (.iadd, 1) := by decide +kernel
theorem dX8_measure_140 : decode cX8_measure 140 = .ok (.iastore, 1) := by decide +kernel
theorem dX8_measure_141 : decode cX8_measure 141 = .ok (.aload_n 0, 1) := by decide +kernel
theorem dX8_measure_142 : decode cX8_measure 142 = .ok (.getfield 68, 3) := by decide +kernel
theorem dX8_measure_145 : decode cX8_measure 145 = .ok (.iload_n 2, 1) := by decide +kernel
theorem dX8_measure_146 : decode cX8_measure 146 = .ok (.iload 7, 2) := by decide +kernel
theorem dX8_measure_148 : decode cX8_measure 148 = .ok (.iastore, 1) := by decide +kernel
theorem dX8_measure_149 : decode cX8_measure 149 = .ok (.iinc 2 1, 3) := by decide +kernel
theorem dX8_measure_152 : decode cX8_measure 152 = .ok (.iinc 5 1, 3) := by decide +kernel
theorem dX8_measure_155 : decode cX8_measure 155 = .ok (.goto (-92), 3) := by decide +kernel
theorem dX8_measure_158 : decode cX8_measure 158 = .ok (.iinc 3 1, 3) := by decide +kernel
theorem dX8_measure_161 : decode cX8_measure 161 = .ok (.goto (-119), 3) := by decide +kernel
theorem dX8_measure_164 : decode cX8_measure 164 = .ok (.return_, 1) := by decide +kernel
set_option maxRecDepth 20000 in
theorem ggX8_apart_X8_noRank : GoodIn wsX8_apart wsX8_noRank := goodIn_r _ [9, 10, 11, 12, 8, 13, 53, 54, 55, 56, 57, 58, 59, 60, 61, 62, 63, 64, 65, 66, 67, 68, 69, 70, 71, 72, 73, 74, 75, 76, 77, 78, 79, 80, 81, 82, 83, 84, 85, 86] (by decide +kernel) (by decide +kernel)
set_option maxRecDepth 20000 in
theorem gX8_apart_X8_noRank : GoodIn wsX8_apart (wsV RX8 204 RX8 yX8_noRank wsX8_noRank) := goodIn_app (goodIn_of _ (by decide +kernel)) ggX8_apart_X8_noRank
set_option maxRecDepth 20000 in
theorem ggX8_apart_X8_measure : GoodIn wsX8_apart wsX8_measure := goodIn_r _ [17, 10, 3, 18, 19, 20, 21, 22, 23, 8, 24, 25, 26, 27, 28, 29, 30, 31, 32, 33, 34, 35, 36, 37, 38, 39, 40, 41, 42, 43, 44, 45, 46, 47, 48, 49, 50, 51, 52, 53, 54, 55, 56, 57, 58, 59, 60, 61, 62, 63, 64, 65, 66, 67, 68, 69, 70, 71, 72, 73, 74, 75, 76, 77, 78, 79, 80, 81, 82, 83, 84, 85, 86] (by decide +kernel) (by decide +kernel)
set_option maxRecDepth 20000 in
theorem gX8_apart_X8_measure : GoodIn wsX8_apart (wsV RX8 216 RX8 yX8_measure wsX8_measure) := goodIn_app (goodIn_of _ (by decide +kernel)) ggX8_apart_X8_measure
set_option maxRecDepth 20000 in
theorem ggX8_apart_X8_rankOf : GoodIn wsX8_apart wsX8_rankOf := goodIn_r _ [52, 19, 53, 54, 55, 56, 57, 58, 59, 60, 61, 62, 63, 64, 65, 66, 67, 68, 69, 70, 71, 72, 73, 74, 75, 76, 77, 78, 79, 80, 81, 82, 83, 84, 85, 86] (by decide +kernel) (by decide +kernel)
set_option maxRecDepth 20000 in
theorem gX8_apart_X8_rankOf : GoodIn wsX8_apart (wsV RX8 201 RX8 yX8_rankOf wsX8_rankOf) := goodIn_app (goodIn_of _ (by decide +kernel)) ggX8_apart_X8_rankOf
theorem dX8_apart_0 : decode cX8_apart 0 = .ok (.aload_n 0, 1) := by decide +kernel
theorem dX8_apart_1 : decode cX8_apart 1 = .ok (.iconst 0, 1) := by decide +kernel
theorem dX8_apart_2 : decode cX8_apart 2 = .ok (.putfield 74, 3) := by decide +kernel
theorem dX8_apart_5 : decode cX8_apart 5 = .ok (.aload_n 0, 1) := by decide +kernel
theorem dX8_apart_6 : decode cX8_apart 6 = .ok (.getfield 151, 3) := by decide +kernel
theorem dX8_apart_9 : decode cX8_apart 9 = .ok (.ifCond .ne 6, 3) := by decide +kernel
theorem dX8_apart_12 : decode cX8_apart 12 = .ok (.bipush (-3), 2) := by decide +kernel
theorem dX8_apart_14 : decode cX8_apart 14 = .ok (.ireturn, 1) := by decide +kernel
theorem dX8_apart_15 : decode cX8_apart 15 = .ok (.aload_n 0, 1) := by decide +kernel
theorem dX8_apart_16 : decode cX8_apart 16 = .ok (.iload_n 1, 1) := by decide +kernel
theorem dX8_apart_17 : decode cX8_apart 17 = .ok (.invokevirtual 204, 3) := by decide +kernel
theorem dX8_apart_20 : decode cX8_apart 20 = .ok (.ifCond .eq 5, 3) := by decide +kernel
theorem dX8_apart_23 : decode cX8_apart 23 = .ok (.iconst (-1), 1) := by decide +kernel
theorem dX8_apart_24 : decode cX8_apart 24 = .ok (.ireturn, 1) := by decide +kernel
theorem dX8_apart_25 : decode cX8_apart 25 = .ok (.aload_n 0, 1) := by decide +kernel
theorem dX8_apart_26 : decode cX8_apart 26 = .ok (.iload_n 1, 1) := by decide +kernel
theorem dX8_apart_27 : decode cX8_apart 27 = .ok (.invokevirtual 216, 3) := by decide +kernel
theorem dX8_apart_30 : decode cX8_apart 30 = .ok (.aload_n 0, 1) := by decide +kernel
theorem dX8_apart_31 : decode cX8_apart 31 = .ok (.getfield 65, 3) := by decide +kernel
theorem dX8_apart_34 : decode cX8_apart 34 = .ok (.aload_n 0, 1) := by decide +kernel
theorem dX8_apart_35 : decode cX8_apart 35 = .ok (.aload_n 0, 1) := by decide +kernel
theorem dX8_apart_36 : decode cX8_apart 36 = .ok (.getfield 145, 3) := by decide +kernel
theorem dX8_apart_39 : decode cX8_apart 39 = .ok (.invokevirtual 201, 3) := by decide +kernel
theorem dX8_apart_42 : decode cX8_apart 42 = .ok (.iaload, 1) := by decide +kernel
theorem dX8_apart_43 : decode cX8_apart 43 = .ok (.ireturn, 1) := by decide +kernel
set_option maxRecDepth 20000 in
theorem ggX8_way_X8_noRank : GoodIn wsX8_way wsX8_noRank := goodIn_r _ [10, 11, 12, 13, 9, 14, 53, 54, 55, 56, 57, 58, 59, 60, 61, 62, 63, 64, 65, 66, 67, 68, 69, 70, 71, 72, 73, 74, 75, 76, 77, 78, 79, 80, 81, 82, 83, 84, 85, 86] (by decide +kernel) (by decide +kernel)
set_option maxRecDepth 20000 in
theorem gX8_way_X8_noRank : GoodIn wsX8_way (wsV RX8 204 RX8 yX8_noRank wsX8_noRank) := goodIn_app (goodIn_of _ (by decide +kernel)) ggX8_way_X8_noRank
set_option maxRecDepth 20000 in
theorem ggX8_way_X8_measure : GoodIn wsX8_way wsX8_measure := goodIn_r _ [18, 11, 3, 19, 20, 5, 21, 22, 23, 9, 24, 25, 26, 27, 28, 29, 30, 31, 32, 33, 34, 35, 36, 37, 38, 39, 40, 41, 42, 43, 44, 45, 46, 47, 48, 49, 50, 51, 52, 53, 54, 55, 56, 57, 58, 59, 60, 61, 62, 63, 64, 65, 66, 67, 68, 69, 70, 71, 72, 73, 74, 75, 76, 77, 78, 79, 80, 81, 82, 83, 84, 85, 86] (by decide +kernel) (by decide +kernel)
set_option maxRecDepth 20000 in
theorem gX8_way_X8_measure : GoodIn wsX8_way (wsV RX8 216 RX8 yX8_measure wsX8_measure) := goodIn_app (goodIn_of _ (by decide +kernel)) ggX8_way_X8_measure
set_option maxRecDepth 20000 in
theorem ggX8_way_X8_rankOf : GoodIn wsX8_way wsX8_rankOf := goodIn_r _ [52, 20, 53, 54, 55, 56, 57, 58, 59, 60, 61, 62, 63, 64, 65, 66, 67, 68, 69, 70, 71, 72, 73, 74, 75, 76, 77, 78, 79, 80, 81, 82, 83, 84, 85, 86] (by decide +kernel) (by decide +kernel)
set_option maxRecDepth 20000 in
theorem gX8_way_X8_rankOf : GoodIn wsX8_way (wsV RX8 201 RX8 yX8_rankOf wsX8_rankOf) := goodIn_app (goodIn_of _ (by decide +kernel)) ggX8_way_X8_rankOf
set_option maxRecDepth 20000 in
theorem ggX8_way_X8_comes : GoodIn wsX8_way wsX8_comes := goodIn_r _ [24, 25, 26, 27, 28, 29, 30, 31, 32, 33, 9, 34, 35, 36, 37, 38, 39, 40, 41, 42, 43, 44, 45, 46, 47, 48, 53, 54, 55, 56, 57, 58, 59, 60, 61, 62, 63, 64, 65, 66, 67, 68, 69, 70, 71, 72, 73, 74, 75, 76, 77, 78, 79, 80, 81, 82, 83, 84, 85, 86] (by decide +kernel) (by decide +kernel)
set_option maxRecDepth 20000 in
theorem gX8_way_X8_comes : GoodIn wsX8_way (wsV RX8 194 RX8 yX8_comes wsX8_comes) := goodIn_app (goodIn_of _ (by decide +kernel)) ggX8_way_X8_comes
theorem dX8_way_0 : decode cX8_way 0 = .ok (.aload_n 0, 1) := by decide +kernel
theorem dX8_way_1 : decode cX8_way 1 = .ok (.iconst 0, 1) := by decide +kernel
theorem dX8_way_2 : decode cX8_way 2 = .ok (.putfield 74, 3) := by decide +kernel
theorem dX8_way_5 : decode cX8_way 5 = .ok (.aload_n 0, 1) := by decide +kernel
theorem dX8_way_6 : decode cX8_way 6 = .ok (.getfield 151, 3) := by decide +kernel
theorem dX8_way_9 : decode cX8_way 9 = .ok (.ifCond .ne 6, 3) := by decide +kernel
theorem dX8_way_12 : decode cX8_way 12 = .ok (.bipush (-3), 2) := by decide +kernel
theorem dX8_way_14 : decode cX8_way 14 = .ok (.ireturn, 1) := by decide +kernel
theorem dX8_way_15 : decode cX8_way 15 = .ok (.aload_n 0, 1) := by decide +kernel
theorem dX8_way_16 : decode cX8_way 16 = .ok (.iload_n 1, 1) := by decide +kernel
theorem dX8_way_17 : decode cX8_way 17 = .ok (.invokevirtual 204, 3) := by decide +kernel
theorem dX8_way_20 : decode cX8_way 20 = .ok (.ifCond .eq 5, 3) := by decide +kernel
theorem dX8_way_23 : decode cX8_way 23 = .ok (.iconst (-1), 1) := by decide +kernel
theorem dX8_way_24 : decode cX8_way 24 = .ok (.ireturn, 1) := by decide +kernel
theorem dX8_way_25 : decode cX8_way 25 = .ok (.aload_n 0, 1) := by decide +kernel
theorem dX8_way_26 : decode cX8_way 26 = .ok (.iload_n 1, 1) := by decide +kernel
theorem dX8_way_27 : decode cX8_way 27 = .ok (.invokevirtual 216, 3) := by decide +kernel
theorem dX8_way_30 : decode cX8_way 30 = .ok (.aload_n 0, 1) := by decide +kernel
theorem dX8_way_31 : decode cX8_way 31 = .ok (.getfield 65, 3) := by decide +kernel
theorem dX8_way_34 : decode cX8_way 34 = .ok (.aload_n 0, 1) := by decide +kernel
theorem dX8_way_35 : decode cX8_way 35 = .ok (.aload_n 0, 1) := by decide +kernel
theorem dX8_way_36 : decode cX8_way 36 = .ok (.getfield 145, 3) := by decide +kernel
theorem dX8_way_39 : decode cX8_way 39 = .ok (.invokevirtual 201, 3) := by decide +kernel
theorem dX8_way_42 : decode cX8_way 42 = .ok (.iaload, 1) := by decide +kernel
theorem dX8_way_43 : decode cX8_way 43 = .ok (.istore_n 2, 1) := by decide +kernel
theorem dX8_way_44 : decode cX8_way 44 = .ok (.iload_n 2, 1) := by decide +kernel
theorem dX8_way_45 : decode cX8_way 45 = .ok (.ifCond .gt 6, 3) := by decide +kernel
theorem dX8_way_48 : decode cX8_way 48 = .ok (.bipush (-9), 2) := by decide +kernel
theorem dX8_way_50 : decode cX8_way 50 = .ok (.ireturn, 1) := by decide +kernel
theorem dX8_way_51 : decode cX8_way 51 = .ok (.iconst 0, 1) := by decide +kernel
theorem dX8_way_52 : decode cX8_way 52 = .ok (.istore_n 3, 1) := by decide +kernel
theorem dX8_way_53 : decode cX8_way 53 = .ok (.iload_n 3, 1) := by decide +kernel
theorem dX8_way_54 : decode cX8_way 54 = .ok (.aload_n 0, 1) := by decide +kernel
theorem dX8_way_55 : decode cX8_way 55 = .ok (.getfield 106, 3) := by decide +kernel
theorem dX8_way_58 : decode cX8_way 58 = .ok (.if_icmp .ge 59, 3) := by decide +kernel
theorem dX8_way_61 : decode cX8_way 61 = .ok (.aload_n 0, 1) := by decide +kernel
theorem dX8_way_62 : decode cX8_way 62 = .ok (.aload_n 0, 1) := by decide +kernel
theorem dX8_way_63 : decode cX8_way 63 = .ok (.getfield 145, 3) := by decide +kernel
theorem dX8_way_66 : decode cX8_way 66 = .ok (.iload_n 3, 1) := by decide +kernel
theorem dX8_way_67 : decode cX8_way 67 = .ok (.invokevirtual 194, 3) := by decide +kernel
theorem dX8_way_70 : decode cX8_way 70 = .ok (.istore 4, 2) := by decide +kernel
theorem dX8_way_72 : decode cX8_way 72 = .ok (.iload 4, 2) := by decide +kernel
theorem dX8_way_74 : decode cX8_way 74 = .ok (.bipush (-9), 2) := by decide +kernel
theorem dX8_way_76 : decode cX8_way 76 = .ok (.if_icmp .eq 35, 3) := by decide +kernel
theorem dX8_way_79 : decode cX8_way 79 = .ok (.aload_n 0, 1) := by decide +kernel
theorem dX8_way_80 : decode cX8_way 80 = .ok (.getfield 65, 3) := by decide +kernel
theorem dX8_way_83 : decode cX8_way 83 = .ok (.aload_n 0, 1) := by decide +kernel
theorem dX8_way_84 : decode cX8_way 84 = .ok (.aload_n 0, 1) := by decide +kernel
theorem dX8_way_85 : decode cX8_way 85 = .ok (.getfield 145, 3) := by decide +kernel
theorem dX8_way_88 : decode cX8_way 88 = .ok (.iconst 1, 1) := by decide +kernel
theorem dX8_way_89 : decode cX8_way 89 = .ok (.iload_n 3, 1) := by decide +kernel
theorem dX8_way_90 : decode cX8_way 90 = .ok (.ishl, 1) := by decide +kernel
theorem dX8_way_91 : decode cX8_way 91 = .ok (.iconst (-1), 1) := by decide +kernel
theorem dX8_way_92 : decode cX8_way 92 = .ok (.ixor, 1) := by decide +kernel
theorem dX8_way_93 : decode cX8_way 93 = .ok (.iand, 1) := by decide +kernel
theorem dX8_way_94 : decode cX8_way 94 = .ok (.iconst 1, 1) := by decide +kernel
theorem dX8_way_95 : decode cX8_way 95 = .ok (.iload 4, 2) := by decide +kernel
theorem dX8_way_97 : decode cX8_way 97 = .ok (.ishl, 1) := by decide +kernel
theorem dX8_way_98 : decode cX8_way 98 = .ok (.ior, 1) := by decide +kernel
theorem dX8_way_99 : decode cX8_way 99 = .ok (.invokevirtual 201, 3) := by decide +kernel
theorem dX8_way_102 : decode cX8_way 102 = .ok (.iaload, 1) := by decide +kernel
theorem dX8_way_103 : decode cX8_way 103 = .ok (.iload_n 2, 1) := by decide +kernel
theorem dX8_way_104 : decode cX8_way 104 = .ok (.iconst 1, 1) := by decide +kernel
theorem dX8_way_105 : decode cX8_way 105 = .ok (.isub, 1) := by decide +kernel
theorem dX8_way_106 : decode cX8_way 106 = .ok (.if_icmp .ne 5, 3) := by decide +kernel
theorem dX8_way_109 : decode cX8_way 109 = .ok (.iload_n 3, 1) := by decide +kernel
theorem dX8_way_110 : decode cX8_way 110 = .ok (.ireturn, 1) := by decide +kernel
theorem dX8_way_111 : decode cX8_way 111 = .ok (.iinc 3 1, 3) := by decide +kernel
theorem dX8_way_114 : decode cX8_way 114 = .ok (.goto (-61), 3) := by decide +kernel
theorem dX8_way_117 : decode cX8_way 117 = .ok (.bipush (-9), 2) := by decide +kernel
theorem dX8_way_119 : decode cX8_way 119 = .ok (.ireturn, 1) := by decide +kernel
set_option maxRecDepth 20000 in
theorem ggX8_far_X8_rankOf : GoodIn wsX8_far wsX8_rankOf := goodIn_r _ [10, 11, 46, 47, 48, 49, 50, 51, 52, 53, 54, 55, 56, 57, 58, 59, 60, 61, 62, 63, 64, 65, 66, 67, 68, 69, 70, 71, 72, 73, 74, 75, 76, 77, 78, 79] (by decide +kernel) (by decide +kernel)
set_option maxRecDepth 20000 in
theorem gX8_far_X8_rankOf : GoodIn wsX8_far (wsV RX8 201 RX8 yX8_rankOf wsX8_rankOf) := goodIn_app (goodIn_of _ (by decide +kernel)) ggX8_far_X8_rankOf
set_option maxRecDepth 20000 in
theorem ggX8_far_X8_measure : GoodIn wsX8_far wsX8_measure := goodIn_r _ [15, 4, 5, 16, 11, 17, 18, 19, 20, 9, 21, 22, 23, 24, 25, 26, 27, 28, 29, 30, 31, 32, 33, 34, 35, 36, 37, 38, 39, 40, 41, 42, 43, 44, 45, 6, 7, 8, 10, 46, 47, 48, 49, 50, 51, 52, 53, 54, 55, 56, 57, 58, 59, 60, 61, 62, 63, 64, 65, 66, 67, 68, 69, 70, 71, 72, 73, 74, 75, 76, 77, 78, 79] (by decide +kernel) (by decide +kernel)
set_option maxRecDepth 20000 in
theorem gX8_far_X8_measure : GoodIn wsX8_far (wsV RX8 216 RX8 yX8_measure wsX8_measure) := goodIn_app (goodIn_of _ (by decide +kernel)) ggX8_far_X8_measure
theorem dX8_far_0 : decode cX8_far 0 = .ok (.aload_n 0, 1) := by decide +kernel
theorem dX8_far_1 : decode cX8_far 1 = .ok (.iconst 0, 1) := by decide +kernel
theorem dX8_far_2 : decode cX8_far 2 = .ok (.putfield 74, 3) := by decide +kernel
theorem dX8_far_5 : decode cX8_far 5 = .ok (.aload_n 0, 1) := by decide +kernel
theorem dX8_far_6 : decode cX8_far 6 = .ok (.getfield 151, 3) := by decide +kernel
theorem dX8_far_9 : decode cX8_far 9 = .ok (.ifCond .ne 6, 3) := by decide +kernel
theorem dX8_far_12 : decode cX8_far 12 = .ok (.bipush (-3), 2) := by decide +kernel
theorem dX8_far_14 : decode cX8_far 14 = .ok (.ireturn, 1) := by decide +kernel
theorem dX8_far_15 : decode cX8_far 15 = .ok (.aload_n 0, 1) := by decide +kernel
theorem dX8_far_16 : decode cX8_far 16 = .ok (.aload_n 0, 1) := by decide +kernel
theorem dX8_far_17 : decode cX8_far 17 = .ok (.aload_n 0, 1) := by decide +kernel
theorem dX8_far_18 : decode cX8_far 18 = .ok (.getfield 145, 3) := by decide +kernel
theorem dX8_far_21 : decode cX8_far 21 = .ok (.invokevirtual 201, 3) := by decide +kernel
theorem dX8_far_24 : decode cX8_far 24 = .ok (.invokevirtual 216, 3) := by decide +kernel
theorem dX8_far_27 : decode cX8_far 27 = .ok (.iconst 0, 1) := by decide +kernel
theorem dX8_far_28 : decode cX8_far 28 = .ok (.istore_n 1, 1) := by decide +kernel
theorem dX8_far_29 : decode cX8_far 29 = .ok (.iconst 0, 1) := by decide +kernel
theorem dX8_far_30 : decode cX8_far 30 = .ok (.istore_n 2, 1) := by decide +kernel
theorem dX8_far_31 : decode cX8_far 31 = .ok (.iload_n 2, 1) := by decide +kernel
theorem dX8_far_32 : decode cX8_far 32 = .ok (.aload_n 0, 1) := by decide +kernel
theorem dX8_far_33 : decode cX8_far 33 = .ok (.getfield 127, 3) := by decide +kernel
theorem dX8_far_36 : decode cX8_far 36 = .ok (.if_icmp .ge 30, 3) := by decide +kernel
theorem dX8_far_39 : decode cX8_far 39 = .ok (.aload_n 0, 1) := by decide +kernel
theorem dX8_far_40 : decode cX8_far 40 = .ok (.getfield 65, 3) := by decide +kernel
theorem dX8_far_43 : decode cX8_far 43 = .ok (.iload_n 2, 1) := by decide +kernel
theorem dX8_far_44 : decode cX8_far 44 = .ok (.iaload, 1) := by decide +kernel
theorem dX8_far_45 : decode cX8_far 45 = .ok (.iload_n 1, 1) := by decide +kernel
theorem dX8_far_46 : decode cX8_far 46 = .ok (.if_icmp .le 12, 3) := by decide +kernel
theorem dX8_far_49 : decode cX8_far 49 = .ok (.aload_n 0, 1) := by decide +kernel
theorem dX8_far_50 : decode cX8_far 50 = .ok (.getfield 65, 3) := by decide +kernel
theorem dX8_far_53 : decode cX8_far 53 = .ok (.iload_n 2, 1) := by decide +kernel
theorem dX8_far_54 : decode cX8_far 54 = .ok (.iaload, 1) := by decide +kernel
theorem dX8_far_55 : decode cX8_far 55 = .ok (.goto 4, 3) := by decide +kernel
theorem dX8_far_58 : decode cX8_far 58 = .ok (.iload_n 1, 1) := by decide +kernel
theorem dX8_far_59 : decode cX8_far 59 = .ok (.istore_n 1, 1) := by decide +kernel
theorem dX8_far_60 : decode cX8_far 60 = .ok (.iinc 2 1, 3) := by decide +kernel
theorem dX8_far_63 : decode cX8_far 63 = .ok (.goto (-32), 3) := by decide +kernel
theorem dX8_far_66 : decode cX8_far 66 = .ok (.iload_n 1, 1) := by decide +kernel
theorem dX8_far_67 : decode cX8_far 67 = .ok (.ireturn, 1) := by decide +kernel
set_option maxRecDepth 20000 in
theorem ggX8_crossings_X8_noRank : GoodIn wsX8_crossings wsX8_noRank := goodIn_r _ [11, 12, 13, 14, 10, 15, 16, 17, 18, 19, 20, 21, 22, 23, 24, 25, 26, 27, 28, 29, 30, 31, 32, 33, 34, 35, 36, 37, 38, 39, 40, 41, 42, 43, 44, 45, 46, 47, 48, 49] (by decide +kernel) (by decide +kernel)
set_option maxRecDepth 20000 in
theorem gX8_crossings_X8_noRank : GoodIn wsX8_crossings (wsV RX8 204 RX8 yX8_noRank wsX8_noRank) := goodIn_app (goodIn_of _ (by decide +kernel)) ggX8_crossings_X8_noRank
theorem dX8_crossings_0 : decode cX8_crossings 0 = .ok (.aload_n 0, 1) := by decide +kernel
theorem dX8_crossings_1 : decode cX8_crossings 1 = .ok (.iconst 0, 1) := by decide +kernel
theorem dX8_crossings_2 : decode cX8_crossings 2 = .ok (.putfield 74, 3) := by decide +kernel
theorem dX8_crossings_5 : decode cX8_crossings 5 = .ok (.aload_n 0, 1) := by decide +kernel
theorem dX8_crossings_6 : decode cX8_crossings 6 = .ok (.getfield 151, 3) := by decide +kernel
theorem dX8_crossings_9 : decode cX8_crossings 9 = .ok (.ifCond .ne 6, 3) := by decide +kernel
theorem dX8_crossings_12 : decode cX8_crossings 12 = .ok (.bipush (-3), 2) := by decide +kernel
theorem dX8_crossings_14 : decode cX8_crossings 14 = .ok (.ireturn, 1) := by decide +kernel
theorem dX8_crossings_15 : decode cX8_crossings 15 = .ok (.aload_n 0, 1) := by decide +kernel
theorem dX8_crossings_16 : decode cX8_crossings 16 = .ok (.iload_n 1, 1) := by decide +kernel
theorem dX8_crossings_17 : decode cX8_crossings 17 = .ok (.invokevirtual 204, 3) := by decide +kernel
theorem dX8_crossings_20 : decode cX8_crossings 20 = .ok (.ifCond .eq 5, 3) := by decide +kernel
theorem dX8_crossings_23 : decode cX8_crossings 23 = .ok (.iconst (-1), 1) := by decide +kernel
theorem dX8_crossings_24 : decode cX8_crossings 24 = .ok (.ireturn, 1) := by decide +kernel
theorem dX8_crossings_25 : decode cX8_crossings 25 = .ok (.iconst 0, 1) := by decide +kernel
theorem dX8_crossings_26 : decode cX8_crossings 26 = .ok (.istore_n 2, 1) := by decide +kernel
theorem dX8_crossings_27 : decode cX8_crossings 27 = .ok (.iconst 0, 1) := by decide +kernel
theorem dX8_crossings_28 : decode cX8_crossings 28 = .ok (.istore_n 3, 1) := by decide +kernel
theorem dX8_crossings_29 : decode cX8_crossings 29 = .ok (.iload_n 3, 1) := by decide +kernel
theorem dX8_crossings_30 : decode cX8_crossings 30 = .ok (.aload_n 0, 1) := by decide +kernel
theorem dX8_crossings_31 : decode cX8_crossings 31 = .ok (.getfield 106, 3) := by decide +kernel
theorem dX8_crossings_34 : decode cX8_crossings 34 = .ok (.if_icmp .ge 72, 3) := by decide +kernel
theorem dX8_crossings_37 : decode cX8_crossings 37 = .ok (.iconst 0, 1) := by decide +kernel
theorem dX8_crossings_38 : decode cX8_crossings 38 = .ok (.istore 4, 2) := by decide +kernel
theorem dX8_crossings_40 : decode cX8_crossings 40 = .ok (.iload 4, 2) := by decide +kernel
theorem dX8_crossings_42 : decode cX8_crossings 42 = .ok (.aload_n 0, 1) := by decide +kernel
theorem dX8_crossings_43 : decode cX8_crossings 43 = .ok (.getfield 106, 3) := by decide +kernel
theorem dX8_crossings_46 : decode cX8_crossings 46 = .ok (.if_icmp .ge 54, 3) := by decide +kernel
theorem dX8_crossings_49 : decode cX8_crossings 49 = .ok (.iload_n 2, 1) := by decide +kernel
theorem dX8_crossings_50 : decode cX8_crossings 50 = .ok (.aload_n 0, 1) := by decide +kernel
theorem dX8_crossings_51 : decode cX8_crossings 51 = .ok (.getfield 145, 3) := by decide +kernel
theorem dX8_crossings_54 : decode cX8_crossings 54 = .ok (.iload_n 3, 1) := by decide +kernel
theorem dX8_crossings_55 : decode cX8_crossings 55 = .ok (.ishr, 1) := by decide +kernel
theorem dX8_crossings_56 : decode cX8_crossings 56 = .ok (.iconst 1, 1) := by decide +kernel
theorem dX8_crossings_57 : decode cX8_crossings 57 = .ok (.iand, 1) := by decide +kernel
theorem dX8_crossings_58 : decode cX8_crossings 58 = .ok (.iconst 1, 1) := by decide +kernel
theorem dX8_crossings_59 : decode cX8_crossings 59 = .ok (.if_icmp .ne 32, 3) := by decide +kernel
theorem dX8_crossings_62 : decode cX8_crossings 62 = .ok (.aload_n 0, 1) := by decide +kernel
theorem dX8_crossings_63 : decode cX8_crossings 63 = .ok (.getfield 50, 3) := by decide +kernel
theorem dX8_crossings_66 : decode cX8_crossings 66 = .ok (.iload_n 1, 1) := by decide +kernel
theorem dX8_crossings_67 : decode cX8_crossings 67 = .ok (.iaload, 1) := by decide +kernel
theorem dX8_crossings_68 : decode cX8_crossings 68 = .ok (.iload 4, 2) := by decide +kernel
theorem dX8_crossings_70 : decode cX8_crossings 70 = .ok (.ishr, 1) := by decide +kernel
theorem dX8_crossings_71 : decode cX8_crossings 71 = .ok (.iconst 1, 1) := by decide +kernel
theorem dX8_crossings_72 : decode cX8_crossings 72 = .ok (.iand, 1) := by decide +kernel
theorem dX8_crossings_73 : decode cX8_crossings 73 = .ok (.iconst 1, 1) := by decide +kernel
theorem dX8_crossings_74 : decode cX8_crossings 74 = .ok (.if_icmp .ne 17, 3) := by decide +kernel
theorem dX8_crossings_77 : decode cX8_crossings 77 = .ok (.aload_n 0, 1) := by decide +kernel
theorem dX8_crossings_78 : decode cX8_crossings 78 = .ok (.getfield 41, 3) := by decide +kernel
theorem dX8_crossings_81 : decode cX8_crossings 81 = .ok (.iload_n 3, 1) := by decide +kernel
theorem dX8_crossings_82 : decode cX8_crossings 82 = .ok (.iaload, 1) := by decide +kernel
theorem dX8_crossings_83 : decode cX8_crossings 83 = .ok (.iload 4, 2) := by decide +kernel
theorem dX8_crossings_85 : decode cX8_crossings 85 = .ok (.ishr, 1) := by decide +kernel
theorem dX8_crossings_86 : decode cX8_crossings 86 = .ok (.iconst 1, 1) := by decide +kernel
theorem dX8_crossings_87 : decode cX8_crossings 87 = .ok (.iand, 1) := by decide +kernel
theorem dX8_crossings_88 : decode cX8_crossings 88 = .ok (.goto 4, 3) := by decide +kernel
theorem dX8_crossings_91 : decode cX8_crossings 91 = .ok (.iconst 0, 1) := by decide +kernel
theorem dX8_crossings_92 : decode cX8_crossings 92 = .ok (.iadd, 1) := by decide +kernel
theorem dX8_crossings_93 : decode cX8_crossings 93 = .ok (.istore_n 2, 1) := by decide +kernel
theorem dX8_crossings_94 : decode cX8_crossings 94 = .ok (.iinc 4 1, 3) := by decide +kernel
theorem dX8_crossings_97 : decode cX8_crossings 97 = .ok (.goto (-57), 3) := by decide +kernel
theorem dX8_crossings_100 : decode cX8_crossings 100 = .ok (.iinc 3 1, 3) := by decide +kernel
theorem dX8_crossings_103 : decode cX8_crossings 103 = .ok (.goto (-74), 3) := by decide +kernel
theorem dX8_crossings_106 : decode cX8_crossings 106 = .ok (.iload_n 2, 1) := by decide +kernel
theorem dX8_crossings_107 : decode cX8_crossings 107 = .ok (.ireturn, 1) := by decide +kernel
theorem dX8_bitsOf_0 : decode cX8_bitsOf 0 = .ok (.iconst 0, 1) := by decide +kernel
theorem dX8_bitsOf_1 : decode cX8_bitsOf 1 = .ok (.istore_n 1, 1) := by decide +kernel
theorem dX8_bitsOf_2 : decode cX8_bitsOf 2 = .ok (.iconst 0, 1) := by decide +kernel
theorem dX8_bitsOf_3 : decode cX8_bitsOf 3 = .ok (.istore_n 2, 1) := by decide +kernel
theorem dX8_bitsOf_4 : decode cX8_bitsOf 4 = .ok (.iload_n 2, 1) := by decide +kernel
theorem dX8_bitsOf_5 : decode cX8_bitsOf 5 = .ok (.bipush 28, 2) := by decide +kernel
theorem dX8_bitsOf_7 : decode cX8_bitsOf 7 = .ok (.if_icmp .ge 17, 3) := by decide +kernel
theorem dX8_bitsOf_10 : decode cX8_bitsOf 10 = .ok (.iload_n 1, 1) := by decide +kernel
theorem dX8_bitsOf_11 : decode cX8_bitsOf 11 = .ok (.iload_n 0, 1) := by decide +kernel
theorem dX8_bitsOf_12 : decode cX8_bitsOf 12 = .ok (.iload_n 2, 1) := by decide +kernel
theorem dX8_bitsOf_13 : decode cX8_bitsOf 13 = .ok (.ishr, 1) := by decide +kernel
theorem dX8_bitsOf_14 : decode cX8_bitsOf 14 = .ok (.iconst 1, 1) := by decide +kernel
theorem dX8_bitsOf_15 : decode cX8_bitsOf 15 = .ok (.iand, 1) := by decide +kernel
theorem dX8_bitsOf_16 : decode cX8_bitsOf 16 = .ok (.iadd, 1) := by decide +kernel
theorem dX8_bitsOf_17 : decode cX8_bitsOf 17 = .ok (.istore_n 1, 1) := by decide +kernel
theorem dX8_bitsOf_18 : decode cX8_bitsOf 18 = .ok (.iinc 2 1, 3) := by decide +kernel
theorem dX8_bitsOf_21 : decode cX8_bitsOf 21 = .ok (.goto (-17), 3) := by decide +kernel
theorem dX8_bitsOf_24 : decode cX8_bitsOf 24 = .ok (.iload_n 1, 1) := by decide +kernel
theorem dX8_bitsOf_25 : decode cX8_bitsOf 25 = .ok (.ireturn, 1) := by decide +kernel
set_option maxRecDepth 20000 in
theorem ggX8_total_X8_in : GoodIn wsX8_total wsX8_in := goodIn_r _ [15] (by decide +kernel) (by decide +kernel)
set_option maxRecDepth 20000 in
theorem gX8_total_X8_in : GoodIn wsX8_total (va_wsS RX8 83 yX8_in wsX8_in) := goodIn_app (goodIn_of _ (by decide +kernel)) ggX8_total_X8_in
set_option maxRecDepth 20000 in
theorem ggX8_total_X8_isHem : GoodIn wsX8_total wsX8_isHem := goodIn_r _ [19, 7, 20, 21, 22, 23, 24, 14, 25, 26, 27, 31, 32, 33, 34, 35, 36, 37, 38, 39, 40, 41, 42, 43, 44, 45, 46, 47, 48, 49, 50, 51, 52, 53, 54, 55, 56, 57, 58, 59, 60, 61, 62, 63, 64] (by decide +kernel) (by decide +kernel)
set_option maxRecDepth 20000 in
theorem gX8_total_X8_isHem : GoodIn wsX8_total (wsV RX8 171 RX8 yX8_isHem wsX8_isHem) := goodIn_app (goodIn_of _ (by decide +kernel)) ggX8_total_X8_isHem
set_option maxRecDepth 20000 in
theorem ggX8_total_X8_bitsOf : GoodIn wsX8_total wsX8_bitsOf := goodIn_r _ [30] (by decide +kernel) (by decide +kernel)
set_option maxRecDepth 20000 in
theorem gX8_total_X8_bitsOf : GoodIn wsX8_total (va_wsS RX8 221 yX8_bitsOf wsX8_bitsOf) := goodIn_app (goodIn_of _ (by decide +kernel)) ggX8_total_X8_bitsOf
theorem dX8_total_0 : decode cX8_total 0 = .ok (.aload_n 0, 1) := by decide +kernel
theorem dX8_total_1 : decode cX8_total 1 = .ok (.iconst 0, 1) := by decide +kernel
theorem dX8_total_2 : decode cX8_total 2 = .ok (.putfield 74, 3) := by decide +kernel
theorem dX8_total_5 : decode cX8_total 5 = .ok (.iload_n 1, 1) := by decide +kernel
theorem dX8_total_6 : decode cX8_total 6 = .ok (.i2l, 1) := by decide +kernel
theorem dX8_total_7 : decode cX8_total 7 = .ok (.lconst 0, 1) := by decide +kernel
theorem dX8_total_8 : decode cX8_total 8 = .ok (.ldc2_w 219, 3) := by decide +kernel
theorem dX8_total_11 : decode cX8_total 11 = .ok (.invokestatic 83, 3) := by decide +kernel
theorem dX8_total_14 : decode cX8_total 14 = .ok (.ifCond .ne 6, 3) := by decide +kernel
theorem dX8_total_17 : decode cX8_total 17 = .ok (.bipush (-2), 2) := by decide +kernel
theorem dX8_total_19 : decode cX8_total 19 = .ok (.ireturn, 1) := by decide +kernel
theorem dX8_total_20 : decode cX8_total 20 = .ok (.iload_n 1, 1) := by decide +kernel
theorem dX8_total_21 : decode cX8_total 21 = .ok (.ifCond .eq 9, 3) := by decide +kernel
theorem dX8_total_24 : decode cX8_total 24 = .ok (.iload_n 1, 1) := by decide +kernel
theorem dX8_total_25 : decode cX8_total 25 = .ok (.bipush 7, 2) := by decide +kernel
theorem dX8_total_27 : decode cX8_total 27 = .ok (.if_icmp .ne 19, 3) := by decide +kernel
theorem dX8_total_30 : decode cX8_total 30 = .ok (.iload_n 1, 1) := by decide +kernel
theorem dX8_total_31 : decode cX8_total 31 = .ok (.ifCond .ne 10, 3) := by decide +kernel
theorem dX8_total_34 : decode cX8_total 34 = .ok (.aload_n 0, 1) := by decide +kernel
theorem dX8_total_35 : decode cX8_total 35 = .ok (.getfield 95, 3) := by decide +kernel
theorem dX8_total_38 : decode cX8_total 38 = .ok (.goto 7, 3) := by decide +kernel
theorem dX8_total_41 : decode cX8_total 41 = .ok (.aload_n 0, 1) := by decide +kernel
theorem dX8_total_42 : decode cX8_total 42 = .ok (.getfield 78, 3) := by decide +kernel
theorem dX8_total_45 : decode cX8_total 45 = .ok (.ireturn, 1) := by decide +kernel
theorem dX8_total_46 : decode cX8_total 46 = .ok (.iconst 0, 1) := by decide +kernel
theorem dX8_total_47 : decode cX8_total 47 = .ok (.istore_n 2, 1) := by decide +kernel
theorem dX8_total_48 : decode cX8_total 48 = .ok (.iload_n 1, 1) := by decide +kernel
theorem dX8_total_49 : decode cX8_total 49 = .ok (.bipush 8, 2) := by decide +kernel
theorem dX8_total_51 : decode cX8_total 51 = .ok (.if_icmp .ne 35, 3) := by decide +kernel
theorem dX8_total_54 : decode cX8_total 54 = .ok (.iconst 0, 1) := by decide +kernel
theorem dX8_total_55 : decode cX8_total 55 = .ok (.istore_n 3, 1) := by decide +kernel
theorem dX8_total_56 : decode cX8_total 56 = .ok (.iload_n 3, 1) := by decide +kernel
theorem dX8_total_57 : decode cX8_total 57 = .ok (.iconst 4, 1) := by decide +kernel
theorem dX8_total_58 : decode cX8_total 58 = .ok (.if_icmp .ge 26, 3) := by decide +kernel
theorem dX8_total_61 : decode cX8_total 61 = .ok (.iload_n 2, 1) := by decide +kernel
theorem dX8_total_62 : decode cX8_total 62 = .ok (.aload_n 0, 1) := by decide +kernel
theorem dX8_total_63 : decode cX8_total 63 = .ok (.getfield 7, 3) := by decide +kernel
theorem dX8_total_66 : decode cX8_total 66 = .ok (.iload_n 3, 1) := by decide +kernel
theorem dX8_total_67 : decode cX8_total 67 = .ok (.iaload, 1) := by decide +kernel
theorem dX8_total_68 : decode cX8_total 68 = .ok (.ifCond .ge 7, 3) := by decide +kernel
theorem dX8_total_71 : decode cX8_total 71 = .ok (.iconst 0, 1) := by decide +kernel
theorem dX8_total_72 : decode cX8_total 72 = .ok (.goto 4, 3) := by decide +kernel
theorem dX8_total_75 : decode cX8_total 75 = .ok (.iconst 1, 1) := by decide +kernel
theorem dX8_total_76 : decode cX8_total 76 = .ok (.iadd, 1) := by decide +kernel
theorem dX8_total_77 : decode cX8_total 77 = .ok (.istore_n 2, 1) := by decide +kernel
theorem dX8_total_78 : decode cX8_total 78 = .ok (.iinc 3 1, 3) := by decide +kernel
theorem dX8_total_81 : decode cX8_total 81 = .ok (.goto (-25), 3) := by decide +kernel
theorem dX8_total_84 : decode cX8_total 84 = .ok (.iload_n 2, 1) := by decide +kernel
theorem dX8_total_85 : decode cX8_total 85 = .ok (.ireturn, 1) := by decide +kernel
theorem dX8_total_86 : decode cX8_total 86 = .ok (.aload_n 0, 1) := by decide +kernel
theorem dX8_total_87 : decode cX8_total 87 = .ok (.getfield 151, 3) := by decide +kernel
theorem dX8_total_90 : decode cX8_total 90 = .ok (.ifCond .ne 5, 3) := by decide +kernel
theorem dX8_total_93 : decode cX8_total 93 = .ok (.iconst 0, 1) := by decide +kernel
theorem dX8_total_94 : decode cX8_total 94 = .ok (.ireturn, 1) := by decide +kernel
theorem dX8_total_95 : decode cX8_total 95 = .ok (.iload_n 1, 1) := by decide +kernel
theorem dX8_total_96 : decode cX8_total 96 = .ok (.tableswitch 96 1 5 #[36, 41, 46, 80, 88], 36) := by decide +kernel
theorem dX8_total_132 : decode cX8_total 132 = .ok (.aload_n 0, 1) := by decide +kernel
theorem dX8_total_133 : decode cX8_total 133 = .ok (.getfield 109, 3) := by decide +kernel
theorem dX8_total_136 : decode cX8_total 136 = .ok (.ireturn, 1) := by decide +kernel
theorem dX8_total_137 : decode cX8_total 137 = .ok (.aload_n 0, 1) := by decide +kernel
theorem dX8_total_138 : decode cX8_total 138 = .ok (.getfield 106, 3) := by decide +kernel
theorem dX8_total_141 : decode cX8_total 141 = .ok (.ireturn, 1) := by decide +kernel
theorem dX8_total_142 : decode cX8_total 142 = .ok (.iconst 0, 1) := by decide +kernel
theorem dX8_total_143 : decode cX8_total 143 = .ok (.istore_n 3, 1) := by decide +kernel
theorem dX8_total_144 : decode cX8_total 144 = .ok (.iload_n 3, 1) := by decide +kernel
theorem dX8_total_145 : decode cX8_total 145 = .ok (.aload_n 0, 1) := by decide +kernel
theorem dX8_total_146 : decode cX8_total 146 = .ok (.getfield 106, 3) := by decide +kernel
theorem dX8_total_149 : decode cX8_total 149 = .ok (.if_icmp .ge 25, 3) := by decide +kernel
theorem dX8_total_152 : decode cX8_total 152 = .ok (.iload_n 2, 1) := by decide +kernel
theorem dX8_total_153 : decode cX8_total 153 = .ok (.aload_n 0, 1) := by decide +kernel
theorem dX8_total_154 : decode cX8_total 154 = .ok (.iload_n 3, 1) := by decide +kernel
theorem dX8_total_155 : decode cX8_total 155 = .ok (.invokevirtual 171, 3) := by decide +kernel
theorem dX8_total_158 : decode cX8_total 158 = .ok (.ifCond .eq 7, 3) := by decide +kernel
theorem dX8_total_161 : decode cX8_total 161 = .ok (.iconst 1, 1) := by decide +kernel
theorem dX8_total_162 : decode cX8_total 162 = .ok (.goto 4, 3) := by decide +kernel
theorem dX8_total_165 : decode cX8_total 165 = .ok (.iconst 0, 1) := by decide +kernel
theorem dX8_total_166 : decode cX8_total 166 = .ok (.iadd, 1) := by decide +kernel
theorem dX8_total_167 : decode cX8_total 167 = .ok (.istore_n 2, 1) := by decide +kernel
theorem dX8_total_168 : decode cX8_total 168 = .ok (.iinc 3 1, 3) := by decide +kernel
theorem dX8_total_171 : decode cX8_total 171 = .ok (.goto (-27), 3) := by decide +kernel
theorem dX8_total_174 : decode cX8_total 174 = .ok (.iload_n 2, 1) := by decide +kernel
theorem dX8_total_175 : decode cX8_total 175 = .ok (.ireturn, 1) := by decide +kernel
theorem dX8_total_176 : decode cX8_total 176 = .ok (.aload_n 0, 1) := by decide +kernel
theorem dX8_total_177 : decode cX8_total 177 = .ok (.getfield 130, 3) := by decide +kernel
theorem dX8_total_180 : decode cX8_total 180 = .ok (.invokestatic 221, 3) := by decide +kernel
theorem dX8_total_183 : decode cX8_total 183 = .ok (.ireturn, 1) := by decide +kernel
theorem dX8_total_184 : decode cX8_total 184 = .ok (.aload_n 0, 1) := by decide +kernel
theorem dX8_total_185 : decode cX8_total 185 = .ok (.getfield 133, 3) := by decide +kernel
theorem dX8_total_188 : decode cX8_total 188 = .ok (.invokestatic 221, 3) := by decide +kernel
theorem dX8_total_191 : decode cX8_total 191 = .ok (.ireturn, 1) := by decide +kernel
theorem dX8_total_192 : decode cX8_total 192 = .ok (.aload_n 0, 1) := by decide +kernel
theorem dX8_total_193 : decode cX8_total 193 = .ok (.getfield 148, 3) := by decide +kernel
theorem dX8_total_196 : decode cX8_total 196 = .ok (.ireturn, 1) := by decide +kernel
