theorem dX0_init_0 : decode cX0_init 0 = .ok (.aload_n 0, 1) := by decide +kernel
theorem dX0_init_1 : decode cX0_init 1 = .ok (.invokespecial 3, 3) := by decide +kernel
theorem dX0_init_4 : decode cX0_init 4 = .ok (.aload_n 0, 1) := by decide +kernel
theorem dX0_init_5 : decode cX0_init 5 = .ok (.sipush 2916, 3) := by decide +kernel
theorem dX0_init_8 : decode cX0_init 8 = .ok (.newarray .long, 2) := by decide +kernel
theorem dX0_init_10 : decode cX0_init 10 = .ok (.putfield 11, 3) := by decide +kernel
theorem dX0_init_13 : decode cX0_init 13 = .ok (.aload_n 0, 1) := by decide +kernel
theorem dX0_init_14 : decode cX0_init 14 = .ok (.bipush 64, 2) := by decide +kernel
theorem dX0_init_16 : decode cX0_init 16 = .ok (.newarray .int, 2) := by decide +kernel
theorem dX0_init_18 : decode cX0_init 18 = .ok (.putfield 15, 3) := by decide +kernel
theorem dX0_init_21 : decode cX0_init 21 = .ok (.return_, 1) := by decide +kernel
set_option maxRecDepth 20000 in
theorem ggX0_weigh_X10_setAt : GoodIn wsX0_weigh wsX10_setAt := goodIn_r _ [7, 8] (by decide +kernel) (by decide +kernel)
set_option maxRecDepth 20000 in
theorem gX0_weigh_X10_setAt_n24 : GoodIn wsX0_weigh (wsX10_setAt) := ggX0_weigh_X10_setAt
set_option maxRecDepth 20000 in
theorem ggX0_weigh_X2_weigh : GoodIn wsX0_weigh wsX2_weigh := goodIn_r _ [13, 14, 15, 16, 17, 18, 19, 20, 21, 22, 23, 24, 25, 26, 12, 27, 71, 72, 73, 74, 75, 76, 77, 78, 79, 80, 81, 82] (by decide +kernel) (by decide +kernel)
set_option maxRecDepth 20000 in
theorem gX0_weigh_X2_weigh : GoodIn wsX0_weigh (wsV RX0 28 RX2 yX2_weigh wsX2_weigh) := goodIn_app (goodIn_of _ (by decide +kernel)) ggX0_weigh_X2_weigh
set_option maxRecDepth 20000 in
theorem ggX0_weigh_X0_weighStepsTo : GoodIn wsX0_weigh wsX0_weighStepsTo := goodIn_r _ [32, 33, 34, 35, 1, 5, 6, 7, 8, 36, 37, 38, 12, 39, 15, 40, 41, 42, 43, 44, 45, 46, 47, 48, 49, 50, 51, 31, 52, 3, 53, 54, 55, 56, 57, 58, 59, 60, 61, 2, 62, 63, 64, 65, 66, 67, 83, 84, 85, 86, 68, 69, 70, 71, 72, 73, 74, 75, 76, 77, 78, 79, 80, 81, 82] (by decide +kernel) (by decide +kernel)
set_option maxRecDepth 20000 in
theorem gX0_weigh_X0_weighStepsTo : GoodIn wsX0_weigh (wsV RX0 37 RX0 yX0_weighStepsTo wsX0_weighStepsTo) := goodIn_app (goodIn_of _ (by decide +kernel)) ggX0_weigh_X0_weighStepsTo
theorem dX0_weigh_0 : decode cX0_weigh 0 = .ok (.getstatic 19, 3) := by decide +kernel
theorem dX0_weigh_3 : decode cX0_weigh 3 = .ok (.iload_n 3, 1) := by decide +kernel
theorem dX0_weigh_4 : decode cX0_weigh 4 = .ok (.iaload, 1) := by decide +kernel
theorem dX0_weigh_5 : decode cX0_weigh 5 = .ok (.istore 4, 2) := by decide +kernel
theorem dX0_weigh_7 : decode cX0_weigh 7 = .ok (.iconst 0, 1) := by decide +kernel
theorem dX0_weigh_8 : decode cX0_weigh 8 = .ok (.istore 5, 2) := by decide +kernel
theorem dX0_weigh_10 : decode cX0_weigh 10 = .ok (.iload 5, 2) := by decide +kernel
theorem dX0_weigh_12 : decode cX0_weigh 12 = .ok (.iconst 4, 1) := by decide +kernel
theorem dX0_weigh_13 : decode cX0_weigh 13 = .ok (.if_icmp .ge 19, 3) := by decide +kernel
theorem dX0_weigh_16 : decode cX0_weigh 16 = .ok (.aload_n 0, 1) := by decide +kernel
theorem dX0_weigh_17 : decode cX0_weigh 17 = .ok (.getfield 11, 3) := by decide +kernel
theorem dX0_weigh_20 : decode cX0_weigh 20 = .ok (.iload 5, 2) := by decide +kernel
theorem dX0_weigh_22 : decode cX0_weigh 22 = .ok (.ldc2_w 22, 3) := by decide +kernel
theorem dX0_weigh_25 : decode cX0_weigh 25 = .ok (.lastore, 1) := by decide +kernel
theorem dX0_weigh_26 : decode cX0_weigh 26 = .ok (.iinc 5 1, 3) := by decide +kernel
theorem dX0_weigh_29 : decode cX0_weigh 29 = .ok (.goto (-19), 3) := by decide +kernel
theorem dX0_weigh_32 : decode cX0_weigh 32 = .ok (.iconst 1, 1) := by decide +kernel
theorem dX0_weigh_33 : decode cX0_weigh 33 = .ok (.istore 5, 2) := by decide +kernel
theorem dX0_weigh_35 : decode cX0_weigh 35 = .ok (.iload 5, 2) := by decide +kernel
theorem dX0_weigh_37 : decode cX0_weigh 37 = .ok (.iload 4, 2) := by decide +kernel
theorem dX0_weigh_39 : decode cX0_weigh 39 = .ok (.if_icmp .ge 65, 3) := by decide +kernel
theorem dX0_weigh_42 : decode cX0_weigh 42 = .ok (.iconst 0, 1) := by decide +kernel
theorem dX0_weigh_43 : decode cX0_weigh 43 = .ok (.istore 6, 2) := by decide +kernel
theorem dX0_weigh_45 : decode cX0_weigh 45 = .ok (.iload 6, 2) := by decide +kernel
theorem dX0_weigh_47 : decode cX0_weigh 47 = .ok (.iconst 4, 1) := by decide +kernel
theorem dX0_weigh_48 : decode cX0_weigh 48 = .ok (.if_icmp .ge 22, 3) := by decide +kernel
theorem dX0_weigh_51 : decode cX0_weigh 51 = .ok (.aload_n 0, 1) := by decide +kernel
theorem dX0_weigh_52 : decode cX0_weigh 52 = .ok (.getfield 11, 3) := by decide +kernel
theorem dX0_weigh_55 : decode cX0_weigh 55 = .ok (.iconst 4, 1) := by decide +kernel
theorem dX0_weigh_56 : decode cX0_weigh 56 = .ok (.iload 5, 2) := by decide +kernel
theorem dX0_weigh_58 : decode cX0_weigh 58 = .ok (.imul, 1) := by decide +kernel
theorem dX0_weigh_59 : decode cX0_weigh 59 = .ok (.iload 6, 2) := by decide +kernel
theorem dX0_weigh_61 : decode cX0_weigh 61 = .ok (.iadd, 1) := by decide +kernel
theorem dX0_weigh_62 : decode cX0_weigh 62 = .ok (.lconst 0, 1) := by decide +kernel
theorem dX0_weigh_63 : decode cX0_weigh 63 = .ok (.lastore, 1) := by decide +kernel
theorem dX0_weigh_64 : decode cX0_weigh 64 = .ok (.iinc 6 1, 3) := by decide +kernel
theorem dX0_weigh_67 : decode cX0_weigh 67 = .ok (.goto (-22), 3) := by decide +kernel
theorem dX0_weigh_70 : decode cX0_weigh 70 = .ok (.aload_n 1, 1) := by decide +kernel
theorem dX0_weigh_71 : decode cX0_weigh 71 = .ok (.iload 5, 2) := by decide +kernel
theorem dX0_weigh_73 : decode cX0_weigh 73 = .ok (.invokestatic 24, 3) := by decide +kernel
theorem dX0_weigh_76 : decode cX0_weigh 76 = .ok (.invokevirtual 28, 3) := by decide +kernel
theorem dX0_weigh_79 : decode cX0_weigh 79 = .ok (.aload_n 1, 1) := by decide +kernel
theorem dX0_weigh_80 : decode cX0_weigh 80 = .ok (.getfield 34, 3) := by decide +kernel
theorem dX0_weigh_83 : decode cX0_weigh 83 = .ok (.sipush 256, 3) := by decide +kernel
theorem dX0_weigh_86 : decode cX0_weigh 86 = .ok (.iand, 1) := by decide +kernel
theorem dX0_weigh_87 : decode cX0_weigh 87 = .ok (.ifCond .ne 11, 3) := by decide +kernel
theorem dX0_weigh_90 : decode cX0_weigh 90 = .ok (.aload_n 0, 1) := by decide +kernel
theorem dX0_weigh_91 : decode cX0_weigh 91 = .ok (.iload 5, 2) := by decide +kernel
theorem dX0_weigh_93 : decode cX0_weigh 93 = .ok (.aload_n 1, 1) := by decide +kernel
theorem dX0_weigh_94 : decode cX0_weigh 94 = .ok (.aload_n 2, 1) := by decide +kernel
theorem dX0_weigh_95 : decode cX0_weigh 95 = .ok (.invokevirtual 37, 3) := by decide +kernel
theorem dX0_weigh_98 : decode cX0_weigh 98 = .ok (.iinc 5 1, 3) := by decide +kernel
theorem dX0_weigh_101 : decode cX0_weigh 101 = .ok (.goto (-66), 3) := by decide +kernel
theorem dX0_weigh_104 : decode cX0_weigh 104 = .ok (.aload_n 0, 1) := by decide +kernel
theorem dX0_weigh_105 : decode cX0_weigh 105 = .ok (.iconst 4, 1) := by decide +kernel
theorem dX0_weigh_106 : decode cX0_weigh 106 = .ok (.iload 4, 2) := by decide +kernel
theorem dX0_weigh_108 : decode cX0_weigh 108 = .ok (.iconst 1, 1) := by decide +kernel
theorem dX0_weigh_109 : decode cX0_weigh 109 = .ok (.isub, 1) := by decide +kernel
theorem dX0_weigh_110 : decode cX0_weigh 110 = .ok (.imul, 1) := by decide +kernel
theorem dX0_weigh_111 : decode cX0_weigh 111 = .ok (.putfield 41, 3) := by decide +kernel
theorem dX0_weigh_114 : decode cX0_weigh 114 = .ok (.return_, 1) := by decide +kernel
set_option maxRecDepth 20000 in
theorem ggX0_weighStepsTo_X10_setAt : GoodIn wsX0_weighStepsTo wsX10_setAt := goodIn_r _ [7, 8] (by decide +kernel) (by decide +kernel)
set_option maxRecDepth 20000 in
theorem gX0_weighStepsTo_X10_setAt_n24 : GoodIn wsX0_weighStepsTo (wsX10_setAt) := ggX0_weighStepsTo_X10_setAt
set_option maxRecDepth 20000 in
theorem ggX0_weighStepsTo_X2_looseIn : GoodIn wsX0_weighStepsTo wsX2_looseIn := goodIn_r _ [13, 14, 53, 54, 55, 56, 57, 58, 59, 60, 61, 62, 63, 64] (by decide +kernel) (by decide +kernel)
set_option maxRecDepth 20000 in
theorem gX0_weighStepsTo_X2_looseIn : GoodIn wsX0_weighStepsTo (wsV RX0 44 RX2 yX2_looseIn wsX2_looseIn) := goodIn_app (goodIn_of _ (by decide +kernel)) ggX0_weighStepsTo_X2_looseIn
set_option maxRecDepth 20000 in
theorem ggX0_weighStepsTo_X7_take : GoodIn wsX0_weighStepsTo wsX7_take := goodIn_r _ [19, 20, 21, 22, 23, 46, 47, 48, 49] (by decide +kernel) (by decide +kernel)
set_option maxRecDepth 20000 in
theorem gX0_weighStepsTo_X7_take : GoodIn wsX0_weighStepsTo (wsV RX0 48 RX7 yX7_take wsX7_take) := goodIn_app (goodIn_of _ (by decide +kernel)) ggX0_weighStepsTo_X7_take
set_option maxRecDepth 20000 in
theorem ggX0_weighStepsTo_X0_findBroken : GoodIn wsX0_weighStepsTo wsX0_findBroken := goodIn_r _ [28, 3, 29, 30, 31, 32, 50, 51, 52, 53, 54, 55, 56, 57, 58, 59, 60, 61, 62, 63, 64, 46, 47, 48, 49] (by decide +kernel) (by decide +kernel)
set_option maxRecDepth 20000 in
theorem gX0_weighStepsTo_X0_findBroken : GoodIn wsX0_weighStepsTo (wsV RX0 53 RX0 yX0_findBroken wsX0_findBroken) := goodIn_app (goodIn_of _ (by decide +kernel)) ggX0_weighStepsTo_X0_findBroken
set_option maxRecDepth 20000 in
theorem ggX0_weighStepsTo_X10_placeOf : GoodIn wsX0_weighStepsTo wsX10_placeOf := goodIn_r _ [34, 35] (by decide +kernel) (by decide +kernel)
set_option maxRecDepth 20000 in
theorem gX0_weighStepsTo_X10_placeOf_n63 : GoodIn wsX0_weighStepsTo (wsX10_placeOf) := ggX0_weighStepsTo_X10_placeOf
set_option maxRecDepth 20000 in
theorem ggX0_weighStepsTo_X0_without : GoodIn wsX0_weighStepsTo wsX0_without := goodIn_r _ [38, 39, 40, 41, 42, 43, 44, 45] (by decide +kernel) (by decide +kernel)
set_option maxRecDepth 20000 in
theorem gX0_weighStepsTo_X0_without : GoodIn wsX0_weighStepsTo (va_wsS RX0 66 yX0_without wsX0_without) := goodIn_app (goodIn_of _ (by decide +kernel)) ggX0_weighStepsTo_X0_without
theorem dX0_weighStepsTo_0 : decode cX0_weighStepsTo 0 = .ok (.iload_n 1, 1) := by decide +kernel
theorem dX0_weighStepsTo_1 : decode cX0_weighStepsTo 1 = .ok (.invokestatic 24, 3) := by decide +kernel
theorem dX0_weighStepsTo_4 : decode cX0_weighStepsTo 4 = .ok (.istore 4, 2) := by decide +kernel
theorem dX0_weighStepsTo_6 : decode cX0_weighStepsTo 6 = .ok (.aload_n 3, 1) := by decide +kernel
theorem dX0_weighStepsTo_7 : decode cX0_weighStepsTo 7 = .ok (.aload_n 2, 1) := by decide +kernel
theorem dX0_weighStepsTo_8 : decode cX0_weighStepsTo 8 = .ok (.iload 4, 2) := by decide +kernel
theorem dX0_weighStepsTo_10 : decode cX0_weighStepsTo 10 = .ok (.sipush 256, 3) := by decide +kernel
theorem dX0_weighStepsTo_13 : decode cX0_weighStepsTo 13 = .ok (.invokevirtual 44, 3) := by decide +kernel
theorem dX0_weighStepsTo_16 : decode cX0_weighStepsTo 16 = .ok (.invokevirtual 48, 3) := by decide +kernel
theorem dX0_weighStepsTo_19 : decode cX0_weighStepsTo 19 = .ok (.aload_n 0, 1) := by decide +kernel
theorem dX0_weighStepsTo_20 : decode cX0_weighStepsTo 20 = .ok (.aload_n 2, 1) := by decide +kernel
theorem dX0_weighStepsTo_21 : decode cX0_weighStepsTo 21 = .ok (.aload_n 3, 1) := by decide +kernel
theorem dX0_weighStepsTo_22 : decode cX0_weighStepsTo 22 = .ok (.invokevirtual 53, 3) := by decide +kernel
theorem dX0_weighStepsTo_25 : decode cX0_weighStepsTo 25 = .ok (.iconst 1, 1) := by decide +kernel
theorem dX0_weighStepsTo_26 : decode cX0_weighStepsTo 26 = .ok (.istore 5, 2) := by decide +kernel
theorem dX0_weighStepsTo_28 : decode cX0_weighStepsTo 28 = .ok (.iload 5, 2) := by decide +kernel
theorem dX0_weighStepsTo_30 : decode cX0_weighStepsTo 30 = .ok (.aload_n 3, 1) := by decide +kernel
theorem dX0_weighStepsTo_31 : decode cX0_weighStepsTo 31 = .ok (.getfield 57, 3) := by decide +kernel
theorem dX0_weighStepsTo_34 : decode cX0_weighStepsTo 34 = .ok (.if_icmp .ge 100, 3) := by decide +kernel
theorem dX0_weighStepsTo_37 : decode cX0_weighStepsTo 37 = .ok (.iconst 4, 1) := by decide +kernel
theorem dX0_weighStepsTo_38 : decode cX0_weighStepsTo 38 = .ok (.iload 4, 2) := by decide +kernel
theorem dX0_weighStepsTo_40 : decode cX0_weighStepsTo 40 = .ok (.aload_n 3, 1) := by decide +kernel
theorem dX0_weighStepsTo_41 : decode cX0_weighStepsTo 41 = .ok (.getfield 60, 3) := by decide +kernel
theorem dX0_weighStepsTo_44 : decode cX0_weighStepsTo 44 = .ok (.iload 5, 2) := by decide +kernel
theorem dX0_weighStepsTo_46 : decode cX0_weighStepsTo 46 = .ok (.iaload, 1) := by decide +kernel
theorem dX0_weighStepsTo_47 : decode cX0_weighStepsTo 47 = .ok (.ixor, 1) := by decide +kernel
theorem dX0_weighStepsTo_48 : decode cX0_weighStepsTo 48 = .ok (.invokestatic 63, 3) := by decide +kernel
theorem dX0_weighStepsTo_51 : decode cX0_weighStepsTo 51 = .ok (.imul, 1) := by decide +kernel
theorem dX0_weighStepsTo_52 : decode cX0_weighStepsTo 52 = .ok (.istore 6, 2) := by decide +kernel
theorem dX0_weighStepsTo_54 : decode cX0_weighStepsTo 54 = .ok (.aload_n 0, 1) := by decide +kernel
theorem dX0_weighStepsTo_55 : decode cX0_weighStepsTo 55 = .ok (.getfield 15, 3) := by decide +kernel
theorem dX0_weighStepsTo_58 : decode cX0_weighStepsTo 58 = .ok (.iload 5, 2) := by decide +kernel
theorem dX0_weighStepsTo_60 : decode cX0_weighStepsTo 60 = .ok (.iaload, 1) := by decide +kernel
theorem dX0_weighStepsTo_61 : decode cX0_weighStepsTo 61 = .ok (.invokestatic 66, 3) := by decide +kernel
theorem dX0_weighStepsTo_64 : decode cX0_weighStepsTo 64 = .ok (.lstore 7, 2) := by decide +kernel
theorem dX0_weighStepsTo_66 : decode cX0_weighStepsTo 66 = .ok (.aload_n 0, 1) := by decide +kernel
theorem dX0_weighStepsTo_67 : decode cX0_weighStepsTo 67 = .ok (.getfield 15, 3) := by decide +kernel
theorem dX0_weighStepsTo_70 : decode cX0_weighStepsTo 70 = .ok (.iload 5, 2) := by decide +kernel
theorem dX0_weighStepsTo_72 : decode cX0_weighStepsTo 72 = .ok (.iaload, 1) := by decide +kernel
theorem dX0_weighStepsTo_73 : decode cX0_weighStepsTo 73 = .ok (.bipush 6, 2) := by decide +kernel
theorem dX0_weighStepsTo_75 : decode cX0_weighStepsTo 75 = .ok (.ishr, 1) := by decide +kernel
theorem dX0_weighStepsTo_76 : decode cX0_weighStepsTo 76 = .ok (.istore 9, 2) := by decide +kernel
theorem dX0_weighStepsTo_78 : decode cX0_weighStepsTo 78 = .ok (.iconst 0, 1) := by decide +kernel
theorem dX0_weighStepsTo_79 : decode cX0_weighStepsTo 79 = .ok (.istore 10, 2) := by decide +kernel
theorem dX0_weighStepsTo_81 : decode cX0_weighStepsTo 81 = .ok (.iload 10, 2) := by decide +kernel
theorem dX0_weighStepsTo_83 : decode cX0_weighStepsTo 83 = .ok (.iconst 4, 1) := by decide +kernel
theorem dX0_weighStepsTo_84 : decode cX0_weighStepsTo 84 = .ok (.if_icmp .ge 44, 3) := by decide +kernel
theorem dX0_weighStepsTo_87 : decode cX0_weighStepsTo 87 = .ok (.iload 9, 2) := by decide +kernel
theorem dX0_weighStepsTo_89 : decode cX0_weighStepsTo 89 = .ok (.iload 10, 2) := by decide +kernel
theorem dX0_weighStepsTo_91 : decode cX0_weighStepsTo 91 = .ok (.iand, 1) := by decide +kernel
theorem dX0_weighStepsTo_92 : decode cX0_weighStepsTo 92 = .ok (.ifCond .ne 30, 3) := by decide +kernel
theorem dX0_weighStepsTo_95 : decode cX0_weighStepsTo 95 = .ok (.aload_n 0, 1) := by decide +kernel
theorem dX0_weighStepsTo_96 : decode cX0_weighStepsTo 96 = .ok (.getfield 11, 3) := by decide +kernel
theorem dX0_weighStepsTo_99 : decode cX0_weighStepsTo 99 = .ok (.iconst 4, 1) := by decide +kernel
theorem dX0_weighStepsTo_100 : decode cX0_weighStepsTo 100 = .ok (.iload_n 1, 1) := by decide +kernel
theorem dX0_weighStepsTo_101 : decode cX0_weighStepsTo 101 = .ok (.imul, 1) := by decide +kernel
theorem dX0_weighStepsTo_102 : decode cX0_weighStepsTo 102 = .ok (.iload 10, 2) := by decide +kernel
theorem dX0_weighStepsTo_104 : decode cX0_weighStepsTo 104 = .ok (.iadd, 1) := by decide +kernel
theorem dX0_weighStepsTo_105 : decode cX0_weighStepsTo 105 = .ok (.dup2, 1) := by decide +kernel
theorem dX0_weighStepsTo_106 : decode cX0_weighStepsTo 106 = .ok (.laload, 1) := by decide +kernel
theorem dX0_weighStepsTo_107 : decode cX0_weighStepsTo 107 = .ok (.aload_n 0, 1) := by decide +kernel
theorem dX0_weighStepsTo_108 : decode cX0_weighStepsTo 108 = .ok (.getfield 11, 3) := by decide +kernel
theorem dX0_weighStepsTo_111 : decode cX0_weighStepsTo 111 = .ok (.iload 6, 2) := by decide +kernel
theorem dX0_weighStepsTo_113 : decode cX0_weighStepsTo 113 = .ok (.iload 10, 2) := by decide +kernel
theorem dX0_weighStepsTo_115 : decode cX0_weighStepsTo 115 = .ok (.iadd, 1) := by decide +kernel
theorem dX0_weighStepsTo_116 : decode cX0_weighStepsTo 116 = .ok (.laload, 1) := by decide +kernel
theorem dX0_weighStepsTo_117 : decode cX0_weighStepsTo 117 = .ok (.lload 7, 2) := by decide +kernel
theorem dX0_weighStepsTo_119 : decode cX0_weighStepsTo 119 = .ok (.land, 1) := by decide +kernel
theorem dX0_weighStepsTo_120 : decode cX0_weighStepsTo 120 = .ok (.lor, 1) := by decide +kernel
theorem dX0_weighStepsTo_121 : decode cX0_weighStepsTo 121 = .ok (.lastore, 1) := by decide +kernel
theorem dX0_weighStepsTo_122 : decode cX0_weighStepsTo 122 = .ok (.iinc 10 1, 3) := by decide +kernel
theorem dX0_weighStepsTo_125 : decode cX0_weighStepsTo 125 = .ok (.goto (-44), 3) := by decide +kernel
theorem dX0_weighStepsTo_128 : decode cX0_weighStepsTo 128 = .ok (.iinc 5 1, 3) := by decide +kernel
theorem dX0_weighStepsTo_131 : decode cX0_weighStepsTo 131 = .ok (.goto (-103), 3) := by decide +kernel
theorem dX0_weighStepsTo_134 : decode cX0_weighStepsTo 134 = .ok (.return_, 1) := by decide +kernel
theorem dX0_findBroken_0 : decode cX0_findBroken 0 = .ok (.aload_n 0, 1) := by decide +kernel
theorem dX0_findBroken_1 : decode cX0_findBroken 1 = .ok (.getfield 15, 3) := by decide +kernel
theorem dX0_findBroken_4 : decode cX0_findBroken 4 = .ok (.iconst 0, 1) := by decide +kernel
theorem dX0_findBroken_5 : decode cX0_findBroken 5 = .ok (.aload_n 1, 1) := by decide +kernel
theorem dX0_findBroken_6 : decode cX0_findBroken 6 = .ok (.getfield 34, 3) := by decide +kernel
theorem dX0_findBroken_9 : decode cX0_findBroken 9 = .ok (.iastore, 1) := by decide +kernel
theorem dX0_findBroken_10 : decode cX0_findBroken 10 = .ok (.iconst 0, 1) := by decide +kernel
theorem dX0_findBroken_11 : decode cX0_findBroken 11 = .ok (.istore_n 3, 1) := by decide +kernel
theorem dX0_findBroken_12 : decode cX0_findBroken 12 = .ok (.iload_n 3, 1) := by decide +kernel
theorem dX0_findBroken_13 : decode cX0_findBroken 13 = .ok (.aload_n 2, 1) := by decide +kernel
theorem dX0_findBroken_14 : decode cX0_findBroken 14 = .ok (.getfield 70, 3) := by decide +kernel
theorem dX0_findBroken_17 : decode cX0_findBroken 17 = .ok (.if_icmp .ge 56, 3) := by decide +kernel
theorem dX0_findBroken_20 : decode cX0_findBroken 20 = .ok (.iconst 0, 1) := by decide +kernel
theorem dX0_findBroken_21 : decode cX0_findBroken 21 = .ok (.istore 4, 2) := by decide +kernel
theorem dX0_findBroken_23 : decode cX0_findBroken 23 = .ok (.iload 4, 2) := by decide +kernel
theorem dX0_findBroken_25 : decode cX0_findBroken 25 = .ok (.iconst 1, 1) := by decide +kernel
theorem dX0_findBroken_26 : decode cX0_findBroken 26 = .ok (.iload_n 3, 1) := by decide +kernel
theorem dX0_findBroken_27 : decode cX0_findBroken 27 = .ok (.ishl, 1) := by decide +kernel
theorem dX0_findBroken_28 : decode cX0_findBroken 28 = .ok (.if_icmp .ge 39, 3) := by decide +kernel
theorem dX0_findBroken_31 : decode cX0_findBroken 31 = .ok (.aload_n 0, 1) := by decide +kernel
theorem dX0_findBroken_32 : decode cX0_findBroken 32 = .ok (.getfield 15, 3) := by decide +kernel
theorem dX0_findBroken_35 : decode cX0_findBroken 35 = .ok (.iload 4, 2) := by decide +kernel
theorem dX0_findBroken_37 : decode cX0_findBroken 37 = .ok (.iconst 1, 1) := by decide +kernel
theorem dX0_findBroken_38 : decode cX0_findBroken 38 = .ok (.iload_n 3, 1) := by decide +kernel
theorem dX0_findBroken_39 : decode cX0_findBroken 39 = .ok (.ishl, 1) := by decide +kernel
theorem dX0_findBroken_40 : decode cX0_findBroken 40 = .ok (.ior, 1) := by decide +kernel
theorem dX0_findBroken_41 : decode cX0_findBroken 41 = .ok (.aload_n 0, 1) := by decide +kernel
theorem dX0_findBroken_42 : decode cX0_findBroken 42 = .ok (.getfield 15, 3) := by decide +kernel
theorem dX0_findBroken_45 : decode cX0_findBroken 45 = .ok (.iload 4, 2) := by decide +kernel
theorem dX0_findBroken_47 : decode cX0_findBroken 47 = .ok (.iaload, 1) := by decide +kernel
theorem dX0_findBroken_48 : decode cX0_findBroken 48 = .ok (.aload_n 1, 1) := by decide +kernel
theorem dX0_findBroken_49 : decode cX0_findBroken 49 = .ok (.getfield 73, 3) := by decide +kernel
theorem dX0_findBroken_52 : decode cX0_findBroken 52 = .ok (.aload_n 2, 1) := by decide +kernel
theorem dX0_findBroken_53 : decode cX0_findBroken 53 = .ok (.getfield 76, 3) := by decide +kernel
theorem dX0_findBroken_56 : decode cX0_findBroken 56 = .ok (.iload_n 3, 1) := by decide +kernel
theorem dX0_findBroken_57 : decode cX0_findBroken 57 = .ok (.iaload, 1) := by decide +kernel
theorem dX0_findBroken_58 : decode cX0_findBroken 58 = .ok (.iaload, 1) := by decide +kernel
theorem dX0_findBroken_59 : decode cX0_findBroken 59 = .ok (.ior, 1) := by decide +kernel
theorem dX0_findBroken_60 : decode cX0_findBroken 60 = .ok (.iastore, 1) := by decide +kernel
theorem dX0_findBroken_61 : decode cX0_findBroken 61 = .ok (.iinc 4 1, 3) := by decide +kernel
theorem dX0_findBroken_64 : decode cX0_findBroken 64 = .ok (.goto (-41), 3) := by decide +kernel
theorem dX0_findBroken_67 : decode cX0_findBroken 67 = .ok (.iinc 3 1, 3) := by decide +kernel
theorem dX0_findBroken_70 : decode cX0_findBroken 70 = .ok (.goto (-58), 3) := by decide +kernel
theorem dX0_findBroken_73 : decode cX0_findBroken 73 = .ok (.return_, 1) := by decide +kernel
theorem dX0_without_0 : decode cX0_without 0 = .ok (.ldc2_w 22, 3) := by decide +kernel
theorem dX0_without_3 : decode cX0_without 3 = .ok (.lstore_n 1, 1) := by decide +kernel
theorem dX0_without_4 : decode cX0_without 4 = .ok (.lload_n 1, 1) := by decide +kernel
theorem dX0_without_5 : decode cX0_without 5 = .ok (.iload_n 0, 1) := by decide +kernel
theorem dX0_without_6 : decode cX0_without 6 = .ok (.iconst 1, 1) := by decide +kernel
theorem dX0_without_7 : decode cX0_without 7 = .ok (.iand, 1) := by decide +kernel
theorem dX0_without_8 : decode cX0_without 8 = .ok (.ifCond .eq 9, 3) := by decide +kernel
theorem dX0_without_11 : decode cX0_without 11 = .ok (.ldc2_w 79, 3) := by decide +kernel
theorem dX0_without_14 : decode cX0_without 14 = .ok (.goto 6, 3) := by decide +kernel
theorem dX0_without_17 : decode cX0_without 17 = .ok (.ldc2_w 22, 3) := by decide +kernel
theorem dX0_without_20 : decode cX0_without 20 = .ok (.land, 1) := by decide +kernel
theorem dX0_without_21 : decode cX0_without 21 = .ok (.lstore_n 1, 1) := by decide +kernel
theorem dX0_without_22 : decode cX0_without 22 = .ok (.lload_n 1, 1) := by decide +kernel
theorem dX0_without_23 : decode cX0_without 23 = .ok (.iload_n 0, 1) := by decide +kernel
theorem dX0_without_24 : decode cX0_without 24 = .ok (.iconst 2, 1) := by decide +kernel
theorem dX0_without_25 : decode cX0_without 25 = .ok (.iand, 1) := by decide +kernel
theorem dX0_without_26 : decode cX0_without 26 = .ok (.ifCond .eq 9, 3) := by decide +kernel
theorem dX0_without_29 : decode cX0_without 29 = .ok (.ldc2_w 81, 3) := by decide +kernel
theorem dX0_without_32 : decode cX0_without 32 = .ok (.goto 6, 3) := by decide +kernel
theorem dX0_without_35 : decode cX0_without 35 = .ok (.ldc2_w 22, 3) := by decide +kernel
theorem dX0_without_38 : decode cX0_without 38 = .ok (.land, 1) := by decide +kernel
theorem dX0_without_39 : decode cX0_without 39 = .ok (.lstore_n 1, 1) := by decide +kernel
theorem dX0_without_40 : decode cX0_without 40 = .ok (.lload_n 1, 1) := by decide +kernel
theorem dX0_without_41 : decode cX0_without 41 = .ok (.iload_n 0, 1) := by decide +kernel
theorem dX0_without_42 : decode cX0_without 42 = .ok (.iconst 4, 1) := by decide +kernel
theorem dX0_without_43 : decode cX0_without 43 = .ok (.iand, 1) := by decide +kernel
theorem dX0_without_44 : decode cX0_without 44 = .ok (.ifCond .eq 9, 3) := by decide +kernel
theorem dX0_without_47 : decode cX0_without 47 = .ok (.ldc2_w 83, 3) := by decide +kernel
theorem dX0_without_50 : decode cX0_without 50 = .ok (.goto 6, 3) := by decide +kernel
theorem dX0_without_53 : decode cX0_without 53 = .ok (.ldc2_w 22, 3) := by decide +kernel
theorem dX0_without_56 : decode cX0_without 56 = .ok (.land, 1) := by decide +kernel
theorem dX0_without_57 : decode cX0_without 57 = .ok (.lstore_n 1, 1) := by decide +kernel
theorem dX0_without_58 : decode cX0_without 58 = .ok (.lload_n 1, 1) := by decide +kernel
theorem dX0_without_59 : decode cX0_without 59 = .ok (.iload_n 0, 1) := by decide +kernel
theorem dX0_without_60 : decode cX0_without 60 = .ok (.bipush 8, 2) := by decide +kernel
theorem dX0_without_62 : decode cX0_without 62 = .ok (.iand, 1) := by decide +kernel
theorem dX0_without_63 : decode cX0_without 63 = .ok (.ifCond .eq 9, 3) := by decide +kernel
theorem dX0_without_66 : decode cX0_without 66 = .ok (.ldc2_w 85, 3) := by decide +kernel
theorem dX0_without_69 : decode cX0_without 69 = .ok (.goto 6, 3) := by decide +kernel
theorem dX0_without_72 : decode cX0_without 72 = .ok (.ldc2_w 22, 3) := by decide +kernel
theorem dX0_without_75 : decode cX0_without 75 = .ok (.land, 1) := by decide +kernel
theorem dX0_without_76 : decode cX0_without 76 = .ok (.lstore_n 1, 1) := by decide +kernel
theorem dX0_without_77 : decode cX0_without 77 = .ok (.lload_n 1, 1) := by decide +kernel
theorem dX0_without_78 : decode cX0_without 78 = .ok (.iload_n 0, 1) := by decide +kernel
theorem dX0_without_79 : decode cX0_without 79 = .ok (.bipush 16, 2) := by decide +kernel
theorem dX0_without_81 : decode cX0_without 81 = .ok (.iand, 1) := by decide +kernel
theorem dX0_without_82 : decode cX0_without 82 = .ok (.ifCond .eq 9, 3) := by decide +kernel
theorem dX0_without_85 : decode cX0_without 85 = .ok (.ldc2_w 87, 3) := by decide +kernel
theorem dX0_without_88 : decode cX0_without 88 = .ok (.goto 6, 3) := by decide +kernel
theorem dX0_without_91 : decode cX0_without 91 = .ok (.ldc2_w 22, 3) := by decide +kernel
theorem dX0_without_94 : decode cX0_without 94 = .ok (.land, 1) := by decide +kernel
theorem dX0_without_95 : decode cX0_without 95 = .ok (.lstore_n 1, 1) := by decide +kernel
theorem dX0_without_96 : decode cX0_without 96 = .ok (.lload_n 1, 1) := by decide +kernel
theorem dX0_without_97 : decode cX0_without 97 = .ok (.iload_n 0, 1) := by decide +kernel
theorem dX0_without_98 : decode cX0_without 98 = .ok (.bipush 32, 2) := by decide +kernel
theorem dX0_without_100 : decode cX0_without 100 = .ok (.iand, 1) := by decide +kernel
theorem dX0_without_101 : decode cX0_without 101 = .ok (.ifCond .eq 9, 3) := by decide +kernel
theorem dX0_without_104 : decode cX0_without 104 = .ok (.ldc2_w 89, 3) := by decide +kernel
theorem dX0_without_107 : decode cX0_without 107 = .ok (.goto 6, 3) := by decide +kernel
theorem dX0_without_110 : decode cX0_without 110 = .ok (.ldc2_w 22, 3) := by decide +kernel
theorem dX0_without_113 : decode cX0_without 113 = .ok (.land, 1) := by decide +kernel
theorem dX0_without_114 : decode cX0_without 114 = .ok (.lstore_n 1, 1) := by decide +kernel
theorem dX0_without_115 : decode cX0_without 115 = .ok (.lload_n 1, 1) := by decide +kernel
theorem dX0_without_116 : decode cX0_without 116 = .ok (.lreturn, 1) := by decide +kernel
theorem dX0_can_0 : decode cX0_can 0 = .ok (.aload_n 0, 1) := by decide +kernel
theorem dX0_can_1 : decode cX0_can 1 = .ok (.getfield 11, 3) := by decide +kernel
theorem dX0_can_4 : decode cX0_can 4 = .ok (.aload_n 0, 1) := by decide +kernel
theorem dX0_can_5 : decode cX0_can 5 = .ok (.getfield 41, 3) := by decide +kernel
theorem dX0_can_8 : decode cX0_can 8 = .ok (.iload_n 1, 1) := by decide +kernel
theorem dX0_can_9 : decode cX0_can 9 = .ok (.bipush 6, 2) := by decide +kernel
theorem dX0_can_11 : decode cX0_can 11 = .ok (.ishr, 1) := by decide +kernel
theorem dX0_can_12 : decode cX0_can 12 = .ok (.iadd, 1) := by decide +kernel
theorem dX0_can_13 : decode cX0_can 13 = .ok (.laload, 1) := by decide +kernel
theorem dX0_can_14 : decode cX0_can 14 = .ok (.iload_n 1, 1) := by decide +kernel
theorem dX0_can_15 : decode cX0_can 15 = .ok (.bipush 63, 2) := by decide +kernel
theorem dX0_can_17 : decode cX0_can 17 = .ok (.iand, 1) := by decide +kernel
theorem dX0_can_18 : decode cX0_can 18 = .ok (.lshr, 1) := by decide +kernel
theorem dX0_can_19 : decode cX0_can 19 = .ok (.lconst 1, 1) := by decide +kernel
theorem dX0_can_20 : decode cX0_can 20 = .ok (.land, 1) := by decide +kernel
theorem dX0_can_21 : decode cX0_can 21 = .ok (.lconst 1, 1) := by decide +kernel
theorem dX0_can_22 : decode cX0_can 22 = .ok (.lcmp, 1) := by decide +kernel
theorem dX0_can_23 : decode cX0_can 23 = .ok (.ifCond .ne 7, 3) := by decide +kernel
theorem dX0_can_26 : decode cX0_can 26 = .ok (.iconst 1, 1) := by decide +kernel
theorem dX0_can_27 : decode cX0_can 27 = .ok (.goto 4, 3) := by decide +kernel
theorem dX0_can_30 : decode cX0_can 30 = .ok (.iconst 0, 1) := by decide +kernel
theorem dX0_can_31 : decode cX0_can 31 = .ok (.ireturn, 1) := by decide +kernel
set_option maxRecDepth 20000 in
theorem ggX0_fewestThatCanNot_X0_can : GoodIn wsX0_fewestThatCanNot wsX0_can := goodIn_r _ [5, 6, 7, 15, 16, 17] (by decide +kernel) (by decide +kernel)
set_option maxRecDepth 20000 in
theorem gX0_fewestThatCanNot_X0_can : GoodIn wsX0_fewestThatCanNot (wsV RX0 91 RX0 yX0_can wsX0_can) := goodIn_app (goodIn_of _ (by decide +kernel)) ggX0_fewestThatCanNot_X0_can
set_option maxRecDepth 20000 in
theorem ggX0_fewestThatCanNot_J6_bitCount_0f7a4 : GoodIn wsX0_fewestThatCanNot wsJ6_bitCount_0f7a4 := goodIn_r _ [11, 12, 13, 14] (by decide +kernel) (by decide +kernel)
set_option maxRecDepth 20000 in
theorem gX0_fewestThatCanNot_J6_bitCount_0f7a4 : GoodIn wsX0_fewestThatCanNot (va_wsS RX0 95 yJ6_bitCount_0f7a4 wsJ6_bitCount_0f7a4) := goodIn_app (goodIn_of _ (by decide +kernel)) ggX0_fewestThatCanNot_J6_bitCount_0f7a4
theorem dX0_fewestThatCanNot_0 : decode cX0_fewestThatCanNot 0 = .ok (.iconst (-1), 1) := by decide +kernel
theorem dX0_fewestThatCanNot_1 : decode cX0_fewestThatCanNot 1 = .ok (.istore_n 2, 1) := by decide +kernel
theorem dX0_fewestThatCanNot_2 : decode cX0_fewestThatCanNot 2 = .ok (.iconst 0, 1) := by decide +kernel
theorem dX0_fewestThatCanNot_3 : decode cX0_fewestThatCanNot 3 = .ok (.istore_n 3, 1) := by decide +kernel
theorem dX0_fewestThatCanNot_4 : decode cX0_fewestThatCanNot 4 = .ok (.iload_n 3, 1) := by decide +kernel
theorem dX0_fewestThatCanNot_5 : decode cX0_fewestThatCanNot 5 = .ok (.iconst 1, 1) := by decide +kernel
theorem dX0_fewestThatCanNot_6 : decode cX0_fewestThatCanNot 6 = .ok (.iload_n 1, 1) := by decide +kernel
theorem dX0_fewestThatCanNot_7 : decode cX0_fewestThatCanNot 7 = .ok (.ishl, 1) := by decide +kernel
theorem dX0_fewestThatCanNot_8 : decode cX0_fewestThatCanNot 8 = .ok (.if_icmp .ge 35, 3) := by decide +kernel
theorem dX0_fewestThatCanNot_11 : decode cX0_fewestThatCanNot 11 = .ok (.aload_n 0, 1) := by decide +kernel
theorem dX0_fewestThatCanNot_12 : decode cX0_fewestThatCanNot 12 = .ok (.iload_n 3, 1) := by decide +kernel
theorem dX0_fewestThatCanNot_13 : decode cX0_fewestThatCanNot 13 = .ok (.invokevirtual 91, 3) := by decide +kernel
theorem dX0_fewestThatCanNot_16 : decode cX0_fewestThatCanNot 16 = .ok (.ifCond .ne 21, 3) := by decide +kernel
theorem dX0_fewestThatCanNot_19 : decode cX0_fewestThatCanNot 19 = .ok (.iload_n 2, 1) := by decide +kernel
theorem dX0_fewestThatCanNot_20 : decode cX0_fewestThatCanNot 20 = .ok (.iconst (-1), 1) := by decide +kernel
theorem dX0_fewestThatCanNot_21 : decode cX0_fewestThatCanNot 21 = .ok (.if_icmp .eq 14, 3) := by decide +kernel
theorem dX0_fewestThatCanNot_24 : decode cX0_fewestThatCanNot 24 = .ok (.iload_n 3, 1) := by decide +kernel
theorem dX0_fewestThatCanNot_25 : decode cX0_fewestThatCanNot 25 = .ok (.invokestatic 95, 3) := by decide +kernel
theorem dX0_fewestThatCanNot_28 : decode cX0_fewestThatCanNot 28 = .ok (.iload_n 2, 1) := by decide +kernel
theorem dX0_fewestThatCanNot_29 : decode cX0_fewestThatCanNot 29 = .ok (.invokestatic 95, 3) := by decide +kernel
theorem dX0_fewestThatCanNot_32 : decode cX0_fewestThatCanNot 32 = .ok (.if_icmp .ge 5, 3) := by decide +kernel
theorem dX0_fewestThatCanNot_35 : decode cX0_fewestThatCanNot 35 = .ok (.iload_n 3, 1) := by decide +kernel
theorem dX0_fewestThatCanNot_36 : decode cX0_fewestThatCanNot 36 = .ok (.istore_n 2, 1) := by decide +kernel
theorem dX0_fewestThatCanNot_37 : decode cX0_fewestThatCanNot 37 = .ok (.iinc 3 1, 3) := by decide +kernel
theorem dX0_fewestThatCanNot_40 : decode cX0_fewestThatCanNot 40 = .ok (.goto (-36), 3) := by decide +kernel
theorem dX0_fewestThatCanNot_43 : decode cX0_fewestThatCanNot 43 = .ok (.iload_n 2, 1) := by decide +kernel
theorem dX0_fewestThatCanNot_44 : decode cX0_fewestThatCanNot 44 = .ok (.ireturn, 1) := by decide +kernel
set_option maxRecDepth 20000 in
theorem ggX0_fewestToDrop_X0_can : GoodIn wsX0_fewestToDrop wsX0_can := goodIn_r _ [5, 6, 7, 15, 16, 17] (by decide +kernel) (by decide +kernel)
set_option maxRecDepth 20000 in
theorem gX0_fewestToDrop_X0_can : GoodIn wsX0_fewestToDrop (wsV RX0 91 RX0 yX0_can wsX0_can) := goodIn_app (goodIn_of _ (by decide +kernel)) ggX0_fewestToDrop_X0_can
set_option maxRecDepth 20000 in
theorem ggX0_fewestToDrop_J6_bitCount_0f7a4 : GoodIn wsX0_fewestToDrop wsJ6_bitCount_0f7a4 := goodIn_r _ [11, 12, 13, 14] (by decide +kernel) (by decide +kernel)
set_option maxRecDepth 20000 in
theorem gX0_fewestToDrop_J6_bitCount_0f7a4 : GoodIn wsX0_fewestToDrop (va_wsS RX0 95 yJ6_bitCount_0f7a4 wsJ6_bitCount_0f7a4) := goodIn_app (goodIn_of _ (by decide +kernel)) ggX0_fewestToDrop_J6_bitCount_0f7a4
theorem dX0_fewestToDrop_0 : decode cX0_fewestToDrop 0 = .ok (.iconst 1, 1) := by decide +kernel
theorem dX0_fewestToDrop_1 : decode cX0_fewestToDrop 1 = .ok (.iload_n 1, 1) := by decide +kernel
theorem dX0_fewestToDrop_2 : decode cX0_fewestToDrop 2 = .ok (.ishl, 1) := by decide +kernel
theorem dX0_fewestToDrop_3 : decode cX0_fewestToDrop 3 = .ok (.iconst 1, 1) := by decide +kernel
theorem dX0_fewestToDrop_4 : decode cX0_fewestToDrop 4 = .ok (.isub, 1) := by decide +kernel
theorem dX0_fewestToDrop_5 : decode cX0_fewestToDrop 5 = .ok (.istore_n 2, 1) := by decide +kernel
theorem dX0_fewestToDrop_6 : decode cX0_fewestToDrop 6 = .ok (.iload_n 2, 1) := by decide +kernel
theorem dX0_fewestToDrop_7 : decode cX0_fewestToDrop 7 = .ok (.istore_n 3, 1) := by decide +kernel
theorem dX0_fewestToDrop_8 : decode cX0_fewestToDrop 8 = .ok (.iconst 0, 1) := by decide +kernel
theorem dX0_fewestToDrop_9 : decode cX0_fewestToDrop 9 = .ok (.istore 4, 2) := by decide +kernel
theorem dX0_fewestToDrop_11 : decode cX0_fewestToDrop 11 = .ok (.iload 4, 2) := by decide +kernel
theorem dX0_fewestToDrop_13 : decode cX0_fewestToDrop 13 = .ok (.iload_n 2, 1) := by decide +kernel
theorem dX0_fewestToDrop_14 : decode cX0_fewestToDrop 14 = .ok (.if_icmp .ge 35, 3) := by decide +kernel
theorem dX0_fewestToDrop_17 : decode cX0_fewestToDrop 17 = .ok (.aload_n 0, 1) := by decide +kernel
theorem dX0_fewestToDrop_18 : decode cX0_fewestToDrop 18 = .ok (.iload_n 2, 1) := by decide +kernel
theorem dX0_fewestToDrop_19 : decode cX0_fewestToDrop 19 = .ok (.iload 4, 2) := by decide +kernel
theorem dX0_fewestToDrop_21 : decode cX0_fewestToDrop 21 = .ok (.ixor, 1) := by decide +kernel
theorem dX0_fewestToDrop_22 : decode cX0_fewestToDrop 22 = .ok (.invokevirtual 91, 3) := by decide +kernel
theorem dX0_fewestToDrop_25 : decode cX0_fewestToDrop 25 = .ok (.ifCond .eq 18, 3) := by decide +kernel
theorem dX0_fewestToDrop_28 : decode cX0_fewestToDrop 28 = .ok (.iload 4, 2) := by decide +kernel
theorem dX0_fewestToDrop_30 : decode cX0_fewestToDrop 30 = .ok (.invokestatic 95, 3) := by decide +kernel
theorem dX0_fewestToDrop_33 : decode cX0_fewestToDrop 33 = .ok (.iload_n 3, 1) := by decide +kernel
theorem dX0_fewestToDrop_34 : decode cX0_fewestToDrop 34 = .ok (.invokestatic 95, 3) := by decide +kernel
theorem dX0_fewestToDrop_37 : decode cX0_fewestToDrop 37 = .ok (.if_icmp .ge 6, 3) := by decide +kernel
theorem dX0_fewestToDrop_40 : decode cX0_fewestToDrop 40 = .ok (.iload 4, 2) := by decide +kernel
theorem dX0_fewestToDrop_42 : decode cX0_fewestToDrop 42 = .ok (.istore_n 3, 1) := by decide +kernel
theorem dX0_fewestToDrop_43 : decode cX0_fewestToDrop 43 = .ok (.iinc 4 1, 3) := by decide +kernel
theorem dX0_fewestToDrop_46 : decode cX0_fewestToDrop 46 = .ok (.goto (-35), 3) := by decide +kernel
theorem dX0_fewestToDrop_49 : decode cX0_fewestToDrop 49 = .ok (.iload_n 3, 1) := by decide +kernel
theorem dX0_fewestToDrop_50 : decode cX0_fewestToDrop 50 = .ok (.ireturn, 1) := by decide +kernel
theorem dX1_init_0 : decode cX1_init 0 = .ok (.aload_n 0, 1) := by decide +kernel
theorem dX1_init_1 : decode cX1_init 1 = .ok (.invokespecial 3, 3) := by decide +kernel
theorem dX1_init_4 : decode cX1_init 4 = .ok (.aload_n 0, 1) := by decide +kernel
theorem dX1_init_5 : decode cX1_init 5 = .ok (.bipush 12, 2) := by decide +kernel
theorem dX1_init_7 : decode cX1_init 7 = .ok (.newarray .int, 2) := by decide +kernel
theorem dX1_init_9 : decode cX1_init 9 = .ok (.putfield 9, 3) := by decide +kernel
theorem dX1_init_12 : decode cX1_init 12 = .ok (.aload_n 0, 1) := by decide +kernel
theorem dX1_init_13 : decode cX1_init 13 = .ok (.bipush 12, 2) := by decide +kernel
theorem dX1_init_15 : decode cX1_init 15 = .ok (.newarray .int, 2) := by decide +kernel
theorem dX1_init_17 : decode cX1_init 17 = .ok (.putfield 15, 3) := by decide +kernel
theorem dX1_init_20 : decode cX1_init 20 = .ok (.aload_n 0, 1) := by decide +kernel
theorem dX1_init_21 : decode cX1_init 21 = .ok (.sipush 729, 3) := by decide +kernel
theorem dX1_init_24 : decode cX1_init 24 = .ok (.newarray .int, 2) := by decide +kernel
theorem dX1_init_26 : decode cX1_init 26 = .ok (.putfield 18, 3) := by decide +kernel
theorem dX1_init_29 : decode cX1_init 29 = .ok (.aload_n 0, 1) := by decide +kernel
theorem dX1_init_30 : decode cX1_init 30 = .ok (.sipush 729, 3) := by decide +kernel
theorem dX1_init_33 : decode cX1_init 33 = .ok (.newarray .int, 2) := by decide +kernel
theorem dX1_init_35 : decode cX1_init 35 = .ok (.putfield 21, 3) := by decide +kernel
theorem dX1_init_38 : decode cX1_init 38 = .ok (.aload_n 0, 1) := by decide +kernel
theorem dX1_init_39 : decode cX1_init 39 = .ok (.bipush 64, 2) := by decide +kernel
theorem dX1_init_41 : decode cX1_init 41 = .ok (.newarray .int, 2) := by decide +kernel
theorem dX1_init_43 : decode cX1_init 43 = .ok (.putfield 24, 3) := by decide +kernel
theorem dX1_init_46 : decode cX1_init 46 = .ok (.return_, 1) := by decide +kernel
set_option maxRecDepth 20000 in
theorem ggX1_tell_X1_goOnTo : GoodIn wsX1_tell wsX1_goOnTo := goodIn_r _ [11, 5, 12, 3, 13, 14, 15, 16, 17, 18, 19, 20, 21, 22, 23, 24, 25, 26, 27, 28, 29, 30, 31, 32, 33, 34, 10, 35, 36, 37, 38, 39, 40, 41, 42, 43, 44, 61, 62, 63, 64, 65, 66, 67, 56, 57, 58, 59, 60, 68, 69, 70, 71, 72, 73, 74, 75, 76] (by decide +kernel) (by decide +kernel)
set_option maxRecDepth 20000 in
theorem gX1_tell_X1_goOnTo : GoodIn wsX1_tell (wsV RX1 36 RX1 yX1_goOnTo wsX1_goOnTo) := goodIn_app (goodIn_of _ (by decide +kernel)) ggX1_tell_X1_goOnTo
set_option maxRecDepth 20000 in
theorem ggX1_tell_X1_goBackFrom : GoodIn wsX1_tell wsX1_goBackFrom := goodIn_r _ [48, 5, 12, 6, 14, 13, 3, 49, 50, 17, 51, 19, 20, 21, 22, 23, 24, 25, 26, 27, 28, 29, 30, 31, 32, 33, 34, 10, 35, 36, 37, 38, 39, 40, 41, 42, 43, 44, 52, 53, 54, 55, 1, 15, 16, 18, 2, 61, 62, 63, 64, 65, 66, 67, 56, 57, 58, 59, 60, 68, 69, 70, 71, 72, 73, 74, 75, 76] (by decide +kernel) (by decide +kernel)
set_option maxRecDepth 20000 in
theorem gX1_tell_X1_goBackFrom : GoodIn wsX1_tell (wsV RX1 40 RX1 yX1_goBackFrom wsX1_goBackFrom) := goodIn_app (goodIn_of _ (by decide +kernel)) ggX1_tell_X1_goBackFrom
theorem dX1_tell_0 : decode cX1_tell 0 = .ok (.iconst 0, 1) := by decide +kernel
theorem dX1_tell_1 : decode cX1_tell 1 = .ok (.istore 4, 2) := by decide +kernel
theorem dX1_tell_3 : decode cX1_tell 3 = .ok (.iload 4, 2) := by decide +kernel
theorem dX1_tell_5 : decode cX1_tell 5 = .ok (.bipush 12, 2) := by decide +kernel
theorem dX1_tell_7 : decode cX1_tell 7 = .ok (.if_icmp .ge 25, 3) := by decide +kernel
theorem dX1_tell_10 : decode cX1_tell 10 = .ok (.aload_n 0, 1) := by decide +kernel
theorem dX1_tell_11 : decode cX1_tell 11 = .ok (.getfield 9, 3) := by decide +kernel
theorem dX1_tell_14 : decode cX1_tell 14 = .ok (.iload 4, 2) := by decide +kernel
theorem dX1_tell_16 : decode cX1_tell 16 = .ok (.iconst (-1), 1) := by decide +kernel
theorem dX1_tell_17 : decode cX1_tell 17 = .ok (.iastore, 1) := by decide +kernel
theorem dX1_tell_18 : decode cX1_tell 18 = .ok (.aload_n 0, 1) := by decide +kernel
theorem dX1_tell_19 : decode cX1_tell 19 = .ok (.getfield 15, 3) := by decide +kernel
theorem dX1_tell_22 : decode cX1_tell 22 = .ok (.iload 4, 2) := by decide +kernel
theorem dX1_tell_24 : decode cX1_tell 24 = .ok (.iconst (-1), 1) := by decide +kernel
theorem dX1_tell_25 : decode cX1_tell 25 = .ok (.iastore, 1) := by decide +kernel
theorem dX1_tell_26 : decode cX1_tell 26 = .ok (.iinc 4 1, 3) := by decide +kernel
theorem dX1_tell_29 : decode cX1_tell 29 = .ok (.goto (-26), 3) := by decide +kernel
theorem dX1_tell_32 : decode cX1_tell 32 = .ok (.aload_n 0, 1) := by decide +kernel
theorem dX1_tell_33 : decode cX1_tell 33 = .ok (.getfield 18, 3) := by decide +kernel
theorem dX1_tell_36 : decode cX1_tell 36 = .ok (.iconst 0, 1) := by decide +kernel
theorem dX1_tell_37 : decode cX1_tell 37 = .ok (.iconst (-1), 1) := by decide +kernel
theorem dX1_tell_38 : decode cX1_tell 38 = .ok (.iastore, 1) := by decide +kernel
theorem dX1_tell_39 : decode cX1_tell 39 = .ok (.iconst 1, 1) := by decide +kernel
theorem dX1_tell_40 : decode cX1_tell 40 = .ok (.istore 4, 2) := by decide +kernel
theorem dX1_tell_42 : decode cX1_tell 42 = .ok (.iload 4, 2) := by decide +kernel
theorem dX1_tell_44 : decode cX1_tell 44 = .ok (.aload_n 1, 1) := by decide +kernel
theorem dX1_tell_45 : decode cX1_tell 45 = .ok (.getfield 27, 3) := by decide +kernel
theorem dX1_tell_48 : decode cX1_tell 48 = .ok (.if_icmp .ge 38, 3) := by decide +kernel
theorem dX1_tell_51 : decode cX1_tell 51 = .ok (.aload_n 0, 1) := by decide +kernel
theorem dX1_tell_52 : decode cX1_tell 52 = .ok (.getfield 18, 3) := by decide +kernel
theorem dX1_tell_55 : decode cX1_tell 55 = .ok (.iload 4, 2) := by decide +kernel
theorem dX1_tell_57 : decode cX1_tell 57 = .ok (.bipush 100, 2) := by decide +kernel
theorem dX1_tell_59 : decode cX1_tell 59 = .ok (.iastore, 1) := by decide +kernel
theorem dX1_tell_60 : decode cX1_tell 60 = .ok (.aload_n 1, 1) := by decide +kernel
theorem dX1_tell_61 : decode cX1_tell 61 = .ok (.getfield 33, 3) := by decide +kernel
theorem dX1_tell_64 : decode cX1_tell 64 = .ok (.iload 4, 2) := by decide +kernel
theorem dX1_tell_66 : decode cX1_tell 66 = .ok (.iaload, 1) := by decide +kernel
theorem dX1_tell_67 : decode cX1_tell 67 = .ok (.iconst (-1), 1) := by decide +kernel
theorem dX1_tell_68 : decode cX1_tell 68 = .ok (.if_icmp .eq 12, 3) := by decide +kernel
theorem dX1_tell_71 : decode cX1_tell 71 = .ok (.aload_n 0, 1) := by decide +kernel
theorem dX1_tell_72 : decode cX1_tell 72 = .ok (.iload 4, 2) := by decide +kernel
theorem dX1_tell_74 : decode cX1_tell 74 = .ok (.aload_n 1, 1) := by decide +kernel
theorem dX1_tell_75 : decode cX1_tell 75 = .ok (.aload_n 2, 1) := by decide +kernel
theorem dX1_tell_76 : decode cX1_tell 76 = .ok (.aload_n 3, 1) := by decide +kernel
theorem dX1_tell_77 : decode cX1_tell 77 = .ok (.invokevirtual 36, 3) := by decide +kernel
theorem dX1_tell_80 : decode cX1_tell 80 = .ok (.iinc 4 1, 3) := by decide +kernel
theorem dX1_tell_83 : decode cX1_tell 83 = .ok (.goto (-41), 3) := by decide +kernel
theorem dX1_tell_86 : decode cX1_tell 86 = .ok (.iconst 0, 1) := by decide +kernel
theorem dX1_tell_87 : decode cX1_tell 87 = .ok (.istore 4, 2) := by decide +kernel
theorem dX1_tell_89 : decode cX1_tell 89 = .ok (.iload 4, 2) := by decide +kernel
theorem dX1_tell_91 : decode cX1_tell 91 = .ok (.aload_n 1, 1) := by decide +kernel
theorem dX1_tell_92 : decode cX1_tell 92 = .ok (.getfield 27, 3) := by decide +kernel
theorem dX1_tell_95 : decode cX1_tell 95 = .ok (.if_icmp .ge 17, 3) := by decide +kernel
theorem dX1_tell_98 : decode cX1_tell 98 = .ok (.aload_n 0, 1) := by decide +kernel
theorem dX1_tell_99 : decode cX1_tell 99 = .ok (.getfield 21, 3) := by decide +kernel
theorem dX1_tell_102 : decode cX1_tell 102 = .ok (.iload 4, 2) := by decide +kernel
theorem dX1_tell_104 : decode cX1_tell 104 = .ok (.iconst (-1), 1) := by decide +kernel
theorem dX1_tell_105 : decode cX1_tell 105 = .ok (.iastore, 1) := by decide +kernel
theorem dX1_tell_106 : decode cX1_tell 106 = .ok (.iinc 4 1, 3) := by decide +kernel
theorem dX1_tell_109 : decode cX1_tell 109 = .ok (.goto (-20), 3) := by decide +kernel
theorem dX1_tell_112 : decode cX1_tell 112 = .ok (.aload_n 0, 1) := by decide +kernel
theorem dX1_tell_113 : decode cX1_tell 113 = .ok (.getfield 21, 3) := by decide +kernel
theorem dX1_tell_116 : decode cX1_tell 116 = .ok (.aload_n 1, 1) := by decide +kernel
theorem dX1_tell_117 : decode cX1_tell 117 = .ok (.getfield 27, 3) := by decide +kernel
theorem dX1_tell_120 : decode cX1_tell 120 = .ok (.iconst 1, 1) := by decide +kernel
theorem dX1_tell_121 : decode cX1_tell 121 = .ok (.isub, 1) := by decide +kernel
theorem dX1_tell_122 : decode cX1_tell 122 = .ok (.bipush 100, 2) := by decide +kernel
theorem dX1_tell_124 : decode cX1_tell 124 = .ok (.iastore, 1) := by decide +kernel
theorem dX1_tell_125 : decode cX1_tell 125 = .ok (.aload_n 1, 1) := by decide +kernel
theorem dX1_tell_126 : decode cX1_tell 126 = .ok (.getfield 27, 3) := by decide +kernel
theorem dX1_tell_129 : decode cX1_tell 129 = .ok (.iconst 1, 1) := by decide +kernel
theorem dX1_tell_130 : decode cX1_tell 130 = .ok (.isub, 1) := by decide +kernel
theorem dX1_tell_131 : decode cX1_tell 131 = .ok (.istore 4, 2) := by decide +kernel
theorem dX1_tell_133 : decode cX1_tell 133 = .ok (.iload 4, 2) := by decide +kernel
theorem dX1_tell_135 : decode cX1_tell 135 = .ok (.ifCond .le 39, 3) := by decide +kernel
theorem dX1_tell_138 : decode cX1_tell 138 = .ok (.aload_n 1, 1) := by decide +kernel
theorem dX1_tell_139 : decode cX1_tell 139 = .ok (.getfield 33, 3) := by decide +kernel
theorem dX1_tell_142 : decode cX1_tell 142 = .ok (.iload 4, 2) := by decide +kernel
theorem dX1_tell_144 : decode cX1_tell 144 = .ok (.iaload, 1) := by decide +kernel
theorem dX1_tell_145 : decode cX1_tell 145 = .ok (.iconst (-1), 1) := by decide +kernel
theorem dX1_tell_146 : decode cX1_tell 146 = .ok (.if_icmp .eq 22, 3) := by decide +kernel
theorem dX1_tell_149 : decode cX1_tell 149 = .ok (.aload_n 0, 1) := by decide +kernel
theorem dX1_tell_150 : decode cX1_tell 150 = .ok (.getfield 21, 3) := by decide +kernel
theorem dX1_tell_153 : decode cX1_tell 153 = .ok (.iload 4, 2) := by decide +kernel
theorem dX1_tell_155 : decode cX1_tell 155 = .ok (.iaload, 1) := by decide +kernel
theorem dX1_tell_156 : decode cX1_tell 156 = .ok (.ifCond .le 12, 3) := by decide +kernel
theorem dX1_tell_159 : decode cX1_tell 159 = .ok (.aload_n 0, 1) := by decide +kernel
theorem dX1_tell_160 : decode cX1_tell 160 = .ok (.iload 4, 2) := by decide +kernel
theorem dX1_tell_162 : decode cX1_tell 162 = .ok (.aload_n 1, 1) := by decide +kernel
theorem dX1_tell_163 : decode cX1_tell 163 = .ok (.aload_n 2, 1) := by decide +kernel
theorem dX1_tell_164 : decode cX1_tell 164 = .ok (.aload_n 3, 1) := by decide +kernel
theorem dX1_tell_165 : decode cX1_tell 165 = .ok (.invokevirtual 40, 3) := by decide +kernel
theorem dX1_tell_168 : decode cX1_tell 168 = .ok (.iinc 4 (-1), 3) := by decide +kernel
theorem dX1_tell_171 : decode cX1_tell 171 = .ok (.goto (-38), 3) := by decide +kernel
theorem dX1_tell_174 : decode cX1_tell 174 = .ok (.return_, 1) := by decide +kernel
set_option maxRecDepth 20000 in
theorem ggX1_goOnTo_X10_setAt : GoodIn wsX1_goOnTo wsX10_setAt := goodIn_r _ [12, 13] (by decide +kernel) (by decide +kernel)
set_option maxRecDepth 20000 in
theorem gX1_goOnTo_X10_setAt_n43 : GoodIn wsX1_goOnTo (wsX10_setAt) := ggX1_goOnTo_X10_setAt
set_option maxRecDepth 20000 in
theorem ggX1_goOnTo_X7_take : GoodIn wsX1_goOnTo wsX7_take := goodIn_r _ [18, 19, 20, 21, 22, 40, 41, 42, 43] (by decide +kernel) (by decide +kernel)
set_option maxRecDepth 20000 in
theorem gX1_goOnTo_X7_take : GoodIn wsX1_goOnTo (wsV RX1 47 RX7 yX7_take wsX7_take) := goodIn_app (goodIn_of _ (by decide +kernel)) ggX1_goOnTo_X7_take
set_option maxRecDepth 20000 in
theorem ggX1_goOnTo_X1_findTold : GoodIn wsX1_goOnTo wsX1_findTold := goodIn_r _ [27, 5, 28, 29, 30, 31, 32, 26, 33, 44, 45, 46, 47, 48, 40, 41, 42, 43, 49, 50, 51, 52, 53, 54, 55, 56, 57] (by decide +kernel) (by decide +kernel)
set_option maxRecDepth 20000 in
theorem gX1_goOnTo_X1_findTold : GoodIn wsX1_goOnTo (wsV RX1 53 RX1 yX1_findTold wsX1_findTold) := goodIn_app (goodIn_of _ (by decide +kernel)) ggX1_goOnTo_X1_findTold
set_option maxRecDepth 20000 in
theorem ggX1_goOnTo_X10_placeOf : GoodIn wsX1_goOnTo wsX10_placeOf := goodIn_r _ [35, 36] (by decide +kernel) (by decide +kernel)
set_option maxRecDepth 20000 in
theorem gX1_goOnTo_X10_placeOf_n63 : GoodIn wsX1_goOnTo (wsX10_placeOf) := ggX1_goOnTo_X10_placeOf
theorem dX1_goOnTo_0 : decode cX1_goOnTo 0 = .ok (.iload_n 1, 1) := by decide +kernel
theorem dX1_goOnTo_1 : decode cX1_goOnTo 1 = .ok (.invokestatic 43, 3) := by decide +kernel
theorem dX1_goOnTo_4 : decode cX1_goOnTo 4 = .ok (.istore 5, 2) := by decide +kernel
theorem dX1_goOnTo_6 : decode cX1_goOnTo 6 = .ok (.aload_n 3, 1) := by decide +kernel
theorem dX1_goOnTo_7 : decode cX1_goOnTo 7 = .ok (.aload_n 2, 1) := by decide +kernel
theorem dX1_goOnTo_8 : decode cX1_goOnTo 8 = .ok (.getfield 33, 3) := by decide +kernel
theorem dX1_goOnTo_11 : decode cX1_goOnTo 11 = .ok (.iload_n 1, 1) := by decide +kernel
theorem dX1_goOnTo_12 : decode cX1_goOnTo 12 = .ok (.iaload, 1) := by decide +kernel
theorem dX1_goOnTo_13 : decode cX1_goOnTo 13 = .ok (.invokevirtual 47, 3) := by decide +kernel
theorem dX1_goOnTo_16 : decode cX1_goOnTo 16 = .ok (.aload_n 0, 1) := by decide +kernel
theorem dX1_goOnTo_17 : decode cX1_goOnTo 17 = .ok (.aload_n 3, 1) := by decide +kernel
theorem dX1_goOnTo_18 : decode cX1_goOnTo 18 = .ok (.aload 4, 2) := by decide +kernel
theorem dX1_goOnTo_20 : decode cX1_goOnTo 20 = .ok (.invokevirtual 53, 3) := by decide +kernel
theorem dX1_goOnTo_23 : decode cX1_goOnTo 23 = .ok (.iconst 1, 1) := by decide +kernel
theorem dX1_goOnTo_24 : decode cX1_goOnTo 24 = .ok (.istore 6, 2) := by decide +kernel
theorem dX1_goOnTo_26 : decode cX1_goOnTo 26 = .ok (.iload 6, 2) := by decide +kernel
theorem dX1_goOnTo_28 : decode cX1_goOnTo 28 = .ok (.aload_n 3, 1) := by decide +kernel
theorem dX1_goOnTo_29 : decode cX1_goOnTo 29 = .ok (.getfield 57, 3) := by decide +kernel
theorem dX1_goOnTo_32 : decode cX1_goOnTo 32 = .ok (.if_icmp .ge 96, 3) := by decide +kernel
theorem dX1_goOnTo_35 : decode cX1_goOnTo 35 = .ok (.aload_n 0, 1) := by decide +kernel
theorem dX1_goOnTo_36 : decode cX1_goOnTo 36 = .ok (.getfield 18, 3) := by decide +kernel
theorem dX1_goOnTo_39 : decode cX1_goOnTo 39 = .ok (.iload 5, 2) := by decide +kernel
theorem dX1_goOnTo_41 : decode cX1_goOnTo 41 = .ok (.aload_n 3, 1) := by decide +kernel
theorem dX1_goOnTo_42 : decode cX1_goOnTo 42 = .ok (.getfield 60, 3) := by decide +kernel
theorem dX1_goOnTo_45 : decode cX1_goOnTo 45 = .ok (.iload 6, 2) := by decide +kernel
theorem dX1_goOnTo_47 : decode cX1_goOnTo 47 = .ok (.iaload, 1) := by decide +kernel
theorem dX1_goOnTo_48 : decode cX1_goOnTo 48 = .ok (.ixor, 1) := by decide +kernel
theorem dX1_goOnTo_49 : decode cX1_goOnTo 49 = .ok (.invokestatic 63, 3) := by decide +kernel
theorem dX1_goOnTo_52 : decode cX1_goOnTo 52 = .ok (.iaload, 1) := by decide +kernel
theorem dX1_goOnTo_53 : decode cX1_goOnTo 53 = .ok (.iconst 1, 1) := by decide +kernel
theorem dX1_goOnTo_54 : decode cX1_goOnTo 54 = .ok (.iadd, 1) := by decide +kernel
theorem dX1_goOnTo_55 : decode cX1_goOnTo 55 = .ok (.istore 7, 2) := by decide +kernel
theorem dX1_goOnTo_57 : decode cX1_goOnTo 57 = .ok (.aload_n 0, 1) := by decide +kernel
theorem dX1_goOnTo_58 : decode cX1_goOnTo 58 = .ok (.getfield 24, 3) := by decide +kernel
theorem dX1_goOnTo_61 : decode cX1_goOnTo 61 = .ok (.iload 6, 2) := by decide +kernel
theorem dX1_goOnTo_63 : decode cX1_goOnTo 63 = .ok (.iaload, 1) := by decide +kernel
theorem dX1_goOnTo_64 : decode cX1_goOnTo 64 = .ok (.iconst (-1), 1) := by decide +kernel
theorem dX1_goOnTo_65 : decode cX1_goOnTo 65 = .ok (.if_icmp .ne 23, 3) := by decide +kernel
theorem dX1_goOnTo_68 : decode cX1_goOnTo 68 = .ok (.aload_n 0, 1) := by decide +kernel
theorem dX1_goOnTo_69 : decode cX1_goOnTo 69 = .ok (.getfield 18, 3) := by decide +kernel
theorem dX1_goOnTo_72 : decode cX1_goOnTo 72 = .ok (.iload_n 1, 1) := by decide +kernel
theorem dX1_goOnTo_73 : decode cX1_goOnTo 73 = .ok (.aload_n 0, 1) := by decide +kernel
theorem dX1_goOnTo_74 : decode cX1_goOnTo 74 = .ok (.getfield 18, 3) := by decide +kernel
theorem dX1_goOnTo_77 : decode cX1_goOnTo 77 = .ok (.iload_n 1, 1) := by decide +kernel
theorem dX1_goOnTo_78 : decode cX1_goOnTo 78 = .ok (.iaload, 1) := by decide +kernel
theorem dX1_goOnTo_79 : decode cX1_goOnTo 79 = .ok (.iload 7, 2) := by decide +kernel
theorem dX1_goOnTo_81 : decode cX1_goOnTo 81 = .ok (.invokestatic 66, 3) := by decide +kernel
theorem dX1_goOnTo_84 : decode cX1_goOnTo 84 = .ok (.iastore, 1) := by decide +kernel
theorem dX1_goOnTo_85 : decode cX1_goOnTo 85 = .ok (.goto 37, 3) := by decide +kernel
theorem dX1_goOnTo_88 : decode cX1_goOnTo 88 = .ok (.aload_n 0, 1) := by decide +kernel
theorem dX1_goOnTo_89 : decode cX1_goOnTo 89 = .ok (.getfield 24, 3) := by decide +kernel
theorem dX1_goOnTo_92 : decode cX1_goOnTo 92 = .ok (.iload 6, 2) := by decide +kernel
theorem dX1_goOnTo_94 : decode cX1_goOnTo 94 = .ok (.iaload, 1) := by decide +kernel
theorem dX1_goOnTo_95 : decode cX1_goOnTo 95 = .ok (.iload 7, 2) := by decide +kernel
theorem dX1_goOnTo_97 : decode cX1_goOnTo 97 = .ok (.if_icmp .lt 25, 3) := by decide +kernel
theorem dX1_goOnTo_100 : decode cX1_goOnTo 100 = .ok (.aload_n 0, 1) := by decide +kernel
theorem dX1_goOnTo_101 : decode cX1_goOnTo 101 = .ok (.getfield 18, 3) := by decide +kernel
theorem dX1_goOnTo_104 : decode cX1_goOnTo 104 = .ok (.iload_n 1, 1) := by decide +kernel
theorem dX1_goOnTo_105 : decode cX1_goOnTo 105 = .ok (.aload_n 0, 1) := by decide +kernel
theorem dX1_goOnTo_106 : decode cX1_goOnTo 106 = .ok (.getfield 18, 3) := by decide +kernel
theorem dX1_goOnTo_109 : decode cX1_goOnTo 109 = .ok (.iload_n 1, 1) := by decide +kernel
theorem dX1_goOnTo_110 : decode cX1_goOnTo 110 = .ok (.iaload, 1) := by decide +kernel
theorem dX1_goOnTo_111 : decode cX1_goOnTo 111 = .ok (.aload_n 0, 1) := by decide +kernel
theorem dX1_goOnTo_112 : decode cX1_goOnTo 112 = .ok (.getfield 24, 3) := by decide +kernel
theorem dX1_goOnTo_115 : decode cX1_goOnTo 115 = .ok (.iload 6, 2) := by decide +kernel
theorem dX1_goOnTo_117 : decode cX1_goOnTo 117 = .ok (.iaload, 1) := by decide +kernel
theorem dX1_goOnTo_118 : decode cX1_goOnTo 118 = .ok (.invokestatic 66, 3) := by decide +kernel
theorem dX1_goOnTo_121 : decode cX1_goOnTo 121 = .ok (.iastore, 1) := by decide +kernel
theorem dX1_goOnTo_122 : decode cX1_goOnTo 122 = .ok (.iinc 6 1, 3) := by decide +kernel
theorem dX1_goOnTo_125 : decode cX1_goOnTo 125 = .ok (.goto (-99), 3) := by decide +kernel
theorem dX1_goOnTo_128 : decode cX1_goOnTo 128 = .ok (.return_, 1) := by decide +kernel
set_option maxRecDepth 20000 in
theorem ggX1_goBackFrom_X10_setAt : GoodIn wsX1_goBackFrom wsX10_setAt := goodIn_r _ [13, 14] (by decide +kernel) (by decide +kernel)
set_option maxRecDepth 20000 in
theorem gX1_goBackFrom_X10_setAt_n43 : GoodIn wsX1_goBackFrom (wsX10_setAt) := ggX1_goBackFrom_X10_setAt
set_option maxRecDepth 20000 in
theorem ggX1_goBackFrom_X7_take : GoodIn wsX1_goBackFrom wsX7_take := goodIn_r _ [19, 20, 21, 22, 23, 50, 51, 52, 53] (by decide +kernel) (by decide +kernel)
set_option maxRecDepth 20000 in
theorem gX1_goBackFrom_X7_take : GoodIn wsX1_goBackFrom (wsV RX1 47 RX7 yX7_take wsX7_take) := goodIn_app (goodIn_of _ (by decide +kernel)) ggX1_goBackFrom_X7_take
set_option maxRecDepth 20000 in
theorem ggX1_goBackFrom_X1_findTold : GoodIn wsX1_goBackFrom wsX1_findTold := goodIn_r _ [28, 4, 29, 30, 31, 32, 33, 27, 34, 54, 55, 56, 57, 58, 50, 51, 52, 53, 59, 60, 61, 62, 63, 64, 65, 66, 67] (by decide +kernel) (by decide +kernel)
set_option maxRecDepth 20000 in
theorem gX1_goBackFrom_X1_findTold : GoodIn wsX1_goBackFrom (wsV RX1 53 RX1 yX1_findTold wsX1_findTold) := goodIn_app (goodIn_of _ (by decide +kernel)) ggX1_goBackFrom_X1_findTold
set_option maxRecDepth 20000 in
theorem ggX1_goBackFrom_X10_placeOf : GoodIn wsX1_goBackFrom wsX10_placeOf := goodIn_r _ [36, 37] (by decide +kernel) (by decide +kernel)
set_option maxRecDepth 20000 in
theorem gX1_goBackFrom_X10_placeOf_n63 : GoodIn wsX1_goBackFrom (wsX10_placeOf) := ggX1_goBackFrom_X10_placeOf
set_option maxRecDepth 20000 in
theorem ggX1_goBackFrom_X1_note : GoodIn wsX1_goBackFrom wsX1_note := goodIn_r _ [41, 42, 43, 44, 9, 45, 46, 7, 8, 10, 54, 55, 56, 57, 58] (by decide +kernel) (by decide +kernel)
set_option maxRecDepth 20000 in
theorem gX1_goBackFrom_X1_note : GoodIn wsX1_goBackFrom (wsV RX1 75 RX1 yX1_note wsX1_note) := goodIn_app (goodIn_of _ (by decide +kernel)) ggX1_goBackFrom_X1_note
theorem dX1_goBackFrom_0 : decode cX1_goBackFrom 0 = .ok (.iload_n 1, 1) := by decide +kernel
theorem dX1_goBackFrom_1 : decode cX1_goBackFrom 1 = .ok (.invokestatic 43, 3) := by decide +kernel
theorem dX1_goBackFrom_4 : decode cX1_goBackFrom 4 = .ok (.istore 5, 2) := by decide +kernel
theorem dX1_goBackFrom_6 : decode cX1_goBackFrom 6 = .ok (.aload_n 3, 1) := by decide +kernel
theorem dX1_goBackFrom_7 : decode cX1_goBackFrom 7 = .ok (.aload_n 2, 1) := by decide +kernel
theorem dX1_goBackFrom_8 : decode cX1_goBackFrom 8 = .ok (.getfield 33, 3) := by decide +kernel
theorem dX1_goBackFrom_11 : decode cX1_goBackFrom 11 = .ok (.iload_n 1, 1) := by decide +kernel
theorem dX1_goBackFrom_12 : decode cX1_goBackFrom 12 = .ok (.iaload, 1) := by decide +kernel
theorem dX1_goBackFrom_13 : decode cX1_goBackFrom 13 = .ok (.invokevirtual 47, 3) := by decide +kernel
theorem dX1_goBackFrom_16 : decode cX1_goBackFrom 16 = .ok (.aload_n 0, 1) := by decide +kernel
theorem dX1_goBackFrom_17 : decode cX1_goBackFrom 17 = .ok (.aload_n 3, 1) := by decide +kernel
theorem dX1_goBackFrom_18 : decode cX1_goBackFrom 18 = .ok (.aload 4, 2) := by decide +kernel
theorem dX1_goBackFrom_20 : decode cX1_goBackFrom 20 = .ok (.invokevirtual 53, 3) := by decide +kernel
theorem dX1_goBackFrom_23 : decode cX1_goBackFrom 23 = .ok (.iconst 1, 1) := by decide +kernel
theorem dX1_goBackFrom_24 : decode cX1_goBackFrom 24 = .ok (.istore 6, 2) := by decide +kernel
theorem dX1_goBackFrom_26 : decode cX1_goBackFrom 26 = .ok (.iload 6, 2) := by decide +kernel
theorem dX1_goBackFrom_28 : decode cX1_goBackFrom 28 = .ok (.aload_n 3, 1) := by decide +kernel
theorem dX1_goBackFrom_29 : decode cX1_goBackFrom 29 = .ok (.getfield 57, 3) := by decide +kernel
theorem dX1_goBackFrom_32 : decode cX1_goBackFrom 32 = .ok (.if_icmp .ge 135, 3) := by decide +kernel
theorem dX1_goBackFrom_35 : decode cX1_goBackFrom 35 = .ok (.aload_n 0, 1) := by decide +kernel
theorem dX1_goBackFrom_36 : decode cX1_goBackFrom 36 = .ok (.getfield 21, 3) := by decide +kernel
theorem dX1_goBackFrom_39 : decode cX1_goBackFrom 39 = .ok (.iload_n 1, 1) := by decide +kernel
theorem dX1_goBackFrom_40 : decode cX1_goBackFrom 40 = .ok (.iaload, 1) := by decide +kernel
theorem dX1_goBackFrom_41 : decode cX1_goBackFrom 41 = .ok (.iconst 1, 1) := by decide +kernel
theorem dX1_goBackFrom_42 : decode cX1_goBackFrom 42 = .ok (.isub, 1) := by decide +kernel
theorem dX1_goBackFrom_43 : decode cX1_goBackFrom 43 = .ok (.istore 7, 2) := by decide +kernel
theorem dX1_goBackFrom_45 : decode cX1_goBackFrom 45 = .ok (.aload_n 0, 1) := by decide +kernel
theorem dX1_goBackFrom_46 : decode cX1_goBackFrom 46 = .ok (.getfield 24, 3) := by decide +kernel
theorem dX1_goBackFrom_49 : decode cX1_goBackFrom 49 = .ok (.iload 6, 2) := by decide +kernel
theorem dX1_goBackFrom_51 : decode cX1_goBackFrom 51 = .ok (.iaload, 1) := by decide +kernel
theorem dX1_goBackFrom_52 : decode cX1_goBackFrom 52 = .ok (.iload 7, 2) := by decide +kernel
theorem dX1_goBackFrom_54 : decode cX1_goBackFrom 54 = .ok (.if_icmp .le 6, 3) := by decide +kernel
theorem dX1_goBackFrom_57 : decode cX1_goBackFrom 57 = .ok (.goto 104, 3) := by decide +kernel
theorem dX1_goBackFrom_60 : decode cX1_goBackFrom 60 = .ok (.iload 5, 2) := by decide +kernel
theorem dX1_goBackFrom_62 : decode cX1_goBackFrom 62 = .ok (.aload_n 3, 1) := by decide +kernel
theorem dX1_goBackFrom_63 : decode cX1_goBackFrom 63 = .ok (.getfield 60, 3) := by decide +kernel
theorem dX1_goBackFrom_66 : decode cX1_goBackFrom 66 = .ok (.iload 6, 2) := by decide +kernel
theorem dX1_goBackFrom_68 : decode cX1_goBackFrom 68 = .ok (.iaload, 1) := by decide +kernel
theorem dX1_goBackFrom_69 : decode cX1_goBackFrom 69 = .ok (.ixor, 1) := by decide +kernel
theorem dX1_goBackFrom_70 : decode cX1_goBackFrom 70 = .ok (.invokestatic 63, 3) := by decide +kernel
theorem dX1_goBackFrom_73 : decode cX1_goBackFrom 73 = .ok (.istore 8, 2) := by decide +kernel
theorem dX1_goBackFrom_75 : decode cX1_goBackFrom 75 = .ok (.aload_n 0, 1) := by decide +kernel
theorem dX1_goBackFrom_76 : decode cX1_goBackFrom 76 = .ok (.getfield 18, 3) := by decide +kernel
theorem dX1_goBackFrom_79 : decode cX1_goBackFrom 79 = .ok (.iload 8, 2) := by decide +kernel
theorem dX1_goBackFrom_81 : decode cX1_goBackFrom 81 = .ok (.iaload, 1) := by decide +kernel
theorem dX1_goBackFrom_82 : decode cX1_goBackFrom 82 = .ok (.iconst 1, 1) := by decide +kernel
theorem dX1_goBackFrom_83 : decode cX1_goBackFrom 83 = .ok (.iadd, 1) := by decide +kernel
theorem dX1_goBackFrom_84 : decode cX1_goBackFrom 84 = .ok (.istore 9, 2) := by decide +kernel
theorem dX1_goBackFrom_86 : decode cX1_goBackFrom 86 = .ok (.aload_n 0, 1) := by decide +kernel
theorem dX1_goBackFrom_87 : decode cX1_goBackFrom 87 = .ok (.getfield 24, 3) := by decide +kernel
theorem dX1_goBackFrom_90 : decode cX1_goBackFrom 90 = .ok (.iload 6, 2) := by decide +kernel
theorem dX1_goBackFrom_92 : decode cX1_goBackFrom 92 = .ok (.iaload, 1) := by decide +kernel
theorem dX1_goBackFrom_93 : decode cX1_goBackFrom 93 = .ok (.iconst (-1), 1) := by decide +kernel
theorem dX1_goBackFrom_94 : decode cX1_goBackFrom 94 = .ok (.if_icmp .eq 26, 3) := by decide +kernel
theorem dX1_goBackFrom_97 : decode cX1_goBackFrom 97 = .ok (.aload_n 0, 1) := by decide +kernel
theorem dX1_goBackFrom_98 : decode cX1_goBackFrom 98 = .ok (.getfield 24, 3) := by decide +kernel
theorem dX1_goBackFrom_101 : decode cX1_goBackFrom 101 = .ok (.iload 6, 2) := by decide +kernel
theorem dX1_goBackFrom_103 : decode cX1_goBackFrom 103 = .ok (.iaload, 1) := by decide +kernel
theorem dX1_goBackFrom_104 : decode cX1_goBackFrom 104 = .ok (.istore 7, 2) := by decide +kernel
theorem dX1_goBackFrom_106 : decode cX1_goBackFrom 106 = .ok (.iload 9, 2) := by decide +kernel
theorem dX1_goBackFrom_108 : decode cX1_goBackFrom 108 = .ok (.aload_n 0, 1) := by decide +kernel
theorem dX1_goBackFrom_109 : decode cX1_goBackFrom 109 = .ok (.getfield 24, 3) := by decide +kernel
theorem dX1_goBackFrom_112 : decode cX1_goBackFrom 112 = .ok (.iload 6, 2) := by decide +kernel
theorem dX1_goBackFrom_114 : decode cX1_goBackFrom 114 = .ok (.iaload, 1) := by decide +kernel
theorem dX1_goBackFrom_115 : decode cX1_goBackFrom 115 = .ok (.invokestatic 72, 3) := by decide +kernel
theorem dX1_goBackFrom_118 : decode cX1_goBackFrom 118 = .ok (.istore 9, 2) := by decide +kernel
theorem dX1_goBackFrom_120 : decode cX1_goBackFrom 120 = .ok (.aload_n 0, 1) := by decide +kernel
theorem dX1_goBackFrom_121 : decode cX1_goBackFrom 121 = .ok (.getfield 21, 3) := by decide +kernel
theorem dX1_goBackFrom_124 : decode cX1_goBackFrom 124 = .ok (.iload 8, 2) := by decide +kernel
theorem dX1_goBackFrom_126 : decode cX1_goBackFrom 126 = .ok (.aload_n 0, 1) := by decide +kernel
theorem dX1_goBackFrom_127 : decode cX1_goBackFrom 127 = .ok (.getfield 21, 3) := by decide +kernel
theorem dX1_goBackFrom_130 : decode cX1_goBackFrom 130 = .ok (.iload 8, 2) := by decide +kernel
theorem dX1_goBackFrom_132 : decode cX1_goBackFrom 132 = .ok (.iaload, 1) := by decide +kernel
theorem dX1_goBackFrom_133 : decode cX1_goBackFrom 133 = .ok (.iload 7, 2) := by decide +kernel
theorem dX1_goBackFrom_135 : decode cX1_goBackFrom 135 = .ok (.invokestatic 72, 3) := by decide +kernel
theorem dX1_goBackFrom_138 : decode cX1_goBackFrom 138 = .ok (.iastore, 1) := by decide +kernel
theorem dX1_goBackFrom_139 : decode cX1_goBackFrom 139 = .ok (.iload 9, 2) := by decide +kernel
theorem dX1_goBackFrom_141 : decode cX1_goBackFrom 141 = .ok (.iload 7, 2) := by decide +kernel
theorem dX1_goBackFrom_143 : decode cX1_goBackFrom 143 = .ok (.if_icmp .gt 18, 3) := by decide +kernel
theorem dX1_goBackFrom_146 : decode cX1_goBackFrom 146 = .ok (.aload_n 0, 1) := by decide +kernel
theorem dX1_goBackFrom_147 : decode cX1_goBackFrom 147 = .ok (.aload_n 3, 1) := by decide +kernel
theorem dX1_goBackFrom_148 : decode cX1_goBackFrom 148 = .ok (.getfield 60, 3) := by decide +kernel
theorem dX1_goBackFrom_151 : decode cX1_goBackFrom 151 = .ok (.iload 6, 2) := by decide +kernel
theorem dX1_goBackFrom_153 : decode cX1_goBackFrom 153 = .ok (.iaload, 1) := by decide +kernel
theorem dX1_goBackFrom_154 : decode cX1_goBackFrom 154 = .ok (.iload 9, 2) := by decide +kernel
theorem dX1_goBackFrom_156 : decode cX1_goBackFrom 156 = .ok (.iload 7, 2) := by decide +kernel
theorem dX1_goBackFrom_158 : decode cX1_goBackFrom 158 = .ok (.invokevirtual 75, 3) := by decide +kernel
theorem dX1_goBackFrom_161 : decode cX1_goBackFrom 161 = .ok (.iinc 6 1, 3) := by decide +kernel
theorem dX1_goBackFrom_164 : decode cX1_goBackFrom 164 = .ok (.goto (-138), 3) := by decide +kernel
theorem dX1_goBackFrom_167 : decode cX1_goBackFrom 167 = .ok (.return_, 1) := by decide +kernel
theorem dX1_note_0 : decode cX1_note 0 = .ok (.iconst 0, 1) := by decide +kernel
theorem dX1_note_1 : decode cX1_note 1 = .ok (.istore 4, 2) := by decide +kernel
theorem dX1_note_3 : decode cX1_note 3 = .ok (.iload 4, 2) := by decide +kernel
theorem dX1_note_5 : decode cX1_note 5 = .ok (.bipush 12, 2) := by decide +kernel
theorem dX1_note_7 : decode cX1_note 7 = .ok (.if_icmp .ge 70, 3) := by decide +kernel
theorem dX1_note_10 : decode cX1_note 10 = .ok (.iload_n 1, 1) := by decide +kernel
theorem dX1_note_11 : decode cX1_note 11 = .ok (.iload 4, 2) := by decide +kernel
theorem dX1_note_13 : decode cX1_note 13 = .ok (.ishr, 1) := by decide +kernel
theorem dX1_note_14 : decode cX1_note 14 = .ok (.iconst 1, 1) := by decide +kernel
theorem dX1_note_15 : decode cX1_note 15 = .ok (.iand, 1) := by decide +kernel
theorem dX1_note_16 : decode cX1_note 16 = .ok (.iconst 1, 1) := by decide +kernel
theorem dX1_note_17 : decode cX1_note 17 = .ok (.if_icmp .ne 54, 3) := by decide +kernel
theorem dX1_note_20 : decode cX1_note 20 = .ok (.aload_n 0, 1) := by decide +kernel
theorem dX1_note_21 : decode cX1_note 21 = .ok (.getfield 9, 3) := by decide +kernel
theorem dX1_note_24 : decode cX1_note 24 = .ok (.iload 4, 2) := by decide +kernel
theorem dX1_note_26 : decode cX1_note 26 = .ok (.aload_n 0, 1) := by decide +kernel
theorem dX1_note_27 : decode cX1_note 27 = .ok (.getfield 9, 3) := by decide +kernel
theorem dX1_note_30 : decode cX1_note 30 = .ok (.iload 4, 2) := by decide +kernel
theorem dX1_note_32 : decode cX1_note 32 = .ok (.iaload, 1) := by decide +kernel
theorem dX1_note_33 : decode cX1_note 33 = .ok (.iconst (-1), 1) := by decide +kernel
theorem dX1_note_34 : decode cX1_note 34 = .ok (.if_icmp .ne 7, 3) := by decide +kernel
theorem dX1_note_37 : decode cX1_note 37 = .ok (.iload_n 2, 1) := by decide +kernel
theorem dX1_note_38 : decode cX1_note 38 = .ok (.goto 14, 3) := by decide +kernel
theorem dX1_note_41 : decode cX1_note 41 = .ok (.aload_n 0, 1) := by decide +kernel
theorem dX1_note_42 : decode cX1_note 42 = .ok (.getfield 9, 3) := by decide +kernel
theorem dX1_note_45 : decode cX1_note 45 = .ok (.iload 4, 2) := by decide +kernel
theorem dX1_note_47 : decode cX1_note 47 = .ok (.iaload, 1) := by decide +kernel
theorem dX1_note_48 : decode cX1_note 48 = .ok (.iload_n 2, 1) := by decide +kernel
theorem dX1_note_49 : decode cX1_note 49 = .ok (.invokestatic 66, 3) := by decide +kernel
theorem dX1_note_52 : decode cX1_note 52 = .ok (.iastore, 1) := by decide +kernel
theorem dX1_note_53 : decode cX1_note 53 = .ok (.aload_n 0, 1) := by decide +kernel
theorem dX1_note_54 : decode cX1_note 54 = .ok (.getfield 15, 3) := by decide +kernel
theorem dX1_note_57 : decode cX1_note 57 = .ok (.iload 4, 2) := by decide +kernel
theorem dX1_note_59 : decode cX1_note 59 = .ok (.aload_n 0, 1) := by decide +kernel
theorem dX1_note_60 : decode cX1_note 60 = .ok (.getfield 15, 3) := by decide +kernel
theorem dX1_note_63 : decode cX1_note 63 = .ok (.iload 4, 2) := by decide +kernel
theorem dX1_note_65 : decode cX1_note 65 = .ok (.iaload, 1) := by decide +kernel
theorem dX1_note_66 : decode cX1_note 66 = .ok (.iload_n 3, 1) := by decide +kernel
theorem dX1_note_67 : decode cX1_note 67 = .ok (.invokestatic 72, 3) := by decide +kernel
theorem dX1_note_70 : decode cX1_note 70 = .ok (.iastore, 1) := by decide +kernel
theorem dX1_note_71 : decode cX1_note 71 = .ok (.iinc 4 1, 3) := by decide +kernel
theorem dX1_note_74 : decode cX1_note 74 = .ok (.goto (-71), 3) := by decide +kernel
theorem dX1_note_77 : decode cX1_note 77 = .ok (.return_, 1) := by decide +kernel
set_option maxRecDepth 20000 in
theorem ggX1_findTold_X1_joined : GoodIn wsX1_findTold wsX1_joined := goodIn_r _ [8] (by decide +kernel) (by decide +kernel)
set_option maxRecDepth 20000 in
theorem gX1_findTold_X1_joined : GoodIn wsX1_findTold (va_wsS RX1 90 yX1_joined wsX1_joined) := goodIn_app (goodIn_of _ (by decide +kernel)) ggX1_findTold_X1_joined
theorem dX1_findTold_0 : decode cX1_findTold 0 = .ok (.aload_n 0, 1) := by decide +kernel
theorem dX1_findTold_1 : decode cX1_findTold 1 = .ok (.getfield 24, 3) := by decide +kernel
theorem dX1_findTold_4 : decode cX1_findTold 4 = .ok (.iconst 0, 1) := by decide +kernel
theorem dX1_findTold_5 : decode cX1_findTold 5 = .ok (.iconst (-1), 1) := by decide +kernel
theorem dX1_findTold_6 : decode cX1_findTold 6 = .ok (.iastore, 1) := by decide +kernel
theorem dX1_findTold_7 : decode cX1_findTold 7 = .ok (.iconst 0, 1) := by decide +kernel
theorem dX1_findTold_8 : decode cX1_findTold 8 = .ok (.istore_n 3, 1) := by decide +kernel
theorem dX1_findTold_9 : decode cX1_findTold 9 = .ok (.iload_n 3, 1) := by decide +kernel
theorem dX1_findTold_10 : decode cX1_findTold 10 = .ok (.aload_n 1, 1) := by decide +kernel
theorem dX1_findTold_11 : decode cX1_findTold 11 = .ok (.getfield 79, 3) := by decide +kernel
theorem dX1_findTold_14 : decode cX1_findTold 14 = .ok (.if_icmp .ge 62, 3) := by decide +kernel
theorem dX1_findTold_17 : decode cX1_findTold 17 = .ok (.aload_n 2, 1) := by decide +kernel
theorem dX1_findTold_18 : decode cX1_findTold 18 = .ok (.getfield 82, 3) := by decide +kernel
theorem dX1_findTold_21 : decode cX1_findTold 21 = .ok (.aload_n 1, 1) := by decide +kernel
theorem dX1_findTold_22 : decode cX1_findTold 22 = .ok (.getfield 87, 3) := by decide +kernel
theorem dX1_findTold_25 : decode cX1_findTold 25 = .ok (.iload_n 3, 1) := by decide +kernel
theorem dX1_findTold_26 : decode cX1_findTold 26 = .ok (.iaload, 1) := by decide +kernel
theorem dX1_findTold_27 : decode cX1_findTold 27 = .ok (.iaload, 1) := by decide +kernel
theorem dX1_findTold_28 : decode cX1_findTold 28 = .ok (.istore 4, 2) := by decide +kernel
theorem dX1_findTold_30 : decode cX1_findTold 30 = .ok (.iconst 0, 1) := by decide +kernel
theorem dX1_findTold_31 : decode cX1_findTold 31 = .ok (.istore 5, 2) := by decide +kernel
theorem dX1_findTold_33 : decode cX1_findTold 33 = .ok (.iload 5, 2) := by decide +kernel
theorem dX1_findTold_35 : decode cX1_findTold 35 = .ok (.iconst 1, 1) := by decide +kernel
theorem dX1_findTold_36 : decode cX1_findTold 36 = .ok (.iload_n 3, 1) := by decide +kernel
theorem dX1_findTold_37 : decode cX1_findTold 37 = .ok (.ishl, 1) := by decide +kernel
theorem dX1_findTold_38 : decode cX1_findTold 38 = .ok (.if_icmp .ge 32, 3) := by decide +kernel
theorem dX1_findTold_41 : decode cX1_findTold 41 = .ok (.aload_n 0, 1) := by decide +kernel
theorem dX1_findTold_42 : decode cX1_findTold 42 = .ok (.getfield 24, 3) := by decide +kernel
theorem dX1_findTold_45 : decode cX1_findTold 45 = .ok (.iload 5, 2) := by decide +kernel
theorem dX1_findTold_47 : decode cX1_findTold 47 = .ok (.iconst 1, 1) := by decide +kernel
theorem dX1_findTold_48 : decode cX1_findTold 48 = .ok (.iload_n 3, 1) := by decide +kernel
theorem dX1_findTold_49 : decode cX1_findTold 49 = .ok (.ishl, 1) := by decide +kernel
theorem dX1_findTold_50 : decode cX1_findTold 50 = .ok (.ior, 1) := by decide +kernel
theorem dX1_findTold_51 : decode cX1_findTold 51 = .ok (.aload_n 0, 1) := by decide +kernel
theorem dX1_findTold_52 : decode cX1_findTold 52 = .ok (.getfield 24, 3) := by decide +kernel
theorem dX1_findTold_55 : decode cX1_findTold 55 = .ok (.iload 5, 2) := by decide +kernel
theorem dX1_findTold_57 : decode cX1_findTold 57 = .ok (.iaload, 1) := by decide +kernel
theorem dX1_findTold_58 : decode cX1_findTold 58 = .ok (.iload 4, 2) := by decide +kernel
theorem dX1_findTold_60 : decode cX1_findTold 60 = .ok (.invokestatic 90, 3) := by decide +kernel
theorem dX1_findTold_63 : decode cX1_findTold 63 = .ok (.iastore, 1) := by decide +kernel
theorem dX1_findTold_64 : decode cX1_findTold 64 = .ok (.iinc 5 1, 3) := by decide +kernel
theorem dX1_findTold_67 : decode cX1_findTold 67 = .ok (.goto (-34), 3) := by decide +kernel
theorem dX1_findTold_70 : decode cX1_findTold 70 = .ok (.iinc 3 1, 3) := by decide +kernel
theorem dX1_findTold_73 : decode cX1_findTold 73 = .ok (.goto (-64), 3) := by decide +kernel
theorem dX1_findTold_76 : decode cX1_findTold 76 = .ok (.return_, 1) := by decide +kernel
theorem dX1_joined_0 : decode cX1_joined 0 = .ok (.iload_n 0, 1) := by decide +kernel
theorem dX1_joined_1 : decode cX1_joined 1 = .ok (.iconst (-1), 1) := by decide +kernel
theorem dX1_joined_2 : decode cX1_joined 2 = .ok (.if_icmp .eq 8, 3) := by decide +kernel
theorem dX1_joined_5 : decode cX1_joined 5 = .ok (.iload_n 0, 1) := by decide +kernel
theorem dX1_joined_6 : decode cX1_joined 6 = .ok (.iload_n 1, 1) := by decide +kernel
theorem dX1_joined_7 : decode cX1_joined 7 = .ok (.if_icmp .ne 5, 3) := by decide +kernel
theorem dX1_joined_10 : decode cX1_joined 10 = .ok (.iload_n 1, 1) := by decide +kernel
theorem dX1_joined_11 : decode cX1_joined 11 = .ok (.ireturn, 1) := by decide +kernel
theorem dX1_joined_12 : decode cX1_joined 12 = .ok (.iload_n 1, 1) := by decide +kernel
theorem dX1_joined_13 : decode cX1_joined 13 = .ok (.iconst (-1), 1) := by decide +kernel
theorem dX1_joined_14 : decode cX1_joined 14 = .ok (.if_icmp .ne 7, 3) := by decide +kernel
theorem dX1_joined_17 : decode cX1_joined 17 = .ok (.iload_n 0, 1) := by decide +kernel
theorem dX1_joined_18 : decode cX1_joined 18 = .ok (.goto 5, 3) := by decide +kernel
theorem dX1_joined_21 : decode cX1_joined 21 = .ok (.bipush 100, 2) := by decide +kernel
theorem dX1_joined_23 : decode cX1_joined 23 = .ok (.ireturn, 1) := by decide +kernel
theorem dX2_init_0 : decode cX2_init 0 = .ok (.aload_n 0, 1) := by decide +kernel
theorem dX2_init_1 : decode cX2_init 1 = .ok (.invokespecial 3, 3) := by decide +kernel
theorem dX2_init_4 : decode cX2_init 4 = .ok (.aload_n 0, 1) := by decide +kernel
theorem dX2_init_5 : decode cX2_init 5 = .ok (.bipush 48, 2) := by decide +kernel
theorem dX2_init_7 : decode cX2_init 7 = .ok (.newarray .int, 2) := by decide +kernel
theorem dX2_init_9 : decode cX2_init 9 = .ok (.putfield 11, 3) := by decide +kernel
theorem dX2_init_12 : decode cX2_init 12 = .ok (.aload_n 0, 1) := by decide +kernel
theorem dX2_init_13 : decode cX2_init 13 = .ok (.bipush 48, 2) := by decide +kernel
theorem dX2_init_15 : decode cX2_init 15 = .ok (.newarray .int, 2) := by decide +kernel
theorem dX2_init_17 : decode cX2_init 17 = .ok (.putfield 15, 3) := by decide +kernel
theorem dX2_init_20 : decode cX2_init 20 = .ok (.aload_n 0, 1) := by decide +kernel
theorem dX2_init_21 : decode cX2_init 21 = .ok (.bipush 48, 2) := by decide +kernel
theorem dX2_init_23 : decode cX2_init 23 = .ok (.newarray .boolean, 2) := by decide +kernel
theorem dX2_init_25 : decode cX2_init 25 = .ok (.putfield 18, 3) := by decide +kernel
theorem dX2_init_28 : decode cX2_init 28 = .ok (.aload_n 0, 1) := by decide +kernel
theorem dX2_init_29 : decode cX2_init 29 = .ok (.bipush 48, 2) := by decide +kernel
theorem dX2_init_31 : decode cX2_init 31 = .ok (.newarray .int, 2) := by decide +kernel
theorem dX2_init_33 : decode cX2_init 33 = .ok (.putfield 22, 3) := by decide +kernel
theorem dX2_init_36 : decode cX2_init 36 = .ok (.aload_n 0, 1) := by decide +kernel
theorem dX2_init_37 : decode cX2_init 37 = .ok (.bipush 48, 2) := by decide +kernel
theorem dX2_init_39 : decode cX2_init 39 = .ok (.newarray .int, 2) := by decide +kernel
theorem dX2_init_41 : decode cX2_init 41 = .ok (.putfield 25, 3) := by decide +kernel
theorem dX2_init_44 : decode cX2_init 44 = .ok (.aload_n 0, 1) := by decide +kernel
theorem dX2_init_45 : decode cX2_init 45 = .ok (.bipush 48, 2) := by decide +kernel
theorem dX2_init_47 : decode cX2_init 47 = .ok (.newarray .int, 2) := by decide +kernel
theorem dX2_init_49 : decode cX2_init 49 = .ok (.putfield 28, 3) := by decide +kernel
theorem dX2_init_52 : decode cX2_init 52 = .ok (.aload_n 0, 1) := by decide +kernel
theorem dX2_init_53 : decode cX2_init 53 = .ok (.bipush 48, 2) := by decide +kernel
theorem dX2_init_55 : decode cX2_init 55 = .ok (.newarray .int, 2) := by decide +kernel
theorem dX2_init_57 : decode cX2_init 57 = .ok (.putfield 31, 3) := by decide +kernel
theorem dX2_init_60 : decode cX2_init 60 = .ok (.aload_n 0, 1) := by decide +kernel
theorem dX2_init_61 : decode cX2_init 61 = .ok (.bipush 12, 2) := by decide +kernel
theorem dX2_init_63 : decode cX2_init 63 = .ok (.newarray .int, 2) := by decide +kernel
theorem dX2_init_65 : decode cX2_init 65 = .ok (.putfield 34, 3) := by decide +kernel
theorem dX2_init_68 : decode cX2_init 68 = .ok (.return_, 1) := by decide +kernel
set_option maxRecDepth 20000 in
theorem ggX2_take_X2_ahead : GoodIn wsX2_take wsX2_ahead := goodIn_r _ [14, 15, 16, 17, 13, 18, 1, 19, 20, 21, 22, 42, 43, 44, 45, 46, 47, 48, 49, 50, 51, 52, 53] (by decide +kernel) (by decide +kernel)
set_option maxRecDepth 20000 in
theorem gX2_take_X2_ahead : GoodIn wsX2_take (wsV RX2 49 RX2 yX2_ahead wsX2_ahead) := goodIn_app (goodIn_of _ (by decide +kernel)) ggX2_take_X2_ahead
set_option maxRecDepth 20000 in
theorem ggX2_take_X2_apart : GoodIn wsX2_take wsX2_apart := goodIn_r _ [26, 2, 27, 28, 29, 42, 43, 44, 45, 46, 47, 48, 49, 50, 51, 52, 53] (by decide +kernel) (by decide +kernel)
set_option maxRecDepth 20000 in
theorem gX2_take_X2_apart : GoodIn wsX2_take (wsV RX2 56 RX2 yX2_apart wsX2_apart) := goodIn_app (goodIn_of _ (by decide +kernel)) ggX2_take_X2_apart
set_option maxRecDepth 20000 in
theorem ggX2_take_X2_takeSaying : GoodIn wsX2_take wsX2_takeSaying := goodIn_r _ [33, 10, 11, 12, 13, 14, 15, 16, 17, 18, 1, 19, 20, 21, 22, 34, 35, 36, 37, 38, 39, 40, 41, 23, 24, 25, 26, 2, 27, 28, 29, 42, 43, 44, 45, 46, 47, 48, 49, 50, 51, 52, 53] (by decide +kernel) (by decide +kernel)
set_option maxRecDepth 20000 in
theorem gX2_take_X2_takeSaying : GoodIn wsX2_take (wsV RX2 71 RX2 yX2_takeSaying wsX2_takeSaying) := goodIn_app (goodIn_of _ (by decide +kernel)) ggX2_take_X2_takeSaying
theorem dX2_take_0 : decode cX2_take 0 = .ok (.aload_n 0, 1) := by decide +kernel
theorem dX2_take_1 : decode cX2_take 1 = .ok (.iconst 0, 1) := by decide +kernel
theorem dX2_take_2 : decode cX2_take 2 = .ok (.putfield 37, 3) := by decide +kernel
theorem dX2_take_5 : decode cX2_take 5 = .ok (.aload_n 0, 1) := by decide +kernel
theorem dX2_take_6 : decode cX2_take 6 = .ok (.iconst 0, 1) := by decide +kernel
theorem dX2_take_7 : decode cX2_take 7 = .ok (.putfield 41, 3) := by decide +kernel
theorem dX2_take_10 : decode cX2_take 10 = .ok (.iconst 0, 1) := by decide +kernel
theorem dX2_take_11 : decode cX2_take 11 = .ok (.istore_n 2, 1) := by decide +kernel
theorem dX2_take_12 : decode cX2_take 12 = .ok (.iload_n 2, 1) := by decide +kernel
theorem dX2_take_13 : decode cX2_take 13 = .ok (.aload_n 1, 1) := by decide +kernel
theorem dX2_take_14 : decode cX2_take 14 = .ok (.getfield 44, 3) := by decide +kernel
theorem dX2_take_17 : decode cX2_take 17 = .ok (.if_icmp .ge 71, 3) := by decide +kernel
theorem dX2_take_20 : decode cX2_take 20 = .ok (.aload_n 0, 1) := by decide +kernel
theorem dX2_take_21 : decode cX2_take 21 = .ok (.iconst 2, 1) := by decide +kernel
theorem dX2_take_22 : decode cX2_take 22 = .ok (.iload_n 2, 1) := by decide +kernel
theorem dX2_take_23 : decode cX2_take 23 = .ok (.imul, 1) := by decide +kernel
theorem dX2_take_24 : decode cX2_take 24 = .ok (.iconst 2, 1) := by decide +kernel
theorem dX2_take_25 : decode cX2_take 25 = .ok (.iload_n 2, 1) := by decide +kernel
theorem dX2_take_26 : decode cX2_take 26 = .ok (.imul, 1) := by decide +kernel
theorem dX2_take_27 : decode cX2_take 27 = .ok (.iconst 1, 1) := by decide +kernel
theorem dX2_take_28 : decode cX2_take 28 = .ok (.iadd, 1) := by decide +kernel
theorem dX2_take_29 : decode cX2_take 29 = .ok (.sipush 256, 3) := by decide +kernel
theorem dX2_take_32 : decode cX2_take 32 = .ok (.invokevirtual 49, 3) := by decide +kernel
theorem dX2_take_35 : decode cX2_take 35 = .ok (.iconst 0, 1) := by decide +kernel
theorem dX2_take_36 : decode cX2_take 36 = .ok (.istore_n 3, 1) := by decide +kernel
theorem dX2_take_37 : decode cX2_take 37 = .ok (.iload_n 3, 1) := by decide +kernel
theorem dX2_take_38 : decode cX2_take 38 = .ok (.iload_n 2, 1) := by decide +kernel
theorem dX2_take_39 : decode cX2_take 39 = .ok (.if_icmp .ge 43, 3) := by decide +kernel
theorem dX2_take_42 : decode cX2_take 42 = .ok (.aload_n 1, 1) := by decide +kernel
theorem dX2_take_43 : decode cX2_take 43 = .ok (.getfield 53, 3) := by decide +kernel
theorem dX2_take_46 : decode cX2_take 46 = .ok (.iload_n 2, 1) := by decide +kernel
theorem dX2_take_47 : decode cX2_take 47 = .ok (.iaload, 1) := by decide +kernel
theorem dX2_take_48 : decode cX2_take 48 = .ok (.iconst (-1), 1) := by decide +kernel
theorem dX2_take_49 : decode cX2_take 49 = .ok (.if_icmp .eq 27, 3) := by decide +kernel
theorem dX2_take_52 : decode cX2_take 52 = .ok (.aload_n 1, 1) := by decide +kernel
theorem dX2_take_53 : decode cX2_take 53 = .ok (.getfield 53, 3) := by decide +kernel
theorem dX2_take_56 : decode cX2_take 56 = .ok (.iload_n 2, 1) := by decide +kernel
theorem dX2_take_57 : decode cX2_take 57 = .ok (.iaload, 1) := by decide +kernel
theorem dX2_take_58 : decode cX2_take 58 = .ok (.aload_n 1, 1) := by decide +kernel
theorem dX2_take_59 : decode cX2_take 59 = .ok (.getfield 53, 3) := by decide +kernel
theorem dX2_take_62 : decode cX2_take 62 = .ok (.iload_n 3, 1) := by decide +kernel
theorem dX2_take_63 : decode cX2_take 63 = .ok (.iaload, 1) := by decide +kernel
theorem dX2_take_64 : decode cX2_take 64 = .ok (.if_icmp .ne 12, 3) := by decide +kernel
theorem dX2_take_67 : decode cX2_take 67 = .ok (.aload_n 0, 1) := by decide +kernel
theorem dX2_take_68 : decode cX2_take 68 = .ok (.iload_n 2, 1) := by decide +kernel
theorem dX2_take_69 : decode cX2_take 69 = .ok (.iload_n 3, 1) := by decide +kernel
theorem dX2_take_70 : decode cX2_take 70 = .ok (.sipush 256, 3) := by decide +kernel
theorem dX2_take_73 : decode cX2_take 73 = .ok (.invokevirtual 56, 3) := by decide +kernel
theorem dX2_take_76 : decode cX2_take 76 = .ok (.iinc 3 1, 3) := by decide +kernel
theorem dX2_take_79 : decode cX2_take 79 = .ok (.goto (-42), 3) := by decide +kernel
theorem dX2_take_82 : decode cX2_take 82 = .ok (.iinc 2 1, 3) := by decide +kernel
theorem dX2_take_85 : decode cX2_take 85 = .ok (.goto (-73), 3) := by decide +kernel
theorem dX2_take_88 : decode cX2_take 88 = .ok (.iconst 0, 1) := by decide +kernel
theorem dX2_take_89 : decode cX2_take 89 = .ok (.istore_n 2, 1) := by decide +kernel
theorem dX2_take_90 : decode cX2_take 90 = .ok (.iload_n 2, 1) := by decide +kernel
theorem dX2_take_91 : decode cX2_take 91 = .ok (.aload_n 1, 1) := by decide +kernel
theorem dX2_take_92 : decode cX2_take 92 = .ok (.getfield 59, 3) := by decide +kernel
theorem dX2_take_95 : decode cX2_take 95 = .ok (.if_icmp .ge 34, 3) := by decide +kernel
theorem dX2_take_98 : decode cX2_take 98 = .ok (.aload_n 0, 1) := by decide +kernel
theorem dX2_take_99 : decode cX2_take 99 = .ok (.aload_n 1, 1) := by decide +kernel
theorem dX2_take_100 : decode cX2_take 100 = .ok (.getfield 62, 3) := by decide +kernel
theorem dX2_take_103 : decode cX2_take 103 = .ok (.iload_n 2, 1) := by decide +kernel
theorem dX2_take_104 : decode cX2_take 104 = .ok (.iaload, 1) := by decide +kernel
theorem dX2_take_105 : decode cX2_take 105 = .ok (.aload_n 1, 1) := by decide +kernel
theorem dX2_take_106 : decode cX2_take 106 = .ok (.getfield 65, 3) := by decide +kernel
theorem dX2_take_109 : decode cX2_take 109 = .ok (.iload_n 2, 1) := by decide +kernel
theorem dX2_take_110 : decode cX2_take 110 = .ok (.iaload, 1) := by decide +kernel
theorem dX2_take_111 : decode cX2_take 111 = .ok (.aload_n 1, 1) := by decide +kernel
theorem dX2_take_112 : decode cX2_take 112 = .ok (.getfield 68, 3) := by decide +kernel
theorem dX2_take_115 : decode cX2_take 115 = .ok (.iload_n 2, 1) := by decide +kernel
theorem dX2_take_116 : decode cX2_take 116 = .ok (.iaload, 1) := by decide +kernel
theorem dX2_take_117 : decode cX2_take 117 = .ok (.iconst 1, 1) := by decide +kernel
theorem dX2_take_118 : decode cX2_take 118 = .ok (.iload_n 2, 1) := by decide +kernel
theorem dX2_take_119 : decode cX2_take 119 = .ok (.ishl, 1) := by decide +kernel
theorem dX2_take_120 : decode cX2_take 120 = .ok (.invokevirtual 71, 3) := by decide +kernel
theorem dX2_take_123 : decode cX2_take 123 = .ok (.iinc 2 1, 3) := by decide +kernel
theorem dX2_take_126 : decode cX2_take 126 = .ok (.goto (-36), 3) := by decide +kernel
theorem dX2_take_129 : decode cX2_take 129 = .ok (.aload_n 0, 1) := by decide +kernel
theorem dX2_take_130 : decode cX2_take 130 = .ok (.aload_n 0, 1) := by decide +kernel
theorem dX2_take_131 : decode cX2_take 131 = .ok (.getfield 37, 3) := by decide +kernel
theorem dX2_take_134 : decode cX2_take 134 = .ok (.putfield 75, 3) := by decide +kernel
theorem dX2_take_137 : decode cX2_take 137 = .ok (.return_, 1) := by decide +kernel
set_option maxRecDepth 20000 in
theorem ggX2_takeSaying_X2_ahead : GoodIn wsX2_takeSaying wsX2_ahead := goodIn_r _ [5, 6, 7, 8, 4, 9, 10, 11, 12, 13, 14, 31, 32, 33, 34, 35, 36, 37, 38, 39, 40, 41, 42] (by decide +kernel) (by decide +kernel)
set_option maxRecDepth 20000 in
theorem gX2_takeSaying_X2_ahead : GoodIn wsX2_takeSaying (wsV RX2 49 RX2 yX2_ahead wsX2_ahead) := goodIn_app (goodIn_of _ (by decide +kernel)) ggX2_takeSaying_X2_ahead
set_option maxRecDepth 20000 in
theorem ggX2_takeSaying_X2_alike : GoodIn wsX2_takeSaying wsX2_alike := goodIn_r _ [18, 6, 7, 8, 4, 9, 10, 11, 12, 13, 14, 31, 32, 33, 34, 35, 36, 37, 38, 39, 40, 41, 42] (by decide +kernel) (by decide +kernel)
set_option maxRecDepth 20000 in
theorem gX2_takeSaying_X2_alike : GoodIn wsX2_takeSaying (wsV RX2 78 RX2 yX2_alike wsX2_alike) := goodIn_app (goodIn_of _ (by decide +kernel)) ggX2_takeSaying_X2_alike
set_option maxRecDepth 20000 in
theorem ggX2_takeSaying_X2_noLater : GoodIn wsX2_takeSaying wsX2_noLater := goodIn_r _ [22, 6, 7, 8, 4, 9, 10, 11, 12, 13, 14, 31, 32, 33, 34, 35, 36, 37, 38, 39, 40, 41, 42] (by decide +kernel) (by decide +kernel)
set_option maxRecDepth 20000 in
theorem gX2_takeSaying_X2_noLater : GoodIn wsX2_takeSaying (wsV RX2 81 RX2 yX2_noLater wsX2_noLater) := goodIn_app (goodIn_of _ (by decide +kernel)) ggX2_takeSaying_X2_noLater
set_option maxRecDepth 20000 in
theorem ggX2_takeSaying_X2_apart : GoodIn wsX2_takeSaying wsX2_apart := goodIn_r _ [26, 27, 28, 29, 30, 31, 32, 33, 34, 35, 36, 37, 38, 39, 40, 41, 42] (by decide +kernel) (by decide +kernel)
set_option maxRecDepth 20000 in
theorem gX2_takeSaying_X2_apart : GoodIn wsX2_takeSaying (wsV RX2 56 RX2 yX2_apart wsX2_apart) := goodIn_app (goodIn_of _ (by decide +kernel)) ggX2_takeSaying_X2_apart
theorem dX2_takeSaying_0 : decode cX2_takeSaying 0 = .ok (.iconst 2, 1) := by decide +kernel
theorem dX2_takeSaying_1 : decode cX2_takeSaying 1 = .ok (.iload_n 2, 1) := by decide +kernel
theorem dX2_takeSaying_2 : decode cX2_takeSaying 2 = .ok (.imul, 1) := by decide +kernel
theorem dX2_takeSaying_3 : decode cX2_takeSaying 3 = .ok (.istore 5, 2) := by decide +kernel
theorem dX2_takeSaying_5 : decode cX2_takeSaying 5 = .ok (.iconst 2, 1) := by decide +kernel
theorem dX2_takeSaying_6 : decode cX2_takeSaying 6 = .ok (.iload_n 2, 1) := by decide +kernel
theorem dX2_takeSaying_7 : decode cX2_takeSaying 7 = .ok (.imul, 1) := by decide +kernel
theorem dX2_takeSaying_8 : decode cX2_takeSaying 8 = .ok (.iconst 1, 1) := by decide +kernel
theorem dX2_takeSaying_9 : decode cX2_takeSaying 9 = .ok (.iadd, 1) := by decide +kernel
theorem dX2_takeSaying_10 : decode cX2_takeSaying 10 = .ok (.istore 6, 2) := by decide +kernel
theorem dX2_takeSaying_12 : decode cX2_takeSaying 12 = .ok (.iconst 2, 1) := by decide +kernel
theorem dX2_takeSaying_13 : decode cX2_takeSaying 13 = .ok (.iload_n 3, 1) := by decide +kernel
theorem dX2_takeSaying_14 : decode cX2_takeSaying 14 = .ok (.imul, 1) := by decide +kernel
theorem dX2_takeSaying_15 : decode cX2_takeSaying 15 = .ok (.istore 7, 2) := by decide +kernel
theorem dX2_takeSaying_17 : decode cX2_takeSaying 17 = .ok (.iconst 2, 1) := by decide +kernel
theorem dX2_takeSaying_18 : decode cX2_takeSaying 18 = .ok (.iload_n 3, 1) := by decide +kernel
theorem dX2_takeSaying_19 : decode cX2_takeSaying 19 = .ok (.imul, 1) := by decide +kernel
theorem dX2_takeSaying_20 : decode cX2_takeSaying 20 = .ok (.iconst 1, 1) := by decide +kernel
theorem dX2_takeSaying_21 : decode cX2_takeSaying 21 = .ok (.iadd, 1) := by decide +kernel
theorem dX2_takeSaying_22 : decode cX2_takeSaying 22 = .ok (.istore 8, 2) := by decide +kernel
theorem dX2_takeSaying_24 : decode cX2_takeSaying 24 = .ok (.iload_n 1, 1) := by decide +kernel
theorem dX2_takeSaying_25 : decode cX2_takeSaying 25 = .ok (.tableswitch 172 0 6 #[43, 56, 69, 92, 115, 138, 161], 43) := by decide +kernel
theorem dX2_takeSaying_68 : decode cX2_takeSaying 68 = .ok (.aload_n 0, 1) := by decide +kernel
theorem dX2_takeSaying_69 : decode cX2_takeSaying 69 = .ok (.iload 6, 2) := by decide +kernel
theorem dX2_takeSaying_71 : decode cX2_takeSaying 71 = .ok (.iload 7, 2) := by decide +kernel
theorem dX2_takeSaying_73 : decode cX2_takeSaying 73 = .ok (.iload 4, 2) := by decide +kernel
theorem dX2_takeSaying_75 : decode cX2_takeSaying 75 = .ok (.invokevirtual 49, 3) := by decide +kernel
theorem dX2_takeSaying_78 : decode cX2_takeSaying 78 = .ok (.goto 149, 3) := by decide +kernel
theorem dX2_takeSaying_81 : decode cX2_takeSaying 81 = .ok (.aload_n 0, 1) := by decide +kernel
theorem dX2_takeSaying_82 : decode cX2_takeSaying 82 = .ok (.iload 6, 2) := by decide +kernel
theorem dX2_takeSaying_84 : decode cX2_takeSaying 84 = .ok (.iload 7, 2) := by decide +kernel
theorem dX2_takeSaying_86 : decode cX2_takeSaying 86 = .ok (.iload 4, 2) := by decide +kernel
theorem dX2_takeSaying_88 : decode cX2_takeSaying 88 = .ok (.invokevirtual 78, 3) := by decide +kernel
theorem dX2_takeSaying_91 : decode cX2_takeSaying 91 = .ok (.goto 136, 3) := by decide +kernel
theorem dX2_takeSaying_94 : decode cX2_takeSaying 94 = .ok (.aload_n 0, 1) := by decide +kernel
theorem dX2_takeSaying_95 : decode cX2_takeSaying 95 = .ok (.iload 7, 2) := by decide +kernel
theorem dX2_takeSaying_97 : decode cX2_takeSaying 97 = .ok (.iload 5, 2) := by decide +kernel
theorem dX2_takeSaying_99 : decode cX2_takeSaying 99 = .ok (.iload 4, 2) := by decide +kernel
theorem dX2_takeSaying_101 : decode cX2_takeSaying 101 = .ok (.invokevirtual 81, 3) := by decide +kernel
theorem dX2_takeSaying_104 : decode cX2_takeSaying 104 = .ok (.aload_n 0, 1) := by decide +kernel
theorem dX2_takeSaying_105 : decode cX2_takeSaying 105 = .ok (.iload 6, 2) := by decide +kernel
theorem dX2_takeSaying_107 : decode cX2_takeSaying 107 = .ok (.iload 8, 2) := by decide +kernel
theorem dX2_takeSaying_109 : decode cX2_takeSaying 109 = .ok (.iload 4, 2) := by decide +kernel
theorem dX2_takeSaying_111 : decode cX2_takeSaying 111 = .ok (.invokevirtual 81, 3) := by decide +kernel
theorem dX2_takeSaying_114 : decode cX2_takeSaying 114 = .ok (.goto 113, 3) := by decide +kernel
theorem dX2_takeSaying_117 : decode cX2_takeSaying 117 = .ok (.aload_n 0, 1) := by decide +kernel
theorem dX2_takeSaying_118 : decode cX2_takeSaying 118 = .ok (.iload 7, 2) := by decide +kernel
theorem dX2_takeSaying_120 : decode cX2_takeSaying 120 = .ok (.iload 5, 2) := by decide +kernel
theorem dX2_takeSaying_122 : decode cX2_takeSaying 122 = .ok (.iload 4, 2) := by decide +kernel
theorem dX2_takeSaying_124 : decode cX2_takeSaying 124 = .ok (.invokevirtual 49, 3) := by decide +kernel
theorem dX2_takeSaying_127 : decode cX2_takeSaying 127 = .ok (.aload_n 0, 1) := by decide +kernel
theorem dX2_takeSaying_128 : decode cX2_takeSaying 128 = .ok (.iload 6, 2) := by decide +kernel
theorem dX2_takeSaying_130 : decode cX2_takeSaying 130 = .ok (.iload 8, 2) := by decide +kernel
theorem dX2_takeSaying_132 : decode cX2_takeSaying 132 = .ok (.iload 4, 2) := by decide +kernel
theorem dX2_takeSaying_134 : decode cX2_takeSaying 134 = .ok (.invokevirtual 49, 3) := by decide +kernel
theorem dX2_takeSaying_137 : decode cX2_takeSaying 137 = .ok (.goto 90, 3) := by decide +kernel
theorem dX2_takeSaying_140 : decode cX2_takeSaying 140 = .ok (.aload_n 0, 1) := by decide +kernel
theorem dX2_takeSaying_141 : decode cX2_takeSaying 141 = .ok (.iload 5, 2) := by decide +kernel
theorem dX2_takeSaying_143 : decode cX2_takeSaying 143 = .ok (.iload 7, 2) := by decide +kernel
theorem dX2_takeSaying_145 : decode cX2_takeSaying 145 = .ok (.iload 4, 2) := by decide +kernel
theorem dX2_takeSaying_147 : decode cX2_takeSaying 147 = .ok (.invokevirtual 78, 3) := by decide +kernel
theorem dX2_takeSaying_150 : decode cX2_takeSaying 150 = .ok (.aload_n 0, 1) := by decide +kernel
theorem dX2_takeSaying_151 : decode cX2_takeSaying 151 = .ok (.iload 6, 2) := by decide +kernel
theorem dX2_takeSaying_153 : decode cX2_takeSaying 153 = .ok (.iload 8, 2) := by decide +kernel
theorem dX2_takeSaying_155 : decode cX2_takeSaying 155 = .ok (.iload 4, 2) := by decide +kernel
theorem dX2_takeSaying_157 : decode cX2_takeSaying 157 = .ok (.invokevirtual 81, 3) := by decide +kernel
theorem dX2_takeSaying_160 : decode cX2_takeSaying 160 = .ok (.goto 67, 3) := by decide +kernel
theorem dX2_takeSaying_163 : decode cX2_takeSaying 163 = .ok (.aload_n 0, 1) := by decide +kernel
theorem dX2_takeSaying_164 : decode cX2_takeSaying 164 = .ok (.iload 6, 2) := by decide +kernel
theorem dX2_takeSaying_166 : decode cX2_takeSaying 166 = .ok (.iload 8, 2) := by decide +kernel
theorem dX2_takeSaying_168 : decode cX2_takeSaying 168 = .ok (.iload 4, 2) := by decide +kernel
theorem dX2_takeSaying_170 : decode cX2_takeSaying 170 = .ok (.invokevirtual 78, 3) := by decide +kernel
theorem dX2_takeSaying_173 : decode cX2_takeSaying 173 = .ok (.aload_n 0, 1) := by decide +kernel
theorem dX2_takeSaying_174 : decode cX2_takeSaying 174 = .ok (.iload 7, 2) := by decide +kernel
theorem dX2_takeSaying_176 : decode cX2_takeSaying 176 = .ok (.iload 5, 2) := by decide +kernel
theorem dX2_takeSaying_178 : decode cX2_takeSaying 178 = .ok (.iload 4, 2) := by decide +kernel
theorem dX2_takeSaying_180 : decode cX2_takeSaying 180 = .ok (.invokevirtual 81, 3) := by decide +kernel
theorem dX2_takeSaying_183 : decode cX2_takeSaying 183 = .ok (.goto 44, 3) := by decide +kernel
theorem dX2_takeSaying_186 : decode cX2_takeSaying 186 = .ok (.aload_n 0, 1) := by decide +kernel
theorem dX2_takeSaying_187 : decode cX2_takeSaying 187 = .ok (.iload_n 2, 1) := by decide +kernel
theorem dX2_takeSaying_188 : decode cX2_takeSaying 188 = .ok (.iload_n 3, 1) := by decide +kernel
theorem dX2_takeSaying_189 : decode cX2_takeSaying 189 = .ok (.iload 4, 2) := by decide +kernel
theorem dX2_takeSaying_191 : decode cX2_takeSaying 191 = .ok (.invokevirtual 56, 3) := by decide +kernel
theorem dX2_takeSaying_194 : decode cX2_takeSaying 194 = .ok (.goto 33, 3) := by decide +kernel
theorem dX2_takeSaying_197 : decode cX2_takeSaying 197 = .ok (.aload_n 0, 1) := by decide +kernel
theorem dX2_takeSaying_198 : decode cX2_takeSaying 198 = .ok (.iload 5, 2) := by decide +kernel
theorem dX2_takeSaying_200 : decode cX2_takeSaying 200 = .ok (.iload 7, 2) := by decide +kernel
theorem dX2_takeSaying_202 : decode cX2_takeSaying 202 = .ok (.iload 4, 2) := by decide +kernel
theorem dX2_takeSaying_204 : decode cX2_takeSaying 204 = .ok (.invokevirtual 49, 3) := by decide +kernel
theorem dX2_takeSaying_207 : decode cX2_takeSaying 207 = .ok (.aload_n 0, 1) := by decide +kernel
theorem dX2_takeSaying_208 : decode cX2_takeSaying 208 = .ok (.iload 7, 2) := by decide +kernel
theorem dX2_takeSaying_210 : decode cX2_takeSaying 210 = .ok (.iload 6, 2) := by decide +kernel
theorem dX2_takeSaying_212 : decode cX2_takeSaying 212 = .ok (.iload 4, 2) := by decide +kernel
theorem dX2_takeSaying_214 : decode cX2_takeSaying 214 = .ok (.invokevirtual 49, 3) := by decide +kernel
theorem dX2_takeSaying_217 : decode cX2_takeSaying 217 = .ok (.aload_n 0, 1) := by decide +kernel
theorem dX2_takeSaying_218 : decode cX2_takeSaying 218 = .ok (.iload 6, 2) := by decide +kernel
theorem dX2_takeSaying_220 : decode cX2_takeSaying 220 = .ok (.iload 8, 2) := by decide +kernel
theorem dX2_takeSaying_222 : decode cX2_takeSaying 222 = .ok (.iload 4, 2) := by decide +kernel
theorem dX2_takeSaying_224 : decode cX2_takeSaying 224 = .ok (.invokevirtual 49, 3) := by decide +kernel
theorem dX2_takeSaying_227 : decode cX2_takeSaying 227 = .ok (.return_, 1) := by decide +kernel
set_option maxRecDepth 20000 in
theorem ggX2_takePair_X2_alike : GoodIn wsX2_takePair wsX2_alike := goodIn_r _ [5, 6, 7, 8, 4, 9, 10, 11, 12, 13, 14, 15, 16, 17, 18, 19, 20, 21, 22, 23, 24, 25, 26] (by decide +kernel) (by decide +kernel)
set_option maxRecDepth 20000 in
theorem gX2_takePair_X2_alike : GoodIn wsX2_takePair (wsV RX2 78 RX2 yX2_alike wsX2_alike) := goodIn_app (goodIn_of _ (by decide +kernel)) ggX2_takePair_X2_alike
theorem dX2_takePair_0 : decode cX2_takePair 0 = .ok (.aload_n 0, 1) := by decide +kernel
theorem dX2_takePair_1 : decode cX2_takePair 1 = .ok (.iconst 2, 1) := by decide +kernel
theorem dX2_takePair_2 : decode cX2_takePair 2 = .ok (.iload_n 1, 1) := by decide +kernel
theorem dX2_takePair_3 : decode cX2_takePair 3 = .ok (.imul, 1) := by decide +kernel
theorem dX2_takePair_4 : decode cX2_takePair 4 = .ok (.iconst 2, 1) := by decide +kernel
theorem dX2_takePair_5 : decode cX2_takePair 5 = .ok (.iload_n 2, 1) := by decide +kernel
theorem dX2_takePair_6 : decode cX2_takePair 6 = .ok (.imul, 1) := by decide +kernel
theorem dX2_takePair_7 : decode cX2_takePair 7 = .ok (.sipush 256, 3) := by decide +kernel
theorem dX2_takePair_10 : decode cX2_takePair 10 = .ok (.invokevirtual 78, 3) := by decide +kernel
theorem dX2_takePair_13 : decode cX2_takePair 13 = .ok (.aload_n 0, 1) := by decide +kernel
theorem dX2_takePair_14 : decode cX2_takePair 14 = .ok (.iconst 2, 1) := by decide +kernel
theorem dX2_takePair_15 : decode cX2_takePair 15 = .ok (.iload_n 1, 1) := by decide +kernel
theorem dX2_takePair_16 : decode cX2_takePair 16 = .ok (.imul, 1) := by decide +kernel
theorem dX2_takePair_17 : decode cX2_takePair 17 = .ok (.iconst 1, 1) := by decide +kernel
theorem dX2_takePair_18 : decode cX2_takePair 18 = .ok (.iadd, 1) := by decide +kernel
theorem dX2_takePair_19 : decode cX2_takePair 19 = .ok (.iconst 2, 1) := by decide +kernel
theorem dX2_takePair_20 : decode cX2_takePair 20 = .ok (.iload_n 2, 1) := by decide +kernel
theorem dX2_takePair_21 : decode cX2_takePair 21 = .ok (.imul, 1) := by decide +kernel
theorem dX2_takePair_22 : decode cX2_takePair 22 = .ok (.iconst 1, 1) := by decide +kernel
theorem dX2_takePair_23 : decode cX2_takePair 23 = .ok (.iadd, 1) := by decide +kernel
theorem dX2_takePair_24 : decode cX2_takePair 24 = .ok (.sipush 256, 3) := by decide +kernel
theorem dX2_takePair_27 : decode cX2_takePair 27 = .ok (.invokevirtual 78, 3) := by decide +kernel
theorem dX2_takePair_30 : decode cX2_takePair 30 = .ok (.return_, 1) := by decide +kernel
theorem dX2_dropPairs_0 : decode cX2_dropPairs 0 = .ok (.aload_n 0, 1) := by decide +kernel
theorem dX2_dropPairs_1 : decode cX2_dropPairs 1 = .ok (.aload_n 0, 1) := by decide +kernel
theorem dX2_dropPairs_2 : decode cX2_dropPairs 2 = .ok (.getfield 75, 3) := by decide +kernel
theorem dX2_dropPairs_5 : decode cX2_dropPairs 5 = .ok (.putfield 37, 3) := by decide +kernel
theorem dX2_dropPairs_8 : decode cX2_dropPairs 8 = .ok (.return_, 1) := by decide +kernel
set_option maxRecDepth 20000 in
theorem ggX2_ahead_X2_add : GoodIn wsX2_ahead wsX2_add := goodIn_r _ [5, 6, 7, 8, 9, 10, 11, 12, 13, 14, 15, 16, 17, 18, 19, 20, 21, 22] (by decide +kernel) (by decide +kernel)
set_option maxRecDepth 20000 in
theorem gX2_ahead_X2_add : GoodIn wsX2_ahead (wsV RX2 84 RX2 yX2_add wsX2_add) := goodIn_app (goodIn_of _ (by decide +kernel)) ggX2_ahead_X2_add
theorem dX2_ahead_0 : decode cX2_ahead 0 = .ok (.aload_n 0, 1) := by decide +kernel
theorem dX2_ahead_1 : decode cX2_ahead 1 = .ok (.iload_n 1, 1) := by decide +kernel
theorem dX2_ahead_2 : decode cX2_ahead 2 = .ok (.iload_n 2, 1) := by decide +kernel
theorem dX2_ahead_3 : decode cX2_ahead 3 = .ok (.iconst 1, 1) := by decide +kernel
theorem dX2_ahead_4 : decode cX2_ahead 4 = .ok (.iload_n 3, 1) := by decide +kernel
theorem dX2_ahead_5 : decode cX2_ahead 5 = .ok (.invokevirtual 84, 3) := by decide +kernel
theorem dX2_ahead_8 : decode cX2_ahead 8 = .ok (.return_, 1) := by decide +kernel
set_option maxRecDepth 20000 in
theorem ggX2_noLater_X2_add : GoodIn wsX2_noLater wsX2_add := goodIn_r _ [5, 6, 7, 8, 9, 10, 11, 12, 13, 14, 15, 16, 17, 18, 19, 20, 21, 22] (by decide +kernel) (by decide +kernel)
set_option maxRecDepth 20000 in
theorem gX2_noLater_X2_add : GoodIn wsX2_noLater (wsV RX2 84 RX2 yX2_add wsX2_add) := goodIn_app (goodIn_of _ (by decide +kernel)) ggX2_noLater_X2_add
theorem dX2_noLater_0 : decode cX2_noLater 0 = .ok (.aload_n 0, 1) := by decide +kernel
theorem dX2_noLater_1 : decode cX2_noLater 1 = .ok (.iload_n 1, 1) := by decide +kernel
theorem dX2_noLater_2 : decode cX2_noLater 2 = .ok (.iload_n 2, 1) := by decide +kernel
theorem dX2_noLater_3 : decode cX2_noLater 3 = .ok (.iconst 0, 1) := by decide +kernel
theorem dX2_noLater_4 : decode cX2_noLater 4 = .ok (.iload_n 3, 1) := by decide +kernel
theorem dX2_noLater_5 : decode cX2_noLater 5 = .ok (.invokevirtual 84, 3) := by decide +kernel
theorem dX2_noLater_8 : decode cX2_noLater 8 = .ok (.return_, 1) := by decide +kernel
set_option maxRecDepth 20000 in
theorem ggX2_alike_X2_add : GoodIn wsX2_alike wsX2_add := goodIn_r _ [5, 6, 7, 8, 9, 10, 11, 12, 13, 14, 15, 16, 17, 18, 19, 20, 21, 22] (by decide +kernel) (by decide +kernel)
set_option maxRecDepth 20000 in
theorem gX2_alike_X2_add : GoodIn wsX2_alike (wsV RX2 84 RX2 yX2_add wsX2_add) := goodIn_app (goodIn_of _ (by decide +kernel)) ggX2_alike_X2_add
theorem dX2_alike_0 : decode cX2_alike 0 = .ok (.aload_n 0, 1) := by decide +kernel
theorem dX2_alike_1 : decode cX2_alike 1 = .ok (.iload_n 1, 1) := by decide +kernel
theorem dX2_alike_2 : decode cX2_alike 2 = .ok (.iload_n 2, 1) := by decide +kernel
theorem dX2_alike_3 : decode cX2_alike 3 = .ok (.iconst 0, 1) := by decide +kernel
theorem dX2_alike_4 : decode cX2_alike 4 = .ok (.iload_n 3, 1) := by decide +kernel
theorem dX2_alike_5 : decode cX2_alike 5 = .ok (.invokevirtual 84, 3) := by decide +kernel
theorem dX2_alike_8 : decode cX2_alike 8 = .ok (.aload_n 0, 1) := by decide +kernel
theorem dX2_alike_9 : decode cX2_alike 9 = .ok (.iload_n 2, 1) := by decide +kernel
theorem dX2_alike_10 : decode cX2_alike 10 = .ok (.iload_n 1, 1) := by decide +kernel
theorem dX2_alike_11 : decode cX2_alike 11 = .ok (.iconst 0, 1) := by decide +kernel
theorem dX2_alike_12 : decode cX2_alike 12 = .ok (.iload_n 3, 1) := by decide +kernel
theorem dX2_alike_13 : decode cX2_alike 13 = .ok (.invokevirtual 84, 3) := by decide +kernel
theorem dX2_alike_16 : decode cX2_alike 16 = .ok (.return_, 1) := by decide +kernel
theorem dX2_add_0 : decode cX2_add 0 = .ok (.aload_n 0, 1) := by decide +kernel
theorem dX2_add_1 : decode cX2_add 1 = .ok (.getfield 37, 3) := by decide +kernel
theorem dX2_add_4 : decode cX2_add 4 = .ok (.bipush 48, 2) := by decide +kernel
theorem dX2_add_6 : decode cX2_add 6 = .ok (.if_icmp .lt 4, 3) := by decide +kernel
theorem dX2_add_9 : decode cX2_add 9 = .ok (.return_, 1) := by decide +kernel
theorem dX2_add_10 : decode cX2_add 10 = .ok (.aload_n 0, 1) := by decide +kernel
theorem dX2_add_11 : decode cX2_add 11 = .ok (.getfield 11, 3) := by decide +kernel
theorem dX2_add_14 : decode cX2_add 14 = .ok (.aload_n 0, 1) := by decide +kernel
theorem dX2_add_15 : decode cX2_add 15 = .ok (.getfield 37, 3) := by decide +kernel
theorem dX2_add_18 : decode cX2_add 18 = .ok (.iload_n 1, 1) := by decide +kernel
theorem dX2_add_19 : decode cX2_add 19 = .ok (.iastore, 1) := by decide +kernel
theorem dX2_add_20 : decode cX2_add 20 = .ok (.aload_n 0, 1) := by decide +kernel
theorem dX2_add_21 : decode cX2_add 21 = .ok (.getfield 15, 3) := by decide +kernel
theorem dX2_add_24 : decode cX2_add 24 = .ok (.aload_n 0, 1) := by decide +kernel
theorem dX2_add_25 : decode cX2_add 25 = .ok (.getfield 37, 3) := by decide +kernel
theorem dX2_add_28 : decode cX2_add 28 = .ok (.iload_n 2, 1) := by decide +kernel
theorem dX2_add_29 : decode cX2_add 29 = .ok (.iastore, 1) := by decide +kernel
theorem dX2_add_30 : decode cX2_add 30 = .ok (.aload_n 0, 1) := by decide +kernel
theorem dX2_add_31 : decode cX2_add 31 = .ok (.getfield 18, 3) := by decide +kernel
theorem dX2_add_34 : decode cX2_add 34 = .ok (.aload_n 0, 1) := by decide +kernel
theorem dX2_add_35 : decode cX2_add 35 = .ok (.getfield 37, 3) := by decide +kernel
theorem dX2_add_38 : decode cX2_add 38 = .ok (.iload_n 3, 1) := by decide +kernel
theorem dX2_add_39 : decode cX2_add 39 = .ok (.bastore, 1) := by decide +kernel
theorem dX2_add_40 : decode cX2_add 40 = .ok (.aload_n 0, 1) := by decide +kernel
theorem dX2_add_41 : decode cX2_add 41 = .ok (.getfield 22, 3) := by decide +kernel
theorem dX2_add_44 : decode cX2_add 44 = .ok (.aload_n 0, 1) := by decide +kernel
theorem dX2_add_45 : decode cX2_add 45 = .ok (.getfield 37, 3) := by decide +kernel
theorem dX2_add_48 : decode cX2_add 48 = .ok (.iload 4, 2) := by decide +kernel
theorem dX2_add_50 : decode cX2_add 50 = .ok (.iastore, 1) := by decide +kernel
theorem dX2_add_51 : decode cX2_add 51 = .ok (.aload_n 0, 1) := by decide +kernel
theorem dX2_add_52 : decode cX2_add 52 = .ok (.dup, 1) := by decide +kernel
theorem dX2_add_53 : decode cX2_add 53 = .ok (.getfield 37, 3) := by decide +kernel
theorem dX2_add_56 : decode cX2_add 56 = .ok (.iconst 1, 1) := by decide +kernel
theorem dX2_add_57 : decode cX2_add 57 = .ok (.iadd, 1) := by decide +kernel
theorem dX2_add_58 : decode cX2_add 58 = .ok (.putfield 37, 3) := by decide +kernel
theorem dX2_add_61 : decode cX2_add 61 = .ok (.return_, 1) := by decide +kernel
theorem dX2_apart_0 : decode cX2_apart 0 = .ok (.aload_n 0, 1) := by decide +kernel
theorem dX2_apart_1 : decode cX2_apart 1 = .ok (.getfield 41, 3) := by decide +kernel
theorem dX2_apart_4 : decode cX2_apart 4 = .ok (.bipush 48, 2) := by decide +kernel
theorem dX2_apart_6 : decode cX2_apart 6 = .ok (.if_icmp .lt 4, 3) := by decide +kernel
theorem dX2_apart_9 : decode cX2_apart 9 = .ok (.return_, 1) := by decide +kernel
theorem dX2_apart_10 : decode cX2_apart 10 = .ok (.aload_n 0, 1) := by decide +kernel
theorem dX2_apart_11 : decode cX2_apart 11 = .ok (.getfield 25, 3) := by decide +kernel
theorem dX2_apart_14 : decode cX2_apart 14 = .ok (.aload_n 0, 1) := by decide +kernel
theorem dX2_apart_15 : decode cX2_apart 15 = .ok (.getfield 41, 3) := by decide +kernel
theorem dX2_apart_18 : decode cX2_apart 18 = .ok (.iload_n 1, 1) := by decide +kernel
theorem dX2_apart_19 : decode cX2_apart 19 = .ok (.iastore, 1) := by decide +kernel
theorem dX2_apart_20 : decode cX2_apart 20 = .ok (.aload_n 0, 1) := by decide +kernel
theorem dX2_apart_21 : decode cX2_apart 21 = .ok (.getfield 28, 3) := by decide +kernel
theorem dX2_apart_24 : decode cX2_apart 24 = .ok (.aload_n 0, 1) := by decide +kernel
theorem dX2_apart_25 : decode cX2_apart 25 = .ok (.getfield 41, 3) := by decide +kernel
theorem dX2_apart_28 : decode cX2_apart 28 = .ok (.iload_n 2, 1) := by decide +kernel
theorem dX2_apart_29 : decode cX2_apart 29 = .ok (.iastore, 1) := by decide +kernel
theorem dX2_apart_30 : decode cX2_apart 30 = .ok (.aload_n 0, 1) := by decide +kernel
theorem dX2_apart_31 : decode cX2_apart 31 = .ok (.getfield 31, 3) := by decide +kernel
theorem dX2_apart_34 : decode cX2_apart 34 = .ok (.aload_n 0, 1) := by decide +kernel
theorem dX2_apart_35 : decode cX2_apart 35 = .ok (.getfield 41, 3) := by decide +kernel
theorem dX2_apart_38 : decode cX2_apart 38 = .ok (.iload_n 3, 1) := by decide +kernel
theorem dX2_apart_39 : decode cX2_apart 39 = .ok (.iastore, 1) := by decide +kernel
theorem dX2_apart_40 : decode cX2_apart 40 = .ok (.aload_n 0, 1) := by decide +kernel
theorem dX2_apart_41 : decode cX2_apart 41 = .ok (.dup, 1) := by decide +kernel
theorem dX2_apart_42 : decode cX2_apart 42 = .ok (.getfield 41, 3) := by decide +kernel
theorem dX2_apart_45 : decode cX2_apart 45 = .ok (.iconst 1, 1) := by decide +kernel
theorem dX2_apart_46 : decode cX2_apart 46 = .ok (.iadd, 1) := by decide +kernel
theorem dX2_apart_47 : decode cX2_apart 47 = .ok (.putfield 41, 3) := by decide +kernel
theorem dX2_apart_50 : decode cX2_apart 50 = .ok (.return_, 1) := by decide +kernel
set_option maxRecDepth 20000 in
theorem ggX2_weigh_X2_lasts : GoodIn wsX2_weigh wsX2_lasts := goodIn_r _ [15] (by decide +kernel) (by decide +kernel)
set_option maxRecDepth 20000 in
theorem gX2_weigh_X2_lasts : GoodIn wsX2_weigh (va_wsS RX2 91 yX2_lasts wsX2_lasts) := goodIn_app (goodIn_of _ (by decide +kernel)) ggX2_weigh_X2_lasts
theorem dX2_weigh_0 : decode cX2_weigh 0 = .ok (.aload_n 0, 1) := by decide +kernel
theorem dX2_weigh_1 : decode cX2_weigh 1 = .ok (.iconst 0, 1) := by decide +kernel
theorem dX2_weigh_2 : decode cX2_weigh 2 = .ok (.putfield 88, 3) := by decide +kernel
theorem dX2_weigh_5 : decode cX2_weigh 5 = .ok (.iconst 0, 1) := by decide +kernel
theorem dX2_weigh_6 : decode cX2_weigh 6 = .ok (.istore_n 2, 1) := by decide +kernel
theorem dX2_weigh_7 : decode cX2_weigh 7 = .ok (.iload_n 2, 1) := by decide +kernel
theorem dX2_weigh_8 : decode cX2_weigh 8 = .ok (.bipush 12, 2) := by decide +kernel
theorem dX2_weigh_10 : decode cX2_weigh 10 = .ok (.if_icmp .ge 16, 3) := by decide +kernel
theorem dX2_weigh_13 : decode cX2_weigh 13 = .ok (.aload_n 0, 1) := by decide +kernel
theorem dX2_weigh_14 : decode cX2_weigh 14 = .ok (.getfield 34, 3) := by decide +kernel
theorem dX2_weigh_17 : decode cX2_weigh 17 = .ok (.iload_n 2, 1) := by decide +kernel
theorem dX2_weigh_18 : decode cX2_weigh 18 = .ok (.iconst 0, 1) := by decide +kernel
theorem dX2_weigh_19 : decode cX2_weigh 19 = .ok (.iastore, 1) := by decide +kernel
theorem dX2_weigh_20 : decode cX2_weigh 20 = .ok (.iinc 2 1, 3) := by decide +kernel
theorem dX2_weigh_23 : decode cX2_weigh 23 = .ok (.goto (-16), 3) := by decide +kernel
theorem dX2_weigh_26 : decode cX2_weigh 26 = .ok (.iconst 0, 1) := by decide +kernel
theorem dX2_weigh_27 : decode cX2_weigh 27 = .ok (.istore_n 2, 1) := by decide +kernel
theorem dX2_weigh_28 : decode cX2_weigh 28 = .ok (.iload_n 2, 1) := by decide +kernel
theorem dX2_weigh_29 : decode cX2_weigh 29 = .ok (.aload_n 0, 1) := by decide +kernel
theorem dX2_weigh_30 : decode cX2_weigh 30 = .ok (.getfield 37, 3) := by decide +kernel
theorem dX2_weigh_33 : decode cX2_weigh 33 = .ok (.if_icmp .ge 85, 3) := by decide +kernel
theorem dX2_weigh_36 : decode cX2_weigh 36 = .ok (.iload_n 1, 1) := by decide +kernel
theorem dX2_weigh_37 : decode cX2_weigh 37 = .ok (.aload_n 0, 1) := by decide +kernel
theorem dX2_weigh_38 : decode cX2_weigh 38 = .ok (.getfield 15, 3) := by decide +kernel
theorem dX2_weigh_41 : decode cX2_weigh 41 = .ok (.iload_n 2, 1) := by decide +kernel
theorem dX2_weigh_42 : decode cX2_weigh 42 = .ok (.iaload, 1) := by decide +kernel
theorem dX2_weigh_43 : decode cX2_weigh 43 = .ok (.ishr, 1) := by decide +kernel
theorem dX2_weigh_44 : decode cX2_weigh 44 = .ok (.iconst 1, 1) := by decide +kernel
theorem dX2_weigh_45 : decode cX2_weigh 45 = .ok (.iand, 1) := by decide +kernel
theorem dX2_weigh_46 : decode cX2_weigh 46 = .ok (.ifCond .ne 6, 3) := by decide +kernel
theorem dX2_weigh_49 : decode cX2_weigh 49 = .ok (.goto 63, 3) := by decide +kernel
theorem dX2_weigh_52 : decode cX2_weigh 52 = .ok (.iload_n 1, 1) := by decide +kernel
theorem dX2_weigh_53 : decode cX2_weigh 53 = .ok (.aload_n 0, 1) := by decide +kernel
theorem dX2_weigh_54 : decode cX2_weigh 54 = .ok (.getfield 11, 3) := by decide +kernel
theorem dX2_weigh_57 : decode cX2_weigh 57 = .ok (.iload_n 2, 1) := by decide +kernel
theorem dX2_weigh_58 : decode cX2_weigh 58 = .ok (.iaload, 1) := by decide +kernel
theorem dX2_weigh_59 : decode cX2_weigh 59 = .ok (.ishr, 1) := by decide +kernel
theorem dX2_weigh_60 : decode cX2_weigh 60 = .ok (.iconst 1, 1) := by decide +kernel
theorem dX2_weigh_61 : decode cX2_weigh 61 = .ok (.iand, 1) := by decide +kernel
theorem dX2_weigh_62 : decode cX2_weigh 62 = .ok (.ifCond .ne 21, 3) := by decide +kernel
theorem dX2_weigh_65 : decode cX2_weigh 65 = .ok (.aload_n 0, 1) := by decide +kernel
theorem dX2_weigh_66 : decode cX2_weigh 66 = .ok (.dup, 1) := by decide +kernel
theorem dX2_weigh_67 : decode cX2_weigh 67 = .ok (.getfield 88, 3) := by decide +kernel
theorem dX2_weigh_70 : decode cX2_weigh 70 = .ok (.aload_n 0, 1) := by decide +kernel
theorem dX2_weigh_71 : decode cX2_weigh 71 = .ok (.getfield 22, 3) := by decide +kernel
theorem dX2_weigh_74 : decode cX2_weigh 74 = .ok (.iload_n 2, 1) := by decide +kernel
theorem dX2_weigh_75 : decode cX2_weigh 75 = .ok (.iaload, 1) := by decide +kernel
theorem dX2_weigh_76 : decode cX2_weigh 76 = .ok (.ior, 1) := by decide +kernel
theorem dX2_weigh_77 : decode cX2_weigh 77 = .ok (.putfield 88, 3) := by decide +kernel
theorem dX2_weigh_80 : decode cX2_weigh 80 = .ok (.goto 32, 3) := by decide +kernel
theorem dX2_weigh_83 : decode cX2_weigh 83 = .ok (.aload_n 0, 1) := by decide +kernel
theorem dX2_weigh_84 : decode cX2_weigh 84 = .ok (.getfield 18, 3) := by decide +kernel
theorem dX2_weigh_87 : decode cX2_weigh 87 = .ok (.iload_n 2, 1) := by decide +kernel
theorem dX2_weigh_88 : decode cX2_weigh 88 = .ok (.baload, 1) := by decide +kernel
theorem dX2_weigh_89 : decode cX2_weigh 89 = .ok (.ifCond .eq 23, 3) := by decide +kernel
theorem dX2_weigh_92 : decode cX2_weigh 92 = .ok (.aload_n 0, 1) := by decide +kernel
theorem dX2_weigh_93 : decode cX2_weigh 93 = .ok (.getfield 34, 3) := by decide +kernel
theorem dX2_weigh_96 : decode cX2_weigh 96 = .ok (.aload_n 0, 1) := by decide +kernel
theorem dX2_weigh_97 : decode cX2_weigh 97 = .ok (.getfield 11, 3) := by decide +kernel
theorem dX2_weigh_100 : decode cX2_weigh 100 = .ok (.iload_n 2, 1) := by decide +kernel
theorem dX2_weigh_101 : decode cX2_weigh 101 = .ok (.iaload, 1) := by decide +kernel
theorem dX2_weigh_102 : decode cX2_weigh 102 = .ok (.dup2, 1) := by decide +kernel
theorem dX2_weigh_103 : decode cX2_weigh 103 = .ok (.iaload, 1) := by decide +kernel
theorem dX2_weigh_104 : decode cX2_weigh 104 = .ok (.aload_n 0, 1) := by decide +kernel
theorem dX2_weigh_105 : decode cX2_weigh 105 = .ok (.getfield 22, 3) := by decide +kernel
theorem dX2_weigh_108 : decode cX2_weigh 108 = .ok (.iload_n 2, 1) := by decide +kernel
theorem dX2_weigh_109 : decode cX2_weigh 109 = .ok (.iaload, 1) := by decide +kernel
theorem dX2_weigh_110 : decode cX2_weigh 110 = .ok (.ior, 1) := by decide +kernel
theorem dX2_weigh_111 : decode cX2_weigh 111 = .ok (.iastore, 1) := by decide +kernel
theorem dX2_weigh_112 : decode cX2_weigh 112 = .ok (.iinc 2 1, 3) := by decide +kernel
theorem dX2_weigh_115 : decode cX2_weigh 115 = .ok (.goto (-87), 3) := by decide +kernel
theorem dX2_weigh_118 : decode cX2_weigh 118 = .ok (.iconst 0, 1) := by decide +kernel
theorem dX2_weigh_119 : decode cX2_weigh 119 = .ok (.istore_n 2, 1) := by decide +kernel
theorem dX2_weigh_120 : decode cX2_weigh 120 = .ok (.iload_n 2, 1) := by decide +kernel
theorem dX2_weigh_121 : decode cX2_weigh 121 = .ok (.aload_n 0, 1) := by decide +kernel
theorem dX2_weigh_122 : decode cX2_weigh 122 = .ok (.getfield 41, 3) := by decide +kernel
theorem dX2_weigh_125 : decode cX2_weigh 125 = .ok (.if_icmp .ge 50, 3) := by decide +kernel
theorem dX2_weigh_128 : decode cX2_weigh 128 = .ok (.iload_n 1, 1) := by decide +kernel
theorem dX2_weigh_129 : decode cX2_weigh 129 = .ok (.aload_n 0, 1) := by decide +kernel
theorem dX2_weigh_130 : decode cX2_weigh 130 = .ok (.getfield 25, 3) := by decide +kernel
theorem dX2_weigh_133 : decode cX2_weigh 133 = .ok (.iload_n 2, 1) := by decide +kernel
theorem dX2_weigh_134 : decode cX2_weigh 134 = .ok (.iaload, 1) := by decide +kernel
theorem dX2_weigh_135 : decode cX2_weigh 135 = .ok (.invokestatic 91, 3) := by decide +kernel
theorem dX2_weigh_138 : decode cX2_weigh 138 = .ok (.ifCond .eq 31, 3) := by decide +kernel
theorem dX2_weigh_141 : decode cX2_weigh 141 = .ok (.iload_n 1, 1) := by decide +kernel
theorem dX2_weigh_142 : decode cX2_weigh 142 = .ok (.aload_n 0, 1) := by decide +kernel
theorem dX2_weigh_143 : decode cX2_weigh 143 = .ok (.getfield 28, 3) := by decide +kernel
theorem dX2_weigh_146 : decode cX2_weigh 146 = .ok (.iload_n 2, 1) := by decide +kernel
theorem dX2_weigh_147 : decode cX2_weigh 147 = .ok (.iaload, 1) := by decide +kernel
theorem dX2_weigh_148 : decode cX2_weigh 148 = .ok (.invokestatic 91, 3) := by decide +kernel
theorem dX2_weigh_151 : decode cX2_weigh 151 = .ok (.ifCond .eq 18, 3) := by decide +kernel
theorem dX2_weigh_154 : decode cX2_weigh 154 = .ok (.aload_n 0, 1) := by decide +kernel
theorem dX2_weigh_155 : decode cX2_weigh 155 = .ok (.dup, 1) := by decide +kernel
theorem dX2_weigh_156 : decode cX2_weigh 156 = .ok (.getfield 88, 3) := by decide +kernel
theorem dX2_weigh_159 : decode cX2_weigh 159 = .ok (.aload_n 0, 1) := by decide +kernel
theorem dX2_weigh_160 : decode cX2_weigh 160 = .ok (.getfield 31, 3) := by decide +kernel
theorem dX2_weigh_163 : decode cX2_weigh 163 = .ok (.iload_n 2, 1) := by decide +kernel
theorem dX2_weigh_164 : decode cX2_weigh 164 = .ok (.iaload, 1) := by decide +kernel
theorem dX2_weigh_165 : decode cX2_weigh 165 = .ok (.ior, 1) := by decide +kernel
theorem dX2_weigh_166 : decode cX2_weigh 166 = .ok (.putfield 88, 3) := by decide +kernel
theorem dX2_weigh_169 : decode cX2_weigh 169 = .ok (.iinc 2 1, 3) := by decide +kernel
theorem dX2_weigh_172 : decode cX2_weigh 172 = .ok (.goto (-52), 3) := by decide +kernel
theorem dX2_weigh_175 : decode cX2_weigh 175 = .ok (.return_, 1) := by decide +kernel
theorem dX2_lasts_0 : decode cX2_lasts 0 = .ok (.iload_n 0, 1) := by decide +kernel
theorem dX2_lasts_1 : decode cX2_lasts 1 = .ok (.iconst 2, 1) := by decide +kernel
theorem dX2_lasts_2 : decode cX2_lasts 2 = .ok (.iload_n 1, 1) := by decide +kernel
theorem dX2_lasts_3 : decode cX2_lasts 3 = .ok (.imul, 1) := by decide +kernel
theorem dX2_lasts_4 : decode cX2_lasts 4 = .ok (.ishr, 1) := by decide +kernel
theorem dX2_lasts_5 : decode cX2_lasts 5 = .ok (.iconst 3, 1) := by decide +kernel
theorem dX2_lasts_6 : decode cX2_lasts 6 = .ok (.iand, 1) := by decide +kernel
theorem dX2_lasts_7 : decode cX2_lasts 7 = .ok (.iconst 1, 1) := by decide +kernel
theorem dX2_lasts_8 : decode cX2_lasts 8 = .ok (.if_icmp .ne 7, 3) := by decide +kernel
theorem dX2_lasts_11 : decode cX2_lasts 11 = .ok (.iconst 1, 1) := by decide +kernel
theorem dX2_lasts_12 : decode cX2_lasts 12 = .ok (.goto 4, 3) := by decide +kernel
theorem dX2_lasts_15 : decode cX2_lasts 15 = .ok (.iconst 0, 1) := by decide +kernel
theorem dX2_lasts_16 : decode cX2_lasts 16 = .ok (.ireturn, 1) := by decide +kernel
theorem dX2_looseIn_0 : decode cX2_looseIn 0 = .ok (.iconst 0, 1) := by decide +kernel
theorem dX2_looseIn_1 : decode cX2_looseIn 1 = .ok (.istore_n 3, 1) := by decide +kernel
theorem dX2_looseIn_2 : decode cX2_looseIn 2 = .ok (.iconst 0, 1) := by decide +kernel
theorem dX2_looseIn_3 : decode cX2_looseIn 3 = .ok (.istore 4, 2) := by decide +kernel
theorem dX2_looseIn_5 : decode cX2_looseIn 5 = .ok (.iload 4, 2) := by decide +kernel
theorem dX2_looseIn_7 : decode cX2_looseIn 7 = .ok (.bipush 12, 2) := by decide +kernel
theorem dX2_looseIn_9 : decode cX2_looseIn 9 = .ok (.if_icmp .ge 38, 3) := by decide +kernel
theorem dX2_looseIn_12 : decode cX2_looseIn 12 = .ok (.iload_n 1, 1) := by decide +kernel
theorem dX2_looseIn_13 : decode cX2_looseIn 13 = .ok (.iload 4, 2) := by decide +kernel
theorem dX2_looseIn_15 : decode cX2_looseIn 15 = .ok (.ishr, 1) := by decide +kernel
theorem dX2_looseIn_16 : decode cX2_looseIn 16 = .ok (.iconst 1, 1) := by decide +kernel
theorem dX2_looseIn_17 : decode cX2_looseIn 17 = .ok (.iand, 1) := by decide +kernel
theorem dX2_looseIn_18 : decode cX2_looseIn 18 = .ok (.iconst 1, 1) := by decide +kernel
theorem dX2_looseIn_19 : decode cX2_looseIn 19 = .ok (.if_icmp .ne 22, 3) := by decide +kernel
theorem dX2_looseIn_22 : decode cX2_looseIn 22 = .ok (.aload_n 0, 1) := by decide +kernel
theorem dX2_looseIn_23 : decode cX2_looseIn 23 = .ok (.getfield 34, 3) := by decide +kernel
theorem dX2_looseIn_26 : decode cX2_looseIn 26 = .ok (.iload 4, 2) := by decide +kernel
theorem dX2_looseIn_28 : decode cX2_looseIn 28 = .ok (.iaload, 1) := by decide +kernel
theorem dX2_looseIn_29 : decode cX2_looseIn 29 = .ok (.iload_n 2, 1) := by decide +kernel
theorem dX2_looseIn_30 : decode cX2_looseIn 30 = .ok (.iand, 1) := by decide +kernel
theorem dX2_looseIn_31 : decode cX2_looseIn 31 = .ok (.ifCond .ne 10, 3) := by decide +kernel
theorem dX2_looseIn_34 : decode cX2_looseIn 34 = .ok (.iload_n 3, 1) := by decide +kernel
theorem dX2_looseIn_35 : decode cX2_looseIn 35 = .ok (.iconst 1, 1) := by decide +kernel
theorem dX2_looseIn_36 : decode cX2_looseIn 36 = .ok (.iload 4, 2) := by decide +kernel
theorem dX2_looseIn_38 : decode cX2_looseIn 38 = .ok (.ishl, 1) := by decide +kernel
theorem dX2_looseIn_39 : decode cX2_looseIn 39 = .ok (.ior, 1) := by decide +kernel
theorem dX2_looseIn_40 : decode cX2_looseIn 40 = .ok (.istore_n 3, 1) := by decide +kernel
theorem dX2_looseIn_41 : decode cX2_looseIn 41 = .ok (.iinc 4 1, 3) := by decide +kernel
theorem dX2_looseIn_44 : decode cX2_looseIn 44 = .ok (.goto (-39), 3) := by decide +kernel
theorem dX2_looseIn_47 : decode cX2_looseIn 47 = .ok (.iload_n 3, 1) := by decide +kernel
theorem dX2_looseIn_48 : decode cX2_looseIn 48 = .ok (.ireturn, 1) := by decide +kernel
theorem dX3_init_0 : decode cX3_init 0 = .ok (.aload_n 0, 1) := by decide +kernel
theorem dX3_init_1 : decode cX3_init 1 = .ok (.invokespecial 3, 3) := by decide +kernel
theorem dX3_init_4 : decode cX3_init 4 = .ok (.aload_n 0, 1) := by decide +kernel
theorem dX3_init_5 : decode cX3_init 5 = .ok (.bipush 12, 2) := by decide +kernel
theorem dX3_init_7 : decode cX3_init 7 = .ok (.newarray .int, 2) := by decide +kernel
theorem dX3_init_9 : decode cX3_init 9 = .ok (.putfield 9, 3) := by decide +kernel
theorem dX3_init_12 : decode cX3_init 12 = .ok (.aload_n 0, 1) := by decide +kernel
theorem dX3_init_13 : decode cX3_init 13 = .ok (.sipush 144, 3) := by decide +kernel
theorem dX3_init_16 : decode cX3_init 16 = .ok (.newarray .long, 2) := by decide +kernel
theorem dX3_init_18 : decode cX3_init 18 = .ok (.putfield 15, 3) := by decide +kernel
theorem dX3_init_21 : decode cX3_init 21 = .ok (.aload_n 0, 1) := by decide +kernel
theorem dX3_init_22 : decode cX3_init 22 = .ok (.sipush 144, 3) := by decide +kernel
theorem dX3_init_25 : decode cX3_init 25 = .ok (.newarray .long, 2) := by decide +kernel
theorem dX3_init_27 : decode cX3_init 27 = .ok (.putfield 19, 3) := by decide +kernel
theorem dX3_init_30 : decode cX3_init 30 = .ok (.aload_n 0, 1) := by decide +kernel
theorem dX3_init_31 : decode cX3_init 31 = .ok (.sipush 729, 3) := by decide +kernel
theorem dX3_init_34 : decode cX3_init 34 = .ok (.newarray .long, 2) := by decide +kernel
theorem dX3_init_36 : decode cX3_init 36 = .ok (.putfield 22, 3) := by decide +kernel
theorem dX3_init_39 : decode cX3_init 39 = .ok (.aload_n 0, 1) := by decide +kernel
theorem dX3_init_40 : decode cX3_init 40 = .ok (.bipush 64, 2) := by decide +kernel
theorem dX3_init_42 : decode cX3_init 42 = .ok (.newarray .long, 2) := by decide +kernel
theorem dX3_init_44 : decode cX3_init 44 = .ok (.putfield 25, 3) := by decide +kernel
theorem dX3_init_47 : decode cX3_init 47 = .ok (.return_, 1) := by decide +kernel
set_option maxRecDepth 20000 in
theorem ggX3_weigh_X9_allWays : GoodIn wsX3_weigh wsX9_allWays := goodIn_r _ [11, 12, 13, 62, 63, 64] (by decide +kernel) (by decide +kernel)
set_option maxRecDepth 20000 in
theorem gX3_weigh_X9_allWays : GoodIn wsX3_weigh (wsV RX3 28 RX9 yX9_allWays wsX9_allWays) := goodIn_app (goodIn_of _ (by decide +kernel)) ggX3_weigh_X9_allWays
set_option maxRecDepth 20000 in
theorem ggX3_weigh_X3_weighStepsTo : GoodIn wsX3_weigh wsX3_weighStepsTo := goodIn_r _ [18, 6, 19, 20, 21, 5, 22, 23, 24, 25, 26, 27, 28, 29, 30, 31, 32, 33, 34, 35, 36, 37, 38, 39, 62, 63, 64, 55, 56, 57, 58, 59, 60, 61, 65, 66, 67, 68] (by decide +kernel) (by decide +kernel)
set_option maxRecDepth 20000 in
theorem gX3_weigh_X3_weighStepsTo : GoodIn wsX3_weigh (wsV RX3 45 RX3 yX3_weighStepsTo wsX3_weighStepsTo) := goodIn_app (goodIn_of _ (by decide +kernel)) ggX3_weigh_X3_weighStepsTo
set_option maxRecDepth 20000 in
theorem ggX3_weigh_X10_setAt : GoodIn wsX3_weigh wsX10_setAt := goodIn_r _ [26, 27] (by decide +kernel) (by decide +kernel)
set_option maxRecDepth 20000 in
theorem gX3_weigh_X10_setAt_n49 : GoodIn wsX3_weigh (wsX10_setAt) := ggX3_weigh_X10_setAt
set_option maxRecDepth 20000 in
theorem ggX3_weigh_X3_notePairs : GoodIn wsX3_weigh wsX3_notePairs := goodIn_r _ [43, 23, 44, 2, 19, 3, 65, 66, 67, 68, 55, 56, 57, 58, 59, 60, 61] (by decide +kernel) (by decide +kernel)
set_option maxRecDepth 20000 in
theorem gX3_weigh_X3_notePairs : GoodIn wsX3_weigh (wsV RX3 53 RX3 yX3_notePairs wsX3_notePairs) := goodIn_app (goodIn_of _ (by decide +kernel)) ggX3_weigh_X3_notePairs
set_option maxRecDepth 20000 in
theorem ggX3_weigh_X3_findFirst : GoodIn wsX3_weigh wsX3_findFirst := goodIn_r _ [48, 49, 1, 50, 51, 52, 53, 17, 54, 20, 21, 6, 5, 28, 29, 30, 31, 32, 33, 34, 35, 36, 37, 25, 38, 39, 55, 56, 57, 58, 59, 60, 61, 65, 66, 67, 68, 62, 63, 64] (by decide +kernel) (by decide +kernel)
set_option maxRecDepth 20000 in
theorem gX3_weigh_X3_findFirst : GoodIn wsX3_weigh (wsV RX3 57 RX3 yX3_findFirst wsX3_findFirst) := goodIn_app (goodIn_of _ (by decide +kernel)) ggX3_weigh_X3_findFirst
theorem dX3_weigh_0 : decode cX3_weigh 0 = .ok (.aload_n 0, 1) := by decide +kernel
theorem dX3_weigh_1 : decode cX3_weigh 1 = .ok (.aload_n 1, 1) := by decide +kernel
theorem dX3_weigh_2 : decode cX3_weigh 2 = .ok (.invokevirtual 28, 3) := by decide +kernel
theorem dX3_weigh_5 : decode cX3_weigh 5 = .ok (.putfield 34, 3) := by decide +kernel
theorem dX3_weigh_8 : decode cX3_weigh 8 = .ok (.iconst 0, 1) := by decide +kernel
theorem dX3_weigh_9 : decode cX3_weigh 9 = .ok (.istore 4, 2) := by decide +kernel
theorem dX3_weigh_11 : decode cX3_weigh 11 = .ok (.iload 4, 2) := by decide +kernel
theorem dX3_weigh_13 : decode cX3_weigh 13 = .ok (.sipush 144, 3) := by decide +kernel
theorem dX3_weigh_16 : decode cX3_weigh 16 = .ok (.if_icmp .ge 25, 3) := by decide +kernel
theorem dX3_weigh_19 : decode cX3_weigh 19 = .ok (.aload_n 0, 1) := by decide +kernel
theorem dX3_weigh_20 : decode cX3_weigh 20 = .ok (.getfield 15, 3) := by decide +kernel
theorem dX3_weigh_23 : decode cX3_weigh 23 = .ok (.iload 4, 2) := by decide +kernel
theorem dX3_weigh_25 : decode cX3_weigh 25 = .ok (.lconst 0, 1) := by decide +kernel
theorem dX3_weigh_26 : decode cX3_weigh 26 = .ok (.lastore, 1) := by decide +kernel
theorem dX3_weigh_27 : decode cX3_weigh 27 = .ok (.aload_n 0, 1) := by decide +kernel
theorem dX3_weigh_28 : decode cX3_weigh 28 = .ok (.getfield 19, 3) := by decide +kernel
theorem dX3_weigh_31 : decode cX3_weigh 31 = .ok (.iload 4, 2) := by decide +kernel
theorem dX3_weigh_33 : decode cX3_weigh 33 = .ok (.lconst 0, 1) := by decide +kernel
theorem dX3_weigh_34 : decode cX3_weigh 34 = .ok (.lastore, 1) := by decide +kernel
theorem dX3_weigh_35 : decode cX3_weigh 35 = .ok (.iinc 4 1, 3) := by decide +kernel
theorem dX3_weigh_38 : decode cX3_weigh 38 = .ok (.goto (-27), 3) := by decide +kernel
theorem dX3_weigh_41 : decode cX3_weigh 41 = .ok (.iconst 0, 1) := by decide +kernel
theorem dX3_weigh_42 : decode cX3_weigh 42 = .ok (.istore 4, 2) := by decide +kernel
theorem dX3_weigh_44 : decode cX3_weigh 44 = .ok (.iload 4, 2) := by decide +kernel
theorem dX3_weigh_46 : decode cX3_weigh 46 = .ok (.aload_n 1, 1) := by decide +kernel
theorem dX3_weigh_47 : decode cX3_weigh 47 = .ok (.getfield 38, 3) := by decide +kernel
theorem dX3_weigh_50 : decode cX3_weigh 50 = .ok (.if_icmp .ge 17, 3) := by decide +kernel
theorem dX3_weigh_53 : decode cX3_weigh 53 = .ok (.aload_n 0, 1) := by decide +kernel
theorem dX3_weigh_54 : decode cX3_weigh 54 = .ok (.getfield 22, 3) := by decide +kernel
theorem dX3_weigh_57 : decode cX3_weigh 57 = .ok (.iload 4, 2) := by decide +kernel
theorem dX3_weigh_59 : decode cX3_weigh 59 = .ok (.lconst 0, 1) := by decide +kernel
theorem dX3_weigh_60 : decode cX3_weigh 60 = .ok (.lastore, 1) := by decide +kernel
theorem dX3_weigh_61 : decode cX3_weigh 61 = .ok (.iinc 4 1, 3) := by decide +kernel
theorem dX3_weigh_64 : decode cX3_weigh 64 = .ok (.goto (-20), 3) := by decide +kernel
theorem dX3_weigh_67 : decode cX3_weigh 67 = .ok (.aload_n 0, 1) := by decide +kernel
theorem dX3_weigh_68 : decode cX3_weigh 68 = .ok (.getfield 22, 3) := by decide +kernel
theorem dX3_weigh_71 : decode cX3_weigh 71 = .ok (.aload_n 1, 1) := by decide +kernel
theorem dX3_weigh_72 : decode cX3_weigh 72 = .ok (.getfield 38, 3) := by decide +kernel
theorem dX3_weigh_75 : decode cX3_weigh 75 = .ok (.iconst 1, 1) := by decide +kernel
theorem dX3_weigh_76 : decode cX3_weigh 76 = .ok (.isub, 1) := by decide +kernel
theorem dX3_weigh_77 : decode cX3_weigh 77 = .ok (.lconst 1, 1) := by decide +kernel
theorem dX3_weigh_78 : decode cX3_weigh 78 = .ok (.lastore, 1) := by decide +kernel
theorem dX3_weigh_79 : decode cX3_weigh 79 = .ok (.aload_n 1, 1) := by decide +kernel
theorem dX3_weigh_80 : decode cX3_weigh 80 = .ok (.getfield 38, 3) := by decide +kernel
theorem dX3_weigh_83 : decode cX3_weigh 83 = .ok (.iconst 1, 1) := by decide +kernel
theorem dX3_weigh_84 : decode cX3_weigh 84 = .ok (.isub, 1) := by decide +kernel
theorem dX3_weigh_85 : decode cX3_weigh 85 = .ok (.istore 4, 2) := by decide +kernel
theorem dX3_weigh_87 : decode cX3_weigh 87 = .ok (.iload 4, 2) := by decide +kernel
theorem dX3_weigh_89 : decode cX3_weigh 89 = .ok (.ifCond .le 53, 3) := by decide +kernel
theorem dX3_weigh_92 : decode cX3_weigh 92 = .ok (.aload_n 1, 1) := by decide +kernel
theorem dX3_weigh_93 : decode cX3_weigh 93 = .ok (.getfield 42, 3) := by decide +kernel
theorem dX3_weigh_96 : decode cX3_weigh 96 = .ok (.iload 4, 2) := by decide +kernel
theorem dX3_weigh_98 : decode cX3_weigh 98 = .ok (.iaload, 1) := by decide +kernel
theorem dX3_weigh_99 : decode cX3_weigh 99 = .ok (.iconst (-1), 1) := by decide +kernel
theorem dX3_weigh_100 : decode cX3_weigh 100 = .ok (.if_icmp .eq 36, 3) := by decide +kernel
theorem dX3_weigh_103 : decode cX3_weigh 103 = .ok (.aload_n 0, 1) := by decide +kernel
theorem dX3_weigh_104 : decode cX3_weigh 104 = .ok (.getfield 22, 3) := by decide +kernel
theorem dX3_weigh_107 : decode cX3_weigh 107 = .ok (.iload 4, 2) := by decide +kernel
theorem dX3_weigh_109 : decode cX3_weigh 109 = .ok (.laload, 1) := by decide +kernel
theorem dX3_weigh_110 : decode cX3_weigh 110 = .ok (.lconst 0, 1) := by decide +kernel
theorem dX3_weigh_111 : decode cX3_weigh 111 = .ok (.lcmp, 1) := by decide +kernel
theorem dX3_weigh_112 : decode cX3_weigh 112 = .ok (.ifCond .le 24, 3) := by decide +kernel
theorem dX3_weigh_115 : decode cX3_weigh 115 = .ok (.aload_n 0, 1) := by decide +kernel
theorem dX3_weigh_116 : decode cX3_weigh 116 = .ok (.iload 4, 2) := by decide +kernel
theorem dX3_weigh_118 : decode cX3_weigh 118 = .ok (.aload_n 1, 1) := by decide +kernel
theorem dX3_weigh_119 : decode cX3_weigh 119 = .ok (.aload_n 2, 1) := by decide +kernel
theorem dX3_weigh_120 : decode cX3_weigh 120 = .ok (.invokevirtual 45, 3) := by decide +kernel
theorem dX3_weigh_123 : decode cX3_weigh 123 = .ok (.aload_n 0, 1) := by decide +kernel
theorem dX3_weigh_124 : decode cX3_weigh 124 = .ok (.iload 4, 2) := by decide +kernel
theorem dX3_weigh_126 : decode cX3_weigh 126 = .ok (.invokestatic 49, 3) := by decide +kernel
theorem dX3_weigh_129 : decode cX3_weigh 129 = .ok (.aload_n 2, 1) := by decide +kernel
theorem dX3_weigh_130 : decode cX3_weigh 130 = .ok (.iconst 2, 1) := by decide +kernel
theorem dX3_weigh_131 : decode cX3_weigh 131 = .ok (.iload_n 3, 1) := by decide +kernel
theorem dX3_weigh_132 : decode cX3_weigh 132 = .ok (.imul, 1) := by decide +kernel
theorem dX3_weigh_133 : decode cX3_weigh 133 = .ok (.invokevirtual 53, 3) := by decide +kernel
theorem dX3_weigh_136 : decode cX3_weigh 136 = .ok (.iinc 4 (-1), 3) := by decide +kernel
theorem dX3_weigh_139 : decode cX3_weigh 139 = .ok (.goto (-52), 3) := by decide +kernel
theorem dX3_weigh_142 : decode cX3_weigh 142 = .ok (.aload_n 0, 1) := by decide +kernel
theorem dX3_weigh_143 : decode cX3_weigh 143 = .ok (.aload_n 1, 1) := by decide +kernel
theorem dX3_weigh_144 : decode cX3_weigh 144 = .ok (.aload_n 2, 1) := by decide +kernel
theorem dX3_weigh_145 : decode cX3_weigh 145 = .ok (.iload_n 3, 1) := by decide +kernel
theorem dX3_weigh_146 : decode cX3_weigh 146 = .ok (.invokevirtual 57, 3) := by decide +kernel
theorem dX3_weigh_149 : decode cX3_weigh 149 = .ok (.return_, 1) := by decide +kernel
set_option maxRecDepth 20000 in
theorem ggX3_weighStepsTo_X10_setAt : GoodIn wsX3_weighStepsTo wsX10_setAt := goodIn_r _ [10, 11] (by decide +kernel) (by decide +kernel)
set_option maxRecDepth 20000 in
theorem gX3_weighStepsTo_X10_setAt_n49 : GoodIn wsX3_weighStepsTo (wsX10_setAt) := ggX3_weighStepsTo_X10_setAt
set_option maxRecDepth 20000 in
theorem ggX3_weighStepsTo_X7_take : GoodIn wsX3_weighStepsTo wsX7_take := goodIn_r _ [16, 17, 18, 19, 20, 34, 35, 36, 37] (by decide +kernel) (by decide +kernel)
set_option maxRecDepth 20000 in
theorem gX3_weighStepsTo_X7_take : GoodIn wsX3_weighStepsTo (wsV RX3 61 RX7 yX7_take wsX7_take) := goodIn_app (goodIn_of _ (by decide +kernel)) ggX3_weighStepsTo_X7_take
set_option maxRecDepth 20000 in
theorem ggX3_weighStepsTo_X10_placeOf : GoodIn wsX3_weighStepsTo wsX10_placeOf := goodIn_r _ [22, 23] (by decide +kernel) (by decide +kernel)
set_option maxRecDepth 20000 in
theorem gX3_weighStepsTo_X10_placeOf_n73 : GoodIn wsX3_weighStepsTo (wsX10_placeOf) := ggX3_weighStepsTo_X10_placeOf
theorem dX3_weighStepsTo_0 : decode cX3_weighStepsTo 0 = .ok (.iload_n 1, 1) := by decide +kernel
theorem dX3_weighStepsTo_1 : decode cX3_weighStepsTo 1 = .ok (.invokestatic 49, 3) := by decide +kernel
theorem dX3_weighStepsTo_4 : decode cX3_weighStepsTo 4 = .ok (.istore 4, 2) := by decide +kernel
theorem dX3_weighStepsTo_6 : decode cX3_weighStepsTo 6 = .ok (.aload_n 3, 1) := by decide +kernel
theorem dX3_weighStepsTo_7 : decode cX3_weighStepsTo 7 = .ok (.aload_n 2, 1) := by decide +kernel
theorem dX3_weighStepsTo_8 : decode cX3_weighStepsTo 8 = .ok (.getfield 42, 3) := by decide +kernel
theorem dX3_weighStepsTo_11 : decode cX3_weighStepsTo 11 = .ok (.iload_n 1, 1) := by decide +kernel
theorem dX3_weighStepsTo_12 : decode cX3_weighStepsTo 12 = .ok (.iaload, 1) := by decide +kernel
theorem dX3_weighStepsTo_13 : decode cX3_weighStepsTo 13 = .ok (.invokevirtual 61, 3) := by decide +kernel
theorem dX3_weighStepsTo_16 : decode cX3_weighStepsTo 16 = .ok (.aload_n 0, 1) := by decide +kernel
theorem dX3_weighStepsTo_17 : decode cX3_weighStepsTo 17 = .ok (.getfield 25, 3) := by decide +kernel
theorem dX3_weighStepsTo_20 : decode cX3_weighStepsTo 20 = .ok (.iconst 0, 1) := by decide +kernel
theorem dX3_weighStepsTo_21 : decode cX3_weighStepsTo 21 = .ok (.lconst 0, 1) := by decide +kernel
theorem dX3_weighStepsTo_22 : decode cX3_weighStepsTo 22 = .ok (.lastore, 1) := by decide +kernel
theorem dX3_weighStepsTo_23 : decode cX3_weighStepsTo 23 = .ok (.iconst 1, 1) := by decide +kernel
theorem dX3_weighStepsTo_24 : decode cX3_weighStepsTo 24 = .ok (.istore 5, 2) := by decide +kernel
theorem dX3_weighStepsTo_26 : decode cX3_weighStepsTo 26 = .ok (.iload 5, 2) := by decide +kernel
theorem dX3_weighStepsTo_28 : decode cX3_weighStepsTo 28 = .ok (.aload_n 3, 1) := by decide +kernel
theorem dX3_weighStepsTo_29 : decode cX3_weighStepsTo 29 = .ok (.getfield 67, 3) := by decide +kernel
theorem dX3_weighStepsTo_32 : decode cX3_weighStepsTo 32 = .ok (.if_icmp .ge 61, 3) := by decide +kernel
theorem dX3_weighStepsTo_35 : decode cX3_weighStepsTo 35 = .ok (.iload 4, 2) := by decide +kernel
theorem dX3_weighStepsTo_37 : decode cX3_weighStepsTo 37 = .ok (.aload_n 3, 1) := by decide +kernel
theorem dX3_weighStepsTo_38 : decode cX3_weighStepsTo 38 = .ok (.getfield 70, 3) := by decide +kernel
theorem dX3_weighStepsTo_41 : decode cX3_weighStepsTo 41 = .ok (.iload 5, 2) := by decide +kernel
theorem dX3_weighStepsTo_43 : decode cX3_weighStepsTo 43 = .ok (.iaload, 1) := by decide +kernel
theorem dX3_weighStepsTo_44 : decode cX3_weighStepsTo 44 = .ok (.ixor, 1) := by decide +kernel
theorem dX3_weighStepsTo_45 : decode cX3_weighStepsTo 45 = .ok (.invokestatic 73, 3) := by decide +kernel
theorem dX3_weighStepsTo_48 : decode cX3_weighStepsTo 48 = .ok (.istore 6, 2) := by decide +kernel
theorem dX3_weighStepsTo_50 : decode cX3_weighStepsTo 50 = .ok (.aload_n 0, 1) := by decide +kernel
theorem dX3_weighStepsTo_51 : decode cX3_weighStepsTo 51 = .ok (.getfield 22, 3) := by decide +kernel
theorem dX3_weighStepsTo_54 : decode cX3_weighStepsTo 54 = .ok (.iload 6, 2) := by decide +kernel
theorem dX3_weighStepsTo_56 : decode cX3_weighStepsTo 56 = .ok (.dup2, 1) := by decide +kernel
theorem dX3_weighStepsTo_57 : decode cX3_weighStepsTo 57 = .ok (.laload, 1) := by decide +kernel
theorem dX3_weighStepsTo_58 : decode cX3_weighStepsTo 58 = .ok (.aload_n 0, 1) := by decide +kernel
theorem dX3_weighStepsTo_59 : decode cX3_weighStepsTo 59 = .ok (.getfield 22, 3) := by decide +kernel
theorem dX3_weighStepsTo_62 : decode cX3_weighStepsTo 62 = .ok (.iload_n 1, 1) := by decide +kernel
theorem dX3_weighStepsTo_63 : decode cX3_weighStepsTo 63 = .ok (.laload, 1) := by decide +kernel
theorem dX3_weighStepsTo_64 : decode cX3_weighStepsTo 64 = .ok (.ladd, 1) := by decide +kernel
theorem dX3_weighStepsTo_65 : decode cX3_weighStepsTo 65 = .ok (.lastore, 1) := by decide +kernel
theorem dX3_weighStepsTo_66 : decode cX3_weighStepsTo 66 = .ok (.aload_n 0, 1) := by decide +kernel
theorem dX3_weighStepsTo_67 : decode cX3_weighStepsTo 67 = .ok (.getfield 25, 3) := by decide +kernel
theorem dX3_weighStepsTo_70 : decode cX3_weighStepsTo 70 = .ok (.iload 5, 2) := by decide +kernel
theorem dX3_weighStepsTo_72 : decode cX3_weighStepsTo 72 = .ok (.aload_n 2, 1) := by decide +kernel
theorem dX3_weighStepsTo_73 : decode cX3_weighStepsTo 73 = .ok (.getfield 76, 3) := by decide +kernel
theorem dX3_weighStepsTo_76 : decode cX3_weighStepsTo 76 = .ok (.iload 6, 2) := by decide +kernel
theorem dX3_weighStepsTo_78 : decode cX3_weighStepsTo 78 = .ok (.laload, 1) := by decide +kernel
theorem dX3_weighStepsTo_79 : decode cX3_weighStepsTo 79 = .ok (.aload_n 0, 1) := by decide +kernel
theorem dX3_weighStepsTo_80 : decode cX3_weighStepsTo 80 = .ok (.getfield 22, 3) := by decide +kernel
theorem dX3_weighStepsTo_83 : decode cX3_weighStepsTo 83 = .ok (.iload_n 1, 1) := by decide +kernel
theorem dX3_weighStepsTo_84 : decode cX3_weighStepsTo 84 = .ok (.laload, 1) := by decide +kernel
theorem dX3_weighStepsTo_85 : decode cX3_weighStepsTo 85 = .ok (.lmul, 1) := by decide +kernel
theorem dX3_weighStepsTo_86 : decode cX3_weighStepsTo 86 = .ok (.lastore, 1) := by decide +kernel
theorem dX3_weighStepsTo_87 : decode cX3_weighStepsTo 87 = .ok (.iinc 5 1, 3) := by decide +kernel
theorem dX3_weighStepsTo_90 : decode cX3_weighStepsTo 90 = .ok (.goto (-64), 3) := by decide +kernel
theorem dX3_weighStepsTo_93 : decode cX3_weighStepsTo 93 = .ok (.iconst 0, 1) := by decide +kernel
theorem dX3_weighStepsTo_94 : decode cX3_weighStepsTo 94 = .ok (.istore 5, 2) := by decide +kernel
theorem dX3_weighStepsTo_96 : decode cX3_weighStepsTo 96 = .ok (.iload 5, 2) := by decide +kernel
theorem dX3_weighStepsTo_98 : decode cX3_weighStepsTo 98 = .ok (.aload_n 3, 1) := by decide +kernel
theorem dX3_weighStepsTo_99 : decode cX3_weighStepsTo 99 = .ok (.getfield 79, 3) := by decide +kernel
theorem dX3_weighStepsTo_102 : decode cX3_weighStepsTo 102 = .ok (.if_icmp .ge 59, 3) := by decide +kernel
theorem dX3_weighStepsTo_105 : decode cX3_weighStepsTo 105 = .ok (.iconst 0, 1) := by decide +kernel
theorem dX3_weighStepsTo_106 : decode cX3_weighStepsTo 106 = .ok (.istore 6, 2) := by decide +kernel
theorem dX3_weighStepsTo_108 : decode cX3_weighStepsTo 108 = .ok (.iload 6, 2) := by decide +kernel
theorem dX3_weighStepsTo_110 : decode cX3_weighStepsTo 110 = .ok (.aload_n 3, 1) := by decide +kernel
theorem dX3_weighStepsTo_111 : decode cX3_weighStepsTo 111 = .ok (.getfield 67, 3) := by decide +kernel
theorem dX3_weighStepsTo_114 : decode cX3_weighStepsTo 114 = .ok (.if_icmp .ge 41, 3) := by decide +kernel
theorem dX3_weighStepsTo_117 : decode cX3_weighStepsTo 117 = .ok (.iload 6, 2) := by decide +kernel
theorem dX3_weighStepsTo_119 : decode cX3_weighStepsTo 119 = .ok (.iload 5, 2) := by decide +kernel
theorem dX3_weighStepsTo_121 : decode cX3_weighStepsTo 121 = .ok (.ishr, 1) := by decide +kernel
theorem dX3_weighStepsTo_122 : decode cX3_weighStepsTo 122 = .ok (.iconst 1, 1) := by decide +kernel
theorem dX3_weighStepsTo_123 : decode cX3_weighStepsTo 123 = .ok (.iand, 1) := by decide +kernel
theorem dX3_weighStepsTo_124 : decode cX3_weighStepsTo 124 = .ok (.ifCond .ne 25, 3) := by decide +kernel
theorem dX3_weighStepsTo_127 : decode cX3_weighStepsTo 127 = .ok (.aload_n 0, 1) := by decide +kernel
theorem dX3_weighStepsTo_128 : decode cX3_weighStepsTo 128 = .ok (.getfield 25, 3) := by decide +kernel
theorem dX3_weighStepsTo_131 : decode cX3_weighStepsTo 131 = .ok (.iload 6, 2) := by decide +kernel
theorem dX3_weighStepsTo_133 : decode cX3_weighStepsTo 133 = .ok (.dup2, 1) := by decide +kernel
theorem dX3_weighStepsTo_134 : decode cX3_weighStepsTo 134 = .ok (.laload, 1) := by decide +kernel
theorem dX3_weighStepsTo_135 : decode cX3_weighStepsTo 135 = .ok (.aload_n 0, 1) := by decide +kernel
theorem dX3_weighStepsTo_136 : decode cX3_weighStepsTo 136 = .ok (.getfield 25, 3) := by decide +kernel
theorem dX3_weighStepsTo_139 : decode cX3_weighStepsTo 139 = .ok (.iload 6, 2) := by decide +kernel
theorem dX3_weighStepsTo_141 : decode cX3_weighStepsTo 141 = .ok (.iconst 1, 1) := by decide +kernel
theorem dX3_weighStepsTo_142 : decode cX3_weighStepsTo 142 = .ok (.iload 5, 2) := by decide +kernel
theorem dX3_weighStepsTo_144 : decode cX3_weighStepsTo 144 = .ok (.ishl, 1) := by decide +kernel
theorem dX3_weighStepsTo_145 : decode cX3_weighStepsTo 145 = .ok (.ior, 1) := by decide +kernel
theorem dX3_weighStepsTo_146 : decode cX3_weighStepsTo 146 = .ok (.laload, 1) := by decide +kernel
theorem dX3_weighStepsTo_147 : decode cX3_weighStepsTo 147 = .ok (.ladd, 1) := by decide +kernel
theorem dX3_weighStepsTo_148 : decode cX3_weighStepsTo 148 = .ok (.lastore, 1) := by decide +kernel
theorem dX3_weighStepsTo_149 : decode cX3_weighStepsTo 149 = .ok (.iinc 6 1, 3) := by decide +kernel
theorem dX3_weighStepsTo_152 : decode cX3_weighStepsTo 152 = .ok (.goto (-44), 3) := by decide +kernel
theorem dX3_weighStepsTo_155 : decode cX3_weighStepsTo 155 = .ok (.iinc 5 1, 3) := by decide +kernel
theorem dX3_weighStepsTo_158 : decode cX3_weighStepsTo 158 = .ok (.goto (-62), 3) := by decide +kernel
theorem dX3_weighStepsTo_161 : decode cX3_weighStepsTo 161 = .ok (.return_, 1) := by decide +kernel
theorem dX3_notePairs_0 : decode cX3_notePairs 0 = .ok (.iconst 0, 1) := by decide +kernel
theorem dX3_notePairs_1 : decode cX3_notePairs 1 = .ok (.istore 4, 2) := by decide +kernel
theorem dX3_notePairs_3 : decode cX3_notePairs 3 = .ok (.iload 4, 2) := by decide +kernel
theorem dX3_notePairs_5 : decode cX3_notePairs 5 = .ok (.aload_n 2, 1) := by decide +kernel
theorem dX3_notePairs_6 : decode cX3_notePairs 6 = .ok (.getfield 79, 3) := by decide +kernel
theorem dX3_notePairs_9 : decode cX3_notePairs 9 = .ok (.if_icmp .ge 120, 3) := by decide +kernel
theorem dX3_notePairs_12 : decode cX3_notePairs 12 = .ok (.bipush 12, 2) := by decide +kernel
theorem dX3_notePairs_14 : decode cX3_notePairs 14 = .ok (.aload_n 2, 1) := by decide +kernel
theorem dX3_notePairs_15 : decode cX3_notePairs 15 = .ok (.getfield 82, 3) := by decide +kernel
theorem dX3_notePairs_18 : decode cX3_notePairs 18 = .ok (.iload 4, 2) := by decide +kernel
theorem dX3_notePairs_20 : decode cX3_notePairs 20 = .ok (.iaload, 1) := by decide +kernel
theorem dX3_notePairs_21 : decode cX3_notePairs 21 = .ok (.imul, 1) := by decide +kernel
theorem dX3_notePairs_22 : decode cX3_notePairs 22 = .ok (.istore 5, 2) := by decide +kernel
theorem dX3_notePairs_24 : decode cX3_notePairs 24 = .ok (.iconst 0, 1) := by decide +kernel
theorem dX3_notePairs_25 : decode cX3_notePairs 25 = .ok (.istore 6, 2) := by decide +kernel
theorem dX3_notePairs_27 : decode cX3_notePairs 27 = .ok (.iload 6, 2) := by decide +kernel
theorem dX3_notePairs_29 : decode cX3_notePairs 29 = .ok (.iload_n 3, 1) := by decide +kernel
theorem dX3_notePairs_30 : decode cX3_notePairs 30 = .ok (.if_icmp .ge 40, 3) := by decide +kernel
theorem dX3_notePairs_33 : decode cX3_notePairs 33 = .ok (.iload_n 1, 1) := by decide +kernel
theorem dX3_notePairs_34 : decode cX3_notePairs 34 = .ok (.iload 6, 2) := by decide +kernel
theorem dX3_notePairs_36 : decode cX3_notePairs 36 = .ok (.ishr, 1) := by decide +kernel
theorem dX3_notePairs_37 : decode cX3_notePairs 37 = .ok (.iconst 1, 1) := by decide +kernel
