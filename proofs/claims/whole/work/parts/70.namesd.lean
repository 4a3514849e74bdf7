theorem dX3_notePairs_38 : decode cX3_notePairs 38 = .ok (.iand, 1) := by decide +kernel
theorem dX3_notePairs_39 : decode cX3_notePairs 39 = .ok (.ifCond .ne 25, 3) := by decide +kernel
theorem dX3_notePairs_42 : decode cX3_notePairs 42 = .ok (.aload_n 0, 1) := by decide +kernel
theorem dX3_notePairs_43 : decode cX3_notePairs 43 = .ok (.getfield 15, 3) := by decide +kernel
theorem dX3_notePairs_46 : decode cX3_notePairs 46 = .ok (.iload 5, 2) := by decide +kernel
theorem dX3_notePairs_48 : decode cX3_notePairs 48 = .ok (.iload 6, 2) := by decide +kernel
theorem dX3_notePairs_50 : decode cX3_notePairs 50 = .ok (.iadd, 1) := by decide +kernel
theorem dX3_notePairs_51 : decode cX3_notePairs 51 = .ok (.dup2, 1) := by decide +kernel
theorem dX3_notePairs_52 : decode cX3_notePairs 52 = .ok (.laload, 1) := by decide +kernel
theorem dX3_notePairs_53 : decode cX3_notePairs 53 = .ok (.aload_n 0, 1) := by decide +kernel
theorem dX3_notePairs_54 : decode cX3_notePairs 54 = .ok (.getfield 25, 3) := by decide +kernel
theorem dX3_notePairs_57 : decode cX3_notePairs 57 = .ok (.iconst 1, 1) := by decide +kernel
theorem dX3_notePairs_58 : decode cX3_notePairs 58 = .ok (.iload 4, 2) := by decide +kernel
theorem dX3_notePairs_60 : decode cX3_notePairs 60 = .ok (.ishl, 1) := by decide +kernel
theorem dX3_notePairs_61 : decode cX3_notePairs 61 = .ok (.laload, 1) := by decide +kernel
theorem dX3_notePairs_62 : decode cX3_notePairs 62 = .ok (.ladd, 1) := by decide +kernel
theorem dX3_notePairs_63 : decode cX3_notePairs 63 = .ok (.lastore, 1) := by decide +kernel
theorem dX3_notePairs_64 : decode cX3_notePairs 64 = .ok (.iinc 6 1, 3) := by decide +kernel
theorem dX3_notePairs_67 : decode cX3_notePairs 67 = .ok (.goto (-40), 3) := by decide +kernel
theorem dX3_notePairs_70 : decode cX3_notePairs 70 = .ok (.iload 4, 2) := by decide +kernel
theorem dX3_notePairs_72 : decode cX3_notePairs 72 = .ok (.iconst 1, 1) := by decide +kernel
theorem dX3_notePairs_73 : decode cX3_notePairs 73 = .ok (.iadd, 1) := by decide +kernel
theorem dX3_notePairs_74 : decode cX3_notePairs 74 = .ok (.istore 6, 2) := by decide +kernel
theorem dX3_notePairs_76 : decode cX3_notePairs 76 = .ok (.iload 6, 2) := by decide +kernel
theorem dX3_notePairs_78 : decode cX3_notePairs 78 = .ok (.aload_n 2, 1) := by decide +kernel
theorem dX3_notePairs_79 : decode cX3_notePairs 79 = .ok (.getfield 79, 3) := by decide +kernel
theorem dX3_notePairs_82 : decode cX3_notePairs 82 = .ok (.if_icmp .ge 41, 3) := by decide +kernel
theorem dX3_notePairs_85 : decode cX3_notePairs 85 = .ok (.aload_n 0, 1) := by decide +kernel
theorem dX3_notePairs_86 : decode cX3_notePairs 86 = .ok (.getfield 19, 3) := by decide +kernel
theorem dX3_notePairs_89 : decode cX3_notePairs 89 = .ok (.iload 5, 2) := by decide +kernel
theorem dX3_notePairs_91 : decode cX3_notePairs 91 = .ok (.aload_n 2, 1) := by decide +kernel
theorem dX3_notePairs_92 : decode cX3_notePairs 92 = .ok (.getfield 82, 3) := by decide +kernel
theorem dX3_notePairs_95 : decode cX3_notePairs 95 = .ok (.iload 6, 2) := by decide +kernel
theorem dX3_notePairs_97 : decode cX3_notePairs 97 = .ok (.iaload, 1) := by decide +kernel
theorem dX3_notePairs_98 : decode cX3_notePairs 98 = .ok (.iadd, 1) := by decide +kernel
theorem dX3_notePairs_99 : decode cX3_notePairs 99 = .ok (.dup2, 1) := by decide +kernel
theorem dX3_notePairs_100 : decode cX3_notePairs 100 = .ok (.laload, 1) := by decide +kernel
theorem dX3_notePairs_101 : decode cX3_notePairs 101 = .ok (.aload_n 0, 1) := by decide +kernel
theorem dX3_notePairs_102 : decode cX3_notePairs 102 = .ok (.getfield 25, 3) := by decide +kernel
theorem dX3_notePairs_105 : decode cX3_notePairs 105 = .ok (.iconst 1, 1) := by decide +kernel
theorem dX3_notePairs_106 : decode cX3_notePairs 106 = .ok (.iload 4, 2) := by decide +kernel
theorem dX3_notePairs_108 : decode cX3_notePairs 108 = .ok (.ishl, 1) := by decide +kernel
theorem dX3_notePairs_109 : decode cX3_notePairs 109 = .ok (.iconst 1, 1) := by decide +kernel
theorem dX3_notePairs_110 : decode cX3_notePairs 110 = .ok (.iload 6, 2) := by decide +kernel
theorem dX3_notePairs_112 : decode cX3_notePairs 112 = .ok (.ishl, 1) := by decide +kernel
theorem dX3_notePairs_113 : decode cX3_notePairs 113 = .ok (.ior, 1) := by decide +kernel
theorem dX3_notePairs_114 : decode cX3_notePairs 114 = .ok (.laload, 1) := by decide +kernel
theorem dX3_notePairs_115 : decode cX3_notePairs 115 = .ok (.ladd, 1) := by decide +kernel
theorem dX3_notePairs_116 : decode cX3_notePairs 116 = .ok (.lastore, 1) := by decide +kernel
theorem dX3_notePairs_117 : decode cX3_notePairs 117 = .ok (.iinc 6 1, 3) := by decide +kernel
theorem dX3_notePairs_120 : decode cX3_notePairs 120 = .ok (.goto (-44), 3) := by decide +kernel
theorem dX3_notePairs_123 : decode cX3_notePairs 123 = .ok (.iinc 4 1, 3) := by decide +kernel
theorem dX3_notePairs_126 : decode cX3_notePairs 126 = .ok (.goto (-123), 3) := by decide +kernel
theorem dX3_notePairs_129 : decode cX3_notePairs 129 = .ok (.return_, 1) := by decide +kernel
set_option maxRecDepth 20000 in
theorem ggX3_findFirst_X3_leastBehind : GoodIn wsX3_findFirst wsX3_leastBehind := goodIn_r _ [8, 9, 10, 11, 12, 13, 14, 15, 16, 17, 18, 19, 20, 21, 22, 23, 24, 25, 33, 34, 35, 36, 37, 38, 39, 26, 27, 28, 29, 30, 31, 32] (by decide +kernel) (by decide +kernel)
set_option maxRecDepth 20000 in
theorem gX3_findFirst_X3_leastBehind : GoodIn wsX3_findFirst (wsV RX3 88 RX3 yX3_leastBehind wsX3_leastBehind) := goodIn_app (goodIn_of _ (by decide +kernel)) ggX3_findFirst_X3_leastBehind
theorem dX3_findFirst_0 : decode cX3_findFirst 0 = .ok (.iconst 1, 1) := by decide +kernel
theorem dX3_findFirst_1 : decode cX3_findFirst 1 = .ok (.iconst 2, 1) := by decide +kernel
theorem dX3_findFirst_2 : decode cX3_findFirst 2 = .ok (.iload_n 3, 1) := by decide +kernel
theorem dX3_findFirst_3 : decode cX3_findFirst 3 = .ok (.imul, 1) := by decide +kernel
theorem dX3_findFirst_4 : decode cX3_findFirst 4 = .ok (.ishl, 1) := by decide +kernel
theorem dX3_findFirst_5 : decode cX3_findFirst 5 = .ok (.iconst 1, 1) := by decide +kernel
theorem dX3_findFirst_6 : decode cX3_findFirst 6 = .ok (.isub, 1) := by decide +kernel
theorem dX3_findFirst_7 : decode cX3_findFirst 7 = .ok (.istore 4, 2) := by decide +kernel
theorem dX3_findFirst_9 : decode cX3_findFirst 9 = .ok (.iconst 0, 1) := by decide +kernel
theorem dX3_findFirst_10 : decode cX3_findFirst 10 = .ok (.istore 5, 2) := by decide +kernel
theorem dX3_findFirst_12 : decode cX3_findFirst 12 = .ok (.aload_n 0, 1) := by decide +kernel
theorem dX3_findFirst_13 : decode cX3_findFirst 13 = .ok (.iconst 0, 1) := by decide +kernel
theorem dX3_findFirst_14 : decode cX3_findFirst 14 = .ok (.putfield 85, 3) := by decide +kernel
theorem dX3_findFirst_17 : decode cX3_findFirst 17 = .ok (.iconst 0, 1) := by decide +kernel
theorem dX3_findFirst_18 : decode cX3_findFirst 18 = .ok (.istore 6, 2) := by decide +kernel
theorem dX3_findFirst_20 : decode cX3_findFirst 20 = .ok (.iload 6, 2) := by decide +kernel
theorem dX3_findFirst_22 : decode cX3_findFirst 22 = .ok (.bipush 12, 2) := by decide +kernel
theorem dX3_findFirst_24 : decode cX3_findFirst 24 = .ok (.if_icmp .ge 88, 3) := by decide +kernel
theorem dX3_findFirst_27 : decode cX3_findFirst 27 = .ok (.iload 5, 2) := by decide +kernel
theorem dX3_findFirst_29 : decode cX3_findFirst 29 = .ok (.iload 4, 2) := by decide +kernel
theorem dX3_findFirst_31 : decode cX3_findFirst 31 = .ok (.if_icmp .eq 81, 3) := by decide +kernel
theorem dX3_findFirst_34 : decode cX3_findFirst 34 = .ok (.aload_n 0, 1) := by decide +kernel
theorem dX3_findFirst_35 : decode cX3_findFirst 35 = .ok (.getfield 34, 3) := by decide +kernel
theorem dX3_findFirst_38 : decode cX3_findFirst 38 = .ok (.lconst 0, 1) := by decide +kernel
theorem dX3_findFirst_39 : decode cX3_findFirst 39 = .ok (.lcmp, 1) := by decide +kernel
theorem dX3_findFirst_40 : decode cX3_findFirst 40 = .ok (.ifCond .le 72, 3) := by decide +kernel
theorem dX3_findFirst_43 : decode cX3_findFirst 43 = .ok (.aload_n 0, 1) := by decide +kernel
theorem dX3_findFirst_44 : decode cX3_findFirst 44 = .ok (.iload 5, 2) := by decide +kernel
theorem dX3_findFirst_46 : decode cX3_findFirst 46 = .ok (.iload 4, 2) := by decide +kernel
theorem dX3_findFirst_48 : decode cX3_findFirst 48 = .ok (.aload_n 1, 1) := by decide +kernel
theorem dX3_findFirst_49 : decode cX3_findFirst 49 = .ok (.aload_n 2, 1) := by decide +kernel
theorem dX3_findFirst_50 : decode cX3_findFirst 50 = .ok (.invokevirtual 88, 3) := by decide +kernel
theorem dX3_findFirst_53 : decode cX3_findFirst 53 = .ok (.istore 7, 2) := by decide +kernel
theorem dX3_findFirst_55 : decode cX3_findFirst 55 = .ok (.iconst 0, 1) := by decide +kernel
theorem dX3_findFirst_56 : decode cX3_findFirst 56 = .ok (.istore 8, 2) := by decide +kernel
theorem dX3_findFirst_58 : decode cX3_findFirst 58 = .ok (.iload 8, 2) := by decide +kernel
theorem dX3_findFirst_60 : decode cX3_findFirst 60 = .ok (.bipush 12, 2) := by decide +kernel
theorem dX3_findFirst_62 : decode cX3_findFirst 62 = .ok (.if_icmp .ge 29, 3) := by decide +kernel
theorem dX3_findFirst_65 : decode cX3_findFirst 65 = .ok (.iload 7, 2) := by decide +kernel
theorem dX3_findFirst_67 : decode cX3_findFirst 67 = .ok (.iload 8, 2) := by decide +kernel
theorem dX3_findFirst_69 : decode cX3_findFirst 69 = .ok (.ishr, 1) := by decide +kernel
theorem dX3_findFirst_70 : decode cX3_findFirst 70 = .ok (.iconst 1, 1) := by decide +kernel
theorem dX3_findFirst_71 : decode cX3_findFirst 71 = .ok (.iand, 1) := by decide +kernel
theorem dX3_findFirst_72 : decode cX3_findFirst 72 = .ok (.iconst 1, 1) := by decide +kernel
theorem dX3_findFirst_73 : decode cX3_findFirst 73 = .ok (.if_icmp .ne 12, 3) := by decide +kernel
theorem dX3_findFirst_76 : decode cX3_findFirst 76 = .ok (.aload_n 0, 1) := by decide +kernel
theorem dX3_findFirst_77 : decode cX3_findFirst 77 = .ok (.getfield 9, 3) := by decide +kernel
theorem dX3_findFirst_80 : decode cX3_findFirst 80 = .ok (.iload 8, 2) := by decide +kernel
theorem dX3_findFirst_82 : decode cX3_findFirst 82 = .ok (.iload 6, 2) := by decide +kernel
theorem dX3_findFirst_84 : decode cX3_findFirst 84 = .ok (.iastore, 1) := by decide +kernel
theorem dX3_findFirst_85 : decode cX3_findFirst 85 = .ok (.iinc 8 1, 3) := by decide +kernel
theorem dX3_findFirst_88 : decode cX3_findFirst 88 = .ok (.goto (-30), 3) := by decide +kernel
theorem dX3_findFirst_91 : decode cX3_findFirst 91 = .ok (.iload 5, 2) := by decide +kernel
theorem dX3_findFirst_93 : decode cX3_findFirst 93 = .ok (.iload 7, 2) := by decide +kernel
theorem dX3_findFirst_95 : decode cX3_findFirst 95 = .ok (.ior, 1) := by decide +kernel
theorem dX3_findFirst_96 : decode cX3_findFirst 96 = .ok (.istore 5, 2) := by decide +kernel
theorem dX3_findFirst_98 : decode cX3_findFirst 98 = .ok (.aload_n 0, 1) := by decide +kernel
theorem dX3_findFirst_99 : decode cX3_findFirst 99 = .ok (.iload 6, 2) := by decide +kernel
theorem dX3_findFirst_101 : decode cX3_findFirst 101 = .ok (.iconst 1, 1) := by decide +kernel
theorem dX3_findFirst_102 : decode cX3_findFirst 102 = .ok (.iadd, 1) := by decide +kernel
theorem dX3_findFirst_103 : decode cX3_findFirst 103 = .ok (.putfield 85, 3) := by decide +kernel
theorem dX3_findFirst_106 : decode cX3_findFirst 106 = .ok (.iinc 6 1, 3) := by decide +kernel
theorem dX3_findFirst_109 : decode cX3_findFirst 109 = .ok (.goto (-89), 3) := by decide +kernel
theorem dX3_findFirst_112 : decode cX3_findFirst 112 = .ok (.return_, 1) := by decide +kernel
set_option maxRecDepth 20000 in
theorem ggX3_leastBehind_X7_take : GoodIn wsX3_leastBehind wsX7_take := goodIn_r _ [9, 10, 11, 12, 13, 18, 19, 20, 21] (by decide +kernel) (by decide +kernel)
set_option maxRecDepth 20000 in
theorem gX3_leastBehind_X7_take : GoodIn wsX3_leastBehind (wsV RX3 61 RX7 yX7_take wsX7_take) := goodIn_app (goodIn_of _ (by decide +kernel)) ggX3_leastBehind_X7_take
set_option maxRecDepth 20000 in
theorem ggX3_leastBehind_X10_placeOf : GoodIn wsX3_leastBehind wsX10_placeOf := goodIn_r _ [16, 17] (by decide +kernel) (by decide +kernel)
set_option maxRecDepth 20000 in
theorem gX3_leastBehind_X10_placeOf_n73 : GoodIn wsX3_leastBehind (wsX10_placeOf) := ggX3_leastBehind_X10_placeOf
theorem dX3_leastBehind_0 : decode cX3_leastBehind 0 = .ok (.sipush 1365, 3) := by decide +kernel
theorem dX3_leastBehind_3 : decode cX3_leastBehind 3 = .ok (.iload_n 2, 1) := by decide +kernel
theorem dX3_leastBehind_4 : decode cX3_leastBehind 4 = .ok (.iand, 1) := by decide +kernel
theorem dX3_leastBehind_5 : decode cX3_leastBehind 5 = .ok (.iload_n 1, 1) := by decide +kernel
theorem dX3_leastBehind_6 : decode cX3_leastBehind 6 = .ok (.iconst (-1), 1) := by decide +kernel
theorem dX3_leastBehind_7 : decode cX3_leastBehind 7 = .ok (.ixor, 1) := by decide +kernel
theorem dX3_leastBehind_8 : decode cX3_leastBehind 8 = .ok (.iand, 1) := by decide +kernel
theorem dX3_leastBehind_9 : decode cX3_leastBehind 9 = .ok (.istore 5, 2) := by decide +kernel
theorem dX3_leastBehind_11 : decode cX3_leastBehind 11 = .ok (.sipush 1365, 3) := by decide +kernel
theorem dX3_leastBehind_14 : decode cX3_leastBehind 14 = .ok (.iload_n 1, 1) := by decide +kernel
theorem dX3_leastBehind_15 : decode cX3_leastBehind 15 = .ok (.iand, 1) := by decide +kernel
theorem dX3_leastBehind_16 : decode cX3_leastBehind 16 = .ok (.iconst 1, 1) := by decide +kernel
theorem dX3_leastBehind_17 : decode cX3_leastBehind 17 = .ok (.ishl, 1) := by decide +kernel
theorem dX3_leastBehind_18 : decode cX3_leastBehind 18 = .ok (.iload_n 1, 1) := by decide +kernel
theorem dX3_leastBehind_19 : decode cX3_leastBehind 19 = .ok (.iconst (-1), 1) := by decide +kernel
theorem dX3_leastBehind_20 : decode cX3_leastBehind 20 = .ok (.ixor, 1) := by decide +kernel
theorem dX3_leastBehind_21 : decode cX3_leastBehind 21 = .ok (.iand, 1) := by decide +kernel
theorem dX3_leastBehind_22 : decode cX3_leastBehind 22 = .ok (.istore 6, 2) := by decide +kernel
theorem dX3_leastBehind_24 : decode cX3_leastBehind 24 = .ok (.aload 4, 2) := by decide +kernel
theorem dX3_leastBehind_26 : decode cX3_leastBehind 26 = .ok (.iload 5, 2) := by decide +kernel
theorem dX3_leastBehind_28 : decode cX3_leastBehind 28 = .ok (.iload 6, 2) := by decide +kernel
theorem dX3_leastBehind_30 : decode cX3_leastBehind 30 = .ok (.ior, 1) := by decide +kernel
theorem dX3_leastBehind_31 : decode cX3_leastBehind 31 = .ok (.invokevirtual 61, 3) := by decide +kernel
theorem dX3_leastBehind_34 : decode cX3_leastBehind 34 = .ok (.iconst 1, 1) := by decide +kernel
theorem dX3_leastBehind_35 : decode cX3_leastBehind 35 = .ok (.istore 7, 2) := by decide +kernel
theorem dX3_leastBehind_37 : decode cX3_leastBehind 37 = .ok (.iload 7, 2) := by decide +kernel
theorem dX3_leastBehind_39 : decode cX3_leastBehind 39 = .ok (.aload 4, 2) := by decide +kernel
theorem dX3_leastBehind_41 : decode cX3_leastBehind 41 = .ok (.getfield 67, 3) := by decide +kernel
theorem dX3_leastBehind_44 : decode cX3_leastBehind 44 = .ok (.if_icmp .ge 69, 3) := by decide +kernel
theorem dX3_leastBehind_47 : decode cX3_leastBehind 47 = .ok (.aload 4, 2) := by decide +kernel
theorem dX3_leastBehind_49 : decode cX3_leastBehind 49 = .ok (.getfield 70, 3) := by decide +kernel
theorem dX3_leastBehind_52 : decode cX3_leastBehind 52 = .ok (.iload 7, 2) := by decide +kernel
theorem dX3_leastBehind_54 : decode cX3_leastBehind 54 = .ok (.iaload, 1) := by decide +kernel
theorem dX3_leastBehind_55 : decode cX3_leastBehind 55 = .ok (.istore 8, 2) := by decide +kernel
theorem dX3_leastBehind_57 : decode cX3_leastBehind 57 = .ok (.iload_n 1, 1) := by decide +kernel
theorem dX3_leastBehind_58 : decode cX3_leastBehind 58 = .ok (.iload 8, 2) := by decide +kernel
theorem dX3_leastBehind_60 : decode cX3_leastBehind 60 = .ok (.ior, 1) := by decide +kernel
theorem dX3_leastBehind_61 : decode cX3_leastBehind 61 = .ok (.invokestatic 73, 3) := by decide +kernel
theorem dX3_leastBehind_64 : decode cX3_leastBehind 64 = .ok (.istore 9, 2) := by decide +kernel
theorem dX3_leastBehind_66 : decode cX3_leastBehind 66 = .ok (.aload_n 3, 1) := by decide +kernel
theorem dX3_leastBehind_67 : decode cX3_leastBehind 67 = .ok (.getfield 42, 3) := by decide +kernel
theorem dX3_leastBehind_70 : decode cX3_leastBehind 70 = .ok (.iload 9, 2) := by decide +kernel
theorem dX3_leastBehind_72 : decode cX3_leastBehind 72 = .ok (.iaload, 1) := by decide +kernel
theorem dX3_leastBehind_73 : decode cX3_leastBehind 73 = .ok (.iconst (-1), 1) := by decide +kernel
theorem dX3_leastBehind_74 : decode cX3_leastBehind 74 = .ok (.if_icmp .eq 33, 3) := by decide +kernel
theorem dX3_leastBehind_77 : decode cX3_leastBehind 77 = .ok (.iload 8, 2) := by decide +kernel
theorem dX3_leastBehind_79 : decode cX3_leastBehind 79 = .ok (.aload_n 3, 1) := by decide +kernel
theorem dX3_leastBehind_80 : decode cX3_leastBehind 80 = .ok (.getfield 42, 3) := by decide +kernel
theorem dX3_leastBehind_83 : decode cX3_leastBehind 83 = .ok (.iload 9, 2) := by decide +kernel
theorem dX3_leastBehind_85 : decode cX3_leastBehind 85 = .ok (.iaload, 1) := by decide +kernel
theorem dX3_leastBehind_86 : decode cX3_leastBehind 86 = .ok (.iconst (-1), 1) := by decide +kernel
theorem dX3_leastBehind_87 : decode cX3_leastBehind 87 = .ok (.ixor, 1) := by decide +kernel
theorem dX3_leastBehind_88 : decode cX3_leastBehind 88 = .ok (.iand, 1) := by decide +kernel
theorem dX3_leastBehind_89 : decode cX3_leastBehind 89 = .ok (.ifCond .ne 18, 3) := by decide +kernel
theorem dX3_leastBehind_92 : decode cX3_leastBehind 92 = .ok (.aload_n 0, 1) := by decide +kernel
theorem dX3_leastBehind_93 : decode cX3_leastBehind 93 = .ok (.getfield 22, 3) := by decide +kernel
theorem dX3_leastBehind_96 : decode cX3_leastBehind 96 = .ok (.iload 9, 2) := by decide +kernel
theorem dX3_leastBehind_98 : decode cX3_leastBehind 98 = .ok (.laload, 1) := by decide +kernel
theorem dX3_leastBehind_99 : decode cX3_leastBehind 99 = .ok (.lconst 0, 1) := by decide +kernel
theorem dX3_leastBehind_100 : decode cX3_leastBehind 100 = .ok (.lcmp, 1) := by decide +kernel
theorem dX3_leastBehind_101 : decode cX3_leastBehind 101 = .ok (.ifCond .le 6, 3) := by decide +kernel
theorem dX3_leastBehind_104 : decode cX3_leastBehind 104 = .ok (.iload 8, 2) := by decide +kernel
theorem dX3_leastBehind_106 : decode cX3_leastBehind 106 = .ok (.ireturn, 1) := by decide +kernel
theorem dX3_leastBehind_107 : decode cX3_leastBehind 107 = .ok (.iinc 7 1, 3) := by decide +kernel
theorem dX3_leastBehind_110 : decode cX3_leastBehind 110 = .ok (.goto (-73), 3) := by decide +kernel
theorem dX3_leastBehind_113 : decode cX3_leastBehind 113 = .ok (.iconst 0, 1) := by decide +kernel
theorem dX3_leastBehind_114 : decode cX3_leastBehind 114 = .ok (.ireturn, 1) := by decide +kernel
theorem dX3_lastingBehind_0 : decode cX3_lastingBehind 0 = .ok (.iconst 0, 1) := by decide +kernel
theorem dX3_lastingBehind_1 : decode cX3_lastingBehind 1 = .ok (.istore_n 3, 1) := by decide +kernel
theorem dX3_lastingBehind_2 : decode cX3_lastingBehind 2 = .ok (.iconst 0, 1) := by decide +kernel
theorem dX3_lastingBehind_3 : decode cX3_lastingBehind 3 = .ok (.istore 4, 2) := by decide +kernel
theorem dX3_lastingBehind_5 : decode cX3_lastingBehind 5 = .ok (.iload 4, 2) := by decide +kernel
theorem dX3_lastingBehind_7 : decode cX3_lastingBehind 7 = .ok (.iload_n 2, 1) := by decide +kernel
theorem dX3_lastingBehind_8 : decode cX3_lastingBehind 8 = .ok (.if_icmp .ge 40, 3) := by decide +kernel
theorem dX3_lastingBehind_11 : decode cX3_lastingBehind 11 = .ok (.aload_n 0, 1) := by decide +kernel
theorem dX3_lastingBehind_12 : decode cX3_lastingBehind 12 = .ok (.getfield 9, 3) := by decide +kernel
theorem dX3_lastingBehind_15 : decode cX3_lastingBehind 15 = .ok (.iconst 2, 1) := by decide +kernel
theorem dX3_lastingBehind_16 : decode cX3_lastingBehind 16 = .ok (.iload 4, 2) := by decide +kernel
theorem dX3_lastingBehind_18 : decode cX3_lastingBehind 18 = .ok (.imul, 1) := by decide +kernel
theorem dX3_lastingBehind_19 : decode cX3_lastingBehind 19 = .ok (.iaload, 1) := by decide +kernel
theorem dX3_lastingBehind_20 : decode cX3_lastingBehind 20 = .ok (.iload_n 1, 1) := by decide +kernel
theorem dX3_lastingBehind_21 : decode cX3_lastingBehind 21 = .ok (.if_icmp .gt 21, 3) := by decide +kernel
theorem dX3_lastingBehind_24 : decode cX3_lastingBehind 24 = .ok (.iload_n 1, 1) := by decide +kernel
theorem dX3_lastingBehind_25 : decode cX3_lastingBehind 25 = .ok (.aload_n 0, 1) := by decide +kernel
theorem dX3_lastingBehind_26 : decode cX3_lastingBehind 26 = .ok (.getfield 9, 3) := by decide +kernel
theorem dX3_lastingBehind_29 : decode cX3_lastingBehind 29 = .ok (.iconst 2, 1) := by decide +kernel
theorem dX3_lastingBehind_30 : decode cX3_lastingBehind 30 = .ok (.iload 4, 2) := by decide +kernel
theorem dX3_lastingBehind_32 : decode cX3_lastingBehind 32 = .ok (.imul, 1) := by decide +kernel
theorem dX3_lastingBehind_33 : decode cX3_lastingBehind 33 = .ok (.iconst 1, 1) := by decide +kernel
theorem dX3_lastingBehind_34 : decode cX3_lastingBehind 34 = .ok (.iadd, 1) := by decide +kernel
theorem dX3_lastingBehind_35 : decode cX3_lastingBehind 35 = .ok (.iaload, 1) := by decide +kernel
theorem dX3_lastingBehind_36 : decode cX3_lastingBehind 36 = .ok (.if_icmp .ge 6, 3) := by decide +kernel
theorem dX3_lastingBehind_39 : decode cX3_lastingBehind 39 = .ok (.iinc 3 1, 3) := by decide +kernel
theorem dX3_lastingBehind_42 : decode cX3_lastingBehind 42 = .ok (.iinc 4 1, 3) := by decide +kernel
theorem dX3_lastingBehind_45 : decode cX3_lastingBehind 45 = .ok (.goto (-40), 3) := by decide +kernel
theorem dX3_lastingBehind_48 : decode cX3_lastingBehind 48 = .ok (.iload_n 3, 1) := by decide +kernel
theorem dX3_lastingBehind_49 : decode cX3_lastingBehind 49 = .ok (.ireturn, 1) := by decide +kernel
theorem dX3_aheadOf_0 : decode cX3_aheadOf 0 = .ok (.aload_n 0, 1) := by decide +kernel
theorem dX3_aheadOf_1 : decode cX3_aheadOf 1 = .ok (.getfield 15, 3) := by decide +kernel
theorem dX3_aheadOf_4 : decode cX3_aheadOf 4 = .ok (.bipush 12, 2) := by decide +kernel
theorem dX3_aheadOf_6 : decode cX3_aheadOf 6 = .ok (.iload_n 1, 1) := by decide +kernel
theorem dX3_aheadOf_7 : decode cX3_aheadOf 7 = .ok (.imul, 1) := by decide +kernel
theorem dX3_aheadOf_8 : decode cX3_aheadOf 8 = .ok (.iload_n 2, 1) := by decide +kernel
theorem dX3_aheadOf_9 : decode cX3_aheadOf 9 = .ok (.iadd, 1) := by decide +kernel
theorem dX3_aheadOf_10 : decode cX3_aheadOf 10 = .ok (.laload, 1) := by decide +kernel
theorem dX3_aheadOf_11 : decode cX3_aheadOf 11 = .ok (.lreturn, 1) := by decide +kernel
theorem dX3_alikeWith_0 : decode cX3_alikeWith 0 = .ok (.aload_n 0, 1) := by decide +kernel
theorem dX3_alikeWith_1 : decode cX3_alikeWith 1 = .ok (.getfield 19, 3) := by decide +kernel
theorem dX3_alikeWith_4 : decode cX3_alikeWith 4 = .ok (.bipush 12, 2) := by decide +kernel
theorem dX3_alikeWith_6 : decode cX3_alikeWith 6 = .ok (.iload_n 1, 1) := by decide +kernel
theorem dX3_alikeWith_7 : decode cX3_alikeWith 7 = .ok (.iload_n 2, 1) := by decide +kernel
theorem dX3_alikeWith_8 : decode cX3_alikeWith 8 = .ok (.invokestatic 92, 3) := by decide +kernel
theorem dX3_alikeWith_11 : decode cX3_alikeWith 11 = .ok (.imul, 1) := by decide +kernel
theorem dX3_alikeWith_12 : decode cX3_alikeWith 12 = .ok (.iload_n 1, 1) := by decide +kernel
theorem dX3_alikeWith_13 : decode cX3_alikeWith 13 = .ok (.iload_n 2, 1) := by decide +kernel
theorem dX3_alikeWith_14 : decode cX3_alikeWith 14 = .ok (.invokestatic 98, 3) := by decide +kernel
theorem dX3_alikeWith_17 : decode cX3_alikeWith 17 = .ok (.iadd, 1) := by decide +kernel
theorem dX3_alikeWith_18 : decode cX3_alikeWith 18 = .ok (.laload, 1) := by decide +kernel
theorem dX3_alikeWith_19 : decode cX3_alikeWith 19 = .ok (.lreturn, 1) := by decide +kernel
set_option maxRecDepth 20000 in
theorem ggX3_relation_X3_aheadOf : GoodIn wsX3_relation wsX3_aheadOf := goodIn_r _ [5, 6, 19, 20, 21, 22, 23, 24, 25] (by decide +kernel) (by decide +kernel)
set_option maxRecDepth 20000 in
theorem gX3_relation_X3_aheadOf : GoodIn wsX3_relation (wsV RX3 101 RX3 yX3_aheadOf wsX3_aheadOf) := goodIn_app (goodIn_of _ (by decide +kernel)) ggX3_relation_X3_aheadOf
set_option maxRecDepth 20000 in
theorem ggX3_relation_X3_alikeWith : GoodIn wsX3_relation wsX3_alikeWith := goodIn_r _ [10, 11, 12, 13, 14, 15, 16, 17, 18, 19, 20, 21, 22, 23, 24, 25] (by decide +kernel) (by decide +kernel)
set_option maxRecDepth 20000 in
theorem gX3_relation_X3_alikeWith : GoodIn wsX3_relation (wsV RX3 105 RX3 yX3_alikeWith wsX3_alikeWith) := goodIn_app (goodIn_of _ (by decide +kernel)) ggX3_relation_X3_alikeWith
theorem dX3_relation_0 : decode cX3_relation 0 = .ok (.aload_n 0, 1) := by decide +kernel
theorem dX3_relation_1 : decode cX3_relation 1 = .ok (.iload_n 1, 1) := by decide +kernel
theorem dX3_relation_2 : decode cX3_relation 2 = .ok (.iload_n 2, 1) := by decide +kernel
theorem dX3_relation_3 : decode cX3_relation 3 = .ok (.invokevirtual 101, 3) := by decide +kernel
theorem dX3_relation_6 : decode cX3_relation 6 = .ok (.lconst 0, 1) := by decide +kernel
theorem dX3_relation_7 : decode cX3_relation 7 = .ok (.lcmp, 1) := by decide +kernel
theorem dX3_relation_8 : decode cX3_relation 8 = .ok (.ifCond .le 7, 3) := by decide +kernel
theorem dX3_relation_11 : decode cX3_relation 11 = .ok (.iconst 1, 1) := by decide +kernel
theorem dX3_relation_12 : decode cX3_relation 12 = .ok (.goto 4, 3) := by decide +kernel
theorem dX3_relation_15 : decode cX3_relation 15 = .ok (.iconst 0, 1) := by decide +kernel
theorem dX3_relation_16 : decode cX3_relation 16 = .ok (.aload_n 0, 1) := by decide +kernel
theorem dX3_relation_17 : decode cX3_relation 17 = .ok (.iload_n 1, 1) := by decide +kernel
theorem dX3_relation_18 : decode cX3_relation 18 = .ok (.iload_n 2, 1) := by decide +kernel
theorem dX3_relation_19 : decode cX3_relation 19 = .ok (.invokevirtual 105, 3) := by decide +kernel
theorem dX3_relation_22 : decode cX3_relation 22 = .ok (.lconst 0, 1) := by decide +kernel
theorem dX3_relation_23 : decode cX3_relation 23 = .ok (.lcmp, 1) := by decide +kernel
theorem dX3_relation_24 : decode cX3_relation 24 = .ok (.ifCond .le 7, 3) := by decide +kernel
theorem dX3_relation_27 : decode cX3_relation 27 = .ok (.iconst 2, 1) := by decide +kernel
theorem dX3_relation_28 : decode cX3_relation 28 = .ok (.goto 4, 3) := by decide +kernel
theorem dX3_relation_31 : decode cX3_relation 31 = .ok (.iconst 0, 1) := by decide +kernel
theorem dX3_relation_32 : decode cX3_relation 32 = .ok (.ior, 1) := by decide +kernel
theorem dX3_relation_33 : decode cX3_relation 33 = .ok (.aload_n 0, 1) := by decide +kernel
theorem dX3_relation_34 : decode cX3_relation 34 = .ok (.iload_n 2, 1) := by decide +kernel
theorem dX3_relation_35 : decode cX3_relation 35 = .ok (.iload_n 1, 1) := by decide +kernel
theorem dX3_relation_36 : decode cX3_relation 36 = .ok (.invokevirtual 101, 3) := by decide +kernel
theorem dX3_relation_39 : decode cX3_relation 39 = .ok (.lconst 0, 1) := by decide +kernel
theorem dX3_relation_40 : decode cX3_relation 40 = .ok (.lcmp, 1) := by decide +kernel
theorem dX3_relation_41 : decode cX3_relation 41 = .ok (.ifCond .le 7, 3) := by decide +kernel
theorem dX3_relation_44 : decode cX3_relation 44 = .ok (.iconst 4, 1) := by decide +kernel
theorem dX3_relation_45 : decode cX3_relation 45 = .ok (.goto 4, 3) := by decide +kernel
theorem dX3_relation_48 : decode cX3_relation 48 = .ok (.iconst 0, 1) := by decide +kernel
theorem dX3_relation_49 : decode cX3_relation 49 = .ok (.ior, 1) := by decide +kernel
theorem dX3_relation_50 : decode cX3_relation 50 = .ok (.ireturn, 1) := by decide +kernel
set_option maxRecDepth 20000 in
theorem ggX3_isSure_X3_relation : GoodIn wsX3_isSure wsX3_relation := goodIn_r _ [5, 6, 7, 8, 4, 9, 10, 11, 12, 13, 14, 15, 16, 17, 18, 19, 20, 21, 22, 30, 31, 32, 33, 34, 35, 36] (by decide +kernel) (by decide +kernel)
set_option maxRecDepth 20000 in
theorem gX3_isSure_X3_relation : GoodIn wsX3_isSure (wsV RX3 108 RX3 yX3_relation wsX3_relation) := goodIn_app (goodIn_of _ (by decide +kernel)) ggX3_isSure_X3_relation
set_option maxRecDepth 20000 in
theorem ggX3_isSure_J6_bitCount_0f7a4 : GoodIn wsX3_isSure wsJ6_bitCount_0f7a4 := goodIn_r _ [26, 27, 28, 29] (by decide +kernel) (by decide +kernel)
set_option maxRecDepth 20000 in
theorem gX3_isSure_J6_bitCount_0f7a4 : GoodIn wsX3_isSure (va_wsS RX3 111 yJ6_bitCount_0f7a4 wsJ6_bitCount_0f7a4) := goodIn_app (goodIn_of _ (by decide +kernel)) ggX3_isSure_J6_bitCount_0f7a4
theorem dX3_isSure_0 : decode cX3_isSure 0 = .ok (.aload_n 0, 1) := by decide +kernel
theorem dX3_isSure_1 : decode cX3_isSure 1 = .ok (.iload_n 1, 1) := by decide +kernel
theorem dX3_isSure_2 : decode cX3_isSure 2 = .ok (.iload_n 2, 1) := by decide +kernel
theorem dX3_isSure_3 : decode cX3_isSure 3 = .ok (.invokevirtual 108, 3) := by decide +kernel
theorem dX3_isSure_6 : decode cX3_isSure 6 = .ok (.invokestatic 111, 3) := by decide +kernel
theorem dX3_isSure_9 : decode cX3_isSure 9 = .ok (.iconst 1, 1) := by decide +kernel
theorem dX3_isSure_10 : decode cX3_isSure 10 = .ok (.if_icmp .ne 7, 3) := by decide +kernel
theorem dX3_isSure_13 : decode cX3_isSure 13 = .ok (.iconst 1, 1) := by decide +kernel
theorem dX3_isSure_14 : decode cX3_isSure 14 = .ok (.goto 4, 3) := by decide +kernel
theorem dX3_isSure_17 : decode cX3_isSure 17 = .ok (.iconst 0, 1) := by decide +kernel
theorem dX3_isSure_18 : decode cX3_isSure 18 = .ok (.ireturn, 1) := by decide +kernel
set_option maxRecDepth 20000 in
theorem ggX3_surePairs_X3_isSure : GoodIn wsX3_surePairs wsX3_isSure := goodIn_r _ [5, 6, 7, 8, 4, 9, 10, 11, 12, 13, 14, 15, 16, 17, 18, 19, 20, 21, 22, 23, 24, 25, 26, 27, 28, 29, 30, 31, 32, 33, 34, 35, 36, 37, 38, 39, 40] (by decide +kernel) (by decide +kernel)
set_option maxRecDepth 20000 in
theorem gX3_surePairs_X3_isSure : GoodIn wsX3_surePairs (wsV RX3 116 RX3 yX3_isSure wsX3_isSure) := goodIn_app (goodIn_of _ (by decide +kernel)) ggX3_surePairs_X3_isSure
theorem dX3_surePairs_0 : decode cX3_surePairs 0 = .ok (.iconst 0, 1) := by decide +kernel
theorem dX3_surePairs_1 : decode cX3_surePairs 1 = .ok (.istore_n 2, 1) := by decide +kernel
theorem dX3_surePairs_2 : decode cX3_surePairs 2 = .ok (.iconst 0, 1) := by decide +kernel
theorem dX3_surePairs_3 : decode cX3_surePairs 3 = .ok (.istore_n 3, 1) := by decide +kernel
theorem dX3_surePairs_4 : decode cX3_surePairs 4 = .ok (.iload_n 3, 1) := by decide +kernel
theorem dX3_surePairs_5 : decode cX3_surePairs 5 = .ok (.iload_n 1, 1) := by decide +kernel
theorem dX3_surePairs_6 : decode cX3_surePairs 6 = .ok (.if_icmp .ge 39, 3) := by decide +kernel
theorem dX3_surePairs_9 : decode cX3_surePairs 9 = .ok (.iload_n 3, 1) := by decide +kernel
theorem dX3_surePairs_10 : decode cX3_surePairs 10 = .ok (.iconst 1, 1) := by decide +kernel
theorem dX3_surePairs_11 : decode cX3_surePairs 11 = .ok (.iadd, 1) := by decide +kernel
theorem dX3_surePairs_12 : decode cX3_surePairs 12 = .ok (.istore 4, 2) := by decide +kernel
theorem dX3_surePairs_14 : decode cX3_surePairs 14 = .ok (.iload 4, 2) := by decide +kernel
theorem dX3_surePairs_16 : decode cX3_surePairs 16 = .ok (.iload_n 1, 1) := by decide +kernel
theorem dX3_surePairs_17 : decode cX3_surePairs 17 = .ok (.if_icmp .ge 22, 3) := by decide +kernel
theorem dX3_surePairs_20 : decode cX3_surePairs 20 = .ok (.aload_n 0, 1) := by decide +kernel
theorem dX3_surePairs_21 : decode cX3_surePairs 21 = .ok (.iload_n 3, 1) := by decide +kernel
theorem dX3_surePairs_22 : decode cX3_surePairs 22 = .ok (.iload 4, 2) := by decide +kernel
theorem dX3_surePairs_24 : decode cX3_surePairs 24 = .ok (.invokevirtual 116, 3) := by decide +kernel
theorem dX3_surePairs_27 : decode cX3_surePairs 27 = .ok (.ifCond .eq 6, 3) := by decide +kernel
theorem dX3_surePairs_30 : decode cX3_surePairs 30 = .ok (.iinc 2 1, 3) := by decide +kernel
theorem dX3_surePairs_33 : decode cX3_surePairs 33 = .ok (.iinc 4 1, 3) := by decide +kernel
theorem dX3_surePairs_36 : decode cX3_surePairs 36 = .ok (.goto (-22), 3) := by decide +kernel
theorem dX3_surePairs_39 : decode cX3_surePairs 39 = .ok (.iinc 3 1, 3) := by decide +kernel
theorem dX3_surePairs_42 : decode cX3_surePairs 42 = .ok (.goto (-38), 3) := by decide +kernel
theorem dX3_surePairs_45 : decode cX3_surePairs 45 = .ok (.iload_n 2, 1) := by decide +kernel
theorem dX3_surePairs_46 : decode cX3_surePairs 46 = .ok (.ireturn, 1) := by decide +kernel
set_option maxRecDepth 20000 in
theorem ggX3_overlaps_X3_noLater : GoodIn wsX3_overlaps wsX3_noLater := goodIn_r _ [6, 7, 8, 9, 5, 10, 11, 12, 13, 14, 15, 16, 17, 18, 19, 20, 21, 22, 23, 24, 25, 26, 27, 28, 29, 30] (by decide +kernel) (by decide +kernel)
set_option maxRecDepth 20000 in
theorem gX3_overlaps_X3_noLater : GoodIn wsX3_overlaps (wsV RX3 120 RX3 yX3_noLater wsX3_noLater) := goodIn_app (goodIn_of _ (by decide +kernel)) ggX3_overlaps_X3_noLater
theorem dX3_overlaps_0 : decode cX3_overlaps 0 = .ok (.aload_n 0, 1) := by decide +kernel
theorem dX3_overlaps_1 : decode cX3_overlaps 1 = .ok (.getfield 34, 3) := by decide +kernel
theorem dX3_overlaps_4 : decode cX3_overlaps 4 = .ok (.aload_n 0, 1) := by decide +kernel
theorem dX3_overlaps_5 : decode cX3_overlaps 5 = .ok (.iconst 2, 1) := by decide +kernel
theorem dX3_overlaps_6 : decode cX3_overlaps 6 = .ok (.iload_n 1, 1) := by decide +kernel
theorem dX3_overlaps_7 : decode cX3_overlaps 7 = .ok (.imul, 1) := by decide +kernel
theorem dX3_overlaps_8 : decode cX3_overlaps 8 = .ok (.iconst 1, 1) := by decide +kernel
theorem dX3_overlaps_9 : decode cX3_overlaps 9 = .ok (.iadd, 1) := by decide +kernel
theorem dX3_overlaps_10 : decode cX3_overlaps 10 = .ok (.iconst 2, 1) := by decide +kernel
theorem dX3_overlaps_11 : decode cX3_overlaps 11 = .ok (.iload_n 2, 1) := by decide +kernel
theorem dX3_overlaps_12 : decode cX3_overlaps 12 = .ok (.imul, 1) := by decide +kernel
theorem dX3_overlaps_13 : decode cX3_overlaps 13 = .ok (.invokevirtual 120, 3) := by decide +kernel
theorem dX3_overlaps_16 : decode cX3_overlaps 16 = .ok (.lsub, 1) := by decide +kernel
theorem dX3_overlaps_17 : decode cX3_overlaps 17 = .ok (.aload_n 0, 1) := by decide +kernel
theorem dX3_overlaps_18 : decode cX3_overlaps 18 = .ok (.iconst 2, 1) := by decide +kernel
theorem dX3_overlaps_19 : decode cX3_overlaps 19 = .ok (.iload_n 2, 1) := by decide +kernel
theorem dX3_overlaps_20 : decode cX3_overlaps 20 = .ok (.imul, 1) := by decide +kernel
theorem dX3_overlaps_21 : decode cX3_overlaps 21 = .ok (.iconst 1, 1) := by decide +kernel
theorem dX3_overlaps_22 : decode cX3_overlaps 22 = .ok (.iadd, 1) := by decide +kernel
theorem dX3_overlaps_23 : decode cX3_overlaps 23 = .ok (.iconst 2, 1) := by decide +kernel
theorem dX3_overlaps_24 : decode cX3_overlaps 24 = .ok (.iload_n 1, 1) := by decide +kernel
theorem dX3_overlaps_25 : decode cX3_overlaps 25 = .ok (.imul, 1) := by decide +kernel
theorem dX3_overlaps_26 : decode cX3_overlaps 26 = .ok (.invokevirtual 120, 3) := by decide +kernel
theorem dX3_overlaps_29 : decode cX3_overlaps 29 = .ok (.lsub, 1) := by decide +kernel
theorem dX3_overlaps_30 : decode cX3_overlaps 30 = .ok (.lreturn, 1) := by decide +kernel
set_option maxRecDepth 20000 in
theorem ggX3_noLater_X3_aheadOf : GoodIn wsX3_noLater wsX3_aheadOf := goodIn_r _ [5, 6, 19, 20, 21, 22, 23, 24, 25] (by decide +kernel) (by decide +kernel)
set_option maxRecDepth 20000 in
theorem gX3_noLater_X3_aheadOf : GoodIn wsX3_noLater (wsV RX3 101 RX3 yX3_aheadOf wsX3_aheadOf) := goodIn_app (goodIn_of _ (by decide +kernel)) ggX3_noLater_X3_aheadOf
set_option maxRecDepth 20000 in
theorem ggX3_noLater_X3_alikeWith : GoodIn wsX3_noLater wsX3_alikeWith := goodIn_r _ [10, 11, 12, 13, 14, 15, 16, 17, 18, 19, 20, 21, 22, 23, 24, 25] (by decide +kernel) (by decide +kernel)
set_option maxRecDepth 20000 in
theorem gX3_noLater_X3_alikeWith : GoodIn wsX3_noLater (wsV RX3 105 RX3 yX3_alikeWith wsX3_alikeWith) := goodIn_app (goodIn_of _ (by decide +kernel)) ggX3_noLater_X3_alikeWith
theorem dX3_noLater_0 : decode cX3_noLater 0 = .ok (.aload_n 0, 1) := by decide +kernel
theorem dX3_noLater_1 : decode cX3_noLater 1 = .ok (.iload_n 1, 1) := by decide +kernel
theorem dX3_noLater_2 : decode cX3_noLater 2 = .ok (.iload_n 2, 1) := by decide +kernel
theorem dX3_noLater_3 : decode cX3_noLater 3 = .ok (.invokevirtual 101, 3) := by decide +kernel
theorem dX3_noLater_6 : decode cX3_noLater 6 = .ok (.aload_n 0, 1) := by decide +kernel
theorem dX3_noLater_7 : decode cX3_noLater 7 = .ok (.iload_n 1, 1) := by decide +kernel
theorem dX3_noLater_8 : decode cX3_noLater 8 = .ok (.iload_n 2, 1) := by decide +kernel
theorem dX3_noLater_9 : decode cX3_noLater 9 = .ok (.invokevirtual 105, 3) := by decide +kernel
theorem dX3_noLater_12 : decode cX3_noLater 12 = .ok (.ladd, 1) := by decide +kernel
theorem dX3_noLater_13 : decode cX3_noLater 13 = .ok (.lreturn, 1) := by decide +kernel
set_option maxRecDepth 20000 in
theorem ggX3_question_X3_mostLeft : GoodIn wsX3_question wsX3_mostLeft := goodIn_r _ [6, 7, 8, 9, 10, 11, 12, 13, 5, 14, 15, 16, 17, 18, 19, 20, 21, 22, 23, 24, 25, 26, 42, 43, 44, 45, 46, 47, 48] (by decide +kernel) (by decide +kernel)
set_option maxRecDepth 20000 in
theorem gX3_question_X3_mostLeft : GoodIn wsX3_question (wsV RX3 125 RX3 yX3_mostLeft wsX3_mostLeft) := goodIn_app (goodIn_of _ (by decide +kernel)) ggX3_question_X3_mostLeft
set_option maxRecDepth 20000 in
theorem ggX3_question_X3_isSure : GoodIn wsX3_question wsX3_isSure := goodIn_r _ [30, 31, 32, 33, 5, 34, 22, 23, 24, 25, 26, 11, 12, 13, 14, 15, 16, 17, 9, 18, 19, 20, 21, 35, 36, 37, 38, 39, 40, 41, 42, 43, 44, 45, 46, 47, 48] (by decide +kernel) (by decide +kernel)
set_option maxRecDepth 20000 in
theorem gX3_question_X3_isSure : GoodIn wsX3_question (wsV RX3 116 RX3 yX3_isSure wsX3_isSure) := goodIn_app (goodIn_of _ (by decide +kernel)) ggX3_question_X3_isSure
theorem dX3_question_0 : decode cX3_question 0 = .ok (.ldc2_w 123, 3) := by decide +kernel
theorem dX3_question_3 : decode cX3_question 3 = .ok (.lstore_n 3, 1) := by decide +kernel
theorem dX3_question_4 : decode cX3_question 4 = .ok (.ldc2_w 123, 3) := by decide +kernel
theorem dX3_question_7 : decode cX3_question 7 = .ok (.lstore 5, 2) := by decide +kernel
theorem dX3_question_9 : decode cX3_question 9 = .ok (.iconst 0, 1) := by decide +kernel
theorem dX3_question_10 : decode cX3_question 10 = .ok (.istore 7, 2) := by decide +kernel
theorem dX3_question_12 : decode cX3_question 12 = .ok (.iload 7, 2) := by decide +kernel
theorem dX3_question_14 : decode cX3_question 14 = .ok (.iload_n 2, 1) := by decide +kernel
theorem dX3_question_15 : decode cX3_question 15 = .ok (.if_icmp .ge 78, 3) := by decide +kernel
theorem dX3_question_18 : decode cX3_question 18 = .ok (.iload 7, 2) := by decide +kernel
theorem dX3_question_20 : decode cX3_question 20 = .ok (.iconst 1, 1) := by decide +kernel
theorem dX3_question_21 : decode cX3_question 21 = .ok (.iadd, 1) := by decide +kernel
theorem dX3_question_22 : decode cX3_question 22 = .ok (.istore 8, 2) := by decide +kernel
theorem dX3_question_24 : decode cX3_question 24 = .ok (.iload 8, 2) := by decide +kernel
theorem dX3_question_26 : decode cX3_question 26 = .ok (.iload_n 2, 1) := by decide +kernel
theorem dX3_question_27 : decode cX3_question 27 = .ok (.if_icmp .ge 60, 3) := by decide +kernel
theorem dX3_question_30 : decode cX3_question 30 = .ok (.aload_n 0, 1) := by decide +kernel
theorem dX3_question_31 : decode cX3_question 31 = .ok (.iload 7, 2) := by decide +kernel
theorem dX3_question_33 : decode cX3_question 33 = .ok (.iload 8, 2) := by decide +kernel
theorem dX3_question_35 : decode cX3_question 35 = .ok (.invokevirtual 125, 3) := by decide +kernel
theorem dX3_question_38 : decode cX3_question 38 = .ok (.lstore 9, 2) := by decide +kernel
theorem dX3_question_40 : decode cX3_question 40 = .ok (.aload_n 0, 1) := by decide +kernel
theorem dX3_question_41 : decode cX3_question 41 = .ok (.iload 7, 2) := by decide +kernel
theorem dX3_question_43 : decode cX3_question 43 = .ok (.iload 8, 2) := by decide +kernel
theorem dX3_question_45 : decode cX3_question 45 = .ok (.invokevirtual 116, 3) := by decide +kernel
theorem dX3_question_48 : decode cX3_question 48 = .ok (.ifCond .ne 33, 3) := by decide +kernel
theorem dX3_question_51 : decode cX3_question 51 = .ok (.lload_n 3, 1) := by decide +kernel
theorem dX3_question_52 : decode cX3_question 52 = .ok (.ldc2_w 123, 3) := by decide +kernel
theorem dX3_question_55 : decode cX3_question 55 = .ok (.lcmp, 1) := by decide +kernel
theorem dX3_question_56 : decode cX3_question 56 = .ok (.ifCond .eq 11, 3) := by decide +kernel
theorem dX3_question_59 : decode cX3_question 59 = .ok (.lload 9, 2) := by decide +kernel
theorem dX3_question_61 : decode cX3_question 61 = .ok (.lload 5, 2) := by decide +kernel
theorem dX3_question_63 : decode cX3_question 63 = .ok (.lcmp, 1) := by decide +kernel
theorem dX3_question_64 : decode cX3_question 64 = .ok (.ifCond .ge 17, 3) := by decide +kernel
theorem dX3_question_67 : decode cX3_question 67 = .ok (.bipush 100, 2) := by decide +kernel
theorem dX3_question_69 : decode cX3_question 69 = .ok (.iload 7, 2) := by decide +kernel
theorem dX3_question_71 : decode cX3_question 71 = .ok (.imul, 1) := by decide +kernel
theorem dX3_question_72 : decode cX3_question 72 = .ok (.iload 8, 2) := by decide +kernel
theorem dX3_question_74 : decode cX3_question 74 = .ok (.iadd, 1) := by decide +kernel
theorem dX3_question_75 : decode cX3_question 75 = .ok (.i2l, 1) := by decide +kernel
theorem dX3_question_76 : decode cX3_question 76 = .ok (.lstore_n 3, 1) := by decide +kernel
theorem dX3_question_77 : decode cX3_question 77 = .ok (.lload 9, 2) := by decide +kernel
theorem dX3_question_79 : decode cX3_question 79 = .ok (.lstore 5, 2) := by decide +kernel
theorem dX3_question_81 : decode cX3_question 81 = .ok (.iinc 8 1, 3) := by decide +kernel
theorem dX3_question_84 : decode cX3_question 84 = .ok (.goto (-60), 3) := by decide +kernel
theorem dX3_question_87 : decode cX3_question 87 = .ok (.iinc 7 1, 3) := by decide +kernel
theorem dX3_question_90 : decode cX3_question 90 = .ok (.goto (-78), 3) := by decide +kernel
theorem dX3_question_93 : decode cX3_question 93 = .ok (.iload_n 1, 1) := by decide +kernel
theorem dX3_question_94 : decode cX3_question 94 = .ok (.ifCond .ne 7, 3) := by decide +kernel
theorem dX3_question_97 : decode cX3_question 97 = .ok (.lload_n 3, 1) := by decide +kernel
theorem dX3_question_98 : decode cX3_question 98 = .ok (.goto 5, 3) := by decide +kernel
theorem dX3_question_101 : decode cX3_question 101 = .ok (.lload 5, 2) := by decide +kernel
theorem dX3_question_103 : decode cX3_question 103 = .ok (.lreturn, 1) := by decide +kernel
set_option maxRecDepth 20000 in
theorem ggX3_mostLeft_X3_alikeWith : GoodIn wsX3_mostLeft wsX3_alikeWith := goodIn_r _ [9, 10, 11, 12, 3, 13, 14, 15, 16, 22, 23, 24, 25, 26, 27, 28] (by decide +kernel) (by decide +kernel)
set_option maxRecDepth 20000 in
theorem gX3_mostLeft_X3_alikeWith : GoodIn wsX3_mostLeft (wsV RX3 105 RX3 yX3_alikeWith wsX3_alikeWith) := goodIn_app (goodIn_of _ (by decide +kernel)) ggX3_mostLeft_X3_alikeWith
set_option maxRecDepth 20000 in
theorem ggX3_mostLeft_X3_aheadOf : GoodIn wsX3_mostLeft wsX3_aheadOf := goodIn_r _ [20, 21, 22, 23, 24, 25, 26, 27, 28] (by decide +kernel) (by decide +kernel)
set_option maxRecDepth 20000 in
theorem gX3_mostLeft_X3_aheadOf : GoodIn wsX3_mostLeft (wsV RX3 101 RX3 yX3_aheadOf wsX3_aheadOf) := goodIn_app (goodIn_of _ (by decide +kernel)) ggX3_mostLeft_X3_aheadOf
theorem dX3_mostLeft_0 : decode cX3_mostLeft 0 = .ok (.aload_n 0, 1) := by decide +kernel
theorem dX3_mostLeft_1 : decode cX3_mostLeft 1 = .ok (.iload_n 1, 1) := by decide +kernel
theorem dX3_mostLeft_2 : decode cX3_mostLeft 2 = .ok (.iload_n 2, 1) := by decide +kernel
theorem dX3_mostLeft_3 : decode cX3_mostLeft 3 = .ok (.invokevirtual 105, 3) := by decide +kernel
theorem dX3_mostLeft_6 : decode cX3_mostLeft 6 = .ok (.aload_n 0, 1) := by decide +kernel
theorem dX3_mostLeft_7 : decode cX3_mostLeft 7 = .ok (.iload_n 1, 1) := by decide +kernel
theorem dX3_mostLeft_8 : decode cX3_mostLeft 8 = .ok (.iload_n 2, 1) := by decide +kernel
theorem dX3_mostLeft_9 : decode cX3_mostLeft 9 = .ok (.invokevirtual 101, 3) := by decide +kernel
theorem dX3_mostLeft_12 : decode cX3_mostLeft 12 = .ok (.aload_n 0, 1) := by decide +kernel
theorem dX3_mostLeft_13 : decode cX3_mostLeft 13 = .ok (.iload_n 2, 1) := by decide +kernel
theorem dX3_mostLeft_14 : decode cX3_mostLeft 14 = .ok (.iload_n 1, 1) := by decide +kernel
theorem dX3_mostLeft_15 : decode cX3_mostLeft 15 = .ok (.invokevirtual 101, 3) := by decide +kernel
theorem dX3_mostLeft_18 : decode cX3_mostLeft 18 = .ok (.invokestatic 128, 3) := by decide +kernel
theorem dX3_mostLeft_21 : decode cX3_mostLeft 21 = .ok (.invokestatic 128, 3) := by decide +kernel
theorem dX3_mostLeft_24 : decode cX3_mostLeft 24 = .ok (.lreturn, 1) := by decide +kernel
theorem dX4_init_0 : decode cX4_init 0 = .ok (.aload_n 0, 1) := by decide +kernel
theorem dX4_init_1 : decode cX4_init 1 = .ok (.invokespecial 3, 3) := by decide +kernel
theorem dX4_init_4 : decode cX4_init 4 = .ok (.aload_n 0, 1) := by decide +kernel
theorem dX4_init_5 : decode cX4_init 5 = .ok (.bipush 6, 2) := by decide +kernel
theorem dX4_init_7 : decode cX4_init 7 = .ok (.newarray .int, 2) := by decide +kernel
theorem dX4_init_9 : decode cX4_init 9 = .ok (.putfield 9, 3) := by decide +kernel
theorem dX4_init_12 : decode cX4_init 12 = .ok (.aload_n 0, 1) := by decide +kernel
theorem dX4_init_13 : decode cX4_init 13 = .ok (.bipush 6, 2) := by decide +kernel
theorem dX4_init_15 : decode cX4_init 15 = .ok (.newarray .int, 2) := by decide +kernel
theorem dX4_init_17 : decode cX4_init 17 = .ok (.putfield 15, 3) := by decide +kernel
theorem dX4_init_20 : decode cX4_init 20 = .ok (.aload_n 0, 1) := by decide +kernel
theorem dX4_init_21 : decode cX4_init 21 = .ok (.bipush 12, 2) := by decide +kernel
theorem dX4_init_23 : decode cX4_init 23 = .ok (.newarray .int, 2) := by decide +kernel
theorem dX4_init_25 : decode cX4_init 25 = .ok (.putfield 18, 3) := by decide +kernel
theorem dX4_init_28 : decode cX4_init 28 = .ok (.aload_n 0, 1) := by decide +kernel
theorem dX4_init_29 : decode cX4_init 29 = .ok (.bipush 8, 2) := by decide +kernel
theorem dX4_init_31 : decode cX4_init 31 = .ok (.newarray .int, 2) := by decide +kernel
theorem dX4_init_33 : decode cX4_init 33 = .ok (.putfield 21, 3) := by decide +kernel
theorem dX4_init_36 : decode cX4_init 36 = .ok (.aload_n 0, 1) := by decide +kernel
theorem dX4_init_37 : decode cX4_init 37 = .ok (.bipush 8, 2) := by decide +kernel
theorem dX4_init_39 : decode cX4_init 39 = .ok (.newarray .int, 2) := by decide +kernel
theorem dX4_init_41 : decode cX4_init 41 = .ok (.putfield 24, 3) := by decide +kernel
theorem dX4_init_44 : decode cX4_init 44 = .ok (.aload_n 0, 1) := by decide +kernel
theorem dX4_init_45 : decode cX4_init 45 = .ok (.bipush 8, 2) := by decide +kernel
theorem dX4_init_47 : decode cX4_init 47 = .ok (.newarray .int, 2) := by decide +kernel
theorem dX4_init_49 : decode cX4_init 49 = .ok (.putfield 27, 3) := by decide +kernel
theorem dX4_init_52 : decode cX4_init 52 = .ok (.aload_n 0, 1) := by decide +kernel
theorem dX4_init_53 : decode cX4_init 53 = .ok (.bipush 8, 2) := by decide +kernel
theorem dX4_init_55 : decode cX4_init 55 = .ok (.newarray .int, 2) := by decide +kernel
theorem dX4_init_57 : decode cX4_init 57 = .ok (.putfield 30, 3) := by decide +kernel
theorem dX4_init_60 : decode cX4_init 60 = .ok (.return_, 1) := by decide +kernel
theorem dX4_empty_0 : decode cX4_empty 0 = .ok (.aload_n 0, 1) := by decide +kernel
theorem dX4_empty_1 : decode cX4_empty 1 = .ok (.iconst 0, 1) := by decide +kernel
theorem dX4_empty_2 : decode cX4_empty 2 = .ok (.putfield 33, 3) := by decide +kernel
theorem dX4_empty_5 : decode cX4_empty 5 = .ok (.aload_n 0, 1) := by decide +kernel
theorem dX4_empty_6 : decode cX4_empty 6 = .ok (.iconst 0, 1) := by decide +kernel
theorem dX4_empty_7 : decode cX4_empty 7 = .ok (.putfield 37, 3) := by decide +kernel
theorem dX4_empty_10 : decode cX4_empty 10 = .ok (.return_, 1) := by decide +kernel
theorem dX4_addThing_0 : decode cX4_addThing 0 = .ok (.aload_n 0, 1) := by decide +kernel
theorem dX4_addThing_1 : decode cX4_addThing 1 = .ok (.getfield 33, 3) := by decide +kernel
theorem dX4_addThing_4 : decode cX4_addThing 4 = .ok (.istore_n 1, 1) := by decide +kernel
theorem dX4_addThing_5 : decode cX4_addThing 5 = .ok (.aload_n 0, 1) := by decide +kernel
theorem dX4_addThing_6 : decode cX4_addThing 6 = .ok (.getfield 9, 3) := by decide +kernel
theorem dX4_addThing_9 : decode cX4_addThing 9 = .ok (.iload_n 1, 1) := by decide +kernel
theorem dX4_addThing_10 : decode cX4_addThing 10 = .ok (.iconst (-1), 1) := by decide +kernel
theorem dX4_addThing_11 : decode cX4_addThing 11 = .ok (.iastore, 1) := by decide +kernel
theorem dX4_addThing_12 : decode cX4_addThing 12 = .ok (.aload_n 0, 1) := by decide +kernel
theorem dX4_addThing_13 : decode cX4_addThing 13 = .ok (.getfield 15, 3) := by decide +kernel
theorem dX4_addThing_16 : decode cX4_addThing 16 = .ok (.iload_n 1, 1) := by decide +kernel
theorem dX4_addThing_17 : decode cX4_addThing 17 = .ok (.iconst 0, 1) := by decide +kernel
theorem dX4_addThing_18 : decode cX4_addThing 18 = .ok (.iastore, 1) := by decide +kernel
theorem dX4_addThing_19 : decode cX4_addThing 19 = .ok (.aload_n 0, 1) := by decide +kernel
theorem dX4_addThing_20 : decode cX4_addThing 20 = .ok (.getfield 18, 3) := by decide +kernel
theorem dX4_addThing_23 : decode cX4_addThing 23 = .ok (.iconst 2, 1) := by decide +kernel
theorem dX4_addThing_24 : decode cX4_addThing 24 = .ok (.iload_n 1, 1) := by decide +kernel
theorem dX4_addThing_25 : decode cX4_addThing 25 = .ok (.imul, 1) := by decide +kernel
theorem dX4_addThing_26 : decode cX4_addThing 26 = .ok (.iconst (-1), 1) := by decide +kernel
theorem dX4_addThing_27 : decode cX4_addThing 27 = .ok (.iastore, 1) := by decide +kernel
theorem dX4_addThing_28 : decode cX4_addThing 28 = .ok (.aload_n 0, 1) := by decide +kernel
theorem dX4_addThing_29 : decode cX4_addThing 29 = .ok (.getfield 18, 3) := by decide +kernel
theorem dX4_addThing_32 : decode cX4_addThing 32 = .ok (.iconst 2, 1) := by decide +kernel
theorem dX4_addThing_33 : decode cX4_addThing 33 = .ok (.iload_n 1, 1) := by decide +kernel
theorem dX4_addThing_34 : decode cX4_addThing 34 = .ok (.imul, 1) := by decide +kernel
theorem dX4_addThing_35 : decode cX4_addThing 35 = .ok (.iconst 1, 1) := by decide +kernel
theorem dX4_addThing_36 : decode cX4_addThing 36 = .ok (.iadd, 1) := by decide +kernel
theorem dX4_addThing_37 : decode cX4_addThing 37 = .ok (.iconst (-1), 1) := by decide +kernel
theorem dX4_addThing_38 : decode cX4_addThing 38 = .ok (.iastore, 1) := by decide +kernel
theorem dX4_addThing_39 : decode cX4_addThing 39 = .ok (.aload_n 0, 1) := by decide +kernel
theorem dX4_addThing_40 : decode cX4_addThing 40 = .ok (.iload_n 1, 1) := by decide +kernel
theorem dX4_addThing_41 : decode cX4_addThing 41 = .ok (.iconst 1, 1) := by decide +kernel
theorem dX4_addThing_42 : decode cX4_addThing 42 = .ok (.iadd, 1) := by decide +kernel
theorem dX4_addThing_43 : decode cX4_addThing 43 = .ok (.putfield 33, 3) := by decide +kernel
theorem dX4_addThing_46 : decode cX4_addThing 46 = .ok (.iload_n 1, 1) := by decide +kernel
theorem dX4_addThing_47 : decode cX4_addThing 47 = .ok (.ireturn, 1) := by decide +kernel
theorem dX4_addSaying_0 : decode cX4_addSaying 0 = .ok (.aload_n 0, 1) := by decide +kernel
theorem dX4_addSaying_1 : decode cX4_addSaying 1 = .ok (.getfield 37, 3) := by decide +kernel
theorem dX4_addSaying_4 : decode cX4_addSaying 4 = .ok (.istore 5, 2) := by decide +kernel
theorem dX4_addSaying_6 : decode cX4_addSaying 6 = .ok (.aload_n 0, 1) := by decide +kernel
theorem dX4_addSaying_7 : decode cX4_addSaying 7 = .ok (.getfield 24, 3) := by decide +kernel
theorem dX4_addSaying_10 : decode cX4_addSaying 10 = .ok (.iload 5, 2) := by decide +kernel
theorem dX4_addSaying_12 : decode cX4_addSaying 12 = .ok (.iload_n 1, 1) := by decide +kernel
theorem dX4_addSaying_13 : decode cX4_addSaying 13 = .ok (.iastore, 1) := by decide +kernel
theorem dX4_addSaying_14 : decode cX4_addSaying 14 = .ok (.aload_n 0, 1) := by decide +kernel
theorem dX4_addSaying_15 : decode cX4_addSaying 15 = .ok (.getfield 21, 3) := by decide +kernel
theorem dX4_addSaying_18 : decode cX4_addSaying 18 = .ok (.iload 5, 2) := by decide +kernel
theorem dX4_addSaying_20 : decode cX4_addSaying 20 = .ok (.iload_n 2, 1) := by decide +kernel
theorem dX4_addSaying_21 : decode cX4_addSaying 21 = .ok (.iastore, 1) := by decide +kernel
theorem dX4_addSaying_22 : decode cX4_addSaying 22 = .ok (.aload_n 0, 1) := by decide +kernel
theorem dX4_addSaying_23 : decode cX4_addSaying 23 = .ok (.getfield 27, 3) := by decide +kernel
theorem dX4_addSaying_26 : decode cX4_addSaying 26 = .ok (.iload 5, 2) := by decide +kernel
theorem dX4_addSaying_28 : decode cX4_addSaying 28 = .ok (.iload_n 3, 1) := by decide +kernel
theorem dX4_addSaying_29 : decode cX4_addSaying 29 = .ok (.iastore, 1) := by decide +kernel
theorem dX4_addSaying_30 : decode cX4_addSaying 30 = .ok (.aload_n 0, 1) := by decide +kernel
theorem dX4_addSaying_31 : decode cX4_addSaying 31 = .ok (.getfield 30, 3) := by decide +kernel
theorem dX4_addSaying_34 : decode cX4_addSaying 34 = .ok (.iload 5, 2) := by decide +kernel
theorem dX4_addSaying_36 : decode cX4_addSaying 36 = .ok (.iload 4, 2) := by decide +kernel
theorem dX4_addSaying_38 : decode cX4_addSaying 38 = .ok (.iastore, 1) := by decide +kernel
theorem dX4_addSaying_39 : decode cX4_addSaying 39 = .ok (.aload_n 0, 1) := by decide +kernel
theorem dX4_addSaying_40 : decode cX4_addSaying 40 = .ok (.iload 5, 2) := by decide +kernel
theorem dX4_addSaying_42 : decode cX4_addSaying 42 = .ok (.iconst 1, 1) := by decide +kernel
theorem dX4_addSaying_43 : decode cX4_addSaying 43 = .ok (.iadd, 1) := by decide +kernel
theorem dX4_addSaying_44 : decode cX4_addSaying 44 = .ok (.putfield 37, 3) := by decide +kernel
theorem dX4_addSaying_47 : decode cX4_addSaying 47 = .ok (.iload 5, 2) := by decide +kernel
theorem dX4_addSaying_49 : decode cX4_addSaying 49 = .ok (.ireturn, 1) := by decide +kernel
theorem dX4_copy_0 : decode cX4_copy 0 = .ok (.aload_n 0, 1) := by decide +kernel
theorem dX4_copy_1 : decode cX4_copy 1 = .ok (.aload_n 1, 1) := by decide +kernel
theorem dX4_copy_2 : decode cX4_copy 2 = .ok (.getfield 33, 3) := by decide +kernel
theorem dX4_copy_5 : decode cX4_copy 5 = .ok (.putfield 33, 3) := by decide +kernel
theorem dX4_copy_8 : decode cX4_copy 8 = .ok (.aload_n 0, 1) := by decide +kernel
theorem dX4_copy_9 : decode cX4_copy 9 = .ok (.aload_n 1, 1) := by decide +kernel
theorem dX4_copy_10 : decode cX4_copy 10 = .ok (.getfield 37, 3) := by decide +kernel
theorem dX4_copy_13 : decode cX4_copy 13 = .ok (.putfield 37, 3) := by decide +kernel
theorem dX4_copy_16 : decode cX4_copy 16 = .ok (.iconst 0, 1) := by decide +kernel
theorem dX4_copy_17 : decode cX4_copy 17 = .ok (.istore_n 2, 1) := by decide +kernel
theorem dX4_copy_18 : decode cX4_copy 18 = .ok (.iload_n 2, 1) := by decide +kernel
theorem dX4_copy_19 : decode cX4_copy 19 = .ok (.bipush 6, 2) := by decide +kernel
theorem dX4_copy_21 : decode cX4_copy 21 = .ok (.if_icmp .ge 33, 3) := by decide +kernel
theorem dX4_copy_24 : decode cX4_copy 24 = .ok (.aload_n 0, 1) := by decide +kernel
theorem dX4_copy_25 : decode cX4_copy 25 = .ok (.getfield 9, 3) := by decide +kernel
theorem dX4_copy_28 : decode cX4_copy 28 = .ok (.iload_n 2, 1) := by decide +kernel
theorem dX4_copy_29 : decode cX4_copy 29 = .ok (.aload_n 1, 1) := by decide +kernel
theorem dX4_copy_30 : decode cX4_copy 30 = .ok (.getfield 9, 3) := by decide +kernel
theorem dX4_copy_33 : decode cX4_copy 33 = .ok (.iload_n 2, 1) := by decide +kernel
theorem dX4_copy_34 : decode cX4_copy 34 = .ok (.iaload, 1) := by decide +kernel
theorem dX4_copy_35 : decode cX4_copy 35 = .ok (.iastore, 1) := by decide +kernel
theorem dX4_copy_36 : decode cX4_copy 36 = .ok (.aload_n 0, 1) := by decide +kernel
theorem dX4_copy_37 : decode cX4_copy 37 = .ok (.getfield 15, 3) := by decide +kernel
theorem dX4_copy_40 : decode cX4_copy 40 = .ok (.iload_n 2, 1) := by decide +kernel
theorem dX4_copy_41 : decode cX4_copy 41 = .ok (.aload_n 1, 1) := by decide +kernel
theorem dX4_copy_42 : decode cX4_copy 42 = .ok (.getfield 15, 3) := by decide +kernel
theorem dX4_copy_45 : decode cX4_copy 45 = .ok (.iload_n 2, 1) := by decide +kernel
theorem dX4_copy_46 : decode cX4_copy 46 = .ok (.iaload, 1) := by decide +kernel
theorem dX4_copy_47 : decode cX4_copy 47 = .ok (.iastore, 1) := by decide +kernel
theorem dX4_copy_48 : decode cX4_copy 48 = .ok (.iinc 2 1, 3) := by decide +kernel
theorem dX4_copy_51 : decode cX4_copy 51 = .ok (.goto (-33), 3) := by decide +kernel
theorem dX4_copy_54 : decode cX4_copy 54 = .ok (.iconst 0, 1) := by decide +kernel
theorem dX4_copy_55 : decode cX4_copy 55 = .ok (.istore_n 2, 1) := by decide +kernel
theorem dX4_copy_56 : decode cX4_copy 56 = .ok (.iload_n 2, 1) := by decide +kernel
theorem dX4_copy_57 : decode cX4_copy 57 = .ok (.bipush 12, 2) := by decide +kernel
theorem dX4_copy_59 : decode cX4_copy 59 = .ok (.if_icmp .ge 21, 3) := by decide +kernel
theorem dX4_copy_62 : decode cX4_copy 62 = .ok (.aload_n 0, 1) := by decide +kernel
theorem dX4_copy_63 : decode cX4_copy 63 = .ok (.getfield 18, 3) := by decide +kernel
theorem dX4_copy_66 : decode cX4_copy 66 = .ok (.iload_n 2, 1) := by decide +kernel
theorem dX4_copy_67 : decode cX4_copy 67 = .ok (.aload_n 1, 1) := by decide +kernel
theorem dX4_copy_68 : decode cX4_copy 68 = .ok (.getfield 18, 3) := by decide +kernel
theorem dX4_copy_71 : decode cX4_copy 71 = .ok (.iload_n 2, 1) := by decide +kernel
theorem dX4_copy_72 : decode cX4_copy 72 = .ok (.iaload, 1) := by decide +kernel
theorem dX4_copy_73 : decode cX4_copy 73 = .ok (.iastore, 1) := by decide +kernel
theorem dX4_copy_74 : decode cX4_copy 74 = .ok (.iinc 2 1, 3) := by decide +kernel
theorem dX4_copy_77 : decode cX4_copy 77 = .ok (.goto (-21), 3) := by decide +kernel
theorem dX4_copy_80 : decode cX4_copy 80 = .ok (.iconst 0, 1) := by decide +kernel
theorem dX4_copy_81 : decode cX4_copy 81 = .ok (.istore_n 2, 1) := by decide +kernel
theorem dX4_copy_82 : decode cX4_copy 82 = .ok (.iload_n 2, 1) := by decide +kernel
theorem dX4_copy_83 : decode cX4_copy 83 = .ok (.bipush 8, 2) := by decide +kernel
theorem dX4_copy_85 : decode cX4_copy 85 = .ok (.if_icmp .ge 57, 3) := by decide +kernel
theorem dX4_copy_88 : decode cX4_copy 88 = .ok (.aload_n 0, 1) := by decide +kernel
theorem dX4_copy_89 : decode cX4_copy 89 = .ok (.getfield 21, 3) := by decide +kernel
theorem dX4_copy_92 : decode cX4_copy 92 = .ok (.iload_n 2, 1) := by decide +kernel
theorem dX4_copy_93 : decode cX4_copy 93 = .ok (.aload_n 1, 1) := by decide +kernel
theorem dX4_copy_94 : decode cX4_copy 94 = .ok (.getfield 21, 3) := by decide +kernel
theorem dX4_copy_97 : decode cX4_copy 97 = .ok (.iload_n 2, 1) := by decide +kernel
theorem dX4_copy_98 : decode cX4_copy 98 = .ok (.iaload, 1) := by decide +kernel
theorem dX4_copy_99 : decode cX4_copy 99 = .ok (.iastore, 1) := by decide +kernel
theorem dX4_copy_100 : decode cX4_copy 100 = .ok (.aload_n 0, 1) := by decide +kernel
theorem dX4_copy_101 : decode cX4_copy 101 = .ok (.getfield 24, 3) := by decide +kernel
theorem dX4_copy_104 : decode cX4_copy 104 = .ok (.iload_n 2, 1) := by decide +kernel
theorem dX4_copy_105 : decode cX4_copy 105 = .ok (.aload_n 1, 1) := by decide +kernel
theorem dX4_copy_106 : decode cX4_copy 106 = .ok (.getfield 24, 3) := by decide +kernel
theorem dX4_copy_109 : decode cX4_copy 109 = .ok (.iload_n 2, 1) := by decide +kernel
theorem dX4_copy_110 : decode cX4_copy 110 = .ok (.iaload, 1) := by decide +kernel
theorem dX4_copy_111 : decode cX4_copy 111 = .ok (.iastore, 1) := by decide +kernel
theorem dX4_copy_112 : decode cX4_copy 112 = .ok (.aload_n 0, 1) := by decide +kernel
theorem dX4_copy_113 : decode cX4_copy 113 = .ok (.getfield 27, 3) := by decide +kernel
theorem dX4_copy_116 : decode cX4_copy 116 = .ok (.iload_n 2, 1) := by decide +kernel
theorem dX4_copy_117 : decode cX4_copy 117 = .ok (.aload_n 1, 1) := by decide +kernel
theorem dX4_copy_118 : decode cX4_copy 118 = .ok (.getfield 27, 3) := by decide +kernel
theorem dX4_copy_121 : decode cX4_copy 121 = .ok (.iload_n 2, 1) := by decide +kernel
theorem dX4_copy_122 : decode cX4_copy 122 = .ok (.iaload, 1) := by decide +kernel
theorem dX4_copy_123 : decode cX4_copy 123 = .ok (.iastore, 1) := by decide +kernel
theorem dX4_copy_124 : decode cX4_copy 124 = .ok (.aload_n 0, 1) := by decide +kernel
theorem dX4_copy_125 : decode cX4_copy 125 = .ok (.getfield 30, 3) := by decide +kernel
theorem dX4_copy_128 : decode cX4_copy 128 = .ok (.iload_n 2, 1) := by decide +kernel
theorem dX4_copy_129 : decode cX4_copy 129 = .ok (.aload_n 1, 1) := by decide +kernel
theorem dX4_copy_130 : decode cX4_copy 130 = .ok (.getfield 30, 3) := by decide +kernel
theorem dX4_copy_133 : decode cX4_copy 133 = .ok (.iload_n 2, 1) := by decide +kernel
theorem dX4_copy_134 : decode cX4_copy 134 = .ok (.iaload, 1) := by decide +kernel
theorem dX4_copy_135 : decode cX4_copy 135 = .ok (.iastore, 1) := by decide +kernel
theorem dX4_copy_136 : decode cX4_copy 136 = .ok (.iinc 2 1, 3) := by decide +kernel
theorem dX4_copy_139 : decode cX4_copy 139 = .ok (.goto (-57), 3) := by decide +kernel
theorem dX4_copy_142 : decode cX4_copy 142 = .ok (.return_, 1) := by decide +kernel
theorem dX4_sayingsNotBy_0 : decode cX4_sayingsNotBy 0 = .ok (.iconst 0, 1) := by decide +kernel
theorem dX4_sayingsNotBy_1 : decode cX4_sayingsNotBy 1 = .ok (.istore_n 2, 1) := by decide +kernel
theorem dX4_sayingsNotBy_2 : decode cX4_sayingsNotBy 2 = .ok (.iconst 0, 1) := by decide +kernel
theorem dX4_sayingsNotBy_3 : decode cX4_sayingsNotBy 3 = .ok (.istore_n 3, 1) := by decide +kernel
theorem dX4_sayingsNotBy_4 : decode cX4_sayingsNotBy 4 = .ok (.iload_n 3, 1) := by decide +kernel
theorem dX4_sayingsNotBy_5 : decode cX4_sayingsNotBy 5 = .ok (.aload_n 0, 1) := by decide +kernel
theorem dX4_sayingsNotBy_6 : decode cX4_sayingsNotBy 6 = .ok (.getfield 37, 3) := by decide +kernel
theorem dX4_sayingsNotBy_9 : decode cX4_sayingsNotBy 9 = .ok (.if_icmp .ge 25, 3) := by decide +kernel
theorem dX4_sayingsNotBy_12 : decode cX4_sayingsNotBy 12 = .ok (.aload_n 0, 1) := by decide +kernel
theorem dX4_sayingsNotBy_13 : decode cX4_sayingsNotBy 13 = .ok (.getfield 30, 3) := by decide +kernel
theorem dX4_sayingsNotBy_16 : decode cX4_sayingsNotBy 16 = .ok (.iload_n 3, 1) := by decide +kernel
theorem dX4_sayingsNotBy_17 : decode cX4_sayingsNotBy 17 = .ok (.iaload, 1) := by decide +kernel
theorem dX4_sayingsNotBy_18 : decode cX4_sayingsNotBy 18 = .ok (.iload_n 1, 1) := by decide +kernel
theorem dX4_sayingsNotBy_19 : decode cX4_sayingsNotBy 19 = .ok (.if_icmp .eq 9, 3) := by decide +kernel
theorem dX4_sayingsNotBy_22 : decode cX4_sayingsNotBy 22 = .ok (.iload_n 2, 1) := by decide +kernel
theorem dX4_sayingsNotBy_23 : decode cX4_sayingsNotBy 23 = .ok (.iconst 1, 1) := by decide +kernel
theorem dX4_sayingsNotBy_24 : decode cX4_sayingsNotBy 24 = .ok (.iload_n 3, 1) := by decide +kernel
theorem dX4_sayingsNotBy_25 : decode cX4_sayingsNotBy 25 = .ok (.ishl, 1) := by decide +kernel
theorem dX4_sayingsNotBy_26 : decode cX4_sayingsNotBy 26 = .ok (.ior, 1) := by decide +kernel
theorem dX4_sayingsNotBy_27 : decode cX4_sayingsNotBy 27 = .ok (.istore_n 2, 1) := by decide +kernel
theorem dX4_sayingsNotBy_28 : decode cX4_sayingsNotBy 28 = .ok (.iinc 3 1, 3) := by decide +kernel
theorem dX4_sayingsNotBy_31 : decode cX4_sayingsNotBy 31 = .ok (.goto (-27), 3) := by decide +kernel
theorem dX4_sayingsNotBy_34 : decode cX4_sayingsNotBy 34 = .ok (.iload_n 2, 1) := by decide +kernel
theorem dX4_sayingsNotBy_35 : decode cX4_sayingsNotBy 35 = .ok (.ireturn, 1) := by decide +kernel
theorem dX4_watched_0 : decode cX4_watched 0 = .ok (.iconst 0, 1) := by decide +kernel
theorem dX4_watched_1 : decode cX4_watched 1 = .ok (.istore_n 1, 1) := by decide +kernel
theorem dX4_watched_2 : decode cX4_watched 2 = .ok (.iconst 0, 1) := by decide +kernel
theorem dX4_watched_3 : decode cX4_watched 3 = .ok (.istore_n 2, 1) := by decide +kernel
theorem dX4_watched_4 : decode cX4_watched 4 = .ok (.iload_n 2, 1) := by decide +kernel
theorem dX4_watched_5 : decode cX4_watched 5 = .ok (.iconst 2, 1) := by decide +kernel
theorem dX4_watched_6 : decode cX4_watched 6 = .ok (.aload_n 0, 1) := by decide +kernel
theorem dX4_watched_7 : decode cX4_watched 7 = .ok (.getfield 33, 3) := by decide +kernel
theorem dX4_watched_10 : decode cX4_watched 10 = .ok (.imul, 1) := by decide +kernel
theorem dX4_watched_11 : decode cX4_watched 11 = .ok (.if_icmp .ge 22, 3) := by decide +kernel
theorem dX4_watched_14 : decode cX4_watched 14 = .ok (.aload_n 0, 1) := by decide +kernel
theorem dX4_watched_15 : decode cX4_watched 15 = .ok (.getfield 18, 3) := by decide +kernel
theorem dX4_watched_18 : decode cX4_watched 18 = .ok (.iload_n 2, 1) := by decide +kernel
theorem dX4_watched_19 : decode cX4_watched 19 = .ok (.iaload, 1) := by decide +kernel
theorem dX4_watched_20 : decode cX4_watched 20 = .ok (.iconst (-1), 1) := by decide +kernel
theorem dX4_watched_21 : decode cX4_watched 21 = .ok (.if_icmp .eq 6, 3) := by decide +kernel
theorem dX4_watched_24 : decode cX4_watched 24 = .ok (.iinc 1 1, 3) := by decide +kernel
theorem dX4_watched_27 : decode cX4_watched 27 = .ok (.iinc 2 1, 3) := by decide +kernel
theorem dX4_watched_30 : decode cX4_watched 30 = .ok (.goto (-26), 3) := by decide +kernel
theorem dX4_watched_33 : decode cX4_watched 33 = .ok (.iload_n 1, 1) := by decide +kernel
theorem dX4_watched_34 : decode cX4_watched 34 = .ok (.ireturn, 1) := by decide +kernel
set_option maxRecDepth 20000 in
theorem ggX4_digestWith_X4_watched : GoodIn wsX4_digestWith wsX4_watched := goodIn_r _ [16, 3, 11, 17, 18, 19, 20, 21, 22, 23, 24, 25] (by decide +kernel) (by decide +kernel)
set_option maxRecDepth 20000 in
theorem gX4_digestWith_X4_watched : GoodIn wsX4_digestWith (wsV RX4 44 RX4 yX4_watched wsX4_watched) := goodIn_app (goodIn_of _ (by decide +kernel)) ggX4_digestWith_X4_watched
theorem dX4_digestWith_0 : decode cX4_digestWith 0 = .ok (.ldc2_w 40, 3) := by decide +kernel
theorem dX4_digestWith_3 : decode cX4_digestWith 3 = .ok (.lstore_n 2, 1) := by decide +kernel
theorem dX4_digestWith_4 : decode cX4_digestWith 4 = .ok (.ldc2_w 42, 3) := by decide +kernel
theorem dX4_digestWith_7 : decode cX4_digestWith 7 = .ok (.lload_n 2, 1) := by decide +kernel
theorem dX4_digestWith_8 : decode cX4_digestWith 8 = .ok (.lmul, 1) := by decide +kernel
theorem dX4_digestWith_9 : decode cX4_digestWith 9 = .ok (.aload_n 0, 1) := by decide +kernel
theorem dX4_digestWith_10 : decode cX4_digestWith 10 = .ok (.getfield 33, 3) := by decide +kernel
theorem dX4_digestWith_13 : decode cX4_digestWith 13 = .ok (.i2l, 1) := by decide +kernel
theorem dX4_digestWith_14 : decode cX4_digestWith 14 = .ok (.ladd, 1) := by decide +kernel
theorem dX4_digestWith_15 : decode cX4_digestWith 15 = .ok (.lstore_n 2, 1) := by decide +kernel
theorem dX4_digestWith_16 : decode cX4_digestWith 16 = .ok (.ldc2_w 42, 3) := by decide +kernel
theorem dX4_digestWith_19 : decode cX4_digestWith 19 = .ok (.lload_n 2, 1) := by decide +kernel
theorem dX4_digestWith_20 : decode cX4_digestWith 20 = .ok (.lmul, 1) := by decide +kernel
theorem dX4_digestWith_21 : decode cX4_digestWith 21 = .ok (.aload_n 0, 1) := by decide +kernel
theorem dX4_digestWith_22 : decode cX4_digestWith 22 = .ok (.getfield 37, 3) := by decide +kernel
theorem dX4_digestWith_25 : decode cX4_digestWith 25 = .ok (.i2l, 1) := by decide +kernel
theorem dX4_digestWith_26 : decode cX4_digestWith 26 = .ok (.ladd, 1) := by decide +kernel
theorem dX4_digestWith_27 : decode cX4_digestWith 27 = .ok (.lstore_n 2, 1) := by decide +kernel
theorem dX4_digestWith_28 : decode cX4_digestWith 28 = .ok (.ldc2_w 42, 3) := by decide +kernel
theorem dX4_digestWith_31 : decode cX4_digestWith 31 = .ok (.lload_n 2, 1) := by decide +kernel
theorem dX4_digestWith_32 : decode cX4_digestWith 32 = .ok (.lmul, 1) := by decide +kernel
theorem dX4_digestWith_33 : decode cX4_digestWith 33 = .ok (.aload_n 0, 1) := by decide +kernel
theorem dX4_digestWith_34 : decode cX4_digestWith 34 = .ok (.invokevirtual 44, 3) := by decide +kernel
theorem dX4_digestWith_37 : decode cX4_digestWith 37 = .ok (.i2l, 1) := by decide +kernel
theorem dX4_digestWith_38 : decode cX4_digestWith 38 = .ok (.ladd, 1) := by decide +kernel
theorem dX4_digestWith_39 : decode cX4_digestWith 39 = .ok (.lstore_n 2, 1) := by decide +kernel
theorem dX4_digestWith_40 : decode cX4_digestWith 40 = .ok (.ldc2_w 42, 3) := by decide +kernel
theorem dX4_digestWith_43 : decode cX4_digestWith 43 = .ok (.lload_n 2, 1) := by decide +kernel
theorem dX4_digestWith_44 : decode cX4_digestWith 44 = .ok (.lmul, 1) := by decide +kernel
theorem dX4_digestWith_45 : decode cX4_digestWith 45 = .ok (.iload_n 1, 1) := by decide +kernel
theorem dX4_digestWith_46 : decode cX4_digestWith 46 = .ok (.i2l, 1) := by decide +kernel
theorem dX4_digestWith_47 : decode cX4_digestWith 47 = .ok (.ladd, 1) := by decide +kernel
theorem dX4_digestWith_48 : decode cX4_digestWith 48 = .ok (.lstore_n 2, 1) := by decide +kernel
theorem dX4_digestWith_49 : decode cX4_digestWith 49 = .ok (.iconst 0, 1) := by decide +kernel
theorem dX4_digestWith_50 : decode cX4_digestWith 50 = .ok (.istore 4, 2) := by decide +kernel
theorem dX4_digestWith_52 : decode cX4_digestWith 52 = .ok (.iload 4, 2) := by decide +kernel
theorem dX4_digestWith_54 : decode cX4_digestWith 54 = .ok (.aload_n 0, 1) := by decide +kernel
theorem dX4_digestWith_55 : decode cX4_digestWith 55 = .ok (.getfield 33, 3) := by decide +kernel
theorem dX4_digestWith_58 : decode cX4_digestWith 58 = .ok (.if_icmp .ge 39, 3) := by decide +kernel
theorem dX4_digestWith_61 : decode cX4_digestWith 61 = .ok (.ldc2_w 42, 3) := by decide +kernel
theorem dX4_digestWith_64 : decode cX4_digestWith 64 = .ok (.lload_n 2, 1) := by decide +kernel
theorem dX4_digestWith_65 : decode cX4_digestWith 65 = .ok (.lmul, 1) := by decide +kernel
theorem dX4_digestWith_66 : decode cX4_digestWith 66 = .ok (.aload_n 0, 1) := by decide +kernel
theorem dX4_digestWith_67 : decode cX4_digestWith 67 = .ok (.getfield 9, 3) := by decide +kernel
theorem dX4_digestWith_70 : decode cX4_digestWith 70 = .ok (.iload 4, 2) := by decide +kernel
theorem dX4_digestWith_72 : decode cX4_digestWith 72 = .ok (.iaload, 1) := by decide +kernel
theorem dX4_digestWith_73 : decode cX4_digestWith 73 = .ok (.i2l, 1) := by decide +kernel
theorem dX4_digestWith_74 : decode cX4_digestWith 74 = .ok (.ladd, 1) := by decide +kernel
theorem dX4_digestWith_75 : decode cX4_digestWith 75 = .ok (.lstore_n 2, 1) := by decide +kernel
theorem dX4_digestWith_76 : decode cX4_digestWith 76 = .ok (.ldc2_w 42, 3) := by decide +kernel
theorem dX4_digestWith_79 : decode cX4_digestWith 79 = .ok (.lload_n 2, 1) := by decide +kernel
theorem dX4_digestWith_80 : decode cX4_digestWith 80 = .ok (.lmul, 1) := by decide +kernel
theorem dX4_digestWith_81 : decode cX4_digestWith 81 = .ok (.aload_n 0, 1) := by decide +kernel
theorem dX4_digestWith_82 : decode cX4_digestWith 82 = .ok (.getfield 15, 3) := by decide +kernel
theorem dX4_digestWith_85 : decode cX4_digestWith 85 = .ok (.iload 4, 2) := by decide +kernel
theorem dX4_digestWith_87 : decode cX4_digestWith 87 = .ok (.iaload, 1) := by decide +kernel
theorem dX4_digestWith_88 : decode cX4_digestWith 88 = .ok (.i2l, 1) := by decide +kernel
theorem dX4_digestWith_89 : decode cX4_digestWith 89 = .ok (.ladd, 1) := by decide +kernel
theorem dX4_digestWith_90 : decode cX4_digestWith 90 = .ok (.lstore_n 2, 1) := by decide +kernel
theorem dX4_digestWith_91 : decode cX4_digestWith 91 = .ok (.iinc 4 1, 3) := by decide +kernel
theorem dX4_digestWith_94 : decode cX4_digestWith 94 = .ok (.goto (-42), 3) := by decide +kernel
theorem dX4_digestWith_97 : decode cX4_digestWith 97 = .ok (.iconst 0, 1) := by decide +kernel
theorem dX4_digestWith_98 : decode cX4_digestWith 98 = .ok (.istore 4, 2) := by decide +kernel
theorem dX4_digestWith_100 : decode cX4_digestWith 100 = .ok (.iload 4, 2) := by decide +kernel
theorem dX4_digestWith_102 : decode cX4_digestWith 102 = .ok (.aload_n 0, 1) := by decide +kernel
theorem dX4_digestWith_103 : decode cX4_digestWith 103 = .ok (.getfield 37, 3) := by decide +kernel
theorem dX4_digestWith_106 : decode cX4_digestWith 106 = .ok (.if_icmp .ge 69, 3) := by decide +kernel
theorem dX4_digestWith_109 : decode cX4_digestWith 109 = .ok (.ldc2_w 42, 3) := by decide +kernel
theorem dX4_digestWith_112 : decode cX4_digestWith 112 = .ok (.lload_n 2, 1) := by decide +kernel
theorem dX4_digestWith_113 : decode cX4_digestWith 113 = .ok (.lmul, 1) := by decide +kernel
theorem dX4_digestWith_114 : decode cX4_digestWith 114 = .ok (.aload_n 0, 1) := by decide +kernel
theorem dX4_digestWith_115 : decode cX4_digestWith 115 = .ok (.getfield 21, 3) := by decide +kernel
theorem dX4_digestWith_118 : decode cX4_digestWith 118 = .ok (.iload 4, 2) := by decide +kernel
theorem dX4_digestWith_120 : decode cX4_digestWith 120 = .ok (.iaload, 1) := by decide +kernel
theorem dX4_digestWith_121 : decode cX4_digestWith 121 = .ok (.i2l, 1) := by decide +kernel
theorem dX4_digestWith_122 : decode cX4_digestWith 122 = .ok (.ladd, 1) := by decide +kernel
theorem dX4_digestWith_123 : decode cX4_digestWith 123 = .ok (.lstore_n 2, 1) := by decide +kernel
theorem dX4_digestWith_124 : decode cX4_digestWith 124 = .ok (.ldc2_w 42, 3) := by decide +kernel
theorem dX4_digestWith_127 : decode cX4_digestWith 127 = .ok (.lload_n 2, 1) := by decide +kernel
theorem dX4_digestWith_128 : decode cX4_digestWith 128 = .ok (.lmul, 1) := by decide +kernel
theorem dX4_digestWith_129 : decode cX4_digestWith 129 = .ok (.aload_n 0, 1) := by decide +kernel
theorem dX4_digestWith_130 : decode cX4_digestWith 130 = .ok (.getfield 24, 3) := by decide +kernel
theorem dX4_digestWith_133 : decode cX4_digestWith 133 = .ok (.iload 4, 2) := by decide +kernel
theorem dX4_digestWith_135 : decode cX4_digestWith 135 = .ok (.iaload, 1) := by decide +kernel
theorem dX4_digestWith_136 : decode cX4_digestWith 136 = .ok (.i2l, 1) := by decide +kernel
theorem dX4_digestWith_137 : decode cX4_digestWith 137 = .ok (.ladd, 1) := by decide +kernel
theorem dX4_digestWith_138 : decode cX4_digestWith 138 = .ok (.lstore_n 2, 1) := by decide +kernel
theorem dX4_digestWith_139 : decode cX4_digestWith 139 = .ok (.ldc2_w 42, 3) := by decide +kernel
theorem dX4_digestWith_142 : decode cX4_digestWith 142 = .ok (.lload_n 2, 1) := by decide +kernel
theorem dX4_digestWith_143 : decode cX4_digestWith 143 = .ok (.lmul, 1) := by decide +kernel
theorem dX4_digestWith_144 : decode cX4_digestWith 144 = .ok (.aload_n 0, 1) := by decide +kernel
theorem dX4_digestWith_145 : decode cX4_digestWith 145 = .ok (.getfield 27, 3) := by decide +kernel
theorem dX4_digestWith_148 : decode cX4_digestWith 148 = .ok (.iload 4, 2) := by decide +kernel
theorem dX4_digestWith_150 : decode cX4_digestWith 150 = .ok (.iaload, 1) := by decide +kernel
theorem dX4_digestWith_151 : decode cX4_digestWith 151 = .ok (.i2l, 1) := by decide +kernel
theorem dX4_digestWith_152 : decode cX4_digestWith 152 = .ok (.ladd, 1) := by decide +kernel
theorem dX4_digestWith_153 : decode cX4_digestWith 153 = .ok (.lstore_n 2, 1) := by decide +kernel
theorem dX4_digestWith_154 : decode cX4_digestWith 154 = .ok (.ldc2_w 42, 3) := by decide +kernel
theorem dX4_digestWith_157 : decode cX4_digestWith 157 = .ok (.lload_n 2, 1) := by decide +kernel
theorem dX4_digestWith_158 : decode cX4_digestWith 158 = .ok (.lmul, 1) := by decide +kernel
theorem dX4_digestWith_159 : decode cX4_digestWith 159 = .ok (.aload_n 0, 1) := by decide +kernel
theorem dX4_digestWith_160 : decode cX4_digestWith 160 = .ok (.getfield 30, 3) := by decide +kernel
theorem dX4_digestWith_163 : decode cX4_digestWith 163 = .ok (.iload 4, 2) := by decide +kernel
theorem dX4_digestWith_165 : decode cX4_digestWith 165 = .ok (.iaload, 1) := by decide +kernel
theorem dX4_digestWith_166 : decode cX4_digestWith 166 = .ok (.i2l, 1) := by decide +kernel
theorem dX4_digestWith_167 : decode cX4_digestWith 167 = .ok (.ladd, 1) := by decide +kernel
theorem dX4_digestWith_168 : decode cX4_digestWith 168 = .ok (.lstore_n 2, 1) := by decide +kernel
theorem dX4_digestWith_169 : decode cX4_digestWith 169 = .ok (.iinc 4 1, 3) := by decide +kernel
theorem dX4_digestWith_172 : decode cX4_digestWith 172 = .ok (.goto (-72), 3) := by decide +kernel
theorem dX4_digestWith_175 : decode cX4_digestWith 175 = .ok (.iconst 0, 1) := by decide +kernel
theorem dX4_digestWith_176 : decode cX4_digestWith 176 = .ok (.istore 4, 2) := by decide +kernel
theorem dX4_digestWith_178 : decode cX4_digestWith 178 = .ok (.iload 4, 2) := by decide +kernel
theorem dX4_digestWith_180 : decode cX4_digestWith 180 = .ok (.iconst 2, 1) := by decide +kernel
theorem dX4_digestWith_181 : decode cX4_digestWith 181 = .ok (.aload_n 0, 1) := by decide +kernel
theorem dX4_digestWith_182 : decode cX4_digestWith 182 = .ok (.getfield 33, 3) := by decide +kernel
theorem dX4_digestWith_185 : decode cX4_digestWith 185 = .ok (.imul, 1) := by decide +kernel
theorem dX4_digestWith_186 : decode cX4_digestWith 186 = .ok (.if_icmp .ge 24, 3) := by decide +kernel
theorem dX4_digestWith_189 : decode cX4_digestWith 189 = .ok (.ldc2_w 42, 3) := by decide +kernel
theorem dX4_digestWith_192 : decode cX4_digestWith 192 = .ok (.lload_n 2, 1) := by decide +kernel
theorem dX4_digestWith_193 : decode cX4_digestWith 193 = .ok (.lmul, 1) := by decide +kernel
theorem dX4_digestWith_194 : decode cX4_digestWith 194 = .ok (.aload_n 0, 1) := by decide +kernel
theorem dX4_digestWith_195 : decode cX4_digestWith 195 = .ok (.getfield 18, 3) := by decide +kernel
theorem dX4_digestWith_198 : decode cX4_digestWith 198 = .ok (.iload 4, 2) := by decide +kernel
theorem dX4_digestWith_200 : decode cX4_digestWith 200 = .ok (.iaload, 1) := by decide +kernel
theorem dX4_digestWith_201 : decode cX4_digestWith 201 = .ok (.i2l, 1) := by decide +kernel
theorem dX4_digestWith_202 : decode cX4_digestWith 202 = .ok (.ladd, 1) := by decide +kernel
theorem dX4_digestWith_203 : decode cX4_digestWith 203 = .ok (.lstore_n 2, 1) := by decide +kernel
theorem dX4_digestWith_204 : decode cX4_digestWith 204 = .ok (.iinc 4 1, 3) := by decide +kernel
theorem dX4_digestWith_207 : decode cX4_digestWith 207 = .ok (.goto (-29), 3) := by decide +kernel
theorem dX4_digestWith_210 : decode cX4_digestWith 210 = .ok (.lload_n 2, 1) := by decide +kernel
theorem dX4_digestWith_211 : decode cX4_digestWith 211 = .ok (.lreturn, 1) := by decide +kernel
set_option maxRecDepth 20000 in
theorem ggX5_init_X9_init : GoodIn wsX5_init wsX9_init := goodIn_r _ [14, 15, 2, 3, 4, 16, 17, 18, 27, 28, 29] (by decide +kernel) (by decide +kernel)
set_option maxRecDepth 20000 in
theorem gX5_init_X9_init_n17 : GoodIn wsX5_init (wsX9_init) := ggX5_init_X9_init
theorem dX5_init_0 : decode cX5_init 0 = .ok (.aload_n 0, 1) := by decide +kernel
theorem dX5_init_1 : decode cX5_init 1 = .ok (.invokespecial 3, 3) := by decide +kernel
theorem dX5_init_4 : decode cX5_init 4 = .ok (.aload_n 0, 1) := by decide +kernel
theorem dX5_init_5 : decode cX5_init 5 = .ok (.bipush 6, 2) := by decide +kernel
theorem dX5_init_7 : decode cX5_init 7 = .ok (.newarray .int, 2) := by decide +kernel
theorem dX5_init_9 : decode cX5_init 9 = .ok (.putfield 9, 3) := by decide +kernel
theorem dX5_init_12 : decode cX5_init 12 = .ok (.aload_n 0, 1) := by decide +kernel
theorem dX5_init_13 : decode cX5_init 13 = .ok (.new 15, 3) := by decide +kernel
theorem dX5_init_16 : decode cX5_init 16 = .ok (.dup, 1) := by decide +kernel
theorem dX5_init_17 : decode cX5_init 17 = .ok (.invokespecial 17, 3) := by decide +kernel
theorem dX5_init_20 : decode cX5_init 20 = .ok (.putfield 18, 3) := by decide +kernel
theorem dX5_init_23 : decode cX5_init 23 = .ok (.aload_n 0, 1) := by decide +kernel
theorem dX5_init_24 : decode cX5_init 24 = .ok (.bipush 6, 2) := by decide +kernel
theorem dX5_init_26 : decode cX5_init 26 = .ok (.newarray .int, 2) := by decide +kernel
theorem dX5_init_28 : decode cX5_init 28 = .ok (.putfield 22, 3) := by decide +kernel
theorem dX5_init_31 : decode cX5_init 31 = .ok (.aload_n 0, 1) := by decide +kernel
theorem dX5_init_32 : decode cX5_init 32 = .ok (.bipush 6, 2) := by decide +kernel
theorem dX5_init_34 : decode cX5_init 34 = .ok (.newarray .int, 2) := by decide +kernel
theorem dX5_init_36 : decode cX5_init 36 = .ok (.putfield 25, 3) := by decide +kernel
theorem dX5_init_39 : decode cX5_init 39 = .ok (.aload_n 0, 1) := by decide +kernel
theorem dX5_init_40 : decode cX5_init 40 = .ok (.bipush 6, 2) := by decide +kernel
theorem dX5_init_42 : decode cX5_init 42 = .ok (.newarray .int, 2) := by decide +kernel
theorem dX5_init_44 : decode cX5_init 44 = .ok (.putfield 28, 3) := by decide +kernel
theorem dX5_init_47 : decode cX5_init 47 = .ok (.return_, 1) := by decide +kernel
set_option maxRecDepth 20000 in
theorem ggX5_seek_X5_sort : GoodIn wsX5_seek wsX5_sort := goodIn_r _ [9, 3, 4, 10, 11, 12, 2, 103, 104, 105, 106, 107, 108, 109, 110, 111, 112, 113, 114, 115, 116, 117, 118, 119] (by decide +kernel) (by decide +kernel)
set_option maxRecDepth 20000 in
theorem gX5_seek_X5_sort : GoodIn wsX5_seek (wsV RX5 31 RX5 yX5_sort wsX5_sort) := goodIn_app (goodIn_of _ (by decide +kernel)) ggX5_seek_X5_sort
set_option maxRecDepth 20000 in
theorem ggX5_seek_X5_decode : GoodIn wsX5_seek wsX5_decode := goodIn_r _ [16, 3, 17, 103, 104, 105, 106, 107, 108, 109, 110] (by decide +kernel) (by decide +kernel)
set_option maxRecDepth 20000 in
theorem gX5_seek_X5_decode : GoodIn wsX5_seek (wsV RX5 46 RX5 yX5_decode wsX5_decode) := goodIn_app (goodIn_of _ (by decide +kernel)) ggX5_seek_X5_decode
set_option maxRecDepth 20000 in
theorem ggX5_seek_X5_fitsPicked : GoodIn wsX5_seek wsX5_fitsPicked := goodIn_r _ [21, 3, 11, 12, 17, 22, 23, 24, 25, 26, 27, 28, 29, 30, 31, 32, 33, 34, 35, 36, 37, 38, 39, 40, 41, 42, 43, 44, 45, 46, 47, 48, 49, 50, 51, 52, 53, 54, 55, 56, 57, 58, 59, 60, 61, 62, 63, 64, 65, 66, 67, 68, 69, 70, 71, 72, 73, 74, 75, 76, 77, 78, 79, 80, 81, 82, 83, 84, 85, 86, 87, 88, 89, 90, 91, 92, 93, 94, 95, 96, 97, 103, 104, 105, 106, 107, 108, 109, 110, 120, 121, 122, 123, 124, 125, 126, 127, 128, 129, 130, 131, 132, 133, 134, 135, 136, 137, 138] (by decide +kernel) (by decide +kernel)
set_option maxRecDepth 20000 in
theorem gX5_seek_X5_fitsPicked : GoodIn wsX5_seek (wsV RX5 55 RX5 yX5_fitsPicked wsX5_fitsPicked) := goodIn_app (goodIn_of _ (by decide +kernel)) ggX5_seek_X5_fitsPicked
set_option maxRecDepth 20000 in
theorem ggX5_seek_X5_keepPicked : GoodIn wsX5_seek wsX5_keepPicked := goodIn_r _ [101, 3, 102, 12, 17, 103, 104, 105, 106, 107, 108, 109, 110] (by decide +kernel) (by decide +kernel)
set_option maxRecDepth 20000 in
theorem gX5_seek_X5_keepPicked : GoodIn wsX5_seek (wsV RX5 59 RX5 yX5_keepPicked wsX5_keepPicked) := goodIn_app (goodIn_of _ (by decide +kernel)) ggX5_seek_X5_keepPicked
theorem dX5_seek_0 : decode cX5_seek 0 = .ok (.aload_n 0, 1) := by decide +kernel
theorem dX5_seek_1 : decode cX5_seek 1 = .ok (.aload_n 1, 1) := by decide +kernel
theorem dX5_seek_2 : decode cX5_seek 2 = .ok (.invokevirtual 31, 3) := by decide +kernel
theorem dX5_seek_5 : decode cX5_seek 5 = .ok (.aload_n 0, 1) := by decide +kernel
theorem dX5_seek_6 : decode cX5_seek 6 = .ok (.iconst 0, 1) := by decide +kernel
theorem dX5_seek_7 : decode cX5_seek 7 = .ok (.putfield 35, 3) := by decide +kernel
theorem dX5_seek_10 : decode cX5_seek 10 = .ok (.aload_n 0, 1) := by decide +kernel
theorem dX5_seek_11 : decode cX5_seek 11 = .ok (.getfield 39, 3) := by decide +kernel
theorem dX5_seek_14 : decode cX5_seek 14 = .ok (.ifCond .ne 4, 3) := by decide +kernel
theorem dX5_seek_17 : decode cX5_seek 17 = .ok (.return_, 1) := by decide +kernel
theorem dX5_seek_18 : decode cX5_seek 18 = .ok (.iconst 1, 1) := by decide +kernel
theorem dX5_seek_19 : decode cX5_seek 19 = .ok (.istore 4, 2) := by decide +kernel
theorem dX5_seek_21 : decode cX5_seek 21 = .ok (.iconst 0, 1) := by decide +kernel
theorem dX5_seek_22 : decode cX5_seek 22 = .ok (.istore 5, 2) := by decide +kernel
theorem dX5_seek_24 : decode cX5_seek 24 = .ok (.iload 5, 2) := by decide +kernel
theorem dX5_seek_26 : decode cX5_seek 26 = .ok (.aload_n 0, 1) := by decide +kernel
theorem dX5_seek_27 : decode cX5_seek 27 = .ok (.getfield 43, 3) := by decide +kernel
theorem dX5_seek_30 : decode cX5_seek 30 = .ok (.if_icmp .ge 18, 3) := by decide +kernel
theorem dX5_seek_33 : decode cX5_seek 33 = .ok (.iload 4, 2) := by decide +kernel
theorem dX5_seek_35 : decode cX5_seek 35 = .ok (.aload_n 0, 1) := by decide +kernel
theorem dX5_seek_36 : decode cX5_seek 36 = .ok (.getfield 43, 3) := by decide +kernel
theorem dX5_seek_39 : decode cX5_seek 39 = .ok (.imul, 1) := by decide +kernel
theorem dX5_seek_40 : decode cX5_seek 40 = .ok (.istore 4, 2) := by decide +kernel
theorem dX5_seek_42 : decode cX5_seek 42 = .ok (.iinc 5 1, 3) := by decide +kernel
theorem dX5_seek_45 : decode cX5_seek 45 = .ok (.goto (-21), 3) := by decide +kernel
theorem dX5_seek_48 : decode cX5_seek 48 = .ok (.iconst 0, 1) := by decide +kernel
theorem dX5_seek_49 : decode cX5_seek 49 = .ok (.istore 5, 2) := by decide +kernel
theorem dX5_seek_51 : decode cX5_seek 51 = .ok (.iload 5, 2) := by decide +kernel
theorem dX5_seek_53 : decode cX5_seek 53 = .ok (.iload 4, 2) := by decide +kernel
theorem dX5_seek_55 : decode cX5_seek 55 = .ok (.if_icmp .ge 52, 3) := by decide +kernel
theorem dX5_seek_58 : decode cX5_seek 58 = .ok (.aload_n 0, 1) := by decide +kernel
theorem dX5_seek_59 : decode cX5_seek 59 = .ok (.iload 5, 2) := by decide +kernel
theorem dX5_seek_61 : decode cX5_seek 61 = .ok (.invokevirtual 46, 3) := by decide +kernel
theorem dX5_seek_64 : decode cX5_seek 64 = .ok (.ifCond .eq 37, 3) := by decide +kernel
theorem dX5_seek_67 : decode cX5_seek 67 = .ok (.aload_n 0, 1) := by decide +kernel
theorem dX5_seek_68 : decode cX5_seek 68 = .ok (.aload_n 1, 1) := by decide +kernel
theorem dX5_seek_69 : decode cX5_seek 69 = .ok (.getfield 50, 3) := by decide +kernel
theorem dX5_seek_72 : decode cX5_seek 72 = .ok (.aload_n 2, 1) := by decide +kernel
theorem dX5_seek_73 : decode cX5_seek 73 = .ok (.aload_n 3, 1) := by decide +kernel
theorem dX5_seek_74 : decode cX5_seek 74 = .ok (.invokevirtual 55, 3) := by decide +kernel
theorem dX5_seek_77 : decode cX5_seek 77 = .ok (.ifCond .eq 24, 3) := by decide +kernel
theorem dX5_seek_80 : decode cX5_seek 80 = .ok (.aload_n 0, 1) := by decide +kernel
theorem dX5_seek_81 : decode cX5_seek 81 = .ok (.getfield 35, 3) := by decide +kernel
theorem dX5_seek_84 : decode cX5_seek 84 = .ok (.ifCond .ne 7, 3) := by decide +kernel
theorem dX5_seek_87 : decode cX5_seek 87 = .ok (.aload_n 0, 1) := by decide +kernel
theorem dX5_seek_88 : decode cX5_seek 88 = .ok (.invokevirtual 59, 3) := by decide +kernel
theorem dX5_seek_91 : decode cX5_seek 91 = .ok (.aload_n 0, 1) := by decide +kernel
theorem dX5_seek_92 : decode cX5_seek 92 = .ok (.dup, 1) := by decide +kernel
theorem dX5_seek_93 : decode cX5_seek 93 = .ok (.getfield 35, 3) := by decide +kernel
theorem dX5_seek_96 : decode cX5_seek 96 = .ok (.iconst 1, 1) := by decide +kernel
theorem dX5_seek_97 : decode cX5_seek 97 = .ok (.iadd, 1) := by decide +kernel
theorem dX5_seek_98 : decode cX5_seek 98 = .ok (.putfield 35, 3) := by decide +kernel
theorem dX5_seek_101 : decode cX5_seek 101 = .ok (.iinc 5 1, 3) := by decide +kernel
theorem dX5_seek_104 : decode cX5_seek 104 = .ok (.goto (-53), 3) := by decide +kernel
theorem dX5_seek_107 : decode cX5_seek 107 = .ok (.return_, 1) := by decide +kernel
theorem dX5_sort_0 : decode cX5_sort 0 = .ok (.aload_n 0, 1) := by decide +kernel
theorem dX5_sort_1 : decode cX5_sort 1 = .ok (.iconst 0, 1) := by decide +kernel
theorem dX5_sort_2 : decode cX5_sort 2 = .ok (.putfield 43, 3) := by decide +kernel
theorem dX5_sort_5 : decode cX5_sort 5 = .ok (.iconst 0, 1) := by decide +kernel
theorem dX5_sort_6 : decode cX5_sort 6 = .ok (.istore_n 2, 1) := by decide +kernel
theorem dX5_sort_7 : decode cX5_sort 7 = .ok (.iconst 0, 1) := by decide +kernel
theorem dX5_sort_8 : decode cX5_sort 8 = .ok (.istore_n 3, 1) := by decide +kernel
theorem dX5_sort_9 : decode cX5_sort 9 = .ok (.iload_n 3, 1) := by decide +kernel
theorem dX5_sort_10 : decode cX5_sort 10 = .ok (.aload_n 1, 1) := by decide +kernel
theorem dX5_sort_11 : decode cX5_sort 11 = .ok (.getfield 50, 3) := by decide +kernel
theorem dX5_sort_14 : decode cX5_sort 14 = .ok (.if_icmp .ge 51, 3) := by decide +kernel
theorem dX5_sort_17 : decode cX5_sort 17 = .ok (.aload_n 1, 1) := by decide +kernel
theorem dX5_sort_18 : decode cX5_sort 18 = .ok (.getfield 62, 3) := by decide +kernel
theorem dX5_sort_21 : decode cX5_sort 21 = .ok (.iload_n 3, 1) := by decide +kernel
theorem dX5_sort_22 : decode cX5_sort 22 = .ok (.iaload, 1) := by decide +kernel
theorem dX5_sort_23 : decode cX5_sort 23 = .ok (.ifCond .ne 26, 3) := by decide +kernel
theorem dX5_sort_26 : decode cX5_sort 26 = .ok (.aload_n 0, 1) := by decide +kernel
theorem dX5_sort_27 : decode cX5_sort 27 = .ok (.getfield 22, 3) := by decide +kernel
theorem dX5_sort_30 : decode cX5_sort 30 = .ok (.aload_n 0, 1) := by decide +kernel
theorem dX5_sort_31 : decode cX5_sort 31 = .ok (.getfield 43, 3) := by decide +kernel
theorem dX5_sort_34 : decode cX5_sort 34 = .ok (.iload_n 3, 1) := by decide +kernel
theorem dX5_sort_35 : decode cX5_sort 35 = .ok (.iastore, 1) := by decide +kernel
theorem dX5_sort_36 : decode cX5_sort 36 = .ok (.aload_n 0, 1) := by decide +kernel
theorem dX5_sort_37 : decode cX5_sort 37 = .ok (.dup, 1) := by decide +kernel
theorem dX5_sort_38 : decode cX5_sort 38 = .ok (.getfield 43, 3) := by decide +kernel
theorem dX5_sort_41 : decode cX5_sort 41 = .ok (.iconst 1, 1) := by decide +kernel
theorem dX5_sort_42 : decode cX5_sort 42 = .ok (.iadd, 1) := by decide +kernel
theorem dX5_sort_43 : decode cX5_sort 43 = .ok (.putfield 43, 3) := by decide +kernel
theorem dX5_sort_46 : decode cX5_sort 46 = .ok (.goto 13, 3) := by decide +kernel
theorem dX5_sort_49 : decode cX5_sort 49 = .ok (.aload_n 0, 1) := by decide +kernel
theorem dX5_sort_50 : decode cX5_sort 50 = .ok (.getfield 25, 3) := by decide +kernel
theorem dX5_sort_53 : decode cX5_sort 53 = .ok (.iload_n 2, 1) := by decide +kernel
theorem dX5_sort_54 : decode cX5_sort 54 = .ok (.iload_n 3, 1) := by decide +kernel
theorem dX5_sort_55 : decode cX5_sort 55 = .ok (.iastore, 1) := by decide +kernel
theorem dX5_sort_56 : decode cX5_sort 56 = .ok (.iinc 2 1, 3) := by decide +kernel
theorem dX5_sort_59 : decode cX5_sort 59 = .ok (.iinc 3 1, 3) := by decide +kernel
theorem dX5_sort_62 : decode cX5_sort 62 = .ok (.goto (-53), 3) := by decide +kernel
theorem dX5_sort_65 : decode cX5_sort 65 = .ok (.aload_n 0, 1) := by decide +kernel
theorem dX5_sort_66 : decode cX5_sort 66 = .ok (.aload_n 0, 1) := by decide +kernel
theorem dX5_sort_67 : decode cX5_sort 67 = .ok (.getfield 43, 3) := by decide +kernel
theorem dX5_sort_70 : decode cX5_sort 70 = .ok (.ifCond .le 15, 3) := by decide +kernel
theorem dX5_sort_73 : decode cX5_sort 73 = .ok (.aload_n 0, 1) := by decide +kernel
theorem dX5_sort_74 : decode cX5_sort 74 = .ok (.getfield 43, 3) := by decide +kernel
theorem dX5_sort_77 : decode cX5_sort 77 = .ok (.iload_n 2, 1) := by decide +kernel
theorem dX5_sort_78 : decode cX5_sort 78 = .ok (.if_icmp .ne 7, 3) := by decide +kernel
theorem dX5_sort_81 : decode cX5_sort 81 = .ok (.iconst 1, 1) := by decide +kernel
theorem dX5_sort_82 : decode cX5_sort 82 = .ok (.goto 4, 3) := by decide +kernel
theorem dX5_sort_85 : decode cX5_sort 85 = .ok (.iconst 0, 1) := by decide +kernel
theorem dX5_sort_86 : decode cX5_sort 86 = .ok (.putfield 39, 3) := by decide +kernel
theorem dX5_sort_89 : decode cX5_sort 89 = .ok (.return_, 1) := by decide +kernel
theorem dX5_decode_0 : decode cX5_decode 0 = .ok (.iload_n 1, 1) := by decide +kernel
theorem dX5_decode_1 : decode cX5_decode 1 = .ok (.istore_n 2, 1) := by decide +kernel
theorem dX5_decode_2 : decode cX5_decode 2 = .ok (.iconst 0, 1) := by decide +kernel
theorem dX5_decode_3 : decode cX5_decode 3 = .ok (.istore_n 3, 1) := by decide +kernel
theorem dX5_decode_4 : decode cX5_decode 4 = .ok (.aload_n 0, 1) := by decide +kernel
theorem dX5_decode_5 : decode cX5_decode 5 = .ok (.getfield 43, 3) := by decide +kernel
theorem dX5_decode_8 : decode cX5_decode 8 = .ok (.iconst 1, 1) := by decide +kernel
theorem dX5_decode_9 : decode cX5_decode 9 = .ok (.isub, 1) := by decide +kernel
theorem dX5_decode_10 : decode cX5_decode 10 = .ok (.istore 4, 2) := by decide +kernel
theorem dX5_decode_12 : decode cX5_decode 12 = .ok (.iload 4, 2) := by decide +kernel
theorem dX5_decode_14 : decode cX5_decode 14 = .ok (.ifCond .lt 41, 3) := by decide +kernel
theorem dX5_decode_17 : decode cX5_decode 17 = .ok (.aload_n 0, 1) := by decide +kernel
theorem dX5_decode_18 : decode cX5_decode 18 = .ok (.getfield 28, 3) := by decide +kernel
theorem dX5_decode_21 : decode cX5_decode 21 = .ok (.iload 4, 2) := by decide +kernel
theorem dX5_decode_23 : decode cX5_decode 23 = .ok (.iload_n 2, 1) := by decide +kernel
theorem dX5_decode_24 : decode cX5_decode 24 = .ok (.aload_n 0, 1) := by decide +kernel
theorem dX5_decode_25 : decode cX5_decode 25 = .ok (.getfield 43, 3) := by decide +kernel
theorem dX5_decode_28 : decode cX5_decode 28 = .ok (.irem, 1) := by decide +kernel
theorem dX5_decode_29 : decode cX5_decode 29 = .ok (.iastore, 1) := by decide +kernel
theorem dX5_decode_30 : decode cX5_decode 30 = .ok (.iload_n 2, 1) := by decide +kernel
theorem dX5_decode_31 : decode cX5_decode 31 = .ok (.aload_n 0, 1) := by decide +kernel
theorem dX5_decode_32 : decode cX5_decode 32 = .ok (.getfield 43, 3) := by decide +kernel
theorem dX5_decode_35 : decode cX5_decode 35 = .ok (.idiv, 1) := by decide +kernel
theorem dX5_decode_36 : decode cX5_decode 36 = .ok (.istore_n 2, 1) := by decide +kernel
theorem dX5_decode_37 : decode cX5_decode 37 = .ok (.iload_n 3, 1) := by decide +kernel
theorem dX5_decode_38 : decode cX5_decode 38 = .ok (.iconst 1, 1) := by decide +kernel
theorem dX5_decode_39 : decode cX5_decode 39 = .ok (.aload_n 0, 1) := by decide +kernel
theorem dX5_decode_40 : decode cX5_decode 40 = .ok (.getfield 28, 3) := by decide +kernel
theorem dX5_decode_43 : decode cX5_decode 43 = .ok (.iload 4, 2) := by decide +kernel
theorem dX5_decode_45 : decode cX5_decode 45 = .ok (.iaload, 1) := by decide +kernel
theorem dX5_decode_46 : decode cX5_decode 46 = .ok (.ishl, 1) := by decide +kernel
theorem dX5_decode_47 : decode cX5_decode 47 = .ok (.ior, 1) := by decide +kernel
theorem dX5_decode_48 : decode cX5_decode 48 = .ok (.istore_n 3, 1) := by decide +kernel
theorem dX5_decode_49 : decode cX5_decode 49 = .ok (.iinc 4 (-1), 3) := by decide +kernel
theorem dX5_decode_52 : decode cX5_decode 52 = .ok (.goto (-40), 3) := by decide +kernel
theorem dX5_decode_55 : decode cX5_decode 55 = .ok (.iload_n 3, 1) := by decide +kernel
theorem dX5_decode_56 : decode cX5_decode 56 = .ok (.iconst 1, 1) := by decide +kernel
theorem dX5_decode_57 : decode cX5_decode 57 = .ok (.aload_n 0, 1) := by decide +kernel
theorem dX5_decode_58 : decode cX5_decode 58 = .ok (.getfield 43, 3) := by decide +kernel
theorem dX5_decode_61 : decode cX5_decode 61 = .ok (.ishl, 1) := by decide +kernel
theorem dX5_decode_62 : decode cX5_decode 62 = .ok (.iconst 1, 1) := by decide +kernel
theorem dX5_decode_63 : decode cX5_decode 63 = .ok (.isub, 1) := by decide +kernel
theorem dX5_decode_64 : decode cX5_decode 64 = .ok (.if_icmp .ne 7, 3) := by decide +kernel
theorem dX5_decode_67 : decode cX5_decode 67 = .ok (.iconst 1, 1) := by decide +kernel
theorem dX5_decode_68 : decode cX5_decode 68 = .ok (.goto 4, 3) := by decide +kernel
theorem dX5_decode_71 : decode cX5_decode 71 = .ok (.iconst 0, 1) := by decide +kernel
theorem dX5_decode_72 : decode cX5_decode 72 = .ok (.ireturn, 1) := by decide +kernel
set_option maxRecDepth 20000 in
theorem ggX5_fitsPicked_X2_dropPairs : GoodIn wsX5_fitsPicked wsX2_dropPairs := goodIn_r _ [10, 11, 12, 89, 90, 91, 92, 93, 94, 95, 96, 97, 98, 99, 100] (by decide +kernel) (by decide +kernel)
set_option maxRecDepth 20000 in
theorem gX5_fitsPicked_X2_dropPairs : GoodIn wsX5_fitsPicked (wsV RX5 65 RX2 yX2_dropPairs wsX2_dropPairs) := goodIn_app (goodIn_of _ (by decide +kernel)) ggX5_fitsPicked_X2_dropPairs
set_option maxRecDepth 20000 in
theorem ggX5_fitsPicked_X2_takePair : GoodIn wsX5_fitsPicked wsX2_takePair := goodIn_r _ [16, 17, 18, 19, 9, 20, 21, 22, 23, 24, 12, 25, 26, 27, 28, 89, 90, 91, 92, 93, 94, 95, 96, 97, 98, 99, 100] (by decide +kernel) (by decide +kernel)
set_option maxRecDepth 20000 in
theorem gX5_fitsPicked_X2_takePair : GoodIn wsX5_fitsPicked (wsV RX5 70 RX2 yX2_takePair wsX2_takePair) := goodIn_app (goodIn_of _ (by decide +kernel)) ggX5_fitsPicked_X2_takePair
set_option maxRecDepth 20000 in
theorem ggX5_fitsPicked_X9_lay : GoodIn wsX5_fitsPicked wsX9_lay := goodIn_r _ [33, 34, 35, 36, 37, 38, 39, 40, 41, 42, 43, 44, 9, 45, 46, 47, 12, 26, 25, 28, 27, 48, 49, 50, 51, 52, 53, 54, 55, 56, 57, 58, 59, 60, 61, 32, 62, 63, 64, 65, 66, 67, 68, 69, 70, 71, 72, 73, 74, 75, 76, 101, 102, 103, 89, 90, 91, 92, 93, 94, 95, 96, 97, 98, 99, 100, 104, 105, 106, 107] (by decide +kernel) (by decide +kernel)
set_option maxRecDepth 20000 in
theorem gX5_fitsPicked_X9_lay : GoodIn wsX5_fitsPicked (wsV RX5 74 RX9 yX9_lay wsX9_lay) := goodIn_app (goodIn_of _ (by decide +kernel)) ggX5_fitsPicked_X9_lay
set_option maxRecDepth 20000 in
theorem ggX5_fitsPicked_X9_allWays : GoodIn wsX5_fitsPicked wsX9_allWays := goodIn_r _ [80, 37, 34, 101, 102, 103] (by decide +kernel) (by decide +kernel)
set_option maxRecDepth 20000 in
theorem gX5_fitsPicked_X9_allWays : GoodIn wsX5_fitsPicked (wsV RX5 78 RX9 yX9_allWays wsX9_allWays) := goodIn_app (goodIn_of _ (by decide +kernel)) ggX5_fitsPicked_X9_allWays
theorem dX5_fitsPicked_0 : decode cX5_fitsPicked 0 = .ok (.aload_n 2, 1) := by decide +kernel
theorem dX5_fitsPicked_1 : decode cX5_fitsPicked 1 = .ok (.invokevirtual 65, 3) := by decide +kernel
theorem dX5_fitsPicked_4 : decode cX5_fitsPicked 4 = .ok (.iconst 0, 1) := by decide +kernel
theorem dX5_fitsPicked_5 : decode cX5_fitsPicked 5 = .ok (.istore 4, 2) := by decide +kernel
theorem dX5_fitsPicked_7 : decode cX5_fitsPicked 7 = .ok (.iload 4, 2) := by decide +kernel
theorem dX5_fitsPicked_9 : decode cX5_fitsPicked 9 = .ok (.aload_n 0, 1) := by decide +kernel
theorem dX5_fitsPicked_10 : decode cX5_fitsPicked 10 = .ok (.getfield 43, 3) := by decide +kernel
theorem dX5_fitsPicked_13 : decode cX5_fitsPicked 13 = .ok (.if_icmp .ge 32, 3) := by decide +kernel
theorem dX5_fitsPicked_16 : decode cX5_fitsPicked 16 = .ok (.aload_n 2, 1) := by decide +kernel
theorem dX5_fitsPicked_17 : decode cX5_fitsPicked 17 = .ok (.aload_n 0, 1) := by decide +kernel
theorem dX5_fitsPicked_18 : decode cX5_fitsPicked 18 = .ok (.getfield 22, 3) := by decide +kernel
theorem dX5_fitsPicked_21 : decode cX5_fitsPicked 21 = .ok (.iload 4, 2) := by decide +kernel
theorem dX5_fitsPicked_23 : decode cX5_fitsPicked 23 = .ok (.iaload, 1) := by decide +kernel
theorem dX5_fitsPicked_24 : decode cX5_fitsPicked 24 = .ok (.aload_n 0, 1) := by decide +kernel
theorem dX5_fitsPicked_25 : decode cX5_fitsPicked 25 = .ok (.getfield 25, 3) := by decide +kernel
theorem dX5_fitsPicked_28 : decode cX5_fitsPicked 28 = .ok (.aload_n 0, 1) := by decide +kernel
theorem dX5_fitsPicked_29 : decode cX5_fitsPicked 29 = .ok (.getfield 28, 3) := by decide +kernel
theorem dX5_fitsPicked_32 : decode cX5_fitsPicked 32 = .ok (.iload 4, 2) := by decide +kernel
theorem dX5_fitsPicked_34 : decode cX5_fitsPicked 34 = .ok (.iaload, 1) := by decide +kernel
theorem dX5_fitsPicked_35 : decode cX5_fitsPicked 35 = .ok (.iaload, 1) := by decide +kernel
theorem dX5_fitsPicked_36 : decode cX5_fitsPicked 36 = .ok (.invokevirtual 70, 3) := by decide +kernel
theorem dX5_fitsPicked_39 : decode cX5_fitsPicked 39 = .ok (.iinc 4 1, 3) := by decide +kernel
theorem dX5_fitsPicked_42 : decode cX5_fitsPicked 42 = .ok (.goto (-35), 3) := by decide +kernel
theorem dX5_fitsPicked_45 : decode cX5_fitsPicked 45 = .ok (.aload_n 0, 1) := by decide +kernel
theorem dX5_fitsPicked_46 : decode cX5_fitsPicked 46 = .ok (.getfield 18, 3) := by decide +kernel
theorem dX5_fitsPicked_49 : decode cX5_fitsPicked 49 = .ok (.aload_n 2, 1) := by decide +kernel
theorem dX5_fitsPicked_50 : decode cX5_fitsPicked 50 = .ok (.aload_n 3, 1) := by decide +kernel
theorem dX5_fitsPicked_51 : decode cX5_fitsPicked 51 = .ok (.iload_n 1, 1) := by decide +kernel
theorem dX5_fitsPicked_52 : decode cX5_fitsPicked 52 = .ok (.invokevirtual 74, 3) := by decide +kernel
theorem dX5_fitsPicked_55 : decode cX5_fitsPicked 55 = .ok (.aload_n 0, 1) := by decide +kernel
theorem dX5_fitsPicked_56 : decode cX5_fitsPicked 56 = .ok (.getfield 18, 3) := by decide +kernel
theorem dX5_fitsPicked_59 : decode cX5_fitsPicked 59 = .ok (.invokevirtual 78, 3) := by decide +kernel
theorem dX5_fitsPicked_62 : decode cX5_fitsPicked 62 = .ok (.lconst 0, 1) := by decide +kernel
theorem dX5_fitsPicked_63 : decode cX5_fitsPicked 63 = .ok (.lcmp, 1) := by decide +kernel
theorem dX5_fitsPicked_64 : decode cX5_fitsPicked 64 = .ok (.ifCond .le 7, 3) := by decide +kernel
theorem dX5_fitsPicked_67 : decode cX5_fitsPicked 67 = .ok (.iconst 1, 1) := by decide +kernel
theorem dX5_fitsPicked_68 : decode cX5_fitsPicked 68 = .ok (.goto 4, 3) := by decide +kernel
theorem dX5_fitsPicked_71 : decode cX5_fitsPicked 71 = .ok (.iconst 0, 1) := by decide +kernel
theorem dX5_fitsPicked_72 : decode cX5_fitsPicked 72 = .ok (.ireturn, 1) := by decide +kernel
theorem dX5_keepPicked_0 : decode cX5_keepPicked 0 = .ok (.iconst 0, 1) := by decide +kernel
theorem dX5_keepPicked_1 : decode cX5_keepPicked 1 = .ok (.istore_n 1, 1) := by decide +kernel
theorem dX5_keepPicked_2 : decode cX5_keepPicked 2 = .ok (.iload_n 1, 1) := by decide +kernel
theorem dX5_keepPicked_3 : decode cX5_keepPicked 3 = .ok (.aload_n 0, 1) := by decide +kernel
theorem dX5_keepPicked_4 : decode cX5_keepPicked 4 = .ok (.getfield 43, 3) := by decide +kernel
theorem dX5_keepPicked_7 : decode cX5_keepPicked 7 = .ok (.if_icmp .ge 26, 3) := by decide +kernel
theorem dX5_keepPicked_10 : decode cX5_keepPicked 10 = .ok (.aload_n 0, 1) := by decide +kernel
theorem dX5_keepPicked_11 : decode cX5_keepPicked 11 = .ok (.getfield 9, 3) := by decide +kernel
theorem dX5_keepPicked_14 : decode cX5_keepPicked 14 = .ok (.iload_n 1, 1) := by decide +kernel
theorem dX5_keepPicked_15 : decode cX5_keepPicked 15 = .ok (.aload_n 0, 1) := by decide +kernel
theorem dX5_keepPicked_16 : decode cX5_keepPicked 16 = .ok (.getfield 25, 3) := by decide +kernel
theorem dX5_keepPicked_19 : decode cX5_keepPicked 19 = .ok (.aload_n 0, 1) := by decide +kernel
theorem dX5_keepPicked_20 : decode cX5_keepPicked 20 = .ok (.getfield 28, 3) := by decide +kernel
theorem dX5_keepPicked_23 : decode cX5_keepPicked 23 = .ok (.iload_n 1, 1) := by decide +kernel
theorem dX5_keepPicked_24 : decode cX5_keepPicked 24 = .ok (.iaload, 1) := by decide +kernel
theorem dX5_keepPicked_25 : decode cX5_keepPicked 25 = .ok (.iaload, 1) := by decide +kernel
theorem dX5_keepPicked_26 : decode cX5_keepPicked 26 = .ok (.iastore, 1) := by decide +kernel
theorem dX5_keepPicked_27 : decode cX5_keepPicked 27 = .ok (.iinc 1 1, 3) := by decide +kernel
theorem dX5_keepPicked_30 : decode cX5_keepPicked 30 = .ok (.goto (-28), 3) := by decide +kernel
theorem dX5_keepPicked_33 : decode cX5_keepPicked 33 = .ok (.return_, 1) := by decide +kernel
theorem dX6_init_0 : decode cX6_init 0 = .ok (.aload_n 0, 1) := by decide +kernel
theorem dX6_init_1 : decode cX6_init 1 = .ok (.invokespecial 3, 3) := by decide +kernel
theorem dX6_init_4 : decode cX6_init 4 = .ok (.aload_n 0, 1) := by decide +kernel
theorem dX6_init_5 : decode cX6_init 5 = .ok (.sipush 200, 3) := by decide +kernel
theorem dX6_init_8 : decode cX6_init 8 = .ok (.newarray .int, 2) := by decide +kernel
theorem dX6_init_10 : decode cX6_init 10 = .ok (.putfield 9, 3) := by decide +kernel
theorem dX6_init_13 : decode cX6_init 13 = .ok (.return_, 1) := by decide +kernel
theorem dX6_add_0 : decode cX6_add 0 = .ok (.iload_n 3, 1) := by decide +kernel
theorem dX6_add_1 : decode cX6_add 1 = .ok (.iconst 1, 1) := by decide +kernel
theorem dX6_add_2 : decode cX6_add 2 = .ok (.isub, 1) := by decide +kernel
theorem dX6_add_3 : decode cX6_add 3 = .ok (.istore 4, 2) := by decide +kernel
theorem dX6_add_5 : decode cX6_add 5 = .ok (.iload 4, 2) := by decide +kernel
theorem dX6_add_7 : decode cX6_add 7 = .ok (.ifCond .lt 40, 3) := by decide +kernel
theorem dX6_add_10 : decode cX6_add 10 = .ok (.aload_n 0, 1) := by decide +kernel
theorem dX6_add_11 : decode cX6_add 11 = .ok (.getfield 9, 3) := by decide +kernel
theorem dX6_add_14 : decode cX6_add 14 = .ok (.aload_n 0, 1) := by decide +kernel
theorem dX6_add_15 : decode cX6_add 15 = .ok (.getfield 15, 3) := by decide +kernel
theorem dX6_add_18 : decode cX6_add 18 = .ok (.lload_n 1, 1) := by decide +kernel
theorem dX6_add_19 : decode cX6_add 19 = .ok (.bipush 8, 2) := by decide +kernel
theorem dX6_add_21 : decode cX6_add 21 = .ok (.iload 4, 2) := by decide +kernel
theorem dX6_add_23 : decode cX6_add 23 = .ok (.imul, 1) := by decide +kernel
theorem dX6_add_24 : decode cX6_add 24 = .ok (.lshr, 1) := by decide +kernel
theorem dX6_add_25 : decode cX6_add 25 = .ok (.l2i, 1) := by decide +kernel
theorem dX6_add_26 : decode cX6_add 26 = .ok (.sipush 255, 3) := by decide +kernel
theorem dX6_add_29 : decode cX6_add 29 = .ok (.iand, 1) := by decide +kernel
theorem dX6_add_30 : decode cX6_add 30 = .ok (.iastore, 1) := by decide +kernel
theorem dX6_add_31 : decode cX6_add 31 = .ok (.aload_n 0, 1) := by decide +kernel
theorem dX6_add_32 : decode cX6_add 32 = .ok (.dup, 1) := by decide +kernel
theorem dX6_add_33 : decode cX6_add 33 = .ok (.getfield 15, 3) := by decide +kernel
theorem dX6_add_36 : decode cX6_add 36 = .ok (.iconst 1, 1) := by decide +kernel
theorem dX6_add_37 : decode cX6_add 37 = .ok (.iadd, 1) := by decide +kernel
theorem dX6_add_38 : decode cX6_add 38 = .ok (.putfield 15, 3) := by decide +kernel
theorem dX6_add_41 : decode cX6_add 41 = .ok (.iinc 4 (-1), 3) := by decide +kernel
theorem dX6_add_44 : decode cX6_add 44 = .ok (.goto (-39), 3) := by decide +kernel
theorem dX6_add_47 : decode cX6_add 47 = .ok (.return_, 1) := by decide +kernel
theorem dX7_init_0 : decode cX7_init 0 = .ok (.aload_n 0, 1) := by decide +kernel
theorem dX7_init_1 : decode cX7_init 1 = .ok (.invokespecial 3, 3) := by decide +kernel
theorem dX7_init_4 : decode cX7_init 4 = .ok (.aload_n 0, 1) := by decide +kernel
theorem dX7_init_5 : decode cX7_init 5 = .ok (.bipush 6, 2) := by decide +kernel
theorem dX7_init_7 : decode cX7_init 7 = .ok (.newarray .int, 2) := by decide +kernel
theorem dX7_init_9 : decode cX7_init 9 = .ok (.putfield 9, 3) := by decide +kernel
theorem dX7_init_12 : decode cX7_init 12 = .ok (.aload_n 0, 1) := by decide +kernel
theorem dX7_init_13 : decode cX7_init 13 = .ok (.bipush 64, 2) := by decide +kernel
theorem dX7_init_15 : decode cX7_init 15 = .ok (.newarray .int, 2) := by decide +kernel
theorem dX7_init_17 : decode cX7_init 17 = .ok (.putfield 15, 3) := by decide +kernel
theorem dX7_init_20 : decode cX7_init 20 = .ok (.return_, 1) := by decide +kernel
theorem dX7_take_0 : decode cX7_take 0 = .ok (.aload_n 0, 1) := by decide +kernel
theorem dX7_take_1 : decode cX7_take 1 = .ok (.iconst 0, 1) := by decide +kernel
theorem dX7_take_2 : decode cX7_take 2 = .ok (.putfield 18, 3) := by decide +kernel
theorem dX7_take_5 : decode cX7_take 5 = .ok (.aload_n 0, 1) := by decide +kernel
theorem dX7_take_6 : decode cX7_take 6 = .ok (.iconst 1, 1) := by decide +kernel
theorem dX7_take_7 : decode cX7_take 7 = .ok (.putfield 22, 3) := by decide +kernel
theorem dX7_take_10 : decode cX7_take 10 = .ok (.aload_n 0, 1) := by decide +kernel
theorem dX7_take_11 : decode cX7_take 11 = .ok (.getfield 15, 3) := by decide +kernel
theorem dX7_take_14 : decode cX7_take 14 = .ok (.iconst 0, 1) := by decide +kernel
theorem dX7_take_15 : decode cX7_take 15 = .ok (.iconst 0, 1) := by decide +kernel
theorem dX7_take_16 : decode cX7_take 16 = .ok (.iastore, 1) := by decide +kernel
theorem dX7_take_17 : decode cX7_take 17 = .ok (.iconst 0, 1) := by decide +kernel
theorem dX7_take_18 : decode cX7_take 18 = .ok (.istore_n 2, 1) := by decide +kernel
theorem dX7_take_19 : decode cX7_take 19 = .ok (.iload_n 2, 1) := by decide +kernel
theorem dX7_take_20 : decode cX7_take 20 = .ok (.bipush 12, 2) := by decide +kernel
theorem dX7_take_22 : decode cX7_take 22 = .ok (.if_icmp .ge 96, 3) := by decide +kernel
theorem dX7_take_25 : decode cX7_take 25 = .ok (.aload_n 0, 1) := by decide +kernel
theorem dX7_take_26 : decode cX7_take 26 = .ok (.getfield 18, 3) := by decide +kernel
theorem dX7_take_29 : decode cX7_take 29 = .ok (.bipush 6, 2) := by decide +kernel
theorem dX7_take_31 : decode cX7_take 31 = .ok (.if_icmp .ge 87, 3) := by decide +kernel
theorem dX7_take_34 : decode cX7_take 34 = .ok (.iload_n 1, 1) := by decide +kernel
theorem dX7_take_35 : decode cX7_take 35 = .ok (.iload_n 2, 1) := by decide +kernel
theorem dX7_take_36 : decode cX7_take 36 = .ok (.ishr, 1) := by decide +kernel
theorem dX7_take_37 : decode cX7_take 37 = .ok (.iconst 1, 1) := by decide +kernel
theorem dX7_take_38 : decode cX7_take 38 = .ok (.iand, 1) := by decide +kernel
theorem dX7_take_39 : decode cX7_take 39 = .ok (.ifCond .ne 6, 3) := by decide +kernel
theorem dX7_take_42 : decode cX7_take 42 = .ok (.goto 70, 3) := by decide +kernel
theorem dX7_take_45 : decode cX7_take 45 = .ok (.iconst 0, 1) := by decide +kernel
theorem dX7_take_46 : decode cX7_take 46 = .ok (.istore_n 3, 1) := by decide +kernel
theorem dX7_take_47 : decode cX7_take 47 = .ok (.iload_n 3, 1) := by decide +kernel
theorem dX7_take_48 : decode cX7_take 48 = .ok (.aload_n 0, 1) := by decide +kernel
theorem dX7_take_49 : decode cX7_take 49 = .ok (.getfield 22, 3) := by decide +kernel
theorem dX7_take_52 : decode cX7_take 52 = .ok (.if_icmp .ge 30, 3) := by decide +kernel
theorem dX7_take_55 : decode cX7_take 55 = .ok (.aload_n 0, 1) := by decide +kernel
theorem dX7_take_56 : decode cX7_take 56 = .ok (.getfield 15, 3) := by decide +kernel
theorem dX7_take_59 : decode cX7_take 59 = .ok (.aload_n 0, 1) := by decide +kernel
theorem dX7_take_60 : decode cX7_take 60 = .ok (.getfield 22, 3) := by decide +kernel
theorem dX7_take_63 : decode cX7_take 63 = .ok (.iload_n 3, 1) := by decide +kernel
theorem dX7_take_64 : decode cX7_take 64 = .ok (.iadd, 1) := by decide +kernel
theorem dX7_take_65 : decode cX7_take 65 = .ok (.aload_n 0, 1) := by decide +kernel
theorem dX7_take_66 : decode cX7_take 66 = .ok (.getfield 15, 3) := by decide +kernel
theorem dX7_take_69 : decode cX7_take 69 = .ok (.iload_n 3, 1) := by decide +kernel
theorem dX7_take_70 : decode cX7_take 70 = .ok (.iaload, 1) := by decide +kernel
theorem dX7_take_71 : decode cX7_take 71 = .ok (.iconst 1, 1) := by decide +kernel
theorem dX7_take_72 : decode cX7_take 72 = .ok (.iload_n 2, 1) := by decide +kernel
theorem dX7_take_73 : decode cX7_take 73 = .ok (.ishl, 1) := by decide +kernel
theorem dX7_take_74 : decode cX7_take 74 = .ok (.ior, 1) := by decide +kernel
theorem dX7_take_75 : decode cX7_take 75 = .ok (.iastore, 1) := by decide +kernel
theorem dX7_take_76 : decode cX7_take 76 = .ok (.iinc 3 1, 3) := by decide +kernel
theorem dX7_take_79 : decode cX7_take 79 = .ok (.goto (-32), 3) := by decide +kernel
theorem dX7_take_82 : decode cX7_take 82 = .ok (.aload_n 0, 1) := by decide +kernel
theorem dX7_take_83 : decode cX7_take 83 = .ok (.getfield 9, 3) := by decide +kernel
theorem dX7_take_86 : decode cX7_take 86 = .ok (.aload_n 0, 1) := by decide +kernel
theorem dX7_take_87 : decode cX7_take 87 = .ok (.getfield 18, 3) := by decide +kernel
theorem dX7_take_90 : decode cX7_take 90 = .ok (.iload_n 2, 1) := by decide +kernel
theorem dX7_take_91 : decode cX7_take 91 = .ok (.iastore, 1) := by decide +kernel
theorem dX7_take_92 : decode cX7_take 92 = .ok (.aload_n 0, 1) := by decide +kernel
theorem dX7_take_93 : decode cX7_take 93 = .ok (.dup, 1) := by decide +kernel
theorem dX7_take_94 : decode cX7_take 94 = .ok (.getfield 18, 3) := by decide +kernel
theorem dX7_take_97 : decode cX7_take 97 = .ok (.iconst 1, 1) := by decide +kernel
theorem dX7_take_98 : decode cX7_take 98 = .ok (.iadd, 1) := by decide +kernel
theorem dX7_take_99 : decode cX7_take 99 = .ok (.putfield 18, 3) := by decide +kernel
theorem dX7_take_102 : decode cX7_take 102 = .ok (.aload_n 0, 1) := by decide +kernel
theorem dX7_take_103 : decode cX7_take 103 = .ok (.dup, 1) := by decide +kernel
theorem dX7_take_104 : decode cX7_take 104 = .ok (.getfield 22, 3) := by decide +kernel
theorem dX7_take_107 : decode cX7_take 107 = .ok (.iconst 2, 1) := by decide +kernel
theorem dX7_take_108 : decode cX7_take 108 = .ok (.imul, 1) := by decide +kernel
theorem dX7_take_109 : decode cX7_take 109 = .ok (.putfield 22, 3) := by decide +kernel
theorem dX7_take_112 : decode cX7_take 112 = .ok (.iinc 2 1, 3) := by decide +kernel
theorem dX7_take_115 : decode cX7_take 115 = .ok (.goto (-96), 3) := by decide +kernel
theorem dX7_take_118 : decode cX7_take 118 = .ok (.return_, 1) := by decide +kernel
set_option maxRecDepth 20000 in
theorem ggX8_init_X4_init : GoodIn wsX8_init wsX4_init := goodIn_r _ [13, 14, 2, 3, 15, 16, 17, 18, 19, 20, 21, 22, 27, 28, 29, 30, 31, 32, 33, 34, 35] (by decide +kernel) (by decide +kernel)
set_option maxRecDepth 20000 in
theorem gX8_init_X4_init_n11 : GoodIn wsX8_init (wsX4_init) := ggX8_init_X4_init
set_option maxRecDepth 20000 in
theorem ggX8_init_X6_init : GoodIn wsX8_init wsX6_init := goodIn_r _ [24, 25, 2, 3, 15, 26, 42, 43] (by decide +kernel) (by decide +kernel)
set_option maxRecDepth 20000 in
theorem gX8_init_X6_init_n20 : GoodIn wsX8_init (wsX6_init) := ggX8_init_X6_init
theorem dX8_init_0 : decode cX8_init 0 = .ok (.aload_n 0, 1) := by decide +kernel
theorem dX8_init_1 : decode cX8_init 1 = .ok (.invokespecial 3, 3) := by decide +kernel
theorem dX8_init_4 : decode cX8_init 4 = .ok (.aload_n 0, 1) := by decide +kernel
theorem dX8_init_5 : decode cX8_init 5 = .ok (.new 9, 3) := by decide +kernel
theorem dX8_init_8 : decode cX8_init 8 = .ok (.dup, 1) := by decide +kernel
theorem dX8_init_9 : decode cX8_init 9 = .ok (.invokespecial 11, 3) := by decide +kernel
theorem dX8_init_12 : decode cX8_init 12 = .ok (.putfield 12, 3) := by decide +kernel
theorem dX8_init_15 : decode cX8_init 15 = .ok (.aload_n 0, 1) := by decide +kernel
theorem dX8_init_16 : decode cX8_init 16 = .ok (.new 18, 3) := by decide +kernel
theorem dX8_init_19 : decode cX8_init 19 = .ok (.dup, 1) := by decide +kernel
theorem dX8_init_20 : decode cX8_init 20 = .ok (.invokespecial 20, 3) := by decide +kernel
theorem dX8_init_23 : decode cX8_init 23 = .ok (.putfield 21, 3) := by decide +kernel
theorem dX8_init_26 : decode cX8_init 26 = .ok (.return_, 1) := by decide +kernel
set_option maxRecDepth 20000 in
theorem ggX8_faultIn_X4_empty : GoodIn wsX8_faultIn wsX4_empty := goodIn_r _ [10, 11, 12, 150, 151, 152, 153, 154, 155, 156, 157, 158] (by decide +kernel) (by decide +kernel)
set_option maxRecDepth 20000 in
theorem gX8_faultIn_X4_empty : GoodIn wsX8_faultIn (wsV RX8 29 RX4 yX4_empty wsX4_empty) := goodIn_app (goodIn_of _ (by decide +kernel)) ggX8_faultIn_X4_empty
set_option maxRecDepth 20000 in
theorem ggX8_faultIn_X8_advance : GoodIn wsX8_faultIn wsX8_advance := goodIn_r _ [17, 2, 1, 18, 19, 5, 20, 4, 21, 22, 23, 16, 24, 25, 26, 27, 28, 29, 30, 31, 32, 33, 34, 35, 36, 37, 38, 39, 40, 41, 42, 43, 44, 45, 46, 47, 48, 49, 50, 51, 52, 53, 54, 55, 56, 57, 58, 59, 60, 61, 62, 63, 64, 65, 66, 67, 68, 69, 70, 71, 72, 73, 74, 75, 76, 77, 78, 79, 80, 81, 82, 83, 84, 85, 86, 87, 88, 144, 145, 146, 147, 148, 149, 159, 160] (by decide +kernel) (by decide +kernel)
set_option maxRecDepth 20000 in
theorem gX8_faultIn_X8_advance : GoodIn wsX8_faultIn (wsV RX8 32 RX8 yX8_advance wsX8_advance) := goodIn_app (goodIn_of _ (by decide +kernel)) ggX8_faultIn_X8_advance
set_option maxRecDepth 20000 in
theorem ggX8_faultIn_X8_heading : GoodIn wsX8_faultIn wsX8_heading := goodIn_r _ [92, 3, 93, 94, 95, 16, 96, 4, 20, 13, 14, 15, 17, 2, 1, 18, 19, 5, 21, 22, 23, 24, 25, 26, 27, 28, 29, 30, 31, 32, 33, 34, 35, 36, 37, 38, 39, 40, 41, 42, 43, 44, 45, 46, 47, 48, 49, 50, 51, 52, 53, 54, 55, 56, 57, 58, 59, 60, 61, 62, 63, 64, 65, 66, 67, 68, 69, 70, 71, 72, 73, 74, 75, 76, 77, 78, 79, 80, 81, 82, 83, 84, 85, 86, 87, 88, 97, 98, 99, 100, 101, 102, 103, 9, 104, 11, 105, 106, 107, 108, 109, 110, 111, 144, 145, 146, 147, 148, 149, 159, 160, 150, 151, 152, 153, 154, 155, 156, 157, 158] (by decide +kernel) (by decide +kernel)
set_option maxRecDepth 20000 in
theorem gX8_faultIn_X8_heading : GoodIn wsX8_faultIn (wsV RX8 35 RX8 yX8_heading wsX8_heading) := goodIn_app (goodIn_of _ (by decide +kernel)) ggX8_faultIn_X8_heading
set_option maxRecDepth 20000 in
theorem ggX8_faultIn_X8_item : GoodIn wsX8_faultIn wsX8_item := goodIn_r _ [115, 4, 116, 117, 118, 16, 119, 3, 120, 121, 20, 97, 98, 99, 100, 13, 14, 15, 17, 2, 1, 18, 19, 5, 21, 22, 23, 24, 25, 26, 27, 28, 29, 30, 31, 32, 33, 34, 35, 36, 37, 38, 39, 40, 41, 42, 43, 44, 45, 46, 47, 48, 49, 50, 51, 52, 53, 54, 55, 56, 57, 58, 59, 60, 61, 62, 63, 64, 65, 66, 67, 68, 69, 70, 71, 72, 73, 74, 75, 76, 77, 78, 79, 80, 81, 82, 83, 84, 85, 86, 87, 88, 122, 123, 124, 125, 93, 94, 95, 96, 108, 109, 110, 111, 126, 127, 128, 9, 129, 12, 130, 131, 132, 133, 134, 135, 136, 137, 138, 139, 140, 141, 142, 143, 144, 145, 146, 147, 148, 149, 150, 151, 152, 153, 154, 155, 156, 157, 158, 159, 160] (by decide +kernel) (by decide +kernel)
set_option maxRecDepth 20000 in
theorem gX8_faultIn_X8_item : GoodIn wsX8_faultIn (wsV RX8 42 RX8 yX8_item wsX8_item) := goodIn_app (goodIn_of _ (by decide +kernel)) ggX8_faultIn_X8_item
theorem dX8_faultIn_0 : decode cX8_faultIn 0 = .ok (.aload_n 0, 1) := by decide +kernel
theorem dX8_faultIn_1 : decode cX8_faultIn 1 = .ok (.aload_n 1, 1) := by decide +kernel
theorem dX8_faultIn_2 : decode cX8_faultIn 2 = .ok (.putfield 21, 3) := by decide +kernel
theorem dX8_faultIn_5 : decode cX8_faultIn 5 = .ok (.aload_n 0, 1) := by decide +kernel
theorem dX8_faultIn_6 : decode cX8_faultIn 6 = .ok (.iconst 0, 1) := by decide +kernel
theorem dX8_faultIn_7 : decode cX8_faultIn 7 = .ok (.putfield 25, 3) := by decide +kernel
theorem dX8_faultIn_10 : decode cX8_faultIn 10 = .ok (.aload_n 0, 1) := by decide +kernel
theorem dX8_faultIn_11 : decode cX8_faultIn 11 = .ok (.getfield 12, 3) := by decide +kernel
theorem dX8_faultIn_14 : decode cX8_faultIn 14 = .ok (.invokevirtual 29, 3) := by decide +kernel
theorem dX8_faultIn_17 : decode cX8_faultIn 17 = .ok (.aload_n 0, 1) := by decide +kernel
theorem dX8_faultIn_18 : decode cX8_faultIn 18 = .ok (.invokevirtual 32, 3) := by decide +kernel
theorem dX8_faultIn_21 : decode cX8_faultIn 21 = .ok (.aload_n 0, 1) := by decide +kernel
theorem dX8_faultIn_22 : decode cX8_faultIn 22 = .ok (.invokevirtual 35, 3) := by decide +kernel
theorem dX8_faultIn_25 : decode cX8_faultIn 25 = .ok (.istore_n 2, 1) := by decide +kernel
theorem dX8_faultIn_26 : decode cX8_faultIn 26 = .ok (.iconst 0, 1) := by decide +kernel
theorem dX8_faultIn_27 : decode cX8_faultIn 27 = .ok (.istore_n 3, 1) := by decide +kernel
theorem dX8_faultIn_28 : decode cX8_faultIn 28 = .ok (.iload_n 3, 1) := by decide +kernel
theorem dX8_faultIn_29 : decode cX8_faultIn 29 = .ok (.sipush 200, 3) := by decide +kernel
theorem dX8_faultIn_32 : decode cX8_faultIn 32 = .ok (.if_icmp .ge 25, 3) := by decide +kernel
theorem dX8_faultIn_35 : decode cX8_faultIn 35 = .ok (.iload_n 2, 1) := by decide +kernel
theorem dX8_faultIn_36 : decode cX8_faultIn 36 = .ok (.ifCond .eq 21, 3) := by decide +kernel
theorem dX8_faultIn_39 : decode cX8_faultIn 39 = .ok (.aload_n 0, 1) := by decide +kernel
theorem dX8_faultIn_40 : decode cX8_faultIn 40 = .ok (.getfield 39, 3) := by decide +kernel
theorem dX8_faultIn_43 : decode cX8_faultIn 43 = .ok (.ifCond .eq 14, 3) := by decide +kernel
theorem dX8_faultIn_46 : decode cX8_faultIn 46 = .ok (.aload_n 0, 1) := by decide +kernel
theorem dX8_faultIn_47 : decode cX8_faultIn 47 = .ok (.invokevirtual 42, 3) := by decide +kernel
theorem dX8_faultIn_50 : decode cX8_faultIn 50 = .ok (.istore_n 2, 1) := by decide +kernel
theorem dX8_faultIn_51 : decode cX8_faultIn 51 = .ok (.iinc 3 1, 3) := by decide +kernel
theorem dX8_faultIn_54 : decode cX8_faultIn 54 = .ok (.goto (-26), 3) := by decide +kernel
theorem dX8_faultIn_57 : decode cX8_faultIn 57 = .ok (.iload_n 2, 1) := by decide +kernel
theorem dX8_faultIn_58 : decode cX8_faultIn 58 = .ok (.ifCond .eq 7, 3) := by decide +kernel
theorem dX8_faultIn_61 : decode cX8_faultIn 61 = .ok (.iconst (-1), 1) := by decide +kernel
theorem dX8_faultIn_62 : decode cX8_faultIn 62 = .ok (.goto 7, 3) := by decide +kernel
theorem dX8_faultIn_65 : decode cX8_faultIn 65 = .ok (.aload_n 0, 1) := by decide +kernel
theorem dX8_faultIn_66 : decode cX8_faultIn 66 = .ok (.getfield 45, 3) := by decide +kernel
theorem dX8_faultIn_69 : decode cX8_faultIn 69 = .ok (.ireturn, 1) := by decide +kernel
set_option maxRecDepth 20000 in
theorem ggX8_heading_X8_takeWord : GoodIn wsX8_heading wsX8_takeWord := goodIn_r _ [6, 7, 8, 9, 10, 11, 5, 12, 13, 14, 15, 16, 17, 18, 19, 20, 21, 22, 23, 24, 25, 26, 27, 28, 29, 30, 31, 32, 33, 34, 35, 36, 37, 38, 39, 40, 41, 42, 43, 44, 45, 46, 47, 48, 49, 50, 51, 52, 53, 54, 55, 56, 57, 58, 59, 60, 61, 62, 63, 64, 65, 66, 67, 68, 69, 70, 71, 72, 73, 74, 75, 76, 77, 78, 79, 80, 81, 82, 83, 84, 85, 103, 104, 105, 106, 107, 108, 109, 110] (by decide +kernel) (by decide +kernel)
set_option maxRecDepth 20000 in
theorem gX8_heading_X8_takeWord : GoodIn wsX8_heading (wsV RX8 48 RX8 yX8_takeWord wsX8_takeWord) := goodIn_app (goodIn_of _ (by decide +kernel)) ggX8_heading_X8_takeWord
set_option maxRecDepth 20000 in
theorem ggX8_heading_X8_takeNumber : GoodIn wsX8_heading wsX8_takeNumber := goodIn_r _ [89, 7, 8, 9, 10, 11, 5, 12, 13, 14, 15, 16, 17, 18, 19, 20, 21, 22, 23, 24, 25, 26, 27, 28, 29, 30, 31, 32, 33, 34, 35, 36, 37, 38, 39, 40, 41, 42, 43, 44, 45, 46, 47, 48, 49, 50, 51, 52, 53, 54, 55, 56, 57, 58, 59, 60, 61, 62, 63, 64, 65, 66, 67, 68, 69, 70, 71, 72, 73, 74, 75, 76, 77, 78, 79, 80, 81, 82, 83, 84, 85, 103, 104, 105, 106, 107, 108, 109, 110] (by decide +kernel) (by decide +kernel)
set_option maxRecDepth 20000 in
theorem gX8_heading_X8_takeNumber : GoodIn wsX8_heading (wsV RX8 52 RX8 yX8_takeNumber wsX8_takeNumber) := goodIn_app (goodIn_of _ (by decide +kernel)) ggX8_heading_X8_takeNumber
set_option maxRecDepth 20000 in
theorem ggX8_heading_X4_addThing : GoodIn wsX8_heading wsX4_addThing := goodIn_r _ [94, 95, 96, 97, 98, 111, 112, 113, 114, 115, 116, 117, 118, 119] (by decide +kernel) (by decide +kernel)
set_option maxRecDepth 20000 in
theorem gX8_heading_X4_addThing : GoodIn wsX8_heading (wsV RX8 56 RX4 yX4_addThing wsX4_addThing) := goodIn_app (goodIn_of _ (by decide +kernel)) ggX8_heading_X4_addThing
set_option maxRecDepth 20000 in
theorem ggX8_heading_X8_takeStop : GoodIn wsX8_heading wsX8_takeStop := goodIn_r _ [102, 7, 9, 10, 11, 5, 12, 13, 14, 15, 16, 17, 8, 18, 19, 20, 21, 22, 23, 24, 25, 26, 27, 28, 29, 30, 31, 32, 33, 34, 35, 36, 37, 38, 39, 40, 41, 42, 43, 44, 45, 46, 47, 48, 49, 50, 51, 52, 53, 54, 55, 56, 57, 58, 59, 60, 61, 62, 63, 64, 65, 66, 67, 68, 69, 70, 71, 72, 73, 74, 75, 76, 77, 78, 79, 80, 81, 82, 83, 84, 85, 103, 104, 105, 106, 107, 108, 109, 110] (by decide +kernel) (by decide +kernel)
set_option maxRecDepth 20000 in
theorem gX8_heading_X8_takeStop : GoodIn wsX8_heading (wsV RX8 60 RX8 yX8_takeStop wsX8_takeStop) := goodIn_app (goodIn_of _ (by decide +kernel)) ggX8_heading_X8_takeStop
theorem dX8_heading_0 : decode cX8_heading 0 = .ok (.aload_n 0, 1) := by decide +kernel
theorem dX8_heading_1 : decode cX8_heading 1 = .ok (.bipush 8, 2) := by decide +kernel
theorem dX8_heading_3 : decode cX8_heading 3 = .ok (.invokevirtual 48, 3) := by decide +kernel
theorem dX8_heading_6 : decode cX8_heading 6 = .ok (.ifCond .ne 5, 3) := by decide +kernel
theorem dX8_heading_9 : decode cX8_heading 9 = .ok (.iconst 0, 1) := by decide +kernel
theorem dX8_heading_10 : decode cX8_heading 10 = .ok (.ireturn, 1) := by decide +kernel
theorem dX8_heading_11 : decode cX8_heading 11 = .ok (.aload_n 0, 1) := by decide +kernel
theorem dX8_heading_12 : decode cX8_heading 12 = .ok (.iconst 1, 1) := by decide +kernel
theorem dX8_heading_13 : decode cX8_heading 13 = .ok (.bipush 6, 2) := by decide +kernel
theorem dX8_heading_15 : decode cX8_heading 15 = .ok (.invokevirtual 52, 3) := by decide +kernel
theorem dX8_heading_18 : decode cX8_heading 18 = .ok (.istore_n 1, 1) := by decide +kernel
theorem dX8_heading_19 : decode cX8_heading 19 = .ok (.iconst 0, 1) := by decide +kernel
theorem dX8_heading_20 : decode cX8_heading 20 = .ok (.istore_n 2, 1) := by decide +kernel
theorem dX8_heading_21 : decode cX8_heading 21 = .ok (.iload_n 2, 1) := by decide +kernel
theorem dX8_heading_22 : decode cX8_heading 22 = .ok (.iload_n 1, 1) := by decide +kernel
theorem dX8_heading_23 : decode cX8_heading 23 = .ok (.if_icmp .ge 17, 3) := by decide +kernel
theorem dX8_heading_26 : decode cX8_heading 26 = .ok (.aload_n 0, 1) := by decide +kernel
theorem dX8_heading_27 : decode cX8_heading 27 = .ok (.getfield 12, 3) := by decide +kernel
theorem dX8_heading_30 : decode cX8_heading 30 = .ok (.invokevirtual 56, 3) := by decide +kernel
theorem dX8_heading_33 : decode cX8_heading 33 = .ok (.pop, 1) := by decide +kernel
theorem dX8_heading_34 : decode cX8_heading 34 = .ok (.iinc 2 1, 3) := by decide +kernel
theorem dX8_heading_37 : decode cX8_heading 37 = .ok (.goto (-16), 3) := by decide +kernel
theorem dX8_heading_40 : decode cX8_heading 40 = .ok (.iload_n 1, 1) := by decide +kernel
theorem dX8_heading_41 : decode cX8_heading 41 = .ok (.ifCond .le 14, 3) := by decide +kernel
theorem dX8_heading_44 : decode cX8_heading 44 = .ok (.aload_n 0, 1) := by decide +kernel
theorem dX8_heading_45 : decode cX8_heading 45 = .ok (.invokevirtual 60, 3) := by decide +kernel
theorem dX8_heading_48 : decode cX8_heading 48 = .ok (.ifCond .eq 7, 3) := by decide +kernel
theorem dX8_heading_51 : decode cX8_heading 51 = .ok (.iconst 1, 1) := by decide +kernel
theorem dX8_heading_52 : decode cX8_heading 52 = .ok (.goto 4, 3) := by decide +kernel
theorem dX8_heading_55 : decode cX8_heading 55 = .ok (.iconst 0, 1) := by decide +kernel
theorem dX8_heading_56 : decode cX8_heading 56 = .ok (.ireturn, 1) := by decide +kernel
set_option maxRecDepth 20000 in
theorem ggX8_item_X8_saying : GoodIn wsX8_item wsX8_saying := goodIn_r _ [6, 7, 8, 9, 10, 11, 12, 13, 5, 14, 1, 15, 16, 17, 18, 19, 20, 21, 22, 23, 24, 25, 26, 27, 28, 29, 30, 31, 32, 33, 34, 35, 36, 37, 38, 39, 40, 41, 42, 43, 44, 45, 46, 47, 48, 49, 50, 51, 52, 53, 54, 55, 56, 57, 58, 59, 60, 61, 62, 63, 64, 65, 66, 67, 68, 69, 70, 71, 72, 73, 74, 75, 76, 77, 78, 79, 80, 81, 82, 83, 84, 85, 86, 87, 88, 89, 90, 91, 92, 93, 94, 95, 96, 97, 98, 99, 100, 101, 102, 103, 104, 105, 106, 107, 108, 109, 110, 111, 112, 113, 124, 125, 126, 127, 128, 129, 130, 131, 132, 133, 134, 135, 136, 137, 138, 139, 140] (by decide +kernel) (by decide +kernel)
set_option maxRecDepth 20000 in
theorem gX8_item_X8_saying : GoodIn wsX8_item (wsV RX8 63 RX8 yX8_saying wsX8_saying) := goodIn_app (goodIn_of _ (by decide +kernel)) ggX8_item_X8_saying
set_option maxRecDepth 20000 in
theorem ggX8_item_X8_takeWord : GoodIn wsX8_item wsX8_takeWord := goodIn_r _ [99, 1, 10, 15, 16, 17, 5, 18, 19, 20, 21, 22, 23, 24, 25, 26, 27, 28, 29, 30, 31, 32, 33, 34, 35, 36, 37, 38, 39, 40, 41, 42, 43, 44, 45, 46, 47, 48, 49, 50, 51, 52, 53, 54, 55, 56, 57, 58, 59, 60, 61, 62, 63, 64, 65, 66, 67, 68, 69, 70, 71, 72, 73, 74, 75, 76, 77, 78, 79, 80, 81, 82, 83, 84, 85, 86, 87, 88, 89, 90, 91, 124, 125, 126, 127, 128, 129, 139, 140] (by decide +kernel) (by decide +kernel)
set_option maxRecDepth 20000 in
theorem gX8_item_X8_takeWord : GoodIn wsX8_item (wsV RX8 48 RX8 yX8_takeWord wsX8_takeWord) := goodIn_app (goodIn_of _ (by decide +kernel)) ggX8_item_X8_takeWord
set_option maxRecDepth 20000 in
theorem ggX8_item_X8_owner : GoodIn wsX8_item wsX8_owner := goodIn_r _ [117, 7, 9, 118, 11, 12, 13, 5, 14, 1, 10, 15, 16, 17, 18, 19, 20, 21, 22, 23, 24, 25, 26, 27, 28, 29, 30, 31, 32, 33, 34, 35, 36, 37, 38, 39, 40, 41, 42, 43, 44, 45, 46, 47, 48, 49, 50, 51, 52, 53, 54, 55, 56, 57, 58, 59, 60, 61, 62, 63, 64, 65, 66, 67, 68, 69, 70, 71, 72, 73, 74, 75, 76, 77, 78, 79, 80, 81, 82, 83, 84, 85, 86, 87, 88, 89, 90, 91, 100, 101, 102, 103, 124, 125, 126, 127, 128, 129, 130, 131, 132, 133, 134, 135, 136, 137, 138, 139, 140] (by decide +kernel) (by decide +kernel)
set_option maxRecDepth 20000 in
theorem gX8_item_X8_owner : GoodIn wsX8_item (wsV RX8 66 RX8 yX8_owner wsX8_owner) := goodIn_app (goodIn_of _ (by decide +kernel)) ggX8_item_X8_owner
set_option maxRecDepth 20000 in
theorem ggX8_item_X8_second : GoodIn wsX8_item wsX8_second := goodIn_r _ [122, 7, 9, 123, 11, 12, 13, 5, 14, 1, 10, 15, 16, 17, 18, 19, 20, 21, 22, 23, 24, 25, 26, 27, 28, 29, 30, 31, 32, 33, 34, 35, 36, 37, 38, 39, 40, 41, 42, 43, 44, 45, 46, 47, 48, 49, 50, 51, 52, 53, 54, 55, 56, 57, 58, 59, 60, 61, 62, 63, 64, 65, 66, 67, 68, 69, 70, 71, 72, 73, 74, 75, 76, 77, 78, 79, 80, 81, 82, 83, 84, 85, 86, 87, 88, 89, 90, 91, 100, 101, 102, 103, 124, 125, 126, 127, 128, 129, 130, 131, 132, 133, 134, 135, 136, 137, 138, 139, 140] (by decide +kernel) (by decide +kernel)
set_option maxRecDepth 20000 in
theorem gX8_item_X8_second : GoodIn wsX8_item (wsV RX8 69 RX8 yX8_second wsX8_second) := goodIn_app (goodIn_of _ (by decide +kernel)) ggX8_item_X8_second
theorem dX8_item_0 : decode cX8_item 0 = .ok (.aload_n 0, 1) := by decide +kernel
theorem dX8_item_1 : decode cX8_item 1 = .ok (.getfield 39, 3) := by decide +kernel
theorem dX8_item_4 : decode cX8_item 4 = .ok (.iconst 2, 1) := by decide +kernel
theorem dX8_item_5 : decode cX8_item 5 = .ok (.if_icmp .ne 8, 3) := by decide +kernel
theorem dX8_item_8 : decode cX8_item 8 = .ok (.aload_n 0, 1) := by decide +kernel
theorem dX8_item_9 : decode cX8_item 9 = .ok (.invokevirtual 63, 3) := by decide +kernel
theorem dX8_item_12 : decode cX8_item 12 = .ok (.ireturn, 1) := by decide +kernel
theorem dX8_item_13 : decode cX8_item 13 = .ok (.aload_n 0, 1) := by decide +kernel
theorem dX8_item_14 : decode cX8_item 14 = .ok (.bipush 9, 2) := by decide +kernel
theorem dX8_item_16 : decode cX8_item 16 = .ok (.invokevirtual 48, 3) := by decide +kernel
theorem dX8_item_19 : decode cX8_item 19 = .ok (.ifCond .eq 8, 3) := by decide +kernel
theorem dX8_item_22 : decode cX8_item 22 = .ok (.aload_n 0, 1) := by decide +kernel
theorem dX8_item_23 : decode cX8_item 23 = .ok (.invokevirtual 66, 3) := by decide +kernel
theorem dX8_item_26 : decode cX8_item 26 = .ok (.ireturn, 1) := by decide +kernel
theorem dX8_item_27 : decode cX8_item 27 = .ok (.aload_n 0, 1) := by decide +kernel
theorem dX8_item_28 : decode cX8_item 28 = .ok (.bipush 10, 2) := by decide +kernel
theorem dX8_item_30 : decode cX8_item 30 = .ok (.invokevirtual 48, 3) := by decide +kernel
theorem dX8_item_33 : decode cX8_item 33 = .ok (.ifCond .eq 14, 3) := by decide +kernel
theorem dX8_item_36 : decode cX8_item 36 = .ok (.aload_n 0, 1) := by decide +kernel
theorem dX8_item_37 : decode cX8_item 37 = .ok (.invokevirtual 69, 3) := by decide +kernel
theorem dX8_item_40 : decode cX8_item 40 = .ok (.ifCond .eq 7, 3) := by decide +kernel
theorem dX8_item_43 : decode cX8_item 43 = .ok (.iconst 1, 1) := by decide +kernel
theorem dX8_item_44 : decode cX8_item 44 = .ok (.goto 4, 3) := by decide +kernel
theorem dX8_item_47 : decode cX8_item 47 = .ok (.iconst 0, 1) := by decide +kernel
theorem dX8_item_48 : decode cX8_item 48 = .ok (.ireturn, 1) := by decide +kernel
set_option maxRecDepth 20000 in
theorem ggX8_saying_X8_takeNumber : GoodIn wsX8_saying wsX8_takeNumber := goodIn_r _ [9, 10, 4, 11, 12, 13, 8, 14, 15, 16, 17, 18, 19, 20, 21, 22, 23, 24, 25, 26, 27, 28, 29, 30, 31, 32, 33, 34, 35, 36, 37, 38, 39, 40, 41, 42, 43, 44, 45, 46, 47, 48, 49, 50, 51, 52, 53, 54, 55, 56, 57, 58, 59, 60, 61, 62, 63, 64, 65, 66, 67, 68, 69, 70, 71, 72, 73, 74, 75, 76, 77, 78, 79, 80, 81, 82, 83, 84, 85, 86, 87, 110, 111, 112, 113, 114, 115, 125, 126] (by decide +kernel) (by decide +kernel)
set_option maxRecDepth 20000 in
theorem gX8_saying_X8_takeNumber : GoodIn wsX8_saying (wsV RX8 52 RX8 yX8_takeNumber wsX8_takeNumber) := goodIn_app (goodIn_of _ (by decide +kernel)) ggX8_saying_X8_takeNumber
set_option maxRecDepth 20000 in
theorem ggX8_saying_X8_takeKind : GoodIn wsX8_saying wsX8_takeKind := goodIn_r _ [91, 10, 4, 11, 12, 13, 8, 14, 15, 16, 17, 18, 19, 20, 21, 22, 23, 24, 25, 26, 27, 28, 29, 30, 31, 32, 33, 34, 35, 36, 37, 38, 39, 40, 41, 42, 43, 44, 45, 46, 47, 48, 49, 50, 51, 52, 53, 54, 55, 56, 57, 58, 59, 60, 61, 62, 63, 64, 65, 66, 67, 68, 69, 70, 71, 72, 73, 74, 75, 76, 77, 78, 79, 80, 81, 82, 83, 84, 85, 86, 87, 110, 111, 112, 113, 114, 115, 125, 126] (by decide +kernel) (by decide +kernel)
set_option maxRecDepth 20000 in
theorem gX8_saying_X8_takeKind : GoodIn wsX8_saying (wsV RX8 78 RX8 yX8_takeKind wsX8_takeKind) := goodIn_app (goodIn_of _ (by decide +kernel)) ggX8_saying_X8_takeKind
set_option maxRecDepth 20000 in
theorem ggX8_saying_X8_takeWord : GoodIn wsX8_saying wsX8_takeWord := goodIn_r _ [95, 10, 4, 11, 12, 13, 8, 14, 15, 16, 17, 18, 19, 20, 21, 22, 23, 24, 25, 26, 27, 28, 29, 30, 31, 32, 33, 34, 35, 36, 37, 38, 39, 40, 41, 42, 43, 44, 45, 46, 47, 48, 49, 50, 51, 52, 53, 54, 55, 56, 57, 58, 59, 60, 61, 62, 63, 64, 65, 66, 67, 68, 69, 70, 71, 72, 73, 74, 75, 76, 77, 78, 79, 80, 81, 82, 83, 84, 85, 86, 87, 110, 111, 112, 113, 114, 115, 125, 126] (by decide +kernel) (by decide +kernel)
set_option maxRecDepth 20000 in
theorem gX8_saying_X8_takeWord : GoodIn wsX8_saying (wsV RX8 48 RX8 yX8_takeWord wsX8_takeWord) := goodIn_app (goodIn_of _ (by decide +kernel)) ggX8_saying_X8_takeWord
set_option maxRecDepth 20000 in
theorem ggX8_saying_X8_takeStop : GoodIn wsX8_saying wsX8_takeStop := goodIn_r _ [99, 10, 11, 12, 13, 8, 14, 15, 16, 17, 18, 19, 4, 20, 21, 22, 23, 24, 25, 26, 27, 28, 29, 30, 31, 32, 33, 34, 35, 36, 37, 38, 39, 40, 41, 42, 43, 44, 45, 46, 47, 48, 49, 50, 51, 52, 53, 54, 55, 56, 57, 58, 59, 60, 61, 62, 63, 64, 65, 66, 67, 68, 69, 70, 71, 72, 73, 74, 75, 76, 77, 78, 79, 80, 81, 82, 83, 84, 85, 86, 87, 110, 111, 112, 113, 114, 115, 125, 126] (by decide +kernel) (by decide +kernel)
set_option maxRecDepth 20000 in
theorem gX8_saying_X8_takeStop : GoodIn wsX8_saying (wsV RX8 60 RX8 yX8_takeStop wsX8_takeStop) := goodIn_app (goodIn_of _ (by decide +kernel)) ggX8_saying_X8_takeStop
set_option maxRecDepth 20000 in
theorem ggX8_saying_X4_addSaying : GoodIn wsX8_saying wsX4_addSaying := goodIn_r _ [104, 105, 106, 107, 108, 109, 116, 117, 118, 119, 120, 121, 122, 123, 124] (by decide +kernel) (by decide +kernel)
set_option maxRecDepth 20000 in
theorem gX8_saying_X4_addSaying : GoodIn wsX8_saying (wsV RX8 84 RX4 yX4_addSaying wsX4_addSaying) := goodIn_app (goodIn_of _ (by decide +kernel)) ggX8_saying_X4_addSaying
theorem dX8_saying_0 : decode cX8_saying 0 = .ok (.aload_n 0, 1) := by decide +kernel
theorem dX8_saying_1 : decode cX8_saying 1 = .ok (.getfield 12, 3) := by decide +kernel
theorem dX8_saying_4 : decode cX8_saying 4 = .ok (.getfield 72, 3) := by decide +kernel
theorem dX8_saying_7 : decode cX8_saying 7 = .ok (.bipush 8, 2) := by decide +kernel
theorem dX8_saying_9 : decode cX8_saying 9 = .ok (.if_icmp .lt 5, 3) := by decide +kernel
theorem dX8_saying_12 : decode cX8_saying 12 = .ok (.iconst 0, 1) := by decide +kernel
theorem dX8_saying_13 : decode cX8_saying 13 = .ok (.ireturn, 1) := by decide +kernel
theorem dX8_saying_14 : decode cX8_saying 14 = .ok (.aload_n 0, 1) := by decide +kernel
theorem dX8_saying_15 : decode cX8_saying 15 = .ok (.iconst 0, 1) := by decide +kernel
theorem dX8_saying_16 : decode cX8_saying 16 = .ok (.aload_n 0, 1) := by decide +kernel
theorem dX8_saying_17 : decode cX8_saying 17 = .ok (.getfield 12, 3) := by decide +kernel
theorem dX8_saying_20 : decode cX8_saying 20 = .ok (.getfield 75, 3) := by decide +kernel
theorem dX8_saying_23 : decode cX8_saying 23 = .ok (.iconst 1, 1) := by decide +kernel
theorem dX8_saying_24 : decode cX8_saying 24 = .ok (.isub, 1) := by decide +kernel
theorem dX8_saying_25 : decode cX8_saying 25 = .ok (.invokevirtual 52, 3) := by decide +kernel
theorem dX8_saying_28 : decode cX8_saying 28 = .ok (.istore_n 1, 1) := by decide +kernel
theorem dX8_saying_29 : decode cX8_saying 29 = .ok (.iload_n 1, 1) := by decide +kernel
theorem dX8_saying_30 : decode cX8_saying 30 = .ok (.ifCond .ge 7, 3) := by decide +kernel
theorem dX8_saying_33 : decode cX8_saying 33 = .ok (.iconst (-1), 1) := by decide +kernel
theorem dX8_saying_34 : decode cX8_saying 34 = .ok (.goto 7, 3) := by decide +kernel
theorem dX8_saying_37 : decode cX8_saying 37 = .ok (.aload_n 0, 1) := by decide +kernel
theorem dX8_saying_38 : decode cX8_saying 38 = .ok (.invokevirtual 78, 3) := by decide +kernel
theorem dX8_saying_41 : decode cX8_saying 41 = .ok (.istore_n 2, 1) := by decide +kernel
theorem dX8_saying_42 : decode cX8_saying 42 = .ok (.iload_n 2, 1) := by decide +kernel
theorem dX8_saying_43 : decode cX8_saying 43 = .ok (.ifCond .lt 11, 3) := by decide +kernel
theorem dX8_saying_46 : decode cX8_saying 46 = .ok (.aload_n 0, 1) := by decide +kernel
theorem dX8_saying_47 : decode cX8_saying 47 = .ok (.getfield 81, 3) := by decide +kernel
theorem dX8_saying_50 : decode cX8_saying 50 = .ok (.iload_n 1, 1) := by decide +kernel
theorem dX8_saying_51 : decode cX8_saying 51 = .ok (.if_icmp .ne 5, 3) := by decide +kernel
theorem dX8_saying_54 : decode cX8_saying 54 = .ok (.iconst 0, 1) := by decide +kernel
theorem dX8_saying_55 : decode cX8_saying 55 = .ok (.ireturn, 1) := by decide +kernel
theorem dX8_saying_56 : decode cX8_saying 56 = .ok (.aload_n 0, 1) := by decide +kernel
theorem dX8_saying_57 : decode cX8_saying 57 = .ok (.iconst 0, 1) := by decide +kernel
theorem dX8_saying_58 : decode cX8_saying 58 = .ok (.aload_n 0, 1) := by decide +kernel
theorem dX8_saying_59 : decode cX8_saying 59 = .ok (.getfield 12, 3) := by decide +kernel
theorem dX8_saying_62 : decode cX8_saying 62 = .ok (.getfield 75, 3) := by decide +kernel
theorem dX8_saying_65 : decode cX8_saying 65 = .ok (.iconst 1, 1) := by decide +kernel
theorem dX8_saying_66 : decode cX8_saying 66 = .ok (.isub, 1) := by decide +kernel
theorem dX8_saying_67 : decode cX8_saying 67 = .ok (.invokevirtual 52, 3) := by decide +kernel
theorem dX8_saying_70 : decode cX8_saying 70 = .ok (.istore_n 3, 1) := by decide +kernel
theorem dX8_saying_71 : decode cX8_saying 71 = .ok (.iload_n 3, 1) := by decide +kernel
theorem dX8_saying_72 : decode cX8_saying 72 = .ok (.ifCond .ge 5, 3) := by decide +kernel
theorem dX8_saying_75 : decode cX8_saying 75 = .ok (.iconst 0, 1) := by decide +kernel
theorem dX8_saying_76 : decode cX8_saying 76 = .ok (.ireturn, 1) := by decide +kernel
theorem dX8_saying_77 : decode cX8_saying 77 = .ok (.iconst 0, 1) := by decide +kernel
theorem dX8_saying_78 : decode cX8_saying 78 = .ok (.istore 4, 2) := by decide +kernel
theorem dX8_saying_80 : decode cX8_saying 80 = .ok (.aload_n 0, 1) := by decide +kernel
theorem dX8_saying_81 : decode cX8_saying 81 = .ok (.bipush 11, 2) := by decide +kernel
theorem dX8_saying_83 : decode cX8_saying 83 = .ok (.invokevirtual 48, 3) := by decide +kernel
theorem dX8_saying_86 : decode cX8_saying 86 = .ok (.ifCond .eq 11, 3) := by decide +kernel
theorem dX8_saying_89 : decode cX8_saying 89 = .ok (.aload_n 0, 1) := by decide +kernel
theorem dX8_saying_90 : decode cX8_saying 90 = .ok (.iconst 0, 1) := by decide +kernel
theorem dX8_saying_91 : decode cX8_saying 91 = .ok (.iconst 3, 1) := by decide +kernel
theorem dX8_saying_92 : decode cX8_saying 92 = .ok (.invokevirtual 52, 3) := by decide +kernel
theorem dX8_saying_95 : decode cX8_saying 95 = .ok (.istore 4, 2) := by decide +kernel
theorem dX8_saying_97 : decode cX8_saying 97 = .ok (.iload 4, 2) := by decide +kernel
theorem dX8_saying_99 : decode cX8_saying 99 = .ok (.ifCond .lt 10, 3) := by decide +kernel
theorem dX8_saying_102 : decode cX8_saying 102 = .ok (.aload_n 0, 1) := by decide +kernel
theorem dX8_saying_103 : decode cX8_saying 103 = .ok (.invokevirtual 60, 3) := by decide +kernel
theorem dX8_saying_106 : decode cX8_saying 106 = .ok (.ifCond .ne 5, 3) := by decide +kernel
theorem dX8_saying_109 : decode cX8_saying 109 = .ok (.iconst 0, 1) := by decide +kernel
theorem dX8_saying_110 : decode cX8_saying 110 = .ok (.ireturn, 1) := by decide +kernel
theorem dX8_saying_111 : decode cX8_saying 111 = .ok (.aload_n 0, 1) := by decide +kernel
theorem dX8_saying_112 : decode cX8_saying 112 = .ok (.getfield 12, 3) := by decide +kernel
theorem dX8_saying_115 : decode cX8_saying 115 = .ok (.iload_n 1, 1) := by decide +kernel
theorem dX8_saying_116 : decode cX8_saying 116 = .ok (.iload_n 2, 1) := by decide +kernel
theorem dX8_saying_117 : decode cX8_saying 117 = .ok (.iload_n 3, 1) := by decide +kernel
theorem dX8_saying_118 : decode cX8_saying 118 = .ok (.iload 4, 2) := by decide +kernel
theorem dX8_saying_120 : decode cX8_saying 120 = .ok (.invokevirtual 84, 3) := by decide +kernel
theorem dX8_saying_123 : decode cX8_saying 123 = .ok (.pop, 1) := by decide +kernel
theorem dX8_saying_124 : decode cX8_saying 124 = .ok (.iconst 1, 1) := by decide +kernel
theorem dX8_saying_125 : decode cX8_saying 125 = .ok (.ireturn, 1) := by decide +kernel
set_option maxRecDepth 20000 in
theorem ggX8_owner_X8_takeNumber : GoodIn wsX8_owner wsX8_takeNumber := goodIn_r _ [8, 9, 10, 11, 12, 13, 7, 14, 15, 16, 17, 18, 19, 20, 21, 22, 23, 24, 25, 26, 27, 28, 29, 30, 31, 32, 33, 34, 35, 36, 37, 38, 39, 40, 41, 42, 43, 44, 45, 46, 47, 48, 49, 50, 51, 52, 53, 54, 55, 56, 57, 58, 59, 60, 61, 62, 63, 64, 65, 66, 67, 68, 69, 70, 71, 72, 73, 74, 75, 76, 77, 78, 79, 80, 81, 82, 83, 84, 85, 86, 87, 92, 93, 94, 95, 96, 97, 107, 108] (by decide +kernel) (by decide +kernel)
set_option maxRecDepth 20000 in
theorem gX8_owner_X8_takeNumber : GoodIn wsX8_owner (wsV RX8 52 RX8 yX8_takeNumber wsX8_takeNumber) := goodIn_app (goodIn_of _ (by decide +kernel)) ggX8_owner_X8_takeNumber
set_option maxRecDepth 20000 in
theorem ggX8_owner_X8_takeStop : GoodIn wsX8_owner wsX8_takeStop := goodIn_r _ [91, 9, 11, 12, 13, 7, 14, 15, 16, 17, 18, 19, 10, 20, 21, 22, 23, 24, 25, 26, 27, 28, 29, 30, 31, 32, 33, 34, 35, 36, 37, 38, 39, 40, 41, 42, 43, 44, 45, 46, 47, 48, 49, 50, 51, 52, 53, 54, 55, 56, 57, 58, 59, 60, 61, 62, 63, 64, 65, 66, 67, 68, 69, 70, 71, 72, 73, 74, 75, 76, 77, 78, 79, 80, 81, 82, 83, 84, 85, 86, 87, 92, 93, 94, 95, 96, 97, 107, 108] (by decide +kernel) (by decide +kernel)
set_option maxRecDepth 20000 in
theorem gX8_owner_X8_takeStop : GoodIn wsX8_owner (wsV RX8 60 RX8 yX8_takeStop wsX8_takeStop) := goodIn_app (goodIn_of _ (by decide +kernel)) ggX8_owner_X8_takeStop
theorem dX8_owner_0 : decode cX8_owner 0 = .ok (.aload_n 0, 1) := by decide +kernel
theorem dX8_owner_1 : decode cX8_owner 1 = .ok (.iconst 0, 1) := by decide +kernel
theorem dX8_owner_2 : decode cX8_owner 2 = .ok (.aload_n 0, 1) := by decide +kernel
theorem dX8_owner_3 : decode cX8_owner 3 = .ok (.getfield 12, 3) := by decide +kernel
theorem dX8_owner_6 : decode cX8_owner 6 = .ok (.getfield 75, 3) := by decide +kernel
theorem dX8_owner_9 : decode cX8_owner 9 = .ok (.iconst 1, 1) := by decide +kernel
theorem dX8_owner_10 : decode cX8_owner 10 = .ok (.isub, 1) := by decide +kernel
theorem dX8_owner_11 : decode cX8_owner 11 = .ok (.invokevirtual 52, 3) := by decide +kernel
theorem dX8_owner_14 : decode cX8_owner 14 = .ok (.istore_n 1, 1) := by decide +kernel
theorem dX8_owner_15 : decode cX8_owner 15 = .ok (.iload_n 1, 1) := by decide +kernel
theorem dX8_owner_16 : decode cX8_owner 16 = .ok (.ifCond .ge 7, 3) := by decide +kernel
theorem dX8_owner_19 : decode cX8_owner 19 = .ok (.iconst (-1), 1) := by decide +kernel
theorem dX8_owner_20 : decode cX8_owner 20 = .ok (.goto 9, 3) := by decide +kernel
theorem dX8_owner_23 : decode cX8_owner 23 = .ok (.aload_n 0, 1) := by decide +kernel
theorem dX8_owner_24 : decode cX8_owner 24 = .ok (.iconst 0, 1) := by decide +kernel
theorem dX8_owner_25 : decode cX8_owner 25 = .ok (.iconst 3, 1) := by decide +kernel
theorem dX8_owner_26 : decode cX8_owner 26 = .ok (.invokevirtual 52, 3) := by decide +kernel
theorem dX8_owner_29 : decode cX8_owner 29 = .ok (.istore_n 2, 1) := by decide +kernel
theorem dX8_owner_30 : decode cX8_owner 30 = .ok (.iload_n 2, 1) := by decide +kernel
theorem dX8_owner_31 : decode cX8_owner 31 = .ok (.ifCond .ge 5, 3) := by decide +kernel
theorem dX8_owner_34 : decode cX8_owner 34 = .ok (.iconst 0, 1) := by decide +kernel
theorem dX8_owner_35 : decode cX8_owner 35 = .ok (.ireturn, 1) := by decide +kernel
theorem dX8_owner_36 : decode cX8_owner 36 = .ok (.aload_n 0, 1) := by decide +kernel
theorem dX8_owner_37 : decode cX8_owner 37 = .ok (.getfield 12, 3) := by decide +kernel
theorem dX8_owner_40 : decode cX8_owner 40 = .ok (.getfield 88, 3) := by decide +kernel
theorem dX8_owner_43 : decode cX8_owner 43 = .ok (.iload_n 1, 1) := by decide +kernel
theorem dX8_owner_44 : decode cX8_owner 44 = .ok (.iload_n 2, 1) := by decide +kernel
theorem dX8_owner_45 : decode cX8_owner 45 = .ok (.iastore, 1) := by decide +kernel
theorem dX8_owner_46 : decode cX8_owner 46 = .ok (.aload_n 0, 1) := by decide +kernel
theorem dX8_owner_47 : decode cX8_owner 47 = .ok (.invokevirtual 60, 3) := by decide +kernel
theorem dX8_owner_50 : decode cX8_owner 50 = .ok (.ireturn, 1) := by decide +kernel
set_option maxRecDepth 20000 in
theorem ggX8_second_X8_takeNumber : GoodIn wsX8_second wsX8_takeNumber := goodIn_r _ [8, 9, 10, 11, 12, 13, 7, 14, 15, 16, 17, 18, 19, 20, 21, 22, 23, 24, 25, 26, 27, 28, 29, 30, 31, 32, 33, 34, 35, 36, 37, 38, 39, 40, 41, 42, 43, 44, 45, 46, 47, 48, 49, 50, 51, 52, 53, 54, 55, 56, 57, 58, 59, 60, 61, 62, 63, 64, 65, 66, 67, 68, 69, 70, 71, 72, 73, 74, 75, 76, 77, 78, 79, 80, 81, 82, 83, 84, 85, 86, 87, 92, 93, 94, 95, 96, 97, 107, 108] (by decide +kernel) (by decide +kernel)
set_option maxRecDepth 20000 in
theorem gX8_second_X8_takeNumber : GoodIn wsX8_second (wsV RX8 52 RX8 yX8_takeNumber wsX8_takeNumber) := goodIn_app (goodIn_of _ (by decide +kernel)) ggX8_second_X8_takeNumber
set_option maxRecDepth 20000 in
theorem ggX8_second_X8_takeStop : GoodIn wsX8_second wsX8_takeStop := goodIn_r _ [91, 9, 11, 12, 13, 7, 14, 15, 16, 17, 18, 19, 10, 20, 21, 22, 23, 24, 25, 26, 27, 28, 29, 30, 31, 32, 33, 34, 35, 36, 37, 38, 39, 40, 41, 42, 43, 44, 45, 46, 47, 48, 49, 50, 51, 52, 53, 54, 55, 56, 57, 58, 59, 60, 61, 62, 63, 64, 65, 66, 67, 68, 69, 70, 71, 72, 73, 74, 75, 76, 77, 78, 79, 80, 81, 82, 83, 84, 85, 86, 87, 92, 93, 94, 95, 96, 97, 107, 108] (by decide +kernel) (by decide +kernel)
set_option maxRecDepth 20000 in
theorem gX8_second_X8_takeStop : GoodIn wsX8_second (wsV RX8 60 RX8 yX8_takeStop wsX8_takeStop) := goodIn_app (goodIn_of _ (by decide +kernel)) ggX8_second_X8_takeStop
theorem dX8_second_0 : decode cX8_second 0 = .ok (.aload_n 0, 1) := by decide +kernel
theorem dX8_second_1 : decode cX8_second 1 = .ok (.iconst 0, 1) := by decide +kernel
theorem dX8_second_2 : decode cX8_second 2 = .ok (.aload_n 0, 1) := by decide +kernel
theorem dX8_second_3 : decode cX8_second 3 = .ok (.getfield 12, 3) := by decide +kernel
theorem dX8_second_6 : decode cX8_second 6 = .ok (.getfield 75, 3) := by decide +kernel
theorem dX8_second_9 : decode cX8_second 9 = .ok (.iconst 1, 1) := by decide +kernel
theorem dX8_second_10 : decode cX8_second 10 = .ok (.isub, 1) := by decide +kernel
theorem dX8_second_11 : decode cX8_second 11 = .ok (.invokevirtual 52, 3) := by decide +kernel
theorem dX8_second_14 : decode cX8_second 14 = .ok (.istore_n 1, 1) := by decide +kernel
theorem dX8_second_15 : decode cX8_second 15 = .ok (.iload_n 1, 1) := by decide +kernel
theorem dX8_second_16 : decode cX8_second 16 = .ok (.ifCond .ge 5, 3) := by decide +kernel
theorem dX8_second_19 : decode cX8_second 19 = .ok (.iconst 0, 1) := by decide +kernel
theorem dX8_second_20 : decode cX8_second 20 = .ok (.ireturn, 1) := by decide +kernel
theorem dX8_second_21 : decode cX8_second 21 = .ok (.aload_n 0, 1) := by decide +kernel
theorem dX8_second_22 : decode cX8_second 22 = .ok (.getfield 12, 3) := by decide +kernel
theorem dX8_second_25 : decode cX8_second 25 = .ok (.getfield 92, 3) := by decide +kernel
theorem dX8_second_28 : decode cX8_second 28 = .ok (.iload_n 1, 1) := by decide +kernel
theorem dX8_second_29 : decode cX8_second 29 = .ok (.iconst 1, 1) := by decide +kernel
theorem dX8_second_30 : decode cX8_second 30 = .ok (.iastore, 1) := by decide +kernel
theorem dX8_second_31 : decode cX8_second 31 = .ok (.aload_n 0, 1) := by decide +kernel
theorem dX8_second_32 : decode cX8_second 32 = .ok (.invokevirtual 60, 3) := by decide +kernel
theorem dX8_second_35 : decode cX8_second 35 = .ok (.ireturn, 1) := by decide +kernel
set_option maxRecDepth 20000 in
theorem ggX8_takeWord_X8_advance : GoodIn wsX8_takeWord wsX8_advance := goodIn_r _ [7, 8, 9, 10, 11, 12, 2, 1, 13, 14, 15, 6, 16, 17, 18, 19, 20, 21, 22, 23, 24, 25, 26, 27, 28, 29, 30, 31, 32, 33, 34, 35, 36, 37, 38, 39, 40, 41, 42, 43, 44, 45, 46, 47, 48, 49, 50, 51, 52, 53, 54, 55, 56, 57, 58, 59, 60, 61, 62, 63, 64, 65, 66, 67, 68, 69, 70, 71, 72, 73, 74, 75, 76, 77, 78, 79, 80, 81, 82, 83, 84, 85, 86, 87, 88] (by decide +kernel) (by decide +kernel)
set_option maxRecDepth 20000 in
theorem gX8_takeWord_X8_advance : GoodIn wsX8_takeWord (wsV RX8 32 RX8 yX8_advance wsX8_advance) := goodIn_app (goodIn_of _ (by decide +kernel)) ggX8_takeWord_X8_advance
theorem dX8_takeWord_0 : decode cX8_takeWord 0 = .ok (.aload_n 0, 1) := by decide +kernel
theorem dX8_takeWord_1 : decode cX8_takeWord 1 = .ok (.getfield 39, 3) := by decide +kernel
theorem dX8_takeWord_4 : decode cX8_takeWord 4 = .ok (.iconst 1, 1) := by decide +kernel
theorem dX8_takeWord_5 : decode cX8_takeWord 5 = .ok (.if_icmp .ne 11, 3) := by decide +kernel
theorem dX8_takeWord_8 : decode cX8_takeWord 8 = .ok (.aload_n 0, 1) := by decide +kernel
theorem dX8_takeWord_9 : decode cX8_takeWord 9 = .ok (.getfield 81, 3) := by decide +kernel
theorem dX8_takeWord_12 : decode cX8_takeWord 12 = .ok (.iload_n 1, 1) := by decide +kernel
theorem dX8_takeWord_13 : decode cX8_takeWord 13 = .ok (.if_icmp .eq 5, 3) := by decide +kernel
theorem dX8_takeWord_16 : decode cX8_takeWord 16 = .ok (.iconst 0, 1) := by decide +kernel
theorem dX8_takeWord_17 : decode cX8_takeWord 17 = .ok (.ireturn, 1) := by decide +kernel
theorem dX8_takeWord_18 : decode cX8_takeWord 18 = .ok (.aload_n 0, 1) := by decide +kernel
theorem dX8_takeWord_19 : decode cX8_takeWord 19 = .ok (.invokevirtual 32, 3) := by decide +kernel
theorem dX8_takeWord_22 : decode cX8_takeWord 22 = .ok (.iconst 1, 1) := by decide +kernel
theorem dX8_takeWord_23 : decode cX8_takeWord 23 = .ok (.ireturn, 1) := by decide +kernel
set_option maxRecDepth 20000 in
theorem ggX8_takeKind_X8_advance : GoodIn wsX8_takeKind wsX8_advance := goodIn_r _ [7, 8, 9, 10, 11, 12, 2, 1, 13, 14, 15, 6, 16, 17, 18, 19, 20, 21, 22, 23, 24, 25, 26, 27, 28, 29, 30, 31, 32, 33, 34, 35, 36, 37, 38, 39, 40, 41, 42, 43, 44, 45, 46, 47, 48, 49, 50, 51, 52, 53, 54, 55, 56, 57, 58, 59, 60, 61, 62, 63, 64, 65, 66, 67, 68, 69, 70, 71, 72, 73, 74, 75, 76, 77, 78, 79, 80, 81, 82, 83, 84, 85, 86, 87, 88] (by decide +kernel) (by decide +kernel)
set_option maxRecDepth 20000 in
theorem gX8_takeKind_X8_advance : GoodIn wsX8_takeKind (wsV RX8 32 RX8 yX8_advance wsX8_advance) := goodIn_app (goodIn_of _ (by decide +kernel)) ggX8_takeKind_X8_advance
theorem dX8_takeKind_0 : decode cX8_takeKind 0 = .ok (.aload_n 0, 1) := by decide +kernel
theorem dX8_takeKind_1 : decode cX8_takeKind 1 = .ok (.getfield 39, 3) := by decide +kernel
theorem dX8_takeKind_4 : decode cX8_takeKind 4 = .ok (.iconst 1, 1) := by decide +kernel
theorem dX8_takeKind_5 : decode cX8_takeKind 5 = .ok (.if_icmp .ne 19, 3) := by decide +kernel
theorem dX8_takeKind_8 : decode cX8_takeKind 8 = .ok (.aload_n 0, 1) := by decide +kernel
theorem dX8_takeKind_9 : decode cX8_takeKind 9 = .ok (.getfield 81, 3) := by decide +kernel
theorem dX8_takeKind_12 : decode cX8_takeKind 12 = .ok (.ifCond .lt 12, 3) := by decide +kernel
theorem dX8_takeKind_15 : decode cX8_takeKind 15 = .ok (.aload_n 0, 1) := by decide +kernel
theorem dX8_takeKind_16 : decode cX8_takeKind 16 = .ok (.getfield 81, 3) := by decide +kernel
theorem dX8_takeKind_19 : decode cX8_takeKind 19 = .ok (.bipush 7, 2) := by decide +kernel
theorem dX8_takeKind_21 : decode cX8_takeKind 21 = .ok (.if_icmp .le 5, 3) := by decide +kernel
theorem dX8_takeKind_24 : decode cX8_takeKind 24 = .ok (.iconst (-1), 1) := by decide +kernel
theorem dX8_takeKind_25 : decode cX8_takeKind 25 = .ok (.ireturn, 1) := by decide +kernel
theorem dX8_takeKind_26 : decode cX8_takeKind 26 = .ok (.aload_n 0, 1) := by decide +kernel
theorem dX8_takeKind_27 : decode cX8_takeKind 27 = .ok (.getfield 81, 3) := by decide +kernel
theorem dX8_takeKind_30 : decode cX8_takeKind 30 = .ok (.istore_n 1, 1) := by decide +kernel
theorem dX8_takeKind_31 : decode cX8_takeKind 31 = .ok (.aload_n 0, 1) := by decide +kernel
theorem dX8_takeKind_32 : decode cX8_takeKind 32 = .ok (.invokevirtual 32, 3) := by decide +kernel
theorem dX8_takeKind_35 : decode cX8_takeKind 35 = .ok (.iload_n 1, 1) := by decide +kernel
theorem dX8_takeKind_36 : decode cX8_takeKind 36 = .ok (.ireturn, 1) := by decide +kernel
set_option maxRecDepth 20000 in
theorem ggX8_takeNumber_X8_advance : GoodIn wsX8_takeNumber wsX8_advance := goodIn_r _ [7, 8, 9, 10, 11, 12, 2, 1, 13, 14, 15, 6, 16, 17, 18, 19, 20, 21, 22, 23, 24, 25, 26, 27, 28, 29, 30, 31, 32, 33, 34, 35, 36, 37, 38, 39, 40, 41, 42, 43, 44, 45, 46, 47, 48, 49, 50, 51, 52, 53, 54, 55, 56, 57, 58, 59, 60, 61, 62, 63, 64, 65, 66, 67, 68, 69, 70, 71, 72, 73, 74, 75, 76, 77, 78, 79, 80, 81, 82, 83, 84, 85, 86, 87, 88] (by decide +kernel) (by decide +kernel)
set_option maxRecDepth 20000 in
theorem gX8_takeNumber_X8_advance : GoodIn wsX8_takeNumber (wsV RX8 32 RX8 yX8_advance wsX8_advance) := goodIn_app (goodIn_of _ (by decide +kernel)) ggX8_takeNumber_X8_advance
theorem dX8_takeNumber_0 : decode cX8_takeNumber 0 = .ok (.aload_n 0, 1) := by decide +kernel
theorem dX8_takeNumber_1 : decode cX8_takeNumber 1 = .ok (.getfield 39, 3) := by decide +kernel
theorem dX8_takeNumber_4 : decode cX8_takeNumber 4 = .ok (.iconst 2, 1) := by decide +kernel
theorem dX8_takeNumber_5 : decode cX8_takeNumber 5 = .ok (.if_icmp .ne 19, 3) := by decide +kernel
theorem dX8_takeNumber_8 : decode cX8_takeNumber 8 = .ok (.aload_n 0, 1) := by decide +kernel
