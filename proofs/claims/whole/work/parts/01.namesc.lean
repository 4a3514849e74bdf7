theorem dX2_ahead_4 : decode cX2_ahead 4 = .ok (.iload_n 3, 1) := by decide +kernel
theorem dX2_ahead_5 : decode cX2_ahead 5 = .ok (.invokevirtual 84, 3) := by decide +kernel
theorem dX2_ahead_8 : decode cX2_ahead 8 = .ok (.return_, 1) := by decide +kernel
set_option maxRecDepth 20000 in
theorem ggX2_noLater_X2_add : GoodIn wsX2_noLater wsX2_add := goodIn_r _ [5, 6, 7, 8, 9, 10, 11, 12, 13, 14, 15, 16, 17, 18, 19, 20, 21, 22] (by decide +kernel) (by decide +kernel)
set_option maxRecDepth 20000 in
theorem gX2_noLater_X2_add : GoodIn wsX2_noLater (wsV RX2 84 RX2 yX2_add wsX2_add) := goodIn_app (goodIn_of _ (by decide +kernel)) ggX2_noLater_X2_add
theorem dX2_noLater_0 : decode cX2_noLater 0 = .ok (.aload_n 0, 1) := by decide +kernel
theorem dX2_noLater_1 : decode cX2_noLater 1 = .ok (.iload_n 1, 1) := by decide +kernel
theorem dX2_noLater_2 : decode cX2_noLater 2 = .ok (.iload_n 2, 1) := by decide +kernel
theorem dX2_noLater_3 : decode cX2_noLater 3 = .ok (.iconst 0, 1) := by decide +kernel
theorem dX2_noLater_4 : decode cX2_noLater 4 = .ok (.iload_n 3, 1) := by decide +kernel
theorem dX2_noLater_5 : decode cX2_noLater 5 = .ok (.invokevirtual 84, 3) := by decide +kernel
theorem dX2_noLater_8 : decode cX2_noLater 8 = .ok (.return_, 1) := by decide +kernel
set_option maxRecDepth 20000 in
theorem ggX2_alike_X2_add : GoodIn wsX2_alike wsX2_add := goodIn_r _ [5, 6, 7, 8, 9, 10, 11, 12, 13, 14, 15, 16, 17, 18, 19, 20, 21, 22] (by decide +kernel) (by decide +kernel)
set_option maxRecDepth 20000 in
theorem gX2_alike_X2_add : GoodIn wsX2_alike (wsV RX2 84 RX2 yX2_add wsX2_add) := goodIn_app (goodIn_of _ (by decide +kernel)) ggX2_alike_X2_add
theorem dX2_alike_0 : decode cX2_alike 0 = .ok (.aload_n 0, 1) := by decide +kernel
theorem dX2_alike_1 : decode cX2_alike 1 = .ok (.iload_n 1, 1) := by decide +kernel
theorem dX2_alike_2 : decode cX2_alike 2 = .ok (.iload_n 2, 1) := by decide +kernel
theorem dX2_alike_3 : decode cX2_alike 3 = .ok (.iconst 0, 1) := by decide +kernel
theorem dX2_alike_4 : decode cX2_alike 4 = .ok (.iload_n 3, 1) := by decide +kernel
theorem dX2_alike_5 : decode cX2_alike 5 = .ok (.invokevirtual 84, 3) := by decide +kernel
theorem dX2_alike_8 : decode cX2_alike 8 = .ok (.aload_n 0, 1) := by decide +kernel
theorem dX2_alike_9 : decode cX2_alike 9 = .ok (.iload_n 2, 1) := by decide +kernel
theorem dX2_alike_10 : decode cX2_alike 10 = .ok (.iload_n 1, 1) := by decide +kernel
theorem dX2_alike_11 : decode cX2_alike 11 = .ok (.iconst 0, 1) := by decide +kernel
theorem dX2_alike_12 : decode cX2_alike 12 = .ok (.iload_n 3, 1) := by decide +kernel
theorem dX2_alike_13 : decode cX2_alike 13 = .ok (.invokevirtual 84, 3) := by decide +kernel
theorem dX2_alike_16 : decode cX2_alike 16 = .ok (.return_, 1) := by decide +kernel
theorem dX2_add_0 : decode cX2_add 0 = .ok (.aload_n 0, 1) := by decide +kernel
theorem dX2_add_1 : decode cX2_add 1 = .ok (.getfield 37, 3) := by decide +kernel
theorem dX2_add_4 : decode cX2_add 4 = .ok (.bipush 48, 2) := by decide +kernel
theorem dX2_add_6 : decode cX2_add 6 = .ok (.if_icmp .lt 4, 3) := by decide +kernel
theorem dX2_add_9 : decode cX2_add 9 = .ok (.return_, 1) := by decide +kernel
theorem dX2_add_10 : decode cX2_add 10 = .ok (.aload_n 0, 1) := by decide +kernel
theorem dX2_add_11 : decode cX2_add 11 = .ok (.getfield 11, 3) := by decide +kernel
theorem dX2_add_14 : decode cX2_add 14 = .ok (.aload_n 0, 1) := by decide +kernel
theorem dX2_add_15 : decode cX2_add 15 = .ok (.getfield 37, 3) := by decide +kernel
theorem dX2_add_18 : decode cX2_add 18 = .ok (.iload_n 1, 1) := by decide +kernel
theorem dX2_add_19 : decode cX2_add 19 = .ok (.iastore, 1) := by decide +kernel
theorem dX2_add_20 : decode cX2_add 20 = .ok (.aload_n 0, 1) := by decide +kernel
theorem dX2_add_21 : decode cX2_add 21 = .ok (.getfield 15, 3) := by decide +kernel
theorem dX2_add_24 : decode cX2_add 24 = .ok (.aload_n 0, 1) := by decide +kernel
theorem dX2_add_25 : decode cX2_add 25 = .ok (.getfield 37, 3) := by decide +kernel
theorem dX2_add_28 : decode cX2_add 28 = .ok (.iload_n 2, 1) := by decide +kernel
theorem dX2_add_29 : decode cX2_add 29 = .ok (.iastore, 1) := by decide +kernel
theorem dX2_add_30 : decode cX2_add 30 = .ok (.aload_n 0, 1) := by decide +kernel
theorem dX2_add_31 : decode cX2_add 31 = .ok (.getfield 18, 3) := by decide +kernel
theorem dX2_add_34 : decode cX2_add 34 = .ok (.aload_n 0, 1) := by decide +kernel
theorem dX2_add_35 : decode cX2_add 35 = .ok (.getfield 37, 3) := by decide +kernel
theorem dX2_add_38 : decode cX2_add 38 = .ok (.iload_n 3, 1) := by decide +kernel
theorem dX2_add_39 : decode cX2_add 39 = .ok (.bastore, 1) := by decide +kernel
theorem dX2_add_40 : decode cX2_add 40 = .ok (.aload_n 0, 1) := by decide +kernel
theorem dX2_add_41 : decode cX2_add 41 = .ok (.getfield 22, 3) := by decide +kernel
theorem dX2_add_44 : decode cX2_add 44 = .ok (.aload_n 0, 1) := by decide +kernel
theorem dX2_add_45 : decode cX2_add 45 = .ok (.getfield 37, 3) := by decide +kernel
theorem dX2_add_48 : decode cX2_add 48 = .ok (.iload 4, 2) := by decide +kernel
theorem dX2_add_50 : decode cX2_add 50 = .ok (.iastore, 1) := by decide +kernel
theorem dX2_add_51 : decode cX2_add 51 = .ok (.aload_n 0, 1) := by decide +kernel
theorem dX2_add_52 : decode cX2_add 52 = .ok (.dup, 1) := by decide +kernel
theorem dX2_add_53 : decode cX2_add 53 = .ok (.getfield 37, 3) := by decide +kernel
theorem dX2_add_56 : decode cX2_add 56 = .ok (.iconst 1, 1) := by decide +kernel
theorem dX2_add_57 : decode cX2_add 57 = .ok (.iadd, 1) := by decide +kernel
theorem dX2_add_58 : decode cX2_add 58 = .ok (.putfield 37, 3) := by decide +kernel
theorem dX2_add_61 : decode cX2_add 61 = .ok (.return_, 1) := by decide +kernel
theorem dX2_apart_0 : decode cX2_apart 0 = .ok (.aload_n 0, 1) := by decide +kernel
theorem dX2_apart_1 : decode cX2_apart 1 = .ok (.getfield 41, 3) := by decide +kernel
theorem dX2_apart_4 : decode cX2_apart 4 = .ok (.bipush 48, 2) := by decide +kernel
theorem dX2_apart_6 : decode cX2_apart 6 = .ok (.if_icmp .lt 4, 3) := by decide +kernel
theorem dX2_apart_9 : decode cX2_apart 9 = .ok (.return_, 1) := by decide +kernel
theorem dX2_apart_10 : decode cX2_apart 10 = .ok (.aload_n 0, 1) := by decide +kernel
theorem dX2_apart_11 : decode cX2_apart 11 = .ok (.getfield 25, 3) := by decide +kernel
theorem dX2_apart_14 : decode cX2_apart 14 = .ok (.aload_n 0, 1) := by decide +kernel
theorem dX2_apart_15 : decode cX2_apart 15 = .ok (.getfield 41, 3) := by decide +kernel
theorem dX2_apart_18 : decode cX2_apart 18 = .ok (.iload_n 1, 1) := by decide +kernel
theorem dX2_apart_19 : decode cX2_apart 19 = .ok (.iastore, 1) := by decide +kernel
theorem dX2_apart_20 : decode cX2_apart 20 = .ok (.aload_n 0, 1) := by decide +kernel
theorem dX2_apart_21 : decode cX2_apart 21 = .ok (.getfield 28, 3) := by decide +kernel
theorem dX2_apart_24 : decode cX2_apart 24 = .ok (.aload_n 0, 1) := by decide +kernel
theorem dX2_apart_25 : decode cX2_apart 25 = .ok (.getfield 41, 3) := by decide +kernel
theorem dX2_apart_28 : decode cX2_apart 28 = .ok (.iload_n 2, 1) := by decide +kernel
theorem dX2_apart_29 : decode cX2_apart 29 = .ok (.iastore, 1) := by decide +kernel
theorem dX2_apart_30 : decode cX2_apart 30 = .ok (.aload_n 0, 1) := by decide +kernel
theorem dX2_apart_31 : decode cX2_apart 31 = .ok (.getfield 31, 3) := by decide +kernel
theorem dX2_apart_34 : decode cX2_apart 34 = .ok (.aload_n 0, 1) := by decide +kernel
theorem dX2_apart_35 : decode cX2_apart 35 = .ok (.getfield 41, 3) := by decide +kernel
theorem dX2_apart_38 : decode cX2_apart 38 = .ok (.iload_n 3, 1) := by decide +kernel
theorem dX2_apart_39 : decode cX2_apart 39 = .ok (.iastore, 1) := by decide +kernel
theorem dX2_apart_40 : decode cX2_apart 40 = .ok (.aload_n 0, 1) := by decide +kernel
theorem dX2_apart_41 : decode cX2_apart 41 = .ok (.dup, 1) := by decide +kernel
theorem dX2_apart_42 : decode cX2_apart 42 = .ok (.getfield 41, 3) := by decide +kernel
theorem dX2_apart_45 : decode cX2_apart 45 = .ok (.iconst 1, 1) := by decide +kernel
theorem dX2_apart_46 : decode cX2_apart 46 = .ok (.iadd, 1) := by decide +kernel
theorem dX2_apart_47 : decode cX2_apart 47 = .ok (.putfield 41, 3) := by decide +kernel
theorem dX2_apart_50 : decode cX2_apart 50 = .ok (.return_, 1) := by decide +kernel
set_option maxRecDepth 20000 in
theorem ggX2_weigh_X2_lasts : GoodIn wsX2_weigh wsX2_lasts := goodIn_r _ [15] (by decide +kernel) (by decide +kernel)
set_option maxRecDepth 20000 in
theorem gX2_weigh_X2_lasts : GoodIn wsX2_weigh (va_wsS RX2 91 yX2_lasts wsX2_lasts) := goodIn_app (goodIn_of _ (by decide +kernel)) ggX2_weigh_X2_lasts
theorem dX2_weigh_0 : decode cX2_weigh 0 = .ok (.aload_n 0, 1) := by decide +kernel
theorem dX2_weigh_1 : decode cX2_weigh 1 = .ok (.iconst 0, 1) := by decide +kernel
theorem dX2_weigh_2 : decode cX2_weigh 2 = .ok (.putfield 88, 3) := by decide +kernel
theorem dX2_weigh_5 : decode cX2_weigh 5 = .ok (.iconst 0, 1) := by decide +kernel
theorem dX2_weigh_6 : decode cX2_weigh 6 = .ok (.istore_n 2, 1) := by decide +kernel
theorem dX2_weigh_7 : decode cX2_weigh 7 = .ok (.iload_n 2, 1) := by decide +kernel
theorem dX2_weigh_8 : decode cX2_weigh 8 = .ok (.bipush 12, 2) := by decide +kernel
theorem dX2_weigh_10 : decode cX2_weigh 10 = .ok (.if_icmp .ge 16, 3) := by decide +kernel
theorem dX2_weigh_13 : decode cX2_weigh 13 = .ok (.aload_n 0, 1) := by decide +kernel
theorem dX2_weigh_14 : decode cX2_weigh 14 = .ok (.getfield 34, 3) := by decide +kernel
theorem dX2_weigh_17 : decode cX2_weigh 17 = .ok (.iload_n 2, 1) := by decide +kernel
theorem dX2_weigh_18 : decode cX2_weigh 18 = .ok (.iconst 0, 1) := by decide +kernel
theorem dX2_weigh_19 : decode cX2_weigh 19 = .ok (.iastore, 1) := by decide +kernel
theorem dX2_weigh_20 : decode cX2_weigh 20 = .ok (.iinc 2 1, 3) := by decide +kernel
theorem dX2_weigh_23 : decode cX2_weigh 23 = .ok (.goto (-16), 3) := by decide +kernel
theorem dX2_weigh_26 : decode cX2_weigh 26 = .ok (.iconst 0, 1) := by decide +kernel
theorem dX2_weigh_27 : decode cX2_weigh 27 = .ok (.istore_n 2, 1) := by decide +kernel
theorem dX2_weigh_28 : decode cX2_weigh 28 = .ok (.iload_n 2, 1) := by decide +kernel
theorem dX2_weigh_29 : decode cX2_weigh 29 = .ok (.aload_n 0, 1) := by decide +kernel
theorem dX2_weigh_30 : decode cX2_weigh 30 = .ok (.getfield 37, 3) := by decide +kernel
theorem dX2_weigh_33 : decode cX2_weigh 33 = .ok (.if_icmp .ge 85, 3) := by decide +kernel
theorem dX2_weigh_36 : decode cX2_weigh 36 = .ok (.iload_n 1, 1) := by decide +kernel
theorem dX2_weigh_37 : decode cX2_weigh 37 = .ok (.aload_n 0, 1) := by decide +kernel
theorem dX2_weigh_38 : decode cX2_weigh 38 = .ok (.getfield 15, 3) := by decide +kernel
theorem dX2_weigh_41 : decode cX2_weigh 41 = .ok (.iload_n 2, 1) := by decide +kernel
theorem dX2_weigh_42 : decode cX2_weigh 42 = .ok (.iaload, 1) := by decide +kernel
theorem dX2_weigh_43 : decode cX2_weigh 43 = .ok (.ishr, 1) := by decide +kernel
theorem dX2_weigh_44 : decode cX2_weigh 44 = .ok (.iconst 1, 1) := by decide +kernel
theorem dX2_weigh_45 : decode cX2_weigh 45 = .ok (.iand, 1) := by decide +kernel
theorem dX2_weigh_46 : decode cX2_weigh 46 = .ok (.ifCond .ne 6, 3) := by decide +kernel
theorem dX2_weigh_49 : decode cX2_weigh 49 = .ok (.goto 63, 3) := by decide +kernel
theorem dX2_weigh_52 : decode cX2_weigh 52 = .ok (.iload_n 1, 1) := by decide +kernel
theorem dX2_weigh_53 : decode cX2_weigh 53 = .ok (.aload_n 0, 1) := by decide +kernel
theorem dX2_weigh_54 : decode cX2_weigh 54 = .ok (.getfield 11, 3) := by decide +kernel
theorem dX2_weigh_57 : decode cX2_weigh 57 = .ok (.iload_n 2, 1) := by decide +kernel
theorem dX2_weigh_58 : decode cX2_weigh 58 = .ok (.iaload, 1) := by decide +kernel
theorem dX2_weigh_59 : decode cX2_weigh 59 = .ok (.ishr, 1) := by decide +kernel
theorem dX2_weigh_60 : decode cX2_weigh 60 = .ok (.iconst 1, 1) := by decide +kernel
theorem dX2_weigh_61 : decode cX2_weigh 61 = .ok (.iand, 1) := by decide +kernel
theorem dX2_weigh_62 : decode cX2_weigh 62 = .ok (.ifCond .ne 21, 3) := by decide +kernel
theorem dX2_weigh_65 : decode cX2_weigh 65 = .ok (.aload_n 0, 1) := by decide +kernel
theorem dX2_weigh_66 : decode cX2_weigh 66 = .ok (.dup, 1) := by decide +kernel
theorem dX2_weigh_67 : decode cX2_weigh 67 = .ok (.getfield 88, 3) := by decide +kernel
theorem dX2_weigh_70 : decode cX2_weigh 70 = .ok (.aload_n 0, 1) := by decide +kernel
theorem dX2_weigh_71 : decode cX2_weigh 71 = .ok (.getfield 22, 3) := by decide +kernel
theorem dX2_weigh_74 : decode cX2_weigh 74 = .ok (.iload_n 2, 1) := by decide +kernel
theorem dX2_weigh_75 : decode cX2_weigh 75 = .ok (.iaload, 1) := by decide +kernel
theorem dX2_weigh_76 : decode cX2_weigh 76 = .ok (.ior, 1) := by decide +kernel
theorem dX2_weigh_77 : decode cX2_weigh 77 = .ok (.putfield 88, 3) := by decide +kernel
theorem dX2_weigh_80 : decode cX2_weigh 80 = .ok (.goto 32, 3) := by decide +kernel
theorem dX2_weigh_83 : decode cX2_weigh 83 = .ok (.aload_n 0, 1) := by decide +kernel
theorem dX2_weigh_84 : decode cX2_weigh 84 = .ok (.getfield 18, 3) := by decide +kernel
theorem dX2_weigh_87 : decode cX2_weigh 87 = .ok (.iload_n 2, 1) := by decide +kernel
theorem dX2_weigh_88 : decode cX2_weigh 88 = .ok (.baload, 1) := by decide +kernel
theorem dX2_weigh_89 : decode cX2_weigh 89 = .ok (.ifCond .eq 23, 3) := by decide +kernel
theorem dX2_weigh_92 : decode cX2_weigh 92 = .ok (.aload_n 0, 1) := by decide +kernel
theorem dX2_weigh_93 : decode cX2_weigh 93 = .ok (.getfield 34, 3) := by decide +kernel
theorem dX2_weigh_96 : decode cX2_weigh 96 = .ok (.aload_n 0, 1) := by decide +kernel
theorem dX2_weigh_97 : decode cX2_weigh 97 = .ok (.getfield 11, 3) := by decide +kernel
theorem dX2_weigh_100 : decode cX2_weigh 100 = .ok (.iload_n 2, 1) := by decide +kernel
theorem dX2_weigh_101 : decode cX2_weigh 101 = .ok (.iaload, 1) := by decide +kernel
theorem dX2_weigh_102 : decode cX2_weigh 102 = .ok (.dup2, 1) := by decide +kernel
theorem dX2_weigh_103 : decode cX2_weigh 103 = .ok (.iaload, 1) := by decide +kernel
theorem dX2_weigh_104 : decode cX2_weigh 104 = .ok (.aload_n 0, 1) := by decide +kernel
theorem dX2_weigh_105 : decode cX2_weigh 105 = .ok (.getfield 22, 3) := by decide +kernel
theorem dX2_weigh_108 : decode cX2_weigh 108 = .ok (.iload_n 2, 1) := by decide +kernel
theorem dX2_weigh_109 : decode cX2_weigh 109 = .ok (.iaload, 1) := by decide +kernel
theorem dX2_weigh_110 : decode cX2_weigh 110 = .ok (.ior, 1) := by decide +kernel
theorem dX2_weigh_111 : decode cX2_weigh 111 = .ok (.iastore, 1) := by decide +kernel
theorem dX2_weigh_112 : decode cX2_weigh 112 = .ok (.iinc 2 1, 3) := by decide +kernel
theorem dX2_weigh_115 : decode cX2_weigh 115 = .ok (.goto (-87), 3) := by decide +kernel
theorem dX2_weigh_118 : decode cX2_weigh 118 = .ok (.iconst 0, 1) := by decide +kernel
theorem dX2_weigh_119 : decode cX2_weigh 119 = .ok (.istore_n 2, 1) := by decide +kernel
theorem dX2_weigh_120 : decode cX2_weigh 120 = .ok (.iload_n 2, 1) := by decide +kernel
theorem dX2_weigh_121 : decode cX2_weigh 121 = .ok (.aload_n 0, 1) := by decide +kernel
theorem dX2_weigh_122 : decode cX2_weigh 122 = .ok (.getfield 41, 3) := by decide +kernel
theorem dX2_weigh_125 : decode cX2_weigh 125 = .ok (.if_icmp .ge 50, 3) := by decide +kernel
theorem dX2_weigh_128 : decode cX2_weigh 128 = .ok (.iload_n 1, 1) := by decide +kernel
theorem dX2_weigh_129 : decode cX2_weigh 129 = .ok (.aload_n 0, 1) := by decide +kernel
theorem dX2_weigh_130 : decode cX2_weigh 130 = .ok (.getfield 25, 3) := by decide +kernel
theorem dX2_weigh_133 : decode cX2_weigh 133 = .ok (.iload_n 2, 1) := by decide +kernel
theorem dX2_weigh_134 : decode cX2_weigh 134 = .ok (.iaload, 1) := by decide +kernel
theorem dX2_weigh_135 : decode cX2_weigh 135 = .ok (.invokestatic 91, 3) := by decide +kernel
theorem dX2_weigh_138 : decode cX2_weigh 138 = .ok (.ifCond .eq 31, 3) := by decide +kernel
theorem dX2_weigh_141 : decode cX2_weigh 141 = .ok (.iload_n 1, 1) := by decide +kernel
theorem dX2_weigh_142 : decode cX2_weigh 142 = .ok (.aload_n 0, 1) := by decide +kernel
theorem dX2_weigh_143 : decode cX2_weigh 143 = .ok (.getfield 28, 3) := by decide +kernel
theorem dX2_weigh_146 : decode cX2_weigh 146 = .ok (.iload_n 2, 1) := by decide +kernel
theorem dX2_weigh_147 : decode cX2_weigh 147 = .ok (.iaload, 1) := by decide +kernel
theorem dX2_weigh_148 : decode cX2_weigh 148 = .ok (.invokestatic 91, 3) := by decide +kernel
theorem dX2_weigh_151 : decode cX2_weigh 151 = .ok (.ifCond .eq 18, 3) := by decide +kernel
theorem dX2_weigh_154 : decode cX2_weigh 154 = .ok (.aload_n 0, 1) := by decide +kernel
theorem dX2_weigh_155 : decode cX2_weigh 155 = .ok (.dup, 1) := by decide +kernel
theorem dX2_weigh_156 : decode cX2_weigh 156 = .ok (.getfield 88, 3) := by decide +kernel
theorem dX2_weigh_159 : decode cX2_weigh 159 = .ok (.aload_n 0, 1) := by decide +kernel
theorem dX2_weigh_160 : decode cX2_weigh 160 = .ok (.getfield 31, 3) := by decide +kernel
theorem dX2_weigh_163 : decode cX2_weigh 163 = .ok (.iload_n 2, 1) := by decide +kernel
theorem dX2_weigh_164 : decode cX2_weigh 164 = .ok (.iaload, 1) := by decide +kernel
theorem dX2_weigh_165 : decode cX2_weigh 165 = .ok (.ior, 1) := by decide +kernel
theorem dX2_weigh_166 : decode cX2_weigh 166 = .ok (.putfield 88, 3) := by decide +kernel
theorem dX2_weigh_169 : decode cX2_weigh 169 = .ok (.iinc 2 1, 3) := by decide +kernel
theorem dX2_weigh_172 : decode cX2_weigh 172 = .ok (.goto (-52), 3) := by decide +kernel
theorem dX2_weigh_175 : decode cX2_weigh 175 = .ok (.return_, 1) := by decide +kernel
theorem dX2_lasts_0 : decode cX2_lasts 0 = .ok (.iload_n 0, 1) := by decide +kernel
theorem dX2_lasts_1 : decode cX2_lasts 1 = .ok (.iconst 2, 1) := by decide +kernel
theorem dX2_lasts_2 : decode cX2_lasts 2 = .ok (.iload_n 1, 1) := by decide +kernel
theorem dX2_lasts_3 : decode cX2_lasts 3 = .ok (.imul, 1) := by decide +kernel
theorem dX2_lasts_4 : decode cX2_lasts 4 = .ok (.ishr, 1) := by decide +kernel
theorem dX2_lasts_5 : decode cX2_lasts 5 = .ok (.iconst 3, 1) := by decide +kernel
theorem dX2_lasts_6 : decode cX2_lasts 6 = .ok (.iand, 1) := by decide +kernel
theorem dX2_lasts_7 : decode cX2_lasts 7 = .ok (.iconst 1, 1) := by decide +kernel
theorem dX2_lasts_8 : decode cX2_lasts 8 = .ok (.if_icmp .ne 7, 3) := by decide +kernel
theorem dX2_lasts_11 : decode cX2_lasts 11 = .ok (.iconst 1, 1) := by decide +kernel
theorem dX2_lasts_12 : decode cX2_lasts 12 = .ok (.goto 4, 3) := by decide +kernel
theorem dX2_lasts_15 : decode cX2_lasts 15 = .ok (.iconst 0, 1) := by decide +kernel
theorem dX2_lasts_16 : decode cX2_lasts 16 = .ok (.ireturn, 1) := by decide +kernel
theorem dX2_looseIn_0 : decode cX2_looseIn 0 = .ok (.iconst 0, 1) := by decide +kernel
theorem dX2_looseIn_1 : decode cX2_looseIn 1 = .ok (.istore_n 3, 1) := by decide +kernel
theorem dX2_looseIn_2 : decode cX2_looseIn 2 = .ok (.iconst 0, 1) := by decide +kernel
theorem dX2_looseIn_3 : decode cX2_looseIn 3 = .ok (.istore 4, 2) := by decide +kernel
theorem dX2_looseIn_5 : decode cX2_looseIn 5 = .ok (.iload 4, 2) := by decide +kernel
theorem dX2_looseIn_7 : decode cX2_looseIn 7 = .ok (.bipush 12, 2) := by decide +kernel
theorem dX2_looseIn_9 : decode cX2_looseIn 9 = .ok (.if_icmp .ge 38, 3) := by decide +kernel
theorem dX2_looseIn_12 : decode cX2_looseIn 12 = .ok (.iload_n 1, 1) := by decide +kernel
theorem dX2_looseIn_13 : decode cX2_looseIn 13 = .ok (.iload 4, 2) := by decide +kernel
theorem dX2_looseIn_15 : decode cX2_looseIn 15 = .ok (.ishr, 1) := by decide +kernel
theorem dX2_looseIn_16 : decode cX2_looseIn 16 = .ok (.iconst 1, 1) := by decide +kernel
theorem dX2_looseIn_17 : decode cX2_looseIn 17 = .ok (.iand, 1) := by decide +kernel
theorem dX2_looseIn_18 : decode cX2_looseIn 18 = .ok (.iconst 1, 1) := by decide +kernel
theorem dX2_looseIn_19 : decode cX2_looseIn 19 = .ok (.if_icmp .ne 22, 3) := by decide +kernel
theorem dX2_looseIn_22 : decode cX2_looseIn 22 = .ok (.aload_n 0, 1) := by decide +kernel
theorem dX2_looseIn_23 : decode cX2_looseIn 23 = .ok (.getfield 34, 3) := by decide +kernel
theorem dX2_looseIn_26 : decode cX2_looseIn 26 = .ok (.iload 4, 2) := by decide +kernel
theorem dX2_looseIn_28 : decode cX2_looseIn 28 = .ok (.iaload, 1) := by decide +kernel
theorem dX2_looseIn_29 : decode cX2_looseIn 29 = .ok (.iload_n 2, 1) := by decide +kernel
theorem dX2_looseIn_30 : decode cX2_looseIn 30 = .ok (.iand, 1) := by decide +kernel
theorem dX2_looseIn_31 : decode cX2_looseIn 31 = .ok (.ifCond .ne 10, 3) := by decide +kernel
theorem dX2_looseIn_34 : decode cX2_looseIn 34 = .ok (.iload_n 3, 1) := by decide +kernel
theorem dX2_looseIn_35 : decode cX2_looseIn 35 = .ok (.iconst 1, 1) := by decide +kernel
theorem dX2_looseIn_36 : decode cX2_looseIn 36 = .ok (.iload 4, 2) := by decide +kernel
theorem dX2_looseIn_38 : decode cX2_looseIn 38 = .ok (.ishl, 1) := by decide +kernel
theorem dX2_looseIn_39 : decode cX2_looseIn 39 = .ok (.ior, 1) := by decide +kernel
theorem dX2_looseIn_40 : decode cX2_looseIn 40 = .ok (.istore_n 3, 1) := by decide +kernel
theorem dX2_looseIn_41 : decode cX2_looseIn 41 = .ok (.iinc 4 1, 3) := by decide +kernel
theorem dX2_looseIn_44 : decode cX2_looseIn 44 = .ok (.goto (-39), 3) := by decide +kernel
theorem dX2_looseIn_47 : decode cX2_looseIn 47 = .ok (.iload_n 3, 1) := by decide +kernel
theorem dX2_looseIn_48 : decode cX2_looseIn 48 = .ok (.ireturn, 1) := by decide +kernel
theorem dX3_init_0 : decode cX3_init 0 = .ok (.aload_n 0, 1) := by decide +kernel
theorem dX3_init_1 : decode cX3_init 1 = .ok (.invokespecial 3, 3) := by decide +kernel
theorem dX3_init_4 : decode cX3_init 4 = .ok (.aload_n 0, 1) := by decide +kernel
theorem dX3_init_5 : decode cX3_init 5 = .ok (.bipush 12, 2) := by decide +kernel
theorem dX3_init_7 : decode cX3_init 7 = .ok (.newarray .int, 2) := by decide +kernel
theorem dX3_init_9 : decode cX3_init 9 = .ok (.putfield 9, 3) := by decide +kernel
theorem dX3_init_12 : decode cX3_init 12 = .ok (.aload_n 0, 1) := by decide +kernel
theorem dX3_init_13 : decode cX3_init 13 = .ok (.sipush 144, 3) := by decide +kernel
theorem dX3_init_16 : decode cX3_init 16 = .ok (.newarray .long, 2) := by decide +kernel
theorem dX3_init_18 : decode cX3_init 18 = .ok (.putfield 15, 3) := by decide +kernel
theorem dX3_init_21 : decode cX3_init 21 = .ok (.aload_n 0, 1) := by decide +kernel
theorem dX3_init_22 : decode cX3_init 22 = .ok (.sipush 144, 3) := by decide +kernel
theorem dX3_init_25 : decode cX3_init 25 = .ok (.newarray .long, 2) := by decide +kernel
theorem dX3_init_27 : decode cX3_init 27 = .ok (.putfield 19, 3) := by decide +kernel
theorem dX3_init_30 : decode cX3_init 30 = .ok (.aload_n 0, 1) := by decide +kernel
theorem dX3_init_31 : decode cX3_init 31 = .ok (.sipush 729, 3) := by decide +kernel
theorem dX3_init_34 : decode cX3_init 34 = .ok (.newarray .long, 2) := by decide +kernel
theorem dX3_init_36 : decode cX3_init 36 = .ok (.putfield 22, 3) := by decide +kernel
theorem dX3_init_39 : decode cX3_init 39 = .ok (.aload_n 0, 1) := by decide +kernel
theorem dX3_init_40 : decode cX3_init 40 = .ok (.bipush 64, 2) := by decide +kernel
theorem dX3_init_42 : decode cX3_init 42 = .ok (.newarray .long, 2) := by decide +kernel
theorem dX3_init_44 : decode cX3_init 44 = .ok (.putfield 25, 3) := by decide +kernel
theorem dX3_init_47 : decode cX3_init 47 = .ok (.return_, 1) := by decide +kernel
set_option maxRecDepth 20000 in
theorem ggX3_weigh_X9_allWays : GoodIn wsX3_weigh wsX9_allWays := goodIn_r _ [11, 12, 13, 62, 63, 64] (by decide +kernel) (by decide +kernel)
set_option maxRecDepth 20000 in
theorem gX3_weigh_X9_allWays : GoodIn wsX3_weigh (wsV RX3 28 RX9 yX9_allWays wsX9_allWays) := goodIn_app (goodIn_of _ (by decide +kernel)) ggX3_weigh_X9_allWays
set_option maxRecDepth 20000 in
theorem ggX3_weigh_X3_weighStepsTo : GoodIn wsX3_weigh wsX3_weighStepsTo := goodIn_r _ [18, 6, 19, 20, 21, 5, 22, 23, 24, 25, 26, 27, 28, 29, 30, 31, 32, 33, 34, 35, 36, 37, 38, 39, 62, 63, 64, 55, 56, 57, 58, 59, 60, 61, 65, 66, 67, 68] (by decide +kernel) (by decide +kernel)
set_option maxRecDepth 20000 in
theorem gX3_weigh_X3_weighStepsTo : GoodIn wsX3_weigh (wsV RX3 45 RX3 yX3_weighStepsTo wsX3_weighStepsTo) := goodIn_app (goodIn_of _ (by decide +kernel)) ggX3_weigh_X3_weighStepsTo
set_option maxRecDepth 20000 in
theorem ggX3_weigh_X10_setAt : GoodIn wsX3_weigh wsX10_setAt := goodIn_r _ [26, 27] (by decide +kernel) (by decide +kernel)
set_option maxRecDepth 20000 in
theorem gX3_weigh_X10_setAt_n49 : GoodIn wsX3_weigh (wsX10_setAt) := ggX3_weigh_X10_setAt
set_option maxRecDepth 20000 in
theorem ggX3_weigh_X3_notePairs : GoodIn wsX3_weigh wsX3_notePairs := goodIn_r _ [43, 23, 44, 2, 19, 3, 65, 66, 67, 68, 55, 56, 57, 58, 59, 60, 61] (by decide +kernel) (by decide +kernel)
set_option maxRecDepth 20000 in
theorem gX3_weigh_X3_notePairs : GoodIn wsX3_weigh (wsV RX3 53 RX3 yX3_notePairs wsX3_notePairs) := goodIn_app (goodIn_of _ (by decide +kernel)) ggX3_weigh_X3_notePairs
set_option maxRecDepth 20000 in
theorem ggX3_weigh_X3_findFirst : GoodIn wsX3_weigh wsX3_findFirst := goodIn_r _ [48, 49, 1, 50, 51, 52, 53, 17, 54, 20, 21, 6, 5, 28, 29, 30, 31, 32, 33, 34, 35, 36, 37, 25, 38, 39, 55, 56, 57, 58, 59, 60, 61, 65, 66, 67, 68, 62, 63, 64] (by decide +kernel) (by decide +kernel)
set_option maxRecDepth 20000 in
theorem gX3_weigh_X3_findFirst : GoodIn wsX3_weigh (wsV RX3 57 RX3 yX3_findFirst wsX3_findFirst) := goodIn_app (goodIn_of _ (by decide +kernel)) ggX3_weigh_X3_findFirst
theorem dX3_weigh_0 : decode cX3_weigh 0 = .ok (.aload_n 0, 1) := by decide +kernel
theorem dX3_weigh_1 : decode cX3_weigh 1 = .ok (.aload_n 1, 1) := by decide +kernel
theorem dX3_weigh_2 : decode cX3_weigh 2 = .ok (.invokevirtual 28, 3) := by decide +kernel
theorem dX3_weigh_5 : decode cX3_weigh 5 = .ok (.putfield 34, 3) := by decide +kernel
theorem dX3_weigh_8 : decode cX3_weigh 8 = .ok (.iconst 0, 1) := by decide +kernel
theorem dX3_weigh_9 : decode cX3_weigh 9 = .ok (.istore 4, 2) := by decide +kernel
theorem dX3_weigh_11 : decode cX3_weigh 11 = .ok (.iload 4, 2) := by decide +kernel
theorem dX3_weigh_13 : decode cX3_weigh 13 = .ok (.sipush 144, 3) := by decide +kernel
theorem dX3_weigh_16 : decode cX3_weigh 16 = .ok (.if_icmp .ge 25, 3) := by decide +kernel
theorem dX3_weigh_19 : decode cX3_weigh 19 = .ok (.aload_n 0, 1) := by decide +kernel
theorem dX3_weigh_20 : decode cX3_weigh 20 = .ok (.getfield 15, 3) := by decide +kernel
theorem dX3_weigh_23 : decode cX3_weigh 23 = .ok (.iload 4, 2) := by decide +kernel
theorem dX3_weigh_25 : decode cX3_weigh 25 = .ok (.lconst 0, 1) := by decide +kernel
theorem dX3_weigh_26 : decode cX3_weigh 26 = .ok (.lastore, 1) := by decide +kernel
theorem dX3_weigh_27 : decode cX3_weigh 27 = .ok (.aload_n 0, 1) := by decide +kernel
theorem dX3_weigh_28 : decode cX3_weigh 28 = .ok (.getfield 19, 3) := by decide +kernel
theorem dX3_weigh_31 : decode cX3_weigh 31 = .ok (.iload 4, 2) := by decide +kernel
theorem dX3_weigh_33 : decode cX3_weigh 33 = .ok (.lconst 0, 1) := by decide +kernel
theorem dX3_weigh_34 : decode cX3_weigh 34 = .ok (.lastore, 1) := by decide +kernel
theorem dX3_weigh_35 : decode cX3_weigh 35 = .ok (.iinc 4 1, 3) := by decide +kernel
theorem dX3_weigh_38 : decode cX3_weigh 38 = .ok (.goto (-27), 3) := by decide +kernel
theorem dX3_weigh_41 : decode cX3_weigh 41 = .ok (.iconst 0, 1) := by decide +kernel
theorem dX3_weigh_42 : decode cX3_weigh 42 = .ok (.istore 4, 2) := by decide +kernel
theorem dX3_weigh_44 : decode cX3_weigh 44 = .ok (.iload 4, 2) := by decide +kernel
theorem dX3_weigh_46 : decode cX3_weigh 46 = .ok (.aload_n 1, 1) := by decide +kernel
theorem dX3_weigh_47 : decode cX3_weigh 47 = .ok (.getfield 38, 3) := by decide +kernel
theorem dX3_weigh_50 : decode cX3_weigh 50 = .ok (.if_icmp .ge 17, 3) := by decide +kernel
theorem dX3_weigh_53 : decode cX3_weigh 53 = .ok (.aload_n 0, 1) := by decide +kernel
theorem dX3_weigh_54 : decode cX3_weigh 54 = .ok (.getfield 22, 3) := by decide +kernel
theorem dX3_weigh_57 : decode cX3_weigh 57 = .ok (.iload 4, 2) := by decide +kernel
theorem dX3_weigh_59 : decode cX3_weigh 59 = .ok (.lconst 0, 1) := by decide +kernel
theorem dX3_weigh_60 : decode cX3_weigh 60 = .ok (.lastore, 1) := by decide +kernel
theorem dX3_weigh_61 : decode cX3_weigh 61 = .ok (.iinc 4 1, 3) := by decide +kernel
theorem dX3_weigh_64 : decode cX3_weigh 64 = .ok (.goto (-20), 3) := by decide +kernel
theorem dX3_weigh_67 : decode cX3_weigh 67 = .ok (.aload_n 0, 1) := by decide +kernel
theorem dX3_weigh_68 : decode cX3_weigh 68 = .ok (.getfield 22, 3) := by decide +kernel
theorem dX3_weigh_71 : decode cX3_weigh 71 = .ok (.aload_n 1, 1) := by decide +kernel
theorem dX3_weigh_72 : decode cX3_weigh 72 = .ok (.getfield 38, 3) := by decide +kernel
theorem dX3_weigh_75 : decode cX3_weigh 75 = .ok (.iconst 1, 1) := by decide +kernel
theorem dX3_weigh_76 : decode cX3_weigh 76 = .ok (.isub, 1) := by decide +kernel
theorem dX3_weigh_77 : decode cX3_weigh 77 = .ok (.lconst 1, 1) := by decide +kernel
theorem dX3_weigh_78 : decode cX3_weigh 78 = .ok (.lastore, 1) := by decide +kernel
theorem dX3_weigh_79 : decode cX3_weigh 79 = .ok (.aload_n 1, 1) := by decide +kernel
theorem dX3_weigh_80 : decode cX3_weigh 80 = .ok (.getfield 38, 3) := by decide +kernel
theorem dX3_weigh_83 : decode cX3_weigh 83 = .ok (.iconst 1, 1) := by decide +kernel
theorem dX3_weigh_84 : decode cX3_weigh 84 = .ok (.isub, 1) := by decide +kernel
theorem dX3_weigh_85 : decode cX3_weigh 85 = .ok (.istore 4, 2) := by decide +kernel
theorem dX3_weigh_87 : decode cX3_weigh 87 = .ok (.iload 4, 2) := by decide +kernel
theorem dX3_weigh_89 : decode cX3_weigh 89 = .ok (.ifCond .le 53, 3) := by decide +kernel
theorem dX3_weigh_92 : decode cX3_weigh 92 = .ok (.aload_n 1, 1) := by decide +kernel
theorem dX3_weigh_93 : decode cX3_weigh 93 = .ok (.getfield 42, 3) := by decide +kernel
theorem dX3_weigh_96 : decode cX3_weigh 96 = .ok (.iload 4, 2) := by decide +kernel
theorem dX3_weigh_98 : decode cX3_weigh 98 = .ok (.iaload, 1) := by decide +kernel
theorem dX3_weigh_99 : decode cX3_weigh 99 = .ok (.iconst (-1), 1) := by decide +kernel
theorem dX3_weigh_100 : decode cX3_weigh 100 = .ok (.if_icmp .eq 36, 3) := by decide +kernel
theorem dX3_weigh_103 : decode cX3_weigh 103 = .ok (.aload_n 0, 1) := by decide +kernel
theorem dX3_weigh_104 : decode cX3_weigh 104 = .ok (.getfield 22, 3) := by decide +kernel
theorem dX3_weigh_107 : decode cX3_weigh 107 = .ok (.iload 4, 2) := by decide +kernel
theorem dX3_weigh_109 : decode cX3_weigh 109 = .ok (.laload, 1) := by decide +kernel
theorem dX3_weigh_110 : decode cX3_weigh 110 = .ok (.lconst 0, 1) := by decide +kernel
theorem dX3_weigh_111 : decode cX3_weigh 111 = .ok (.lcmp, 1) := by decide +kernel
theorem dX3_weigh_112 : decode cX3_weigh 112 = .ok (.ifCond .le 24, 3) := by decide +kernel
theorem dX3_weigh_115 : decode cX3_weigh 115 = .ok (.aload_n 0, 1) := by decide +kernel
theorem dX3_weigh_116 : decode cX3_weigh 116 = .ok (.iload 4, 2) := by decide +kernel
theorem dX3_weigh_118 : decode cX3_weigh 118 = .ok (.aload_n 1, 1) := by decide +kernel
theorem dX3_weigh_119 : decode cX3_weigh 119 = .ok (.aload_n 2, 1) := by decide +kernel
theorem dX3_weigh_120 : decode cX3_weigh 120 = .ok (.invokevirtual 45, 3) := by decide +kernel
theorem dX3_weigh_123 : decode cX3_weigh 123 = .ok (.aload_n 0, 1) := by decide +kernel
theorem dX3_weigh_124 : decode cX3_weigh 124 = .ok (.iload 4, 2) := by decide +kernel
theorem dX3_weigh_126 : decode cX3_weigh 126 = .ok (.invokestatic 49, 3) := by decide +kernel
theorem dX3_weigh_129 : decode cX3_weigh 129 = .ok (.aload_n 2, 1) := by decide +kernel
theorem dX3_weigh_130 : decode cX3_weigh 130 = .ok (.iconst 2, 1) := by decide +kernel
theorem dX3_weigh_131 : decode cX3_weigh 131 = .ok (.iload_n 3, 1) := by decide +kernel
theorem dX3_weigh_132 : decode cX3_weigh 132 = .ok (.imul, 1) := by decide +kernel
theorem dX3_weigh_133 : decode cX3_weigh 133 = .ok (.invokevirtual 53, 3) := by decide +kernel
theorem dX3_weigh_136 : decode cX3_weigh 136 = .ok (.iinc 4 (-1), 3) := by decide +kernel
theorem dX3_weigh_139 : decode cX3_weigh 139 = .ok (.goto (-52), 3) := by decide +kernel
theorem dX3_weigh_142 : decode cX3_weigh 142 = .ok (.aload_n 0, 1) := by decide +kernel
theorem dX3_weigh_143 : decode cX3_weigh 143 = .ok (.aload_n 1, 1) := by decide +kernel
theorem dX3_weigh_144 : decode cX3_weigh 144 = .ok (.aload_n 2, 1) := by decide +kernel
theorem dX3_weigh_145 : decode cX3_weigh 145 = .ok (.iload_n 3, 1) := by decide +kernel
theorem dX3_weigh_146 : decode cX3_weigh 146 = .ok (.invokevirtual 57, 3) := by decide +kernel
theorem dX3_weigh_149 : decode cX3_weigh 149 = .ok (.return_, 1) := by decide +kernel
set_option maxRecDepth 20000 in
theorem ggX3_weighStepsTo_X10_setAt : GoodIn wsX3_weighStepsTo wsX10_setAt := goodIn_r _ [10, 11] (by decide +kernel) (by decide +kernel)
set_option maxRecDepth 20000 in
theorem gX3_weighStepsTo_X10_setAt_n49 : GoodIn wsX3_weighStepsTo (wsX10_setAt) := ggX3_weighStepsTo_X10_setAt
set_option maxRecDepth 20000 in
theorem ggX3_weighStepsTo_X7_take : GoodIn wsX3_weighStepsTo wsX7_take := goodIn_r _ [16, 17, 18, 19, 20, 34, 35, 36, 37] (by decide +kernel) (by decide +kernel)
set_option maxRecDepth 20000 in
theorem gX3_weighStepsTo_X7_take : GoodIn wsX3_weighStepsTo (wsV RX3 61 RX7 yX7_take wsX7_take) := goodIn_app (goodIn_of _ (by decide +kernel)) ggX3_weighStepsTo_X7_take
set_option maxRecDepth 20000 in
theorem ggX3_weighStepsTo_X10_placeOf : GoodIn wsX3_weighStepsTo wsX10_placeOf := goodIn_r _ [22, 23] (by decide +kernel) (by decide +kernel)
set_option maxRecDepth 20000 in
theorem gX3_weighStepsTo_X10_placeOf_n73 : GoodIn wsX3_weighStepsTo (wsX10_placeOf) := ggX3_weighStepsTo_X10_placeOf
theorem dX3_weighStepsTo_0 : decode cX3_weighStepsTo 0 = .ok (.iload_n 1, 1) := by decide +kernel
theorem dX3_weighStepsTo_1 : decode cX3_weighStepsTo 1 = .ok (.invokestatic 49, 3) := by decide +kernel
theorem dX3_weighStepsTo_4 : decode cX3_weighStepsTo 4 = .ok (.istore 4, 2) := by decide +kernel
theorem dX3_weighStepsTo_6 : decode cX3_weighStepsTo 6 = .ok (.aload_n 3, 1) := by decide +kernel
theorem dX3_weighStepsTo_7 : decode cX3_weighStepsTo 7 = .ok (.aload_n 2, 1) := by decide +kernel
theorem dX3_weighStepsTo_8 : decode cX3_weighStepsTo 8 = .ok (.getfield 42, 3) := by decide +kernel
theorem dX3_weighStepsTo_11 : decode cX3_weighStepsTo 11 = .ok (.iload_n 1, 1) := by decide +kernel
theorem dX3_weighStepsTo_12 : decode cX3_weighStepsTo 12 = .ok (.iaload, 1) := by decide +kernel
theorem dX3_weighStepsTo_13 : decode cX3_weighStepsTo 13 = .ok (.invokevirtual 61, 3) := by decide +kernel
theorem dX3_weighStepsTo_16 : decode cX3_weighStepsTo 16 = .ok (.aload_n 0, 1) := by decide +kernel
theorem dX3_weighStepsTo_17 : decode cX3_weighStepsTo 17 = .ok (.getfield 25, 3) := by decide +kernel
theorem dX3_weighStepsTo_20 : decode cX3_weighStepsTo 20 = .ok (.iconst 0, 1) := by decide +kernel
theorem dX3_weighStepsTo_21 : decode cX3_weighStepsTo 21 = .ok (.lconst 0, 1) := by decide +kernel
theorem dX3_weighStepsTo_22 : decode cX3_weighStepsTo 22 = .ok (.lastore, 1) := by decide +kernel
theorem dX3_weighStepsTo_23 : decode cX3_weighStepsTo 23 = .ok (.iconst 1, 1) := by decide +kernel
theorem dX3_weighStepsTo_24 : decode cX3_weighStepsTo 24 = .ok (.istore 5, 2) := by decide +kernel
theorem dX3_weighStepsTo_26 : decode cX3_weighStepsTo 26 = .ok (.iload 5, 2) := by decide +kernel
theorem dX3_weighStepsTo_28 : decode cX3_weighStepsTo 28 = .ok (.aload_n 3, 1) := by decide +kernel
theorem dX3_weighStepsTo_29 : decode cX3_weighStepsTo 29 = .ok (.getfield 67, 3) := by decide +kernel
theorem dX3_weighStepsTo_32 : decode cX3_weighStepsTo 32 = .ok (.if_icmp .ge 61, 3) := by decide +kernel
theorem dX3_weighStepsTo_35 : decode cX3_weighStepsTo 35 = .ok (.iload 4, 2) := by decide +kernel
theorem dX3_weighStepsTo_37 : decode cX3_weighStepsTo 37 = .ok (.aload_n 3, 1) := by decide +kernel
theorem dX3_weighStepsTo_38 : decode cX3_weighStepsTo 38 = .ok (.getfield 70, 3) := by decide +kernel
theorem dX3_weighStepsTo_41 : decode cX3_weighStepsTo 41 = .ok (.iload 5, 2) := by decide +kernel
theorem dX3_weighStepsTo_43 : decode cX3_weighStepsTo 43 = .ok (.iaload, 1) := by decide +kernel
theorem dX3_weighStepsTo_44 : decode cX3_weighStepsTo 44 = .ok (.ixor, 1) := by decide +kernel
theorem dX3_weighStepsTo_45 : decode cX3_weighStepsTo 45 = .ok (.invokestatic 73, 3) := by decide +kernel
theorem dX3_weighStepsTo_48 : decode cX3_weighStepsTo 48 = .ok (.istore 6, 2) := by decide +kernel
theorem dX3_weighStepsTo_50 : decode cX3_weighStepsTo 50 = .ok (.aload_n 0, 1) := by decide +kernel
theorem dX3_weighStepsTo_51 : decode cX3_weighStepsTo 51 = .ok (.getfield 22, 3) := by decide +kernel
theorem dX3_weighStepsTo_54 : decode cX3_weighStepsTo 54 = .ok (.iload 6, 2) := by decide +kernel
theorem dX3_weighStepsTo_56 : decode cX3_weighStepsTo 56 = .ok (.dup2, 1) := by decide +kernel
theorem dX3_weighStepsTo_57 : decode cX3_weighStepsTo 57 = .ok (.laload, 1) := by decide +kernel
theorem dX3_weighStepsTo_58 : decode cX3_weighStepsTo 58 = .ok (.aload_n 0, 1) := by decide +kernel
theorem dX3_weighStepsTo_59 : decode cX3_weighStepsTo 59 = .ok (.getfield 22, 3) := by decide +kernel
theorem dX3_weighStepsTo_62 : decode cX3_weighStepsTo 62 = .ok (.iload_n 1, 1) := by decide +kernel
theorem dX3_weighStepsTo_63 : decode cX3_weighStepsTo 63 = .ok (.laload, 1) := by decide +kernel
theorem dX3_weighStepsTo_64 : decode cX3_weighStepsTo 64 = .ok (.ladd, 1) := by decide +kernel
theorem dX3_weighStepsTo_65 : decode cX3_weighStepsTo 65 = .ok (.lastore, 1) := by decide +kernel
theorem dX3_weighStepsTo_66 : decode cX3_weighStepsTo 66 = .ok (.aload_n 0, 1) := by decide +kernel
theorem dX3_weighStepsTo_67 : decode cX3_weighStepsTo 67 = .ok (.getfield 25, 3) := by decide +kernel
theorem dX3_weighStepsTo_70 : decode cX3_weighStepsTo 70 = .ok (.iload 5, 2) := by decide +kernel
theorem dX3_weighStepsTo_72 : decode cX3_weighStepsTo 72 = .ok (.aload_n 2, 1) := by decide +kernel
theorem dX3_weighStepsTo_73 : decode cX3_weighStepsTo 73 = .ok (.getfield 76, 3) := by decide +kernel
theorem dX3_weighStepsTo_76 : decode cX3_weighStepsTo 76 = .ok (.iload 6, 2) := by decide +kernel
theorem dX3_weighStepsTo_78 : decode cX3_weighStepsTo 78 = .ok (.laload, 1) := by decide +kernel
theorem dX3_weighStepsTo_79 : decode cX3_weighStepsTo 79 = .ok (.aload_n 0, 1) := by decide +kernel
theorem dX3_weighStepsTo_80 : decode cX3_weighStepsTo 80 = .ok (.getfield 22, 3) := by decide +kernel
theorem dX3_weighStepsTo_83 : decode cX3_weighStepsTo 83 = .ok (.iload_n 1, 1) := by decide +kernel
theorem dX3_weighStepsTo_84 : decode cX3_weighStepsTo 84 = .ok (.laload, 1) := by decide +kernel
theorem dX3_weighStepsTo_85 : decode cX3_weighStepsTo 85 = .ok (.lmul, 1) := by decide +kernel
theorem dX3_weighStepsTo_86 : decode cX3_weighStepsTo 86 = .ok (.lastore, 1) := by decide +kernel
theorem dX3_weighStepsTo_87 : decode cX3_weighStepsTo 87 = .ok (.iinc 5 1, 3) := by decide +kernel
theorem dX3_weighStepsTo_90 : decode cX3_weighStepsTo 90 = .ok (.goto (-64), 3) := by decide +kernel
theorem dX3_weighStepsTo_93 : decode cX3_weighStepsTo 93 = .ok (.iconst 0, 1) := by decide +kernel
theorem dX3_weighStepsTo_94 : decode cX3_weighStepsTo 94 = .ok (.istore 5, 2) := by decide +kernel
theorem dX3_weighStepsTo_96 : decode cX3_weighStepsTo 96 = .ok (.iload 5, 2) := by decide +kernel
theorem dX3_weighStepsTo_98 : decode cX3_weighStepsTo 98 = .ok (.aload_n 3, 1) := by decide +kernel
theorem dX3_weighStepsTo_99 : decode cX3_weighStepsTo 99 = .ok (.getfield 79, 3) := by decide +kernel
theorem dX3_weighStepsTo_102 : decode cX3_weighStepsTo 102 = .ok (.if_icmp .ge 59, 3) := by decide +kernel
theorem dX3_weighStepsTo_105 : decode cX3_weighStepsTo 105 = .ok (.iconst 0, 1) := by decide +kernel
theorem dX3_weighStepsTo_106 : decode cX3_weighStepsTo 106 = .ok (.istore 6, 2) := by decide +kernel
theorem dX3_weighStepsTo_108 : decode cX3_weighStepsTo 108 = .ok (.iload 6, 2) := by decide +kernel
theorem dX3_weighStepsTo_110 : decode cX3_weighStepsTo 110 = .ok (.aload_n 3, 1) := by decide +kernel
theorem dX3_weighStepsTo_111 : decode cX3_weighStepsTo 111 = .ok (.getfield 67, 3) := by decide +kernel
theorem dX3_weighStepsTo_114 : decode cX3_weighStepsTo 114 = .ok (.if_icmp .ge 41, 3) := by decide +kernel
theorem dX3_weighStepsTo_117 : decode cX3_weighStepsTo 117 = .ok (.iload 6, 2) := by decide +kernel
theorem dX3_weighStepsTo_119 : decode cX3_weighStepsTo 119 = .ok (.iload 5, 2) := by decide +kernel
theorem dX3_weighStepsTo_121 : decode cX3_weighStepsTo 121 = .ok (.ishr, 1) := by decide +kernel
theorem dX3_weighStepsTo_122 : decode cX3_weighStepsTo 122 = .ok (.iconst 1, 1) := by decide +kernel
theorem dX3_weighStepsTo_123 : decode cX3_weighStepsTo 123 = .ok (.iand, 1) := by decide +kernel
theorem dX3_weighStepsTo_124 : decode cX3_weighStepsTo 124 = .ok (.ifCond .ne 25, 3) := by decide +kernel
theorem dX3_weighStepsTo_127 : decode cX3_weighStepsTo 127 = .ok (.aload_n 0, 1) := by decide +kernel
theorem dX3_weighStepsTo_128 : decode cX3_weighStepsTo 128 = .ok (.getfield 25, 3) := by decide +kernel
theorem dX3_weighStepsTo_131 : decode cX3_weighStepsTo 131 = .ok (.iload 6, 2) := by decide +kernel
theorem dX3_weighStepsTo_133 : decode cX3_weighStepsTo 133 = .ok (.dup2, 1) := by decide +kernel
theorem dX3_weighStepsTo_134 : decode cX3_weighStepsTo 134 = .ok (.laload, 1) := by decide +kernel
theorem dX3_weighStepsTo_135 : decode cX3_weighStepsTo 135 = .ok (.aload_n 0, 1) := by decide +kernel
theorem dX3_weighStepsTo_136 : decode cX3_weighStepsTo 136 = .ok (.getfield 25, 3) := by decide +kernel
theorem dX3_weighStepsTo_139 : decode cX3_weighStepsTo 139 = .ok (.iload 6, 2) := by decide +kernel
theorem dX3_weighStepsTo_141 : decode cX3_weighStepsTo 141 = .ok (.iconst 1, 1) := by decide +kernel
theorem dX3_weighStepsTo_142 : decode cX3_weighStepsTo 142 = .ok (.iload 5, 2) := by decide +kernel
theorem dX3_weighStepsTo_144 : decode cX3_weighStepsTo 144 = .ok (.ishl, 1) := by decide +kernel
theorem dX3_weighStepsTo_145 : decode cX3_weighStepsTo 145 = .ok (.ior, 1) := by decide +kernel
theorem dX3_weighStepsTo_146 : decode cX3_weighStepsTo 146 = .ok (.laload, 1) := by decide +kernel
theorem dX3_weighStepsTo_147 : decode cX3_weighStepsTo 147 = .ok (.ladd, 1) := by decide +kernel
theorem dX3_weighStepsTo_148 : decode cX3_weighStepsTo 148 = .ok (.lastore, 1) := by decide +kernel
theorem dX3_weighStepsTo_149 : decode cX3_weighStepsTo 149 = .ok (.iinc 6 1, 3) := by decide +kernel
theorem dX3_weighStepsTo_152 : decode cX3_weighStepsTo 152 = .ok (.goto (-44), 3) := by decide +kernel
theorem dX3_weighStepsTo_155 : decode cX3_weighStepsTo 155 = .ok (.iinc 5 1, 3) := by decide +kernel
theorem dX3_weighStepsTo_158 : decode cX3_weighStepsTo 158 = .ok (.goto (-62), 3) := by decide +kernel
theorem dX3_weighStepsTo_161 : decode cX3_weighStepsTo 161 = .ok (.return_, 1) := by decide +kernel
theorem dX3_notePairs_0 : decode cX3_notePairs 0 = .ok (.iconst 0, 1) := by decide +kernel
theorem dX3_notePairs_1 : decode cX3_notePairs 1 = .ok (.istore 4, 2) := by decide +kernel
theorem dX3_notePairs_3 : decode cX3_notePairs 3 = .ok (.iload 4, 2) := by decide +kernel
theorem dX3_notePairs_5 : decode cX3_notePairs 5 = .ok (.aload_n 2, 1) := by decide +kernel
theorem dX3_notePairs_6 : decode cX3_notePairs 6 = .ok (.getfield 79, 3) := by decide +kernel
theorem dX3_notePairs_9 : decode cX3_notePairs 9 = .ok (.if_icmp .ge 120, 3) := by decide +kernel
theorem dX3_notePairs_12 : decode cX3_notePairs 12 = .ok (.bipush 12, 2) := by decide +kernel
theorem dX3_notePairs_14 : decode cX3_notePairs 14 = .ok (.aload_n 2, 1) := by decide +kernel
theorem dX3_notePairs_15 : decode cX3_notePairs 15 = .ok (.getfield 82, 3) := by decide +kernel
theorem dX3_notePairs_18 : decode cX3_notePairs 18 = .ok (.iload 4, 2) := by decide +kernel
theorem dX3_notePairs_20 : decode cX3_notePairs 20 = .ok (.iaload, 1) := by decide +kernel
theorem dX3_notePairs_21 : decode cX3_notePairs 21 = .ok (.imul, 1) := by decide +kernel
theorem dX3_notePairs_22 : decode cX3_notePairs 22 = .ok (.istore 5, 2) := by decide +kernel
theorem dX3_notePairs_24 : decode cX3_notePairs 24 = .ok (.iconst 0, 1) := by decide +kernel
theorem dX3_notePairs_25 : decode cX3_notePairs 25 = .ok (.istore 6, 2) := by decide +kernel
theorem dX3_notePairs_27 : decode cX3_notePairs 27 = .ok (.iload 6, 2) := by decide +kernel
theorem dX3_notePairs_29 : decode cX3_notePairs 29 = .ok (.iload_n 3, 1) := by decide +kernel
theorem dX3_notePairs_30 : decode cX3_notePairs 30 = .ok (.if_icmp .ge 40, 3) := by decide +kernel
theorem dX3_notePairs_33 : decode cX3_notePairs 33 = .ok (.iload_n 1, 1) := by decide +kernel
theorem dX3_notePairs_34 : decode cX3_notePairs 34 = .ok (.iload 6, 2) := by decide +kernel
theorem dX3_notePairs_36 : decode cX3_notePairs 36 = .ok (.ishr, 1) := by decide +kernel
theorem dX3_notePairs_37 : decode cX3_notePairs 37 = .ok (.iconst 1, 1) := by decide +kernel
theorem dX3_notePairs_38 : decode cX3_notePairs 38 = .ok (.iand, 1) := by decide +kernel
theorem dX3_notePairs_39 : decode cX3_notePairs 39 = .ok (.ifCond .ne 25, 3) := by decide +kernel
theorem dX3_notePairs_42 : decode cX3_notePairs 42 = .ok (.aload_n 0, 1) := by decide +kernel
theorem dX3_notePairs_43 : decode cX3_notePairs 43 = .ok (.getfield 15, 3) := by decide +kernel
theorem dX3_notePairs_46 : decode cX3_notePairs 46 = .ok (.iload 5, 2) := by decide +kernel
theorem dX3_notePairs_48 : decode cX3_notePairs 48 = .ok (.iload 6, 2) := by decide +kernel
theorem dX3_notePairs_50 : decode cX3_notePairs 50 = .ok (.iadd, 1) := by decide +kernel
theorem dX3_notePairs_51 : decode cX3_notePairs 51 = .ok (.dup2, 1) := by decide +kernel
theorem dX3_notePairs_52 : decode cX3_notePairs 52 = .ok (.laload, 1) := by decide +kernel
theorem dX3_notePairs_53 : decode cX3_notePairs 53 = .ok (.aload_n 0, 1) := by decide +kernel
theorem dX3_notePairs_54 : decode cX3_notePairs 54 = .ok (.getfield 25, 3) := by decide +kernel
theorem dX3_notePairs_57 : decode cX3_notePairs 57 = .ok (.iconst 1, 1) := by decide +kernel
theorem dX3_notePairs_58 : decode cX3_notePairs 58 = .ok (.iload 4, 2) := by decide +kernel
theorem dX3_notePairs_60 : decode cX3_notePairs 60 = .ok (.ishl, 1) := by decide +kernel
theorem dX3_notePairs_61 : decode cX3_notePairs 61 = .ok (.laload, 1) := by decide +kernel
theorem dX3_notePairs_62 : decode cX3_notePairs 62 = .ok (.ladd, 1) := by decide +kernel
theorem dX3_notePairs_63 : decode cX3_notePairs 63 = .ok (.lastore, 1) := by decide +kernel
theorem dX3_notePairs_64 : decode cX3_notePairs 64 = .ok (.iinc 6 1, 3) := by decide +kernel
theorem dX3_notePairs_67 : decode cX3_notePairs 67 = .ok (.goto (-40), 3) := by decide +kernel
theorem dX3_notePairs_70 : decode cX3_notePairs 70 = .ok (.iload 4, 2) := by decide +kernel
theorem dX3_notePairs_72 : decode cX3_notePairs 72 = .ok (.iconst 1, 1) := by decide +kernel
theorem dX3_notePairs_73 : decode cX3_notePairs 73 = .ok (.iadd, 1) := by decide +kernel
theorem dX3_notePairs_74 : decode cX3_notePairs 74 = .ok (.istore 6, 2) := by decide +kernel
theorem dX3_notePairs_76 : decode cX3_notePairs 76 = .ok (.iload 6, 2) := by decide +kernel
theorem dX3_notePairs_78 : decode cX3_notePairs 78 = .ok (.aload_n 2, 1) := by decide +kernel
theorem dX3_notePairs_79 : decode cX3_notePairs 79 = .ok (.getfield 79, 3) := by decide +kernel
theorem dX3_notePairs_82 : decode cX3_notePairs 82 = .ok (.if_icmp .ge 41, 3) := by decide +kernel
theorem dX3_notePairs_85 : decode cX3_notePairs 85 = .ok (.aload_n 0, 1) := by decide +kernel
theorem dX3_notePairs_86 : decode cX3_notePairs 86 = .ok (.getfield 19, 3) := by decide +kernel
theorem dX3_notePairs_89 : decode cX3_notePairs 89 = .ok (.iload 5, 2) := by decide +kernel
theorem dX3_notePairs_91 : decode cX3_notePairs 91 = .ok (.aload_n 2, 1) := by decide +kernel
theorem dX3_notePairs_92 : decode cX3_notePairs 92 = .ok (.getfield 82, 3) := by decide +kernel
theorem dX3_notePairs_95 : decode cX3_notePairs 95 = .ok (.iload 6, 2) := by decide +kernel
theorem dX3_notePairs_97 : decode cX3_notePairs 97 = .ok (.iaload, 1) := by decide +kernel
theorem dX3_notePairs_98 : decode cX3_notePairs 98 = .ok (.iadd, 1) := by decide +kernel
theorem dX3_notePairs_99 : decode cX3_notePairs 99 = .ok (.dup2, 1) := by decide +kernel
theorem dX3_notePairs_100 : decode cX3_notePairs 100 = .ok (.laload, 1) := by decide +kernel
theorem dX3_notePairs_101 : decode cX3_notePairs 101 = .ok (.aload_n 0, 1) := by decide +kernel
theorem dX3_notePairs_102 : decode cX3_notePairs 102 = .ok (.getfield 25, 3) := by decide +kernel
theorem dX3_notePairs_105 : decode cX3_notePairs 105 = .ok (.iconst 1, 1) := by decide +kernel
theorem dX3_notePairs_106 : decode cX3_notePairs 106 = .ok (.iload 4, 2) := by decide +kernel
theorem dX3_notePairs_108 : decode cX3_notePairs 108 = .ok (.ishl, 1) := by decide +kernel
theorem dX3_notePairs_109 : decode cX3_notePairs 109 = .ok (.iconst 1, 1) := by decide +kernel
theorem dX3_notePairs_110 : decode cX3_notePairs 110 = .ok (.iload 6, 2) := by decide +kernel
theorem dX3_notePairs_112 : decode cX3_notePairs 112 = .ok (.ishl, 1) := by decide +kernel
theorem dX3_notePairs_113 : decode cX3_notePairs 113 = .ok (.ior, 1) := by decide +kernel
theorem dX3_notePairs_114 : decode cX3_notePairs 114 = .ok (.laload, 1) := by decide +kernel
theorem dX3_notePairs_115 : decode cX3_notePairs 115 = .ok (.ladd, 1) := by decide +kernel
theorem dX3_notePairs_116 : decode cX3_notePairs 116 = .ok (.lastore, 1) := by decide +kernel
theorem dX3_notePairs_117 : decode cX3_notePairs 117 = .ok (.iinc 6 1, 3) := by decide +kernel
theorem dX3_notePairs_120 : decode cX3_notePairs 120 = .ok (.goto (-44), 3) := by decide +kernel
theorem dX3_notePairs_123 : decode cX3_notePairs 123 = .ok (.iinc 4 1, 3) := by decide +kernel
theorem dX3_notePairs_126 : decode cX3_notePairs 126 = .ok (.goto (-123), 3) := by decide +kernel
theorem dX3_notePairs_129 : decode cX3_notePairs 129 = .ok (.return_, 1) := by decide +kernel
set_option maxRecDepth 20000 in
theorem ggX3_findFirst_X3_leastBehind : GoodIn wsX3_findFirst wsX3_leastBehind := goodIn_r _ [8, 9, 10, 11, 12, 13, 14, 15, 16, 17, 18, 19, 20, 21, 22, 23, 24, 25, 33, 34, 35, 36, 37, 38, 39, 26, 27, 28, 29, 30, 31, 32] (by decide +kernel) (by decide +kernel)
set_option maxRecDepth 20000 in
theorem gX3_findFirst_X3_leastBehind : GoodIn wsX3_findFirst (wsV RX3 88 RX3 yX3_leastBehind wsX3_leastBehind) := goodIn_app (goodIn_of _ (by decide +kernel)) ggX3_findFirst_X3_leastBehind
theorem dX3_findFirst_0 : decode cX3_findFirst 0 = .ok (.iconst 1, 1) := by decide +kernel
theorem dX3_findFirst_1 : decode cX3_findFirst 1 = .ok (.iconst 2, 1) := by decide +kernel
theorem dX3_findFirst_2 : decode cX3_findFirst 2 = .ok (.iload_n 3, 1) := by decide +kernel
theorem dX3_findFirst_3 : decode cX3_findFirst 3 = .ok (.imul, 1) := by decide +kernel
theorem dX3_findFirst_4 : decode cX3_findFirst 4 = .ok (.ishl, 1) := by decide +kernel
theorem dX3_findFirst_5 : decode cX3_findFirst 5 = .ok (.iconst 1, 1) := by decide +kernel
theorem dX3_findFirst_6 : decode cX3_findFirst 6 = .ok (.isub, 1) := by decide +kernel
theorem dX3_findFirst_7 : decode cX3_findFirst 7 = .ok (.istore 4, 2) := by decide +kernel
theorem dX3_findFirst_9 : decode cX3_findFirst 9 = .ok (.iconst 0, 1) := by decide +kernel
theorem dX3_findFirst_10 : decode cX3_findFirst 10 = .ok (.istore 5, 2) := by decide +kernel
theorem dX3_findFirst_12 : decode cX3_findFirst 12 = .ok (.aload_n 0, 1) := by decide +kernel
theorem dX3_findFirst_13 : decode cX3_findFirst 13 = .ok (.iconst 0, 1) := by decide +kernel
theorem dX3_findFirst_14 : decode cX3_findFirst 14 = .ok (.putfield 85, 3) := by decide +kernel
theorem dX3_findFirst_17 : decode cX3_findFirst 17 = .ok (.iconst 0, 1) := by decide +kernel
theorem dX3_findFirst_18 : decode cX3_findFirst 18 = .ok (.istore 6, 2) := by decide +kernel
theorem dX3_findFirst_20 : decode cX3_findFirst 20 = .ok (.iload 6, 2) := by decide +kernel
theorem dX3_findFirst_22 : decode cX3_findFirst 22 = .ok (.bipush 12, 2) := by decide +kernel
theorem dX3_findFirst_24 : decode cX3_findFirst 24 = .ok (.if_icmp .ge 88, 3) := by decide +kernel
theorem dX3_findFirst_27 : decode cX3_findFirst 27 = .ok (.iload 5, 2) := by decide +kernel
theorem dX3_findFirst_29 : decode cX3_findFirst 29 = .ok (.iload 4, 2) := by decide +kernel
theorem dX3_findFirst_31 : decode cX3_findFirst 31 = .ok (.if_icmp .eq 81, 3) := by decide +kernel
theorem dX3_findFirst_34 : decode cX3_findFirst 34 = .ok (.aload_n 0, 1) := by decide +kernel
theorem dX3_findFirst_35 : decode cX3_findFirst 35 = .ok (.getfield 34, 3) := by decide +kernel
theorem dX3_findFirst_38 : decode cX3_findFirst 38 = .ok (.lconst 0, 1) := by decide +kernel
theorem dX3_findFirst_39 : decode cX3_findFirst 39 = .ok (.lcmp, 1) := by decide +kernel
theorem dX3_findFirst_40 : decode cX3_findFirst 40 = .ok (.ifCond .le 72, 3) := by decide +kernel
theorem dX3_findFirst_43 : decode cX3_findFirst 43 = .ok (.aload_n 0, 1) := by decide +kernel
theorem dX3_findFirst_44 : decode cX3_findFirst 44 = .ok (.iload 5, 2) := by decide +kernel
theorem dX3_findFirst_46 : decode cX3_findFirst 46 = .ok (.iload 4, 2) := by decide +kernel
theorem dX3_findFirst_48 : decode cX3_findFirst 48 = .ok (.aload_n 1, 1) := by decide +kernel
theorem dX3_findFirst_49 : decode cX3_findFirst 49 = .ok (.aload_n 2, 1) := by decide +kernel
theorem dX3_findFirst_50 : decode cX3_findFirst 50 = .ok (.invokevirtual 88, 3) := by decide +kernel
theorem dX3_findFirst_53 : decode cX3_findFirst 53 = .ok (.istore 7, 2) := by decide +kernel
theorem dX3_findFirst_55 : decode cX3_findFirst 55 = .ok (.iconst 0, 1) := by decide +kernel
theorem dX3_findFirst_56 : decode cX3_findFirst 56 = .ok (.istore 8, 2) := by decide +kernel
theorem dX3_findFirst_58 : decode cX3_findFirst 58 = .ok (.iload 8, 2) := by decide +kernel
theorem dX3_findFirst_60 : decode cX3_findFirst 60 = .ok (.bipush 12, 2) := by decide +kernel
theorem dX3_findFirst_62 : decode cX3_findFirst 62 = .ok (.if_icmp .ge 29, 3) := by decide +kernel
theorem dX3_findFirst_65 : decode cX3_findFirst 65 = .ok (.iload 7, 2) := by decide +kernel
theorem dX3_findFirst_67 : decode cX3_findFirst 67 = .ok (.iload 8, 2) := by decide +kernel
theorem dX3_findFirst_69 : decode cX3_findFirst 69 = .ok (.ishr, 1) := by decide +kernel
theorem dX3_findFirst_70 : decode cX3_findFirst 70 = .ok (.iconst 1, 1) := by decide +kernel
theorem dX3_findFirst_71 : decode cX3_findFirst 71 = .ok (.iand, 1) := by decide +kernel
theorem dX3_findFirst_72 : decode cX3_findFirst 72 = .ok (.iconst 1, 1) := by decide +kernel
theorem dX3_findFirst_73 : decode cX3_findFirst 73 = .ok (.if_icmp .ne 12, 3) := by decide +kernel
theorem dX3_findFirst_76 : decode cX3_findFirst 76 = .ok (.aload_n 0, 1) := by decide +kernel
theorem dX3_findFirst_77 : decode cX3_findFirst 77 = .ok (.getfield 9, 3) := by decide +kernel
theorem dX3_findFirst_80 : decode cX3_findFirst 80 = .ok (.iload 8, 2) := by decide +kernel
theorem dX3_findFirst_82 : decode cX3_findFirst 82 = .ok (.iload 6, 2) := by decide +kernel
theorem dX3_findFirst_84 : decode cX3_findFirst 84 = .ok (.iastore, 1) := by decide +kernel
theorem dX3_findFirst_85 : decode cX3_findFirst 85 = .ok (.iinc 8 1, 3) := by decide +kernel
theorem dX3_findFirst_88 : decode cX3_findFirst 88 = .ok (.goto (-30), 3) := by decide +kernel
theorem dX3_findFirst_91 : decode cX3_findFirst 91 = .ok (.iload 5, 2) := by decide +kernel
theorem dX3_findFirst_93 : decode cX3_findFirst 93 = .ok (.iload 7, 2) := by decide +kernel
theorem dX3_findFirst_95 : decode cX3_findFirst 95 = .ok (.ior, 1) := by decide +kernel
theorem dX3_findFirst_96 : decode cX3_findFirst 96 = .ok (.istore 5, 2) := by decide +kernel
theorem dX3_findFirst_98 : decode cX3_findFirst 98 = .ok (.aload_n 0, 1) := by decide +kernel
theorem dX3_findFirst_99 : decode cX3_findFirst 99 = .ok (.iload 6, 2) := by decide +kernel
theorem dX3_findFirst_101 : decode cX3_findFirst 101 = .ok (.iconst 1, 1) := by decide +kernel
theorem dX3_findFirst_102 : decode cX3_findFirst 102 = .ok (.iadd, 1) := by decide +kernel
theorem dX3_findFirst_103 : decode cX3_findFirst 103 = .ok (.putfield 85, 3) := by decide +kernel
theorem dX3_findFirst_106 : decode cX3_findFirst 106 = .ok (.iinc 6 1, 3) := by decide +kernel
theorem dX3_findFirst_109 : decode cX3_findFirst 109 = .ok (.goto (-89), 3) := by decide +kernel
theorem dX3_findFirst_112 : decode cX3_findFirst 112 = .ok (.return_, 1) := by decide +kernel
set_option maxRecDepth 20000 in
theorem ggX3_leastBehind_X7_take : GoodIn wsX3_leastBehind wsX7_take := goodIn_r _ [9, 10, 11, 12, 13, 18, 19, 20, 21] (by decide +kernel) (by decide +kernel)
set_option maxRecDepth 20000 in
theorem gX3_leastBehind_X7_take : GoodIn wsX3_leastBehind (wsV RX3 61 RX7 yX7_take wsX7_take) := goodIn_app (goodIn_of _ (by decide +kernel)) ggX3_leastBehind_X7_take
set_option maxRecDepth 20000 in
theorem ggX3_leastBehind_X10_placeOf : GoodIn wsX3_leastBehind wsX10_placeOf := goodIn_r _ [16, 17] (by decide +kernel) (by decide +kernel)
set_option maxRecDepth 20000 in
theorem gX3_leastBehind_X10_placeOf_n73 : GoodIn wsX3_leastBehind (wsX10_placeOf) := ggX3_leastBehind_X10_placeOf
theorem dX3_leastBehind_0 : decode cX3_leastBehind 0 = .ok (.sipush 1365, 3) := by decide +kernel
theorem dX3_leastBehind_3 : decode cX3_leastBehind 3 = .ok (.iload_n 2, 1) := by decide +kernel
theorem dX3_leastBehind_4 : decode cX3_leastBehind 4 = .ok (.iand, 1) := by decide +kernel
theorem dX3_leastBehind_5 : decode cX3_leastBehind 5 = .ok (.iload_n 1, 1) := by decide +kernel
theorem dX3_leastBehind_6 : decode cX3_leastBehind 6 = .ok (.iconst (-1), 1) := by decide +kernel
theorem dX3_leastBehind_7 : decode cX3_leastBehind 7 = .ok (.ixor, 1) := by decide +kernel
theorem dX3_leastBehind_8 : decode cX3_leastBehind 8 = .ok (.iand, 1) := by decide +kernel
theorem dX3_leastBehind_9 : decode cX3_leastBehind 9 = .ok (.istore 5, 2) := by decide +kernel
theorem dX3_leastBehind_11 : decode cX3_leastBehind 11 = .ok (.sipush 1365, 3) := by decide +kernel
theorem dX3_leastBehind_14 : decode cX3_leastBehind 14 = .ok (.iload_n 1, 1) := by decide +kernel
theorem dX3_leastBehind_15 : decode cX3_leastBehind 15 = .ok (.iand, 1) := by decide +kernel
theorem dX3_leastBehind_16 : decode cX3_leastBehind 16 = .ok (.iconst 1, 1) := by decide +kernel
theorem dX3_leastBehind_17 : decode cX3_leastBehind 17 = .ok (.ishl, 1) := by decide +kernel
theorem dX3_leastBehind_18 : decode cX3_leastBehind 18 = .ok (.iload_n 1, 1) := by decide +kernel
theorem dX3_leastBehind_19 : decode cX3_leastBehind 19 = .ok (.iconst (-1), 1) := by decide +kernel
theorem dX3_leastBehind_20 : decode cX3_leastBehind 20 = .ok (.ixor, 1) := by decide +kernel
theorem dX3_leastBehind_21 : decode cX3_leastBehind 21 = .ok (.iand, 1) := by decide +kernel
theorem dX3_leastBehind_22 : decode cX3_leastBehind 22 = .ok (.istore 6, 2) := by decide +kernel
theorem dX3_leastBehind_24 : decode cX3_leastBehind 24 = .ok (.aload 4, 2) := by decide +kernel
theorem dX3_leastBehind_26 : decode cX3_leastBehind 26 = .ok (.iload 5, 2) := by decide +kernel
theorem dX3_leastBehind_28 : decode cX3_leastBehind 28 = .ok (.iload 6, 2) := by decide +kernel
theorem dX3_leastBehind_30 : decode cX3_leastBehind 30 = .ok (.ior, 1) := by decide +kernel
theorem dX3_leastBehind_31 : decode cX3_leastBehind 31 = .ok (.invokevirtual 61, 3) := by decide +kernel
theorem dX3_leastBehind_34 : decode cX3_leastBehind 34 = .ok (.iconst 1, 1) := by decide +kernel
theorem dX3_leastBehind_35 : decode cX3_leastBehind 35 = .ok (.istore 7, 2) := by decide +kernel
theorem dX3_leastBehind_37 : decode cX3_leastBehind 37 = .ok (.iload 7, 2) := by decide +kernel
theorem dX3_leastBehind_39 : decode cX3_leastBehind 39 = .ok (.aload 4, 2) := by decide +kernel
theorem dX3_leastBehind_41 : decode cX3_leastBehind 41 = .ok (.getfield 67, 3) := by decide +kernel
theorem dX3_leastBehind_44 : decode cX3_leastBehind 44 = .ok (.if_icmp .ge 69, 3) := by decide +kernel
theorem dX3_leastBehind_47 : decode cX3_leastBehind 47 = .ok (.aload 4, 2) := by decide +kernel
theorem dX3_leastBehind_49 : decode cX3_leastBehind 49 = .ok (.getfield 70, 3) := by decide +kernel
theorem dX3_leastBehind_52 : decode cX3_leastBehind 52 = .ok (.iload 7, 2) := by decide +kernel
theorem dX3_leastBehind_54 : decode cX3_leastBehind 54 = .ok (.iaload, 1) := by decide +kernel
theorem dX3_leastBehind_55 : decode cX3_leastBehind 55 = .ok (.istore 8, 2) := by decide +kernel
theorem dX3_leastBehind_57 : decode cX3_leastBehind 57 = .ok (.iload_n 1, 1) := by decide +kernel
theorem dX3_leastBehind_58 : decode cX3_leastBehind 58 = .ok (.iload 8, 2) := by decide +kernel
theorem dX3_leastBehind_60 : decode cX3_leastBehind 60 = .ok (.ior, 1) := by decide +kernel
theorem dX3_leastBehind_61 : decode cX3_leastBehind 61 = .ok (.invokestatic 73, 3) := by decide +kernel
theorem dX3_leastBehind_64 : decode cX3_leastBehind 64 = .ok (.istore 9, 2) := by decide +kernel
theorem dX3_leastBehind_66 : decode cX3_leastBehind 66 = .ok (.aload_n 3, 1) := by decide +kernel
theorem dX3_leastBehind_67 : decode cX3_leastBehind 67 = .ok (.getfield 42, 3) := by decide +kernel
theorem dX3_leastBehind_70 : decode cX3_leastBehind 70 = .ok (.iload 9, 2) := by decide +kernel
theorem dX3_leastBehind_72 : decode cX3_leastBehind 72 = .ok (.iaload, 1) := by decide +kernel
theorem dX3_leastBehind_73 : decode cX3_leastBehind 73 = .ok (.iconst (-1), 1) := by decide +kernel
theorem dX3_leastBehind_74 : decode cX3_leastBehind 74 = .ok (.if_icmp .eq 33, 3) := by decide +kernel
theorem dX3_leastBehind_77 : decode cX3_leastBehind 77 = .ok (.iload 8, 2) := by decide +kernel
theorem dX3_leastBehind_79 : decode cX3_leastBehind 79 = .ok (.aload_n 3, 1) := by decide +kernel
theorem dX3_leastBehind_80 : decode cX3_leastBehind 80 = .ok (.getfield 42, 3) := by decide +kernel
theorem dX3_leastBehind_83 : decode cX3_leastBehind 83 = .ok (.iload 9, 2) := by decide +kernel
theorem dX3_leastBehind_85 : decode cX3_leastBehind 85 = .ok (.iaload, 1) := by decide +kernel
theorem dX3_leastBehind_86 : decode cX3_leastBehind 86 = .ok (.iconst (-1), 1) := by decide +kernel
theorem dX3_leastBehind_87 : decode cX3_leastBehind 87 = .ok (.ixor, 1) := by decide +kernel
theorem dX3_leastBehind_88 : decode cX3_leastBehind 88 = .ok (.iand, 1) := by decide +kernel
theorem dX3_leastBehind_89 : decode cX3_leastBehind 89 = .ok (.ifCond .ne 18, 3) := by decide +kernel
theorem dX3_leastBehind_92 : decode cX3_leastBehind 92 = .ok (.aload_n 0, 1) := by decide +kernel
theorem dX3_leastBehind_93 : decode cX3_leastBehind 93 = .ok (.getfield 22, 3) := by decide +kernel
theorem dX3_leastBehind_96 : decode cX3_leastBehind 96 = .ok (.iload 9, 2) := by decide +kernel
theorem dX3_leastBehind_98 : decode cX3_leastBehind 98 = .ok (.laload, 1) := by decide +kernel
theorem dX3_leastBehind_99 : decode cX3_leastBehind 99 = .ok (.lconst 0, 1) := by decide +kernel
theorem dX3_leastBehind_100 : decode cX3_leastBehind 100 = .ok (.lcmp, 1) := by decide +kernel
theorem dX3_leastBehind_101 : decode cX3_leastBehind 101 = .ok (.ifCond .le 6, 3) := by decide +kernel
theorem dX3_leastBehind_104 : decode cX3_leastBehind 104 = .ok (.iload 8, 2) := by decide +kernel
theorem dX3_leastBehind_106 : decode cX3_leastBehind 106 = .ok (.ireturn, 1) := by decide +kernel
theorem dX3_leastBehind_107 : decode cX3_leastBehind 107 = .ok (.iinc 7 1, 3) := by decide +kernel
theorem dX3_leastBehind_110 : decode cX3_leastBehind 110 = .ok (.goto (-73), 3) := by decide +kernel
theorem dX3_leastBehind_113 : decode cX3_leastBehind 113 = .ok (.iconst 0, 1) := by decide +kernel
theorem dX3_leastBehind_114 : decode cX3_leastBehind 114 = .ok (.ireturn, 1) := by decide +kernel
theorem dX3_lastingBehind_0 : decode cX3_lastingBehind 0 = .ok (.iconst 0, 1) := by decide +kernel
theorem dX3_lastingBehind_1 : decode cX3_lastingBehind 1 = .ok (.istore_n 3, 1) := by decide +kernel
theorem dX3_lastingBehind_2 : decode cX3_lastingBehind 2 = .ok (.iconst 0, 1) := by decide +kernel
theorem dX3_lastingBehind_3 : decode cX3_lastingBehind 3 = .ok (.istore 4, 2) := by decide +kernel
theorem dX3_lastingBehind_5 : decode cX3_lastingBehind 5 = .ok (.iload 4, 2) := by decide +kernel
theorem dX3_lastingBehind_7 : decode cX3_lastingBehind 7 = .ok (.iload_n 2, 1) := by decide +kernel
theorem dX3_lastingBehind_8 : decode cX3_lastingBehind 8 = .ok (.if_icmp .ge 40, 3) := by decide +kernel
theorem dX3_lastingBehind_11 : decode cX3_lastingBehind 11 = .ok (.aload_n 0, 1) := by decide +kernel
theorem dX3_lastingBehind_12 : decode cX3_lastingBehind 12 = .ok (.getfield 9, 3) := by decide +kernel
theorem dX3_lastingBehind_15 : decode cX3_lastingBehind 15 = .ok (.iconst 2, 1) := by decide +kernel
theorem dX3_lastingBehind_16 : decode cX3_lastingBehind 16 = .ok (.iload 4, 2) := by decide +kernel
theorem dX3_lastingBehind_18 : decode cX3_lastingBehind 18 = .ok (.imul, 1) := by decide +kernel
theorem dX3_lastingBehind_19 : decode cX3_lastingBehind 19 = .ok (.iaload, 1) := by decide +kernel
theorem dX3_lastingBehind_20 : decode cX3_lastingBehind 20 = .ok (.iload_n 1, 1) := by decide +kernel
theorem dX3_lastingBehind_21 : decode cX3_lastingBehind 21 = .ok (.if_icmp .gt 21, 3) := by decide +kernel
theorem dX3_lastingBehind_24 : decode cX3_lastingBehind 24 = .ok (.iload_n 1, 1) := by decide +kernel
theorem dX3_lastingBehind_25 : decode cX3_lastingBehind 25 = .ok (.aload_n 0, 1) := by decide +kernel
theorem dX3_lastingBehind_26 : decode cX3_lastingBehind 26 = .ok (.getfield 9, 3) := by decide +kernel
theorem dX3_lastingBehind_29 : decode cX3_lastingBehind 29 = .ok (.iconst 2, 1) := by decide +kernel
theorem dX3_lastingBehind_30 : decode cX3_lastingBehind 30 = .ok (.iload 4, 2) := by decide +kernel
theorem dX3_lastingBehind_32 : decode cX3_lastingBehind 32 = .ok (.imul, 1) := by decide +kernel
theorem dX3_lastingBehind_33 : decode cX3_lastingBehind 33 = .ok (.iconst 1, 1) := by decide +kernel
theorem dX3_lastingBehind_34 : decode cX3_lastingBehind 34 = .ok (.iadd, 1) := by decide +kernel
theorem dX3_lastingBehind_35 : decode cX3_lastingBehind 35 = .ok (.iaload, 1) := by decide +kernel
theorem dX3_lastingBehind_36 : decode cX3_lastingBehind 36 = .ok (.if_icmp .ge 6, 3) := by decide +kernel
theorem dX3_lastingBehind_39 : decode cX3_lastingBehind 39 = .ok (.iinc 3 1, 3) := by decide +kernel
theorem dX3_lastingBehind_42 : decode cX3_lastingBehind 42 = .ok (.iinc 4 1, 3) := by decide +kernel
theorem dX3_lastingBehind_45 : decode cX3_lastingBehind 45 = .ok (.goto (-40), 3) := by decide +kernel
theorem dX3_lastingBehind_48 : decode cX3_lastingBehind 48 = .ok (.iload_n 3, 1) := by decide +kernel
theorem dX3_lastingBehind_49 : decode cX3_lastingBehind 49 = .ok (.ireturn, 1) := by decide +kernel
theorem dX3_aheadOf_0 : decode cX3_aheadOf 0 = .ok (.aload_n 0, 1) := by decide +kernel
theorem dX3_aheadOf_1 : decode cX3_aheadOf 1 = .ok (.getfield 15, 3) := by decide +kernel
theorem dX3_aheadOf_4 : decode cX3_aheadOf 4 = .ok (.bipush 12, 2) := by decide +kernel
theorem dX3_aheadOf_6 : decode cX3_aheadOf 6 = .ok (.iload_n 1, 1) := by decide +kernel
theorem dX3_aheadOf_7 : decode cX3_aheadOf 7 = .ok (.imul, 1) := by decide +kernel
theorem dX3_aheadOf_8 : decode cX3_aheadOf 8 = .ok (.iload_n 2, 1) := by decide +kernel
theorem dX3_aheadOf_9 : decode cX3_aheadOf 9 = .ok (.iadd, 1) := by decide +kernel
theorem dX3_aheadOf_10 : decode cX3_aheadOf 10 = .ok (.laload, 1) := by decide +kernel
theorem dX3_aheadOf_11 : decode cX3_aheadOf 11 = .ok (.lreturn, 1) := by decide +kernel
theorem dX3_alikeWith_0 : decode cX3_alikeWith 0 = .ok (.aload_n 0, 1) := by decide +kernel
theorem dX3_alikeWith_1 : decode cX3_alikeWith 1 = .ok (.getfield 19, 3) := by decide +kernel
theorem dX3_alikeWith_4 : decode cX3_alikeWith 4 = .ok (.bipush 12, 2) := by decide +kernel
theorem dX3_alikeWith_6 : decode cX3_alikeWith 6 = .ok (.iload_n 1, 1) := by decide +kernel
theorem dX3_alikeWith_7 : decode cX3_alikeWith 7 = .ok (.iload_n 2, 1) := by decide +kernel
theorem dX3_alikeWith_8 : decode cX3_alikeWith 8 = .ok (.invokestatic 92, 3) := by decide +kernel
theorem dX3_alikeWith_11 : decode cX3_alikeWith 11 = .ok (.imul, 1) := by decide +kernel
theorem dX3_alikeWith_12 : decode cX3_alikeWith 12 = .ok (.iload_n 1, 1) := by decide +kernel
theorem dX3_alikeWith_13 : decode cX3_alikeWith 13 = .ok (.iload_n 2, 1) := by decide +kernel
theorem dX3_alikeWith_14 : decode cX3_alikeWith 14 = .ok (.invokestatic 98, 3) := by decide +kernel
theorem dX3_alikeWith_17 : decode cX3_alikeWith 17 = .ok (.iadd, 1) := by decide +kernel
theorem dX3_alikeWith_18 : decode cX3_alikeWith 18 = .ok (.laload, 1) := by decide +kernel
theorem dX3_alikeWith_19 : decode cX3_alikeWith 19 = .ok (.lreturn, 1) := by decide +kernel
set_option maxRecDepth 20000 in
theorem ggX3_relation_X3_aheadOf : GoodIn wsX3_relation wsX3_aheadOf := goodIn_r _ [5, 6, 19, 20, 21, 22, 23, 24, 25] (by decide +kernel) (by decide +kernel)
set_option maxRecDepth 20000 in
theorem gX3_relation_X3_aheadOf : GoodIn wsX3_relation (wsV RX3 101 RX3 yX3_aheadOf wsX3_aheadOf) := goodIn_app (goodIn_of _ (by decide +kernel)) ggX3_relation_X3_aheadOf
set_option maxRecDepth 20000 in
theorem ggX3_relation_X3_alikeWith : GoodIn wsX3_relation wsX3_alikeWith := goodIn_r _ [10, 11, 12, 13, 14, 15, 16, 17, 18, 19, 20, 21, 22, 23, 24, 25] (by decide +kernel) (by decide +kernel)
set_option maxRecDepth 20000 in
theorem gX3_relation_X3_alikeWith : GoodIn wsX3_relation (wsV RX3 105 RX3 yX3_alikeWith wsX3_alikeWith) := goodIn_app (goodIn_of _ (by decide +kernel)) ggX3_relation_X3_alikeWith
theorem dX3_relation_0 : decode cX3_relation 0 = .ok (.aload_n 0, 1) := by decide +kernel
theorem dX3_relation_1 : decode cX3_relation 1 = .ok (.iload_n 1, 1) := by decide +kernel
theorem dX3_relation_2 : decode cX3_relation 2 = .ok (.iload_n 2, 1) := by decide +kernel
theorem dX3_relation_3 : decode cX3_relation 3 = .ok (.invokevirtual 101, 3) := by decide +kernel
theorem dX3_relation_6 : decode cX3_relation 6 = .ok (.lconst 0, 1) := by decide +kernel
theorem dX3_relation_7 : decode cX3_relation 7 = .ok (.lcmp, 1) := by decide +kernel
theorem dX3_relation_8 : decode cX3_relation 8 = .ok (.ifCond .le 7, 3) := by decide +kernel
theorem dX3_relation_11 : decode cX3_relation 11 = .ok (.iconst 1, 1) := by decide +kernel
theorem dX3_relation_12 : decode cX3_relation 12 = .ok (.goto 4, 3) := by decide +kernel
theorem dX3_relation_15 : decode cX3_relation 15 = .ok (.iconst 0, 1) := by decide +kernel
theorem dX3_relation_16 : decode cX3_relation 16 = .ok (.aload_n 0, 1) := by decide +kernel
theorem dX3_relation_17 : decode cX3_relation 17 = .ok (.iload_n 1, 1) := by decide +kernel
theorem dX3_relation_18 : decode cX3_relation 18 = .ok (.iload_n 2, 1) := by decide +kernel
theorem dX3_relation_19 : decode cX3_relation 19 = .ok (.invokevirtual 105, 3) := by decide +kernel
theorem dX3_relation_22 : decode cX3_relation 22 = .ok (.lconst 0, 1) := by decide +kernel
theorem dX3_relation_23 : decode cX3_relation 23 = .ok (.lcmp, 1) := by decide +kernel
theorem dX3_relation_24 : decode cX3_relation 24 = .ok (.ifCond .le 7, 3) := by decide +kernel
theorem dX3_relation_27 : decode cX3_relation 27 = .ok (.iconst 2, 1) := by decide +kernel
theorem dX3_relation_28 : decode cX3_relation 28 = .ok (.goto 4, 3) := by decide +kernel
theorem dX3_relation_31 : decode cX3_relation 31 = .ok (.iconst 0, 1) := by decide +kernel
theorem dX3_relation_32 : decode cX3_relation 32 = .ok (.ior, 1) := by decide +kernel
theorem dX3_relation_33 : decode cX3_relation 33 = .ok (.aload_n 0, 1) := by decide +kernel
theorem dX3_relation_34 : decode cX3_relation 34 = .ok (.iload_n 2, 1) := by decide +kernel
theorem dX3_relation_35 : decode cX3_relation 35 = .ok (.iload_n 1, 1) := by decide +kernel
theorem dX3_relation_36 : decode cX3_relation 36 = .ok (.invokevirtual 101, 3) := by decide +kernel
theorem dX3_relation_39 : decode cX3_relation 39 = .ok (.lconst 0, 1) := by decide +kernel
theorem dX3_relation_40 : decode cX3_relation 40 = .ok (.lcmp, 1) := by decide +kernel
theorem dX3_relation_41 : decode cX3_relation 41 = .ok (.ifCond .le 7, 3) := by decide +kernel
theorem dX3_relation_44 : decode cX3_relation 44 = .ok (.iconst 4, 1) := by decide +kernel
theorem dX3_relation_45 : decode cX3_relation 45 = .ok (.goto 4, 3) := by decide +kernel
theorem dX3_relation_48 : decode cX3_relation 48 = .ok (.iconst 0, 1) := by decide +kernel
theorem dX3_relation_49 : decode cX3_relation 49 = .ok (.ior, 1) := by decide +kernel
theorem dX3_relation_50 : decode cX3_relation 50 = .ok (.ireturn, 1) := by decide +kernel
set_option maxRecDepth 20000 in
theorem ggX3_isSure_X3_relation : GoodIn wsX3_isSure wsX3_relation := goodIn_r _ [5, 6, 7, 8, 4, 9, 10, 11, 12, 13, 14, 15, 16, 17, 18, 19, 20, 21, 22, 30, 31, 32, 33, 34, 35, 36] (by decide +kernel) (by decide +kernel)
set_option maxRecDepth 20000 in
theorem gX3_isSure_X3_relation : GoodIn wsX3_isSure (wsV RX3 108 RX3 yX3_relation wsX3_relation) := goodIn_app (goodIn_of _ (by decide +kernel)) ggX3_isSure_X3_relation
set_option maxRecDepth 20000 in
theorem ggX3_isSure_J6_bitCount_0f7a4 : GoodIn wsX3_isSure wsJ6_bitCount_0f7a4 := goodIn_r _ [26, 27, 28, 29] (by decide +kernel) (by decide +kernel)
set_option maxRecDepth 20000 in
theorem gX3_isSure_J6_bitCount_0f7a4 : GoodIn wsX3_isSure (va_wsS RX3 111 yJ6_bitCount_0f7a4 wsJ6_bitCount_0f7a4) := goodIn_app (goodIn_of _ (by decide +kernel)) ggX3_isSure_J6_bitCount_0f7a4
theorem dX3_isSure_0 : decode cX3_isSure 0 = .ok (.aload_n 0, 1) := by decide +kernel
theorem dX3_isSure_1 : decode cX3_isSure 1 = .ok (.iload_n 1, 1) := by decide +kernel
theorem dX3_isSure_2 : decode cX3_isSure 2 = .ok (.iload_n 2, 1) := by decide +kernel
theorem dX3_isSure_3 : decode cX3_isSure 3 = .ok (.invokevirtual 108, 3) := by decide +kernel
theorem dX3_isSure_6 : decode cX3_isSure 6 = .ok (.invokestatic 111, 3) := by decide +kernel
theorem dX3_isSure_9 : decode cX3_isSure 9 = .ok (.iconst 1, 1) := by decide +kernel
theorem dX3_isSure_10 : decode cX3_isSure 10 = .ok (.if_icmp .ne 7, 3) := by decide +kernel
theorem dX3_isSure_13 : decode cX3_isSure 13 = .ok (.iconst 1, 1) := by decide +kernel
theorem dX3_isSure_14 : decode cX3_isSure 14 = .ok (.goto 4, 3) := by decide +kernel
theorem dX3_isSure_17 : decode cX3_isSure 17 = .ok (.iconst 0, 1) := by decide +kernel
theorem dX3_isSure_18 : decode cX3_isSure 18 = .ok (.ireturn, 1) := by decide +kernel
set_option maxRecDepth 20000 in
theorem ggX3_surePairs_X3_isSure : GoodIn wsX3_surePairs wsX3_isSure := goodIn_r _ [5, 6, 7, 8, 4, 9, 10, 11, 12, 13, 14, 15, 16, 17, 18, 19, 20, 21, 22, 23, 24, 25, 26, 27, 28, 29, 30, 31, 32, 33, 34, 35, 36, 37, 38, 39, 40] (by decide +kernel) (by decide +kernel)
set_option maxRecDepth 20000 in
theorem gX3_surePairs_X3_isSure : GoodIn wsX3_surePairs (wsV RX3 116 RX3 yX3_isSure wsX3_isSure) := goodIn_app (goodIn_of _ (by decide +kernel)) ggX3_surePairs_X3_isSure
theorem dX3_surePairs_0 : decode cX3_surePairs 0 = .ok (.iconst 0, 1) := by decide +kernel
theorem dX3_surePairs_1 : decode cX3_surePairs 1 = .ok (.istore_n 2, 1) := by decide +kernel
theorem dX3_surePairs_2 : decode cX3_surePairs 2 = .ok (.iconst 0, 1) := by decide +kernel
theorem dX3_surePairs_3 : decode cX3_surePairs 3 = .ok (.istore_n 3, 1) := by decide +kernel
theorem dX3_surePairs_4 : decode cX3_surePairs 4 = .ok (.iload_n 3, 1) := by decide +kernel
theorem dX3_surePairs_5 : decode cX3_surePairs 5 = .ok (.iload_n 1, 1) := by decide +kernel
theorem dX3_surePairs_6 : decode cX3_surePairs 6 = .ok (.if_icmp .ge 39, 3) := by decide +kernel
theorem dX3_surePairs_9 : decode cX3_surePairs 9 = .ok (.iload_n 3, 1) := by decide +kernel
theorem dX3_surePairs_10 : decode cX3_surePairs 10 = .ok (.iconst 1, 1) := by decide +kernel
theorem dX3_surePairs_11 : decode cX3_surePairs 11 = .ok (.iadd, 1) := by decide +kernel
theorem dX3_surePairs_12 : decode cX3_surePairs 12 = .ok (.istore 4, 2) := by decide +kernel
theorem dX3_surePairs_14 : decode cX3_surePairs 14 = .ok (.iload 4, 2) := by decide +kernel
theorem dX3_surePairs_16 : decode cX3_surePairs 16 = .ok (.iload_n 1, 1) := by decide +kernel
theorem dX3_surePairs_17 : decode cX3_surePairs 17 = .ok (.if_icmp .ge 22, 3) := by decide +kernel
theorem dX3_surePairs_20 : decode cX3_surePairs 20 = .ok (.aload_n 0, 1) := by decide +kernel
theorem dX3_surePairs_21 : decode cX3_surePairs 21 = .ok (.iload_n 3, 1) := by decide +kernel
theorem dX3_surePairs_22 : decode cX3_surePairs 22 = .ok (.iload 4, 2) := by decide +kernel
theorem dX3_surePairs_24 : decode cX3_surePairs 24 = .ok (.invokevirtual 116, 3) := by decide +kernel
theorem dX3_surePairs_27 : decode cX3_surePairs 27 = .ok (.ifCond .eq 6, 3) := by decide +kernel
theorem dX3_surePairs_30 : decode cX3_surePairs 30 = .ok (.iinc 2 1, 3) := by decide +kernel
theorem dX3_surePairs_33 : decode cX3_surePairs 33 = .ok (.iinc 4 1, 3) := by decide +kernel
theorem dX3_surePairs_36 : decode cX3_surePairs 36 = .ok (.goto (-22), 3) := by decide +kernel
theorem dX3_surePairs_39 : decode cX3_surePairs 39 = .ok (.iinc 3 1, 3) := by decide +kernel
theorem dX3_surePairs_42 : decode cX3_surePairs 42 = .ok (.goto (-38), 3) := by decide +kernel
theorem dX3_surePairs_45 : decode cX3_surePairs 45 = .ok (.iload_n 2, 1) := by decide +kernel
theorem dX3_surePairs_46 : decode cX3_surePairs 46 = .ok (.ireturn, 1) := by decide +kernel
set_option maxRecDepth 20000 in
theorem ggX3_overlaps_X3_noLater : GoodIn wsX3_overlaps wsX3_noLater := goodIn_r _ [6, 7, 8, 9, 5, 10, 11, 12, 13, 14, 15, 16, 17, 18, 19, 20, 21, 22, 23, 24, 25, 26, 27, 28, 29, 30] (by decide +kernel) (by decide +kernel)
set_option maxRecDepth 20000 in
theorem gX3_overlaps_X3_noLater : GoodIn wsX3_overlaps (wsV RX3 120 RX3 yX3_noLater wsX3_noLater) := goodIn_app (goodIn_of _ (by decide +kernel)) ggX3_overlaps_X3_noLater
theorem dX3_overlaps_0 : decode cX3_overlaps 0 = .ok (.aload_n 0, 1) := by decide +kernel
theorem dX3_overlaps_1 : decode cX3_overlaps 1 = .ok (.getfield 34, 3) := by decide +kernel
theorem dX3_overlaps_4 : decode cX3_overlaps 4 = .ok (.aload_n 0, 1) := by decide +kernel
theorem dX3_overlaps_5 : decode cX3_overlaps 5 = .ok (.iconst 2, 1) := by decide +kernel
theorem dX3_overlaps_6 : decode cX3_overlaps 6 = .ok (.iload_n 1, 1) := by decide +kernel
theorem dX3_overlaps_7 : decode cX3_overlaps 7 = .ok (.imul, 1) := by decide +kernel
theorem dX3_overlaps_8 : decode cX3_overlaps 8 = .ok (.iconst 1, 1) := by decide +kernel
theorem dX3_overlaps_9 : decode cX3_overlaps 9 = .ok (.iadd, 1) := by decide +kernel
theorem dX3_overlaps_10 : decode cX3_overlaps 10 = .ok (.iconst 2, 1) := by decide +kernel
theorem dX3_overlaps_11 : decode cX3_overlaps 11 = .ok (.iload_n 2, 1) := by decide +kernel
theorem dX3_overlaps_12 : decode cX3_overlaps 12 = .ok (.imul, 1) := by decide +kernel
theorem dX3_overlaps_13 : decode cX3_overlaps 13 = .ok (.invokevirtual 120, 3) := by decide +kernel
theorem dX3_overlaps_16 : decode cX3_overlaps 16 = .ok (.lsub, 1) := by decide +kernel
theorem dX3_overlaps_17 : decode cX3_overlaps 17 = .ok (.aload_n 0, 1) := by decide +kernel
theorem dX3_overlaps_18 : decode cX3_overlaps 18 = .ok (.iconst 2, 1) := by decide +kernel
theorem dX3_overlaps_19 : decode cX3_overlaps 19 = .ok (.iload_n 2, 1) := by decide +kernel
theorem dX3_overlaps_20 : decode cX3_overlaps 20 = .ok (.imul, 1) := by decide +kernel
theorem dX3_overlaps_21 : decode cX3_overlaps 21 = .ok (.iconst 1, 1) := by decide +kernel
theorem dX3_overlaps_22 : decode cX3_overlaps 22 = .ok (.iadd, 1) := by decide +kernel
theorem dX3_overlaps_23 : decode cX3_overlaps 23 = .ok (.iconst 2, 1) := by decide +kernel
theorem dX3_overlaps_24 : decode cX3_overlaps 24 = .ok (.iload_n 1, 1) := by decide +kernel
theorem dX3_overlaps_25 : decode cX3_overlaps 25 = .ok (.imul, 1) := by decide +kernel
theorem dX3_overlaps_26 : decode cX3_overlaps 26 = .ok (.invokevirtual 120, 3) := by decide +kernel
theorem dX3_overlaps_29 : decode cX3_overlaps 29 = .ok (.lsub, 1) := by decide +kernel
theorem dX3_overlaps_30 : decode cX3_overlaps 30 = .ok (.lreturn, 1) := by decide +kernel
set_option maxRecDepth 20000 in
theorem ggX3_noLater_X3_aheadOf : GoodIn wsX3_noLater wsX3_aheadOf := goodIn_r _ [5, 6, 19, 20, 21, 22, 23, 24, 25] (by decide +kernel) (by decide +kernel)
set_option maxRecDepth 20000 in
theorem gX3_noLater_X3_aheadOf : GoodIn wsX3_noLater (wsV RX3 101 RX3 yX3_aheadOf wsX3_aheadOf) := goodIn_app (goodIn_of _ (by decide +kernel)) ggX3_noLater_X3_aheadOf
set_option maxRecDepth 20000 in
theorem ggX3_noLater_X3_alikeWith : GoodIn wsX3_noLater wsX3_alikeWith := goodIn_r _ [10, 11, 12, 13, 14, 15, 16, 17, 18, 19, 20, 21, 22, 23, 24, 25] (by decide +kernel) (by decide +kernel)
set_option maxRecDepth 20000 in
theorem gX3_noLater_X3_alikeWith : GoodIn wsX3_noLater (wsV RX3 105 RX3 yX3_alikeWith wsX3_alikeWith) := goodIn_app (goodIn_of _ (by decide +kernel)) ggX3_noLater_X3_alikeWith
theorem dX3_noLater_0 : decode cX3_noLater 0 = .ok (.aload_n 0, 1) := by decide +kernel
theorem dX3_noLater_1 : decode cX3_noLater 1 = .ok (.iload_n 1, 1) := by decide +kernel
theorem dX3_noLater_2 : decode cX3_noLater 2 = .ok (.iload_n 2, 1) := by decide +kernel
theorem dX3_noLater_3 : decode cX3_noLater 3 = .ok (.invokevirtual 101, 3) := by decide +kernel
theorem dX3_noLater_6 : decode cX3_noLater 6 = .ok (.aload_n 0, 1) := by decide +kernel
theorem dX3_noLater_7 : decode cX3_noLater 7 = .ok (.iload_n 1, 1) := by decide +kernel
theorem dX3_noLater_8 : decode cX3_noLater 8 = .ok (.iload_n 2, 1) := by decide +kernel
theorem dX3_noLater_9 : decode cX3_noLater 9 = .ok (.invokevirtual 105, 3) := by decide +kernel
theorem dX3_noLater_12 : decode cX3_noLater 12 = .ok (.ladd, 1) := by decide +kernel
theorem dX3_noLater_13 : decode cX3_noLater 13 = .ok (.lreturn, 1) := by decide +kernel
set_option maxRecDepth 20000 in
theorem ggX3_question_X3_mostLeft : GoodIn wsX3_question wsX3_mostLeft := goodIn_r _ [6, 7, 8, 9, 10, 11, 12, 13, 5, 14, 15, 16, 17, 18, 19, 20, 21, 22, 23, 24, 25, 26, 42, 43, 44, 45, 46, 47, 48] (by decide +kernel) (by decide +kernel)
set_option maxRecDepth 20000 in
theorem gX3_question_X3_mostLeft : GoodIn wsX3_question (wsV RX3 125 RX3 yX3_mostLeft wsX3_mostLeft) := goodIn_app (goodIn_of _ (by decide +kernel)) ggX3_question_X3_mostLeft
set_option maxRecDepth 20000 in
theorem ggX3_question_X3_isSure : GoodIn wsX3_question wsX3_isSure := goodIn_r _ [30, 31, 32, 33, 5, 34, 22, 23, 24, 25, 26, 11, 12, 13, 14, 15, 16, 17, 9, 18, 19, 20, 21, 35, 36, 37, 38, 39, 40, 41, 42, 43, 44, 45, 46, 47, 48] (by decide +kernel) (by decide +kernel)
set_option maxRecDepth 20000 in
theorem gX3_question_X3_isSure : GoodIn wsX3_question (wsV RX3 116 RX3 yX3_isSure wsX3_isSure) := goodIn_app (goodIn_of _ (by decide +kernel)) ggX3_question_X3_isSure
theorem dX3_question_0 : decode cX3_question 0 = .ok (.ldc2_w 123, 3) := by decide +kernel
theorem dX3_question_3 : decode cX3_question 3 = .ok (.lstore_n 3, 1) := by decide +kernel
theorem dX3_question_4 : decode cX3_question 4 = .ok (.ldc2_w 123, 3) := by decide +kernel
theorem dX3_question_7 : decode cX3_question 7 = .ok (.lstore 5, 2) := by decide +kernel
theorem dX3_question_9 : decode cX3_question 9 = .ok (.iconst 0, 1) := by decide +kernel
theorem dX3_question_10 : decode cX3_question 10 = .ok (.istore 7, 2) := by decide +kernel
theorem dX3_question_12 : decode cX3_question 12 = .ok (.iload 7, 2) := by decide +kernel
theorem dX3_question_14 : decode cX3_question 14 = .ok (.iload_n 2, 1) := by decide +kernel
theorem dX3_question_15 : decode cX3_question 15 = .ok (.if_icmp .ge 78, 3) := by decide +kernel
theorem dX3_question_18 : decode cX3_question 18 = .ok (.iload 7, 2) := by decide +kernel
theorem dX3_question_20 : decode cX3_question 20 = .ok (.iconst 1, 1) := by decide +kernel
theorem dX3_question_21 : decode cX3_question 21 = .ok (.iadd, 1) := by decide +kernel
theorem dX3_question_22 : decode cX3_question 22 = .ok (.istore 8, 2) := by decide +kernel
theorem dX3_question_24 : decode cX3_question 24 = .ok (.iload 8, 2) := by decide +kernel
theorem dX3_question_26 : decode cX3_question 26 = .ok (.iload_n 2, 1) := by decide +kernel
theorem dX3_question_27 : decode cX3_question 27 = .ok (.if_icmp .ge 60, 3) := by decide +kernel
theorem dX3_question_30 : decode cX3_question 30 = .ok (.aload_n 0, 1) := by decide +kernel
theorem dX3_question_31 : decode cX3_question 31 = .ok (.iload 7, 2) := by decide +kernel
theorem dX3_question_33 : decode cX3_question 33 = .ok (.iload 8, 2) := by decide +kernel
theorem dX3_question_35 : decode cX3_question 35 = .ok (.invokevirtual 125, 3) := by decide +kernel
theorem dX3_question_38 : decode cX3_question 38 = .ok (.lstore 9, 2) := by decide +kernel
theorem dX3_question_40 : decode cX3_question 40 = .ok (.aload_n 0, 1) := by decide +kernel
theorem dX3_question_41 : decode cX3_question 41 = .ok (.iload 7, 2) := by decide +kernel
theorem dX3_question_43 : decode cX3_question 43 = .ok (.iload 8, 2) := by decide +kernel
theorem dX3_question_45 : decode cX3_question 45 = .ok (.invokevirtual 116, 3) := by decide +kernel
theorem dX3_question_48 : decode cX3_question 48 = .ok (.ifCond .ne 33, 3) := by decide +kernel
theorem dX3_question_51 : decode cX3_question 51 = .ok (.lload_n 3, 1) := by decide +kernel
theorem dX3_question_52 : decode cX3_question 52 = .ok (.ldc2_w 123, 3) := by decide +kernel
theorem dX3_question_55 : decode cX3_question 55 = .ok (.lcmp, 1) := by decide +kernel
theorem dX3_question_56 : decode cX3_question 56 = .ok (.ifCond .eq 11, 3) := by decide +kernel
theorem dX3_question_59 : decode cX3_question 59 = .ok (.lload 9, 2) := by decide +kernel
theorem dX3_question_61 : decode cX3_question 61 = .ok (.lload 5, 2) := by decide +kernel
theorem dX3_question_63 : decode cX3_question 63 = .ok (.lcmp, 1) := by decide +kernel
theorem dX3_question_64 : decode cX3_question 64 = .ok (.ifCond .ge 17, 3) := by decide +kernel
theorem dX3_question_67 : decode cX3_question 67 = .ok (.bipush 100, 2) := by decide +kernel
theorem dX3_question_69 : decode cX3_question 69 = .ok (.iload 7, 2) := by decide +kernel
theorem dX3_question_71 : decode cX3_question 71 = .ok (.imul, 1) := by decide +kernel
theorem dX3_question_72 : decode cX3_question 72 = .ok (.iload 8, 2) := by decide +kernel
theorem dX3_question_74 : decode cX3_question 74 = .ok (.iadd, 1) := by decide +kernel
theorem dX3_question_75 : decode cX3_question 75 = .ok (.i2l, 1) := by decide +kernel
theorem dX3_question_76 : decode cX3_question 76 = .ok (.lstore_n 3, 1) := by decide +kernel
theorem dX3_question_77 : decode cX3_question 77 = .ok (.lload 9, 2) := by decide +kernel
theorem dX3_question_79 : decode cX3_question 79 = .ok (.lstore 5, 2) := by decide +kernel
theorem dX3_question_81 : decode cX3_question 81 = .ok (.iinc 8 1, 3) := by decide +kernel
theorem dX3_question_84 : decode cX3_question 84 = .ok (.goto (-60), 3) := by decide +kernel
theorem dX3_question_87 : decode cX3_question 87 = .ok (.iinc 7 1, 3) := by decide +kernel
theorem dX3_question_90 : decode cX3_question 90 = .ok (.goto (-78), 3) := by decide +kernel
theorem dX3_question_93 : decode cX3_question 93 = .ok (.iload_n 1, 1) := by decide +kernel
theorem dX3_question_94 : decode cX3_question 94 = .ok (.ifCond .ne 7, 3) := by decide +kernel
theorem dX3_question_97 : decode cX3_question 97 = .ok (.lload_n 3, 1) := by decide +kernel
theorem dX3_question_98 : decode cX3_question 98 = .ok (.goto 5, 3) := by decide +kernel
theorem dX3_question_101 : decode cX3_question 101 = .ok (.lload 5, 2) := by decide +kernel
theorem dX3_question_103 : decode cX3_question 103 = .ok (.lreturn, 1) := by decide +kernel
set_option maxRecDepth 20000 in
theorem ggX3_mostLeft_X3_alikeWith : GoodIn wsX3_mostLeft wsX3_alikeWith := goodIn_r _ [9, 10, 11, 12, 3, 13, 14, 15, 16, 22, 23, 24, 25, 26, 27, 28] (by decide +kernel) (by decide +kernel)
set_option maxRecDepth 20000 in
theorem gX3_mostLeft_X3_alikeWith : GoodIn wsX3_mostLeft (wsV RX3 105 RX3 yX3_alikeWith wsX3_alikeWith) := goodIn_app (goodIn_of _ (by decide +kernel)) ggX3_mostLeft_X3_alikeWith
set_option maxRecDepth 20000 in
theorem ggX3_mostLeft_X3_aheadOf : GoodIn wsX3_mostLeft wsX3_aheadOf := goodIn_r _ [20, 21, 22, 23, 24, 25, 26, 27, 28] (by decide +kernel) (by decide +kernel)
set_option maxRecDepth 20000 in
theorem gX3_mostLeft_X3_aheadOf : GoodIn wsX3_mostLeft (wsV RX3 101 RX3 yX3_aheadOf wsX3_aheadOf) := goodIn_app (goodIn_of _ (by decide +kernel)) ggX3_mostLeft_X3_aheadOf
theorem dX3_mostLeft_0 : decode cX3_mostLeft 0 = .ok (.aload_n 0, 1) := by decide +kernel
theorem dX3_mostLeft_1 : decode cX3_mostLeft 1 = .ok (.iload_n 1, 1) := by decide +kernel
theorem dX3_mostLeft_2 : decode cX3_mostLeft 2 = .ok (.iload_n 2, 1) := by decide +kernel
theorem dX3_mostLeft_3 : decode cX3_mostLeft 3 = .ok (.invokevirtual 105, 3) := by decide +kernel
theorem dX3_mostLeft_6 : decode cX3_mostLeft 6 = .ok (.aload_n 0, 1) := by decide +kernel
theorem dX3_mostLeft_7 : decode cX3_mostLeft 7 = .ok (.iload_n 1, 1) := by decide +kernel
theorem dX3_mostLeft_8 : decode cX3_mostLeft 8 = .ok (.iload_n 2, 1) := by decide +kernel
theorem dX3_mostLeft_9 : decode cX3_mostLeft 9 = .ok (.invokevirtual 101, 3) := by decide +kernel
theorem dX3_mostLeft_12 : decode cX3_mostLeft 12 = .ok (.aload_n 0, 1) := by decide +kernel
theorem dX3_mostLeft_13 : decode cX3_mostLeft 13 = .ok (.iload_n 2, 1) := by decide +kernel
theorem dX3_mostLeft_14 : decode cX3_mostLeft 14 = .ok (.iload_n 1, 1) := by decide +kernel
theorem dX3_mostLeft_15 : decode cX3_mostLeft 15 = .ok (.invokevirtual 101, 3) := by decide +kernel
theorem dX3_mostLeft_18 : decode cX3_mostLeft 18 = .ok (.invokestatic 128, 3) := by decide +kernel
theorem dX3_mostLeft_21 : decode cX3_mostLeft 21 = .ok (.invokestatic 128, 3) := by decide +kernel
theorem dX3_mostLeft_24 : decode cX3_mostLeft 24 = .ok (.lreturn, 1) := by decide +kernel
theorem dX4_init_0 : decode cX4_init 0 = .ok (.aload_n 0, 1) := by decide +kernel
theorem dX4_init_1 : decode cX4_init 1 = .ok (.invokespecial 3, 3) := by decide +kernel
theorem dX4_init_4 : decode cX4_init 4 = .ok (.aload_n 0, 1) := by decide +kernel
theorem dX4_init_5 : decode cX4_init 5 = .ok (.bipush 6, 2) := by decide +kernel
theorem dX4_init_7 : decode cX4_init 7 = .ok (.newarray .int, 2) := by decide +kernel
theorem dX4_init_9 : decode cX4_init 9 = .ok (.putfield 9, 3) := by decide +kernel
theorem dX4_init_12 : decode cX4_init 12 = .ok (.aload_n 0, 1) := by decide +kernel
theorem dX4_init_13 : decode cX4_init 13 = .ok (.bipush 6, 2) := by decide +kernel
theorem dX4_init_15 : decode cX4_init 15 = .ok (.newarray .int, 2) := by decide +kernel
theorem dX4_init_17 : decode cX4_init 17 = .ok (.putfield 15, 3) := by decide +kernel
theorem dX4_init_20 : decode cX4_init 20 = .ok (.aload_n 0, 1) := by decide +kernel
theorem dX4_init_21 : decode cX4_init 21 = .ok (.bipush 12, 2) := by decide +kernel
theorem dX4_init_23 : decode cX4_init 23 = .ok (.newarray .int, 2) := by decide +kernel
theorem dX4_init_25 : decode cX4_init 25 = .ok (.putfield 18, 3) := by decide +kernel
theorem dX4_init_28 : decode cX4_init 28 = .ok (.aload_n 0, 1) := by decide +kernel
theorem dX4_init_29 : decode cX4_init 29 = .ok (.bipush 8, 2) := by decide +kernel
theorem dX4_init_31 : decode cX4_init 31 = .ok (.newarray .int, 2) := by decide +kernel
theorem dX4_init_33 : decode cX4_init 33 = .ok (.putfield 21, 3) := by decide +kernel
theorem dX4_init_36 : decode cX4_init 36 = .ok (.aload_n 0, 1) := by decide +kernel
theorem dX4_init_37 : decode cX4_init 37 = .ok (.bipush 8, 2) := by decide +kernel
theorem dX4_init_39 : decode cX4_init 39 = .ok (.newarray .int, 2) := by decide +kernel
theorem dX4_init_41 : decode cX4_init 41 = .ok (.putfield 24, 3) := by decide +kernel
theorem dX4_init_44 : decode cX4_init 44 = .ok (.aload_n 0, 1) := by decide +kernel
theorem dX4_init_45 : decode cX4_init 45 = .ok (.bipush 8, 2) := by decide +kernel
theorem dX4_init_47 : decode cX4_init 47 = .ok (.newarray .int, 2) := by decide +kernel
theorem dX4_init_49 : decode cX4_init 49 = .ok (.putfield 27, 3) := by decide +kernel
theorem dX4_init_52 : decode cX4_init 52 = .ok (.aload_n 0, 1) := by decide +kernel
theorem dX4_init_53 : decode cX4_init 53 = .ok (.bipush 8, 2) := by decide +kernel
theorem dX4_init_55 : decode cX4_init 55 = .ok (.newarray .int, 2) := by decide +kernel
theorem dX4_init_57 : decode cX4_init 57 = .ok (.putfield 30, 3) := by decide +kernel
theorem dX4_init_60 : decode cX4_init 60 = .ok (.return_, 1) := by decide +kernel
theorem dX4_empty_0 : decode cX4_empty 0 = .ok (.aload_n 0, 1) := by decide +kernel
theorem dX4_empty_1 : decode cX4_empty 1 = .ok (.iconst 0, 1) := by decide +kernel
theorem dX4_empty_2 : decode cX4_empty 2 = .ok (.putfield 33, 3) := by decide +kernel
theorem dX4_empty_5 : decode cX4_empty 5 = .ok (.aload_n 0, 1) := by decide +kernel
theorem dX4_empty_6 : decode cX4_empty 6 = .ok (.iconst 0, 1) := by decide +kernel
theorem dX4_empty_7 : decode cX4_empty 7 = .ok (.putfield 37, 3) := by decide +kernel
theorem dX4_empty_10 : decode cX4_empty 10 = .ok (.return_, 1) := by decide +kernel
theorem dX4_addThing_0 : decode cX4_addThing 0 = .ok (.aload_n 0, 1) := by decide +kernel
theorem dX4_addThing_1 : decode cX4_addThing 1 = .ok (.getfield 33, 3) := by decide +kernel
theorem dX4_addThing_4 : decode cX4_addThing 4 = .ok (.istore_n 1, 1) := by decide +kernel
theorem dX4_addThing_5 : decode cX4_addThing 5 = .ok (.aload_n 0, 1) := by decide +kernel
theorem dX4_addThing_6 : decode cX4_addThing 6 = .ok (.getfield 9, 3) := by decide +kernel
theorem dX4_addThing_9 : decode cX4_addThing 9 = .ok (.iload_n 1, 1) := by decide +kernel
theorem dX4_addThing_10 : decode cX4_addThing 10 = .ok (.iconst (-1), 1) := by decide +kernel
theorem dX4_addThing_11 : decode cX4_addThing 11 = .ok (.iastore, 1) := by decide +kernel
theorem dX4_addThing_12 : decode cX4_addThing 12 = .ok (.aload_n 0, 1) := by decide +kernel
theorem dX4_addThing_13 : decode cX4_addThing 13 = .ok (.getfield 15, 3) := by decide +kernel
theorem dX4_addThing_16 : decode cX4_addThing 16 = .ok (.iload_n 1, 1) := by decide +kernel
theorem dX4_addThing_17 : decode cX4_addThing 17 = .ok (.iconst 0, 1) := by decide +kernel
theorem dX4_addThing_18 : decode cX4_addThing 18 = .ok (.iastore, 1) := by decide +kernel
theorem dX4_addThing_19 : decode cX4_addThing 19 = .ok (.aload_n 0, 1) := by decide +kernel
theorem dX4_addThing_20 : decode cX4_addThing 20 = .ok (.getfield 18, 3) := by decide +kernel
theorem dX4_addThing_23 : decode cX4_addThing 23 = .ok (.iconst 2, 1) := by decide +kernel
theorem dX4_addThing_24 : decode cX4_addThing 24 = .ok (.iload_n 1, 1) := by decide +kernel
theorem dX4_addThing_25 : decode cX4_addThing 25 = .ok (.imul, 1) := by decide +kernel
theorem dX4_addThing_26 : decode cX4_addThing 26 = .ok (.iconst (-1), 1) := by decide +kernel
theorem dX4_addThing_27 : decode cX4_addThing 27 = .ok (.iastore, 1) := by decide +kernel
theorem dX4_addThing_28 : decode cX4_addThing 28 = .ok (.aload_n 0, 1) := by decide +kernel
theorem dX4_addThing_29 : decode cX4_addThing 29 = .ok (.getfield 18, 3) := by decide +kernel
theorem dX4_addThing_32 : decode cX4_addThing 32 = .ok (.iconst 2, 1) := by decide +kernel
theorem dX4_addThing_33 : decode cX4_addThing 33 = .ok (.iload_n 1, 1) := by decide +kernel
theorem dX4_addThing_34 : decode cX4_addThing 34 = .ok (.imul, 1) := by decide +kernel
theorem dX4_addThing_35 : decode cX4_addThing 35 = .ok (.iconst 1, 1) := by decide +kernel
theorem dX4_addThing_36 : decode cX4_addThing 36 = .ok (.iadd, 1) := by decide +kernel
theorem dX4_addThing_37 : decode cX4_addThing 37 = .ok (.iconst (-1), 1) := by decide +kernel
theorem dX4_addThing_38 : decode cX4_addThing 38 = .ok (.iastore, 1) := by decide +kernel
theorem dX4_addThing_39 : decode cX4_addThing 39 = .ok (.aload_n 0, 1) := by decide +kernel
theorem dX4_addThing_40 : decode cX4_addThing 40 = .ok (.iload_n 1, 1) := by decide +kernel
theorem dX4_addThing_41 : decode cX4_addThing 41 = .ok (.iconst 1, 1) := by decide +kernel
theorem dX4_addThing_42 : decode cX4_addThing 42 = .ok (.iadd, 1) := by decide +kernel
theorem dX4_addThing_43 : decode cX4_addThing 43 = .ok (.putfield 33, 3) := by decide +kernel
theorem dX4_addThing_46 : decode cX4_addThing 46 = .ok (.iload_n 1, 1) := by decide +kernel
theorem dX4_addThing_47 : decode cX4_addThing 47 = .ok (.ireturn, 1) := by decide +kernel
theorem dX4_addSaying_0 : decode cX4_addSaying 0 = .ok (.aload_n 0, 1) := by decide +kernel
theorem dX4_addSaying_1 : decode cX4_addSaying 1 = .ok (.getfield 37, 3) := by decide +kernel
theorem dX4_addSaying_4 : decode cX4_addSaying 4 = .ok (.istore 5, 2) := by decide +kernel
theorem dX4_addSaying_6 : decode cX4_addSaying 6 = .ok (.aload_n 0, 1) := by decide +kernel
theorem dX4_addSaying_7 : decode cX4_addSaying 7 = .ok (.getfield 24, 3) := by decide +kernel
theorem dX4_addSaying_10 : decode cX4_addSaying 10 = .ok (.iload 5, 2) := by decide +kernel
theorem dX4_addSaying_12 : decode cX4_addSaying 12 = .ok (.iload_n 1, 1) := by decide +kernel
theorem dX4_addSaying_13 : decode cX4_addSaying 13 = .ok (.iastore, 1) := by decide +kernel
theorem dX4_addSaying_14 : decode cX4_addSaying 14 = .ok (.aload_n 0, 1) := by decide +kernel
theorem dX4_addSaying_15 : decode cX4_addSaying 15 = .ok (.getfield 21, 3) := by decide +kernel
theorem dX4_addSaying_18 : decode cX4_addSaying 18 = .ok (.iload 5, 2) := by decide +kernel
theorem dX4_addSaying_20 : decode cX4_addSaying 20 = .ok (.iload_n 2, 1) := by decide +kernel
theorem dX4_addSaying_21 : decode cX4_addSaying 21 = .ok (.iastore, 1) := by decide +kernel
theorem dX4_addSaying_22 : decode cX4_addSaying 22 = .ok (.aload_n 0, 1) := by decide +kernel
theorem dX4_addSaying_23 : decode cX4_addSaying 23 = .ok (.getfield 27, 3) := by decide +kernel
theorem dX4_addSaying_26 : decode cX4_addSaying 26 = .ok (.iload 5, 2) := by decide +kernel
theorem dX4_addSaying_28 : decode cX4_addSaying 28 = .ok (.iload_n 3, 1) := by decide +kernel
theorem dX4_addSaying_29 : decode cX4_addSaying 29 = .ok (.iastore, 1) := by decide +kernel
theorem dX4_addSaying_30 : decode cX4_addSaying 30 = .ok (.aload_n 0, 1) := by decide +kernel
theorem dX4_addSaying_31 : decode cX4_addSaying 31 = .ok (.getfield 30, 3) := by decide +kernel
theorem dX4_addSaying_34 : decode cX4_addSaying 34 = .ok (.iload 5, 2) := by decide +kernel
theorem dX4_addSaying_36 : decode cX4_addSaying 36 = .ok (.iload 4, 2) := by decide +kernel
theorem dX4_addSaying_38 : decode cX4_addSaying 38 = .ok (.iastore, 1) := by decide +kernel
theorem dX4_addSaying_39 : decode cX4_addSaying 39 = .ok (.aload_n 0, 1) := by decide +kernel
theorem dX4_addSaying_40 : decode cX4_addSaying 40 = .ok (.iload 5, 2) := by decide +kernel
theorem dX4_addSaying_42 : decode cX4_addSaying 42 = .ok (.iconst 1, 1) := by decide +kernel
theorem dX4_addSaying_43 : decode cX4_addSaying 43 = .ok (.iadd, 1) := by decide +kernel
theorem dX4_addSaying_44 : decode cX4_addSaying 44 = .ok (.putfield 37, 3) := by decide +kernel
theorem dX4_addSaying_47 : decode cX4_addSaying 47 = .ok (.iload 5, 2) := by decide +kernel
theorem dX4_addSaying_49 : decode cX4_addSaying 49 = .ok (.ireturn, 1) := by decide +kernel
theorem dX4_copy_0 : decode cX4_copy 0 = .ok (.aload_n 0, 1) := by decide +kernel
theorem dX4_copy_1 : decode cX4_copy 1 = .ok (.aload_n 1, 1) := by decide +kernel
theorem dX4_copy_2 : decode cX4_copy 2 = .ok (.getfield 33, 3) := by decide +kernel
theorem dX4_copy_5 : decode cX4_copy 5 = .ok (.putfield 33, 3) := by decide +kernel
theorem dX4_copy_8 : decode cX4_copy 8 = .ok (.aload_n 0, 1) := by decide +kernel
theorem dX4_copy_9 : decode cX4_copy 9 = .ok (.aload_n 1, 1) := by decide +kernel
theorem dX4_copy_10 : decode cX4_copy 10 = .ok (.getfield 37, 3) := by decide +kernel
theorem dX4_copy_13 : decode cX4_copy 13 = .ok (.putfield 37, 3) := by decide +kernel
theorem dX4_copy_16 : decode cX4_copy 16 = .ok (.iconst 0, 1) := by decide +kernel
theorem dX4_copy_17 : decode cX4_copy 17 = .ok (.istore_n 2, 1) := by decide +kernel
theorem dX4_copy_18 : decode cX4_copy 18 = .ok (.iload_n 2, 1) := by decide +kernel
theorem dX4_copy_19 : decode cX4_copy 19 = .ok (.bipush 6, 2) := by decide +kernel
theorem dX4_copy_21 : decode cX4_copy 21 = .ok (.if_icmp .ge 33, 3) := by decide +kernel
theorem dX4_copy_24 : decode cX4_copy 24 = .ok (.aload_n 0, 1) := by decide +kernel
theorem dX4_copy_25 : decode cX4_copy 25 = .ok (.getfield 9, 3) := by decide +kernel
theorem dX4_copy_28 : decode cX4_copy 28 = .ok (.iload_n 2, 1) := by decide +kernel
theorem dX4_copy_29 : decode cX4_copy 29 = .ok (.aload_n 1, 1) := by decide +kernel
theorem dX4_copy_30 : decode cX4_copy 30 = .ok (.getfield 9, 3) := by decide +kernel
theorem dX4_copy_33 : decode cX4_copy 33 = .ok (.iload_n 2, 1) := by decide +kernel
theorem dX4_copy_34 : decode cX4_copy 34 = .ok (.iaload, 1) := by decide +kernel
theorem dX4_copy_35 : decode cX4_copy 35 = .ok (.iastore, 1) := by decide +kernel
theorem dX4_copy_36 : decode cX4_copy 36 = .ok (.aload_n 0, 1) := by decide +kernel
theorem dX4_copy_37 : decode cX4_copy 37 = .ok (.getfield 15, 3) := by decide +kernel
theorem dX4_copy_40 : decode cX4_copy 40 = .ok (.iload_n 2, 1) := by decide +kernel
theorem dX4_copy_41 : decode cX4_copy 41 = .ok (.aload_n 1, 1) := by decide +kernel
theorem dX4_copy_42 : decode cX4_copy 42 = .ok (.getfield 15, 3) := by decide +kernel
theorem dX4_copy_45 : decode cX4_copy 45 = .ok (.iload_n 2, 1) := by decide +kernel
