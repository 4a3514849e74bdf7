theorem dX10_find_23 : decode cX10_find 23 = .ok (.aload_n 0, 1) := by decide +kernel
theorem dX10_find_24 : decode cX10_find 24 = .ok (.getfield 45, 3) := by decide +kernel
theorem dX10_find_27 : decode cX10_find 27 = .ok (.aload_n 0, 1) := by decide +kernel
theorem dX10_find_28 : decode cX10_find 28 = .ok (.getfield 52, 3) := by decide +kernel
theorem dX10_find_31 : decode cX10_find 31 = .ok (.aload_n 0, 1) := by decide +kernel
theorem dX10_find_32 : decode cX10_find 32 = .ok (.getfield 12, 3) := by decide +kernel
theorem dX10_find_35 : decode cX10_find 35 = .ok (.getfield 91, 3) := by decide +kernel
theorem dX10_find_38 : decode cX10_find 38 = .ok (.invokevirtual 253, 3) := by decide +kernel
theorem dX10_find_41 : decode cX10_find 41 = .ok (.aload_n 0, 1) := by decide +kernel
theorem dX10_find_42 : decode cX10_find 42 = .ok (.getfield 66, 3) := by decide +kernel
theorem dX10_find_45 : decode cX10_find 45 = .ok (.aload_n 0, 1) := by decide +kernel
theorem dX10_find_46 : decode cX10_find 46 = .ok (.getfield 59, 3) := by decide +kernel
theorem dX10_find_49 : decode cX10_find 49 = .ok (.aload_n 0, 1) := by decide +kernel
theorem dX10_find_50 : decode cX10_find 50 = .ok (.getfield 52, 3) := by decide +kernel
theorem dX10_find_53 : decode cX10_find 53 = .ok (.aload_n 0, 1) := by decide +kernel
theorem dX10_find_54 : decode cX10_find 54 = .ok (.getfield 12, 3) := by decide +kernel
theorem dX10_find_57 : decode cX10_find 57 = .ok (.getfield 91, 3) := by decide +kernel
theorem dX10_find_60 : decode cX10_find 60 = .ok (.invokevirtual 257, 3) := by decide +kernel
theorem dX10_find_63 : decode cX10_find 63 = .ok (.aload_n 0, 1) := by decide +kernel
theorem dX10_find_64 : decode cX10_find 64 = .ok (.iconst 1, 1) := by decide +kernel
theorem dX10_find_65 : decode cX10_find 65 = .ok (.putfield 241, 3) := by decide +kernel
theorem dX10_find_68 : decode cX10_find 68 = .ok (.return_, 1) := by decide +kernel
set_option maxRecDepth 20000 in
theorem ggX10_choose_X2_take : GoodIn wsX10_choose wsX2_take := goodIn_r _ [11, 12, 13, 14, 15, 16, 17, 18, 19, 20, 21, 22, 23, 10, 24, 25, 26, 27, 28, 29, 30, 31, 32, 33, 34, 35, 36, 37, 38, 39, 40, 41, 42, 43, 44, 45, 46, 47, 48, 49, 50, 51, 139, 140, 141, 142, 143, 144, 145, 146, 147, 148, 149, 150, 130, 131, 132, 133, 134, 135, 136, 137, 138] (by decide +kernel) (by decide +kernel)
set_option maxRecDepth 20000 in
theorem gX10_choose_X2_take : GoodIn wsX10_choose (wsV RX10 250 RX2 yX2_take wsX2_take) := goodIn_app (goodIn_of _ (by decide +kernel)) ggX10_choose_X2_take
set_option maxRecDepth 20000 in
theorem ggX10_choose_X0_weigh : GoodIn wsX10_choose wsX0_weigh := goodIn_r _ [56, 57, 58, 59, 60, 61, 62, 63, 64, 65, 66, 67, 10, 68, 69, 70, 12, 30, 29, 32, 31, 13, 37, 38, 39, 71, 72, 73, 74, 75, 76, 55, 77, 78, 79, 80, 81, 82, 83, 84, 85, 86, 87, 88, 89, 90, 91, 92, 93, 94, 95, 96, 97, 98, 99, 100, 101, 102, 103, 104, 105, 106, 107, 108, 109, 110, 111, 112, 151, 152, 153, 139, 140, 141, 142, 143, 144, 145, 146, 147, 148, 149, 150, 154, 155, 156, 157] (by decide +kernel) (by decide +kernel)
set_option maxRecDepth 20000 in
theorem gX10_choose_X0_weigh : GoodIn wsX10_choose (wsV RX10 261 RX0 yX0_weigh wsX0_weigh) := goodIn_app (goodIn_of _ (by decide +kernel)) ggX10_choose_X0_weigh
theorem dX10_choose_0 : decode cX10_choose 0 = .ok (.aload_n 0, 1) := by decide +kernel
theorem dX10_choose_1 : decode cX10_choose 1 = .ok (.getfield 244, 3) := by decide +kernel
theorem dX10_choose_4 : decode cX10_choose 4 = .ok (.ifCond .eq 4, 3) := by decide +kernel
theorem dX10_choose_7 : decode cX10_choose 7 = .ok (.return_, 1) := by decide +kernel
theorem dX10_choose_8 : decode cX10_choose 8 = .ok (.aload_n 0, 1) := by decide +kernel
theorem dX10_choose_9 : decode cX10_choose 9 = .ok (.getfield 45, 3) := by decide +kernel
theorem dX10_choose_12 : decode cX10_choose 12 = .ok (.aload_n 0, 1) := by decide +kernel
theorem dX10_choose_13 : decode cX10_choose 13 = .ok (.getfield 12, 3) := by decide +kernel
theorem dX10_choose_16 : decode cX10_choose 16 = .ok (.invokevirtual 250, 3) := by decide +kernel
theorem dX10_choose_19 : decode cX10_choose 19 = .ok (.aload_n 0, 1) := by decide +kernel
theorem dX10_choose_20 : decode cX10_choose 20 = .ok (.getfield 73, 3) := by decide +kernel
theorem dX10_choose_23 : decode cX10_choose 23 = .ok (.aload_n 0, 1) := by decide +kernel
theorem dX10_choose_24 : decode cX10_choose 24 = .ok (.getfield 45, 3) := by decide +kernel
theorem dX10_choose_27 : decode cX10_choose 27 = .ok (.aload_n 0, 1) := by decide +kernel
theorem dX10_choose_28 : decode cX10_choose 28 = .ok (.getfield 52, 3) := by decide +kernel
theorem dX10_choose_31 : decode cX10_choose 31 = .ok (.aload_n 0, 1) := by decide +kernel
theorem dX10_choose_32 : decode cX10_choose 32 = .ok (.getfield 12, 3) := by decide +kernel
theorem dX10_choose_35 : decode cX10_choose 35 = .ok (.getfield 91, 3) := by decide +kernel
theorem dX10_choose_38 : decode cX10_choose 38 = .ok (.invokevirtual 261, 3) := by decide +kernel
theorem dX10_choose_41 : decode cX10_choose 41 = .ok (.aload_n 0, 1) := by decide +kernel
theorem dX10_choose_42 : decode cX10_choose 42 = .ok (.iconst 1, 1) := by decide +kernel
theorem dX10_choose_43 : decode cX10_choose 43 = .ok (.putfield 244, 3) := by decide +kernel
theorem dX10_choose_46 : decode cX10_choose 46 = .ok (.return_, 1) := by decide +kernel
set_option maxRecDepth 20000 in
theorem ggX10_time_X10_find : GoodIn wsX10_time wsX10_find := goodIn_r _ [10, 11, 12, 5, 3, 4, 13, 14, 15, 16, 17, 18, 19, 20, 21, 22, 23, 24, 25, 26, 27, 28, 29, 30, 31, 32, 33, 34, 35, 36, 37, 38, 39, 40, 41, 42, 43, 44, 45, 46, 47, 48, 49, 50, 51, 52, 53, 54, 55, 56, 57, 58, 59, 60, 61, 62, 63, 64, 65, 66, 67, 68, 69, 9, 70, 71, 72, 73, 74, 75, 76, 77, 78, 79, 80, 81, 82, 83, 84, 85, 86, 87, 88, 89, 90, 91, 92, 93, 94, 95, 96, 97, 98, 99, 100, 101, 102, 103, 104, 105, 106, 107, 108, 109, 110, 111, 112, 113, 114, 115, 116, 117, 118, 119, 120, 121, 122, 123, 124, 125, 126, 127, 128, 129, 130, 131, 132, 133, 134, 135, 136, 137, 138, 139, 140, 141, 142, 187, 188, 189, 190, 191, 192, 193, 194, 195, 196, 197, 198, 199, 200, 201, 202, 203, 204, 205, 206, 207, 208, 209, 210, 211, 212, 213, 214, 215, 216, 217, 218, 219, 220, 221, 222, 223, 224, 225, 226, 227, 228, 229, 230, 231, 232, 233, 234, 235, 236, 237, 238] (by decide +kernel) (by decide +kernel)
set_option maxRecDepth 20000 in
theorem gX10_time_X10_find : GoodIn wsX10_time (wsV RX10 151 RX10 yX10_find wsX10_find) := goodIn_app (goodIn_of _ (by decide +kernel)) ggX10_time_X10_find
set_option maxRecDepth 20000 in
theorem ggX10_time_X1_tell : GoodIn wsX10_time wsX1_tell := goodIn_r _ [147, 148, 149, 150, 151, 152, 153, 154, 155, 156, 146, 157, 158, 159, 160, 161, 162, 163, 164, 69, 9, 70, 71, 165, 92, 93, 94, 95, 96, 97, 98, 99, 166, 167, 168, 169, 170, 171, 172, 173, 174, 175, 100, 101, 102, 176, 177, 178, 179, 180, 181, 182, 183, 184, 185, 186, 239, 240, 241, 242, 243, 225, 226, 227, 228, 229, 230, 231, 204, 205, 206, 207, 208, 209, 210, 211, 212] (by decide +kernel) (by decide +kernel)
set_option maxRecDepth 20000 in
theorem gX10_time_X1_tell : GoodIn wsX10_time (wsV RX10 263 RX1 yX1_tell wsX1_tell) := goodIn_app (goodIn_of _ (by decide +kernel)) ggX10_time_X1_tell
theorem dX10_time_0 : decode cX10_time 0 = .ok (.aload_n 0, 1) := by decide +kernel
theorem dX10_time_1 : decode cX10_time 1 = .ok (.getfield 222, 3) := by decide +kernel
theorem dX10_time_4 : decode cX10_time 4 = .ok (.ifCond .eq 4, 3) := by decide +kernel
theorem dX10_time_7 : decode cX10_time 7 = .ok (.return_, 1) := by decide +kernel
theorem dX10_time_8 : decode cX10_time 8 = .ok (.aload_n 0, 1) := by decide +kernel
theorem dX10_time_9 : decode cX10_time 9 = .ok (.invokevirtual 151, 3) := by decide +kernel
theorem dX10_time_12 : decode cX10_time 12 = .ok (.aload_n 0, 1) := by decide +kernel
theorem dX10_time_13 : decode cX10_time 13 = .ok (.getfield 80, 3) := by decide +kernel
theorem dX10_time_16 : decode cX10_time 16 = .ok (.aload_n 0, 1) := by decide +kernel
theorem dX10_time_17 : decode cX10_time 17 = .ok (.getfield 59, 3) := by decide +kernel
theorem dX10_time_20 : decode cX10_time 20 = .ok (.aload_n 0, 1) := by decide +kernel
theorem dX10_time_21 : decode cX10_time 21 = .ok (.getfield 52, 3) := by decide +kernel
theorem dX10_time_24 : decode cX10_time 24 = .ok (.aload_n 0, 1) := by decide +kernel
theorem dX10_time_25 : decode cX10_time 25 = .ok (.getfield 12, 3) := by decide +kernel
theorem dX10_time_28 : decode cX10_time 28 = .ok (.invokevirtual 263, 3) := by decide +kernel
theorem dX10_time_31 : decode cX10_time 31 = .ok (.aload_n 0, 1) := by decide +kernel
theorem dX10_time_32 : decode cX10_time 32 = .ok (.iconst 1, 1) := by decide +kernel
theorem dX10_time_33 : decode cX10_time 33 = .ok (.putfield 222, 3) := by decide +kernel
theorem dX10_time_36 : decode cX10_time 36 = .ok (.return_, 1) := by decide +kernel
set_option maxRecDepth 20000 in
theorem ggX10_pair_X2_take : GoodIn wsX10_pair wsX2_take := goodIn_r _ [10, 11, 12, 13, 14, 15, 16, 17, 18, 19, 20, 21, 22, 9, 23, 24, 25, 26, 27, 28, 29, 30, 31, 32, 33, 34, 35, 36, 37, 38, 39, 40, 41, 42, 43, 44, 45, 46, 47, 48, 49, 50, 155, 156, 157, 158, 159, 160, 161, 162, 163, 164, 165, 166, 167, 168, 169, 170, 171, 172, 173, 174, 175] (by decide +kernel) (by decide +kernel)
set_option maxRecDepth 20000 in
theorem gX10_pair_X2_take : GoodIn wsX10_pair (wsV RX10 250 RX2 yX2_take wsX2_take) := goodIn_app (goodIn_of _ (by decide +kernel)) ggX10_pair_X2_take
set_option maxRecDepth 20000 in
theorem ggX10_pair_X5_seek : GoodIn wsX10_pair wsX5_seek := goodIn_r _ [55, 56, 57, 58, 59, 60, 61, 62, 54, 63, 64, 65, 66, 67, 68, 69, 70, 71, 72, 73, 74, 75, 76, 77, 78, 79, 9, 80, 19, 11, 81, 82, 83, 84, 43, 44, 45, 46, 24, 25, 26, 27, 28, 29, 30, 31, 85, 86, 87, 88, 89, 90, 91, 92, 93, 94, 95, 96, 97, 98, 99, 100, 101, 102, 103, 12, 36, 37, 38, 104, 105, 106, 107, 108, 109, 110, 111, 112, 113, 114, 115, 116, 117, 118, 119, 120, 121, 122, 123, 124, 125, 126, 127, 128, 129, 130, 131, 132, 133, 134, 135, 136, 137, 176, 177, 178, 179, 180, 181, 182, 183, 167, 168, 169, 170, 171, 172, 173, 174, 175, 155, 156, 157, 158, 159, 160, 161, 162, 163, 164, 165, 166, 184, 185, 186, 187, 188, 189, 190] (by decide +kernel) (by decide +kernel)
set_option maxRecDepth 20000 in
theorem gX10_pair_X5_seek : GoodIn wsX10_pair (wsV RX10 267 RX5 yX5_seek wsX5_seek) := goodIn_app (goodIn_of _ (by decide +kernel)) ggX10_pair_X5_seek
theorem dX10_pair_0 : decode cX10_pair 0 = .ok (.aload_n 0, 1) := by decide +kernel
theorem dX10_pair_1 : decode cX10_pair 1 = .ok (.getfield 247, 3) := by decide +kernel
theorem dX10_pair_4 : decode cX10_pair 4 = .ok (.ifCond .eq 4, 3) := by decide +kernel
theorem dX10_pair_7 : decode cX10_pair 7 = .ok (.return_, 1) := by decide +kernel
theorem dX10_pair_8 : decode cX10_pair 8 = .ok (.aload_n 0, 1) := by decide +kernel
theorem dX10_pair_9 : decode cX10_pair 9 = .ok (.getfield 45, 3) := by decide +kernel
theorem dX10_pair_12 : decode cX10_pair 12 = .ok (.aload_n 0, 1) := by decide +kernel
theorem dX10_pair_13 : decode cX10_pair 13 = .ok (.getfield 12, 3) := by decide +kernel
theorem dX10_pair_16 : decode cX10_pair 16 = .ok (.invokevirtual 250, 3) := by decide +kernel
theorem dX10_pair_19 : decode cX10_pair 19 = .ok (.aload_n 0, 1) := by decide +kernel
theorem dX10_pair_20 : decode cX10_pair 20 = .ok (.getfield 87, 3) := by decide +kernel
theorem dX10_pair_23 : decode cX10_pair 23 = .ok (.aload_n 0, 1) := by decide +kernel
theorem dX10_pair_24 : decode cX10_pair 24 = .ok (.getfield 12, 3) := by decide +kernel
theorem dX10_pair_27 : decode cX10_pair 27 = .ok (.aload_n 0, 1) := by decide +kernel
theorem dX10_pair_28 : decode cX10_pair 28 = .ok (.getfield 45, 3) := by decide +kernel
theorem dX10_pair_31 : decode cX10_pair 31 = .ok (.aload_n 0, 1) := by decide +kernel
theorem dX10_pair_32 : decode cX10_pair 32 = .ok (.getfield 52, 3) := by decide +kernel
theorem dX10_pair_35 : decode cX10_pair 35 = .ok (.invokevirtual 267, 3) := by decide +kernel
theorem dX10_pair_38 : decode cX10_pair 38 = .ok (.aload_n 0, 1) := by decide +kernel
theorem dX10_pair_39 : decode cX10_pair 39 = .ok (.iconst 1, 1) := by decide +kernel
theorem dX10_pair_40 : decode cX10_pair 40 = .ok (.putfield 247, 3) := by decide +kernel
theorem dX10_pair_43 : decode cX10_pair 43 = .ok (.return_, 1) := by decide +kernel
theorem dX10_setAt_0 : decode cX10_setAt 0 = .ok (.getstatic 271, 3) := by decide +kernel
theorem dX10_setAt_3 : decode cX10_setAt 3 = .ok (.iload_n 0, 1) := by decide +kernel
theorem dX10_setAt_4 : decode cX10_setAt 4 = .ok (.bipush 27, 2) := by decide +kernel
theorem dX10_setAt_6 : decode cX10_setAt 6 = .ok (.irem, 1) := by decide +kernel
theorem dX10_setAt_7 : decode cX10_setAt 7 = .ok (.iaload, 1) := by decide +kernel
theorem dX10_setAt_8 : decode cX10_setAt 8 = .ok (.getstatic 271, 3) := by decide +kernel
theorem dX10_setAt_11 : decode cX10_setAt 11 = .ok (.iload_n 0, 1) := by decide +kernel
theorem dX10_setAt_12 : decode cX10_setAt 12 = .ok (.bipush 27, 2) := by decide +kernel
theorem dX10_setAt_14 : decode cX10_setAt 14 = .ok (.idiv, 1) := by decide +kernel
theorem dX10_setAt_15 : decode cX10_setAt 15 = .ok (.iaload, 1) := by decide +kernel
theorem dX10_setAt_16 : decode cX10_setAt 16 = .ok (.bipush 6, 2) := by decide +kernel
theorem dX10_setAt_18 : decode cX10_setAt 18 = .ok (.ishl, 1) := by decide +kernel
theorem dX10_setAt_19 : decode cX10_setAt 19 = .ok (.ior, 1) := by decide +kernel
theorem dX10_setAt_20 : decode cX10_setAt 20 = .ok (.ireturn, 1) := by decide +kernel
theorem dX10_placeOf_0 : decode cX10_placeOf 0 = .ok (.getstatic 274, 3) := by decide +kernel
theorem dX10_placeOf_3 : decode cX10_placeOf 3 = .ok (.iload_n 0, 1) := by decide +kernel
theorem dX10_placeOf_4 : decode cX10_placeOf 4 = .ok (.bipush 63, 2) := by decide +kernel
theorem dX10_placeOf_6 : decode cX10_placeOf 6 = .ok (.iand, 1) := by decide +kernel
theorem dX10_placeOf_7 : decode cX10_placeOf 7 = .ok (.iaload, 1) := by decide +kernel
theorem dX10_placeOf_8 : decode cX10_placeOf 8 = .ok (.bipush 27, 2) := by decide +kernel
theorem dX10_placeOf_10 : decode cX10_placeOf 10 = .ok (.getstatic 274, 3) := by decide +kernel
theorem dX10_placeOf_13 : decode cX10_placeOf 13 = .ok (.iload_n 0, 1) := by decide +kernel
theorem dX10_placeOf_14 : decode cX10_placeOf 14 = .ok (.bipush 6, 2) := by decide +kernel
theorem dX10_placeOf_16 : decode cX10_placeOf 16 = .ok (.ishr, 1) := by decide +kernel
theorem dX10_placeOf_17 : decode cX10_placeOf 17 = .ok (.bipush 63, 2) := by decide +kernel
theorem dX10_placeOf_19 : decode cX10_placeOf 19 = .ok (.iand, 1) := by decide +kernel
theorem dX10_placeOf_20 : decode cX10_placeOf 20 = .ok (.iaload, 1) := by decide +kernel
theorem dX10_placeOf_21 : decode cX10_placeOf 21 = .ok (.imul, 1) := by decide +kernel
theorem dX10_placeOf_22 : decode cX10_placeOf 22 = .ok (.iadd, 1) := by decide +kernel
theorem dX10_placeOf_23 : decode cX10_placeOf 23 = .ok (.ireturn, 1) := by decide +kernel
theorem dX10_wordOf_0 : decode cX10_wordOf 0 = .ok (.iload_n 0, 1) := by decide +kernel
theorem dX10_wordOf_1 : decode cX10_wordOf 1 = .ok (.tableswitch 103 0 10 #[59, 63, 67, 71, 75, 79, 83, 87, 91, 95, 99], 59) := by decide +kernel
theorem dX10_wordOf_60 : decode cX10_wordOf 60 = .ok (.ldc_w 277, 3) := by decide +kernel
theorem dX10_wordOf_63 : decode cX10_wordOf 63 = .ok (.areturn, 1) := by decide +kernel
theorem dX10_wordOf_64 : decode cX10_wordOf 64 = .ok (.ldc_w 279, 3) := by decide +kernel
theorem dX10_wordOf_67 : decode cX10_wordOf 67 = .ok (.areturn, 1) := by decide +kernel
theorem dX10_wordOf_68 : decode cX10_wordOf 68 = .ok (.ldc_w 281, 3) := by decide +kernel
theorem dX10_wordOf_71 : decode cX10_wordOf 71 = .ok (.areturn, 1) := by decide +kernel
theorem dX10_wordOf_72 : decode cX10_wordOf 72 = .ok (.ldc_w 283, 3) := by decide +kernel
theorem dX10_wordOf_75 : decode cX10_wordOf 75 = .ok (.areturn, 1) := by decide +kernel
theorem dX10_wordOf_76 : decode cX10_wordOf 76 = .ok (.ldc_w 285, 3) := by decide +kernel
theorem dX10_wordOf_79 : decode cX10_wordOf 79 = .ok (.areturn, 1) := by decide +kernel
theorem dX10_wordOf_80 : decode cX10_wordOf 80 = .ok (.ldc_w 287, 3) := by decide +kernel
theorem dX10_wordOf_83 : decode cX10_wordOf 83 = .ok (.areturn, 1) := by decide +kernel
theorem dX10_wordOf_84 : decode cX10_wordOf 84 = .ok (.ldc_w 289, 3) := by decide +kernel
theorem dX10_wordOf_87 : decode cX10_wordOf 87 = .ok (.areturn, 1) := by decide +kernel
theorem dX10_wordOf_88 : decode cX10_wordOf 88 = .ok (.ldc_w 291, 3) := by decide +kernel
theorem dX10_wordOf_91 : decode cX10_wordOf 91 = .ok (.areturn, 1) := by decide +kernel
theorem dX10_wordOf_92 : decode cX10_wordOf 92 = .ok (.ldc_w 293, 3) := by decide +kernel
theorem dX10_wordOf_95 : decode cX10_wordOf 95 = .ok (.areturn, 1) := by decide +kernel
theorem dX10_wordOf_96 : decode cX10_wordOf 96 = .ok (.ldc_w 294, 3) := by decide +kernel
theorem dX10_wordOf_99 : decode cX10_wordOf 99 = .ok (.areturn, 1) := by decide +kernel
theorem dX10_wordOf_100 : decode cX10_wordOf 100 = .ok (.ldc_w 296, 3) := by decide +kernel
theorem dX10_wordOf_103 : decode cX10_wordOf 103 = .ok (.areturn, 1) := by decide +kernel
theorem dX10_wordOf_104 : decode cX10_wordOf 104 = .ok (.ldc_w 297, 3) := by decide +kernel
theorem dX10_wordOf_107 : decode cX10_wordOf 107 = .ok (.areturn, 1) := by decide +kernel
set_option maxRecDepth 20000 in
theorem ggX11_init_X11_clean : GoodIn wsX11_init wsX11_clean := goodIn_r _ [28, 6, 29, 30, 27, 31, 32, 33, 34, 35, 36, 37, 38, 39, 40, 41, 42, 43, 44, 45, 46, 47, 48, 49, 50, 51, 52, 53, 54, 55, 56, 57, 58, 59] (by decide +kernel) (by decide +kernel)
set_option maxRecDepth 20000 in
theorem gX11_init_X11_clean : GoodIn wsX11_init (wsV RX11 63 RX11 yX11_clean wsX11_clean) := goodIn_app (goodIn_of _ (by decide +kernel)) ggX11_init_X11_clean
theorem dX11_init_0 : decode cX11_init 0 = .ok (.aload_n 0, 1) := by decide +kernel
theorem dX11_init_1 : decode cX11_init 1 = .ok (.invokespecial 1, 3) := by decide +kernel
theorem dX11_init_4 : decode cX11_init 4 = .ok (.aload_n 0, 1) := by decide +kernel
theorem dX11_init_5 : decode cX11_init 5 = .ok (.bipush 58, 2) := by decide +kernel
theorem dX11_init_7 : decode cX11_init 7 = .ok (.newarray .int, 2) := by decide +kernel
theorem dX11_init_9 : decode cX11_init 9 = .ok (.putfield 7, 3) := by decide +kernel
theorem dX11_init_12 : decode cX11_init 12 = .ok (.aload_n 0, 1) := by decide +kernel
theorem dX11_init_13 : decode cX11_init 13 = .ok (.bipush 58, 2) := by decide +kernel
theorem dX11_init_15 : decode cX11_init 15 = .ok (.newarray .int, 2) := by decide +kernel
theorem dX11_init_17 : decode cX11_init 17 = .ok (.putfield 13, 3) := by decide +kernel
theorem dX11_init_20 : decode cX11_init 20 = .ok (.aload_n 0, 1) := by decide +kernel
theorem dX11_init_21 : decode cX11_init 21 = .ok (.bipush 116, 2) := by decide +kernel
theorem dX11_init_23 : decode cX11_init 23 = .ok (.newarray .int, 2) := by decide +kernel
theorem dX11_init_25 : decode cX11_init 25 = .ok (.putfield 16, 3) := by decide +kernel
theorem dX11_init_28 : decode cX11_init 28 = .ok (.aload_n 0, 1) := by decide +kernel
theorem dX11_init_29 : decode cX11_init 29 = .ok (.iconst 2, 1) := by decide +kernel
theorem dX11_init_30 : decode cX11_init 30 = .ok (.newarray .boolean, 2) := by decide +kernel
theorem dX11_init_32 : decode cX11_init 32 = .ok (.putfield 19, 3) := by decide +kernel
theorem dX11_init_35 : decode cX11_init 35 = .ok (.aload_n 0, 1) := by decide +kernel
theorem dX11_init_36 : decode cX11_init 36 = .ok (.sipush 200, 3) := by decide +kernel
theorem dX11_init_39 : decode cX11_init 39 = .ok (.newarray .int, 2) := by decide +kernel
theorem dX11_init_41 : decode cX11_init 41 = .ok (.putfield 23, 3) := by decide +kernel
theorem dX11_init_44 : decode cX11_init 44 = .ok (.aload_n 0, 1) := by decide +kernel
theorem dX11_init_45 : decode cX11_init 45 = .ok (.iconst 3, 1) := by decide +kernel
theorem dX11_init_46 : decode cX11_init 46 = .ok (.newarray .int, 2) := by decide +kernel
theorem dX11_init_48 : decode cX11_init 48 = .ok (.putfield 26, 3) := by decide +kernel
theorem dX11_init_51 : decode cX11_init 51 = .ok (.aload_n 0, 1) := by decide +kernel
theorem dX11_init_52 : decode cX11_init 52 = .ok (.bipush 6, 2) := by decide +kernel
theorem dX11_init_54 : decode cX11_init 54 = .ok (.newarray .int, 2) := by decide +kernel
theorem dX11_init_56 : decode cX11_init 56 = .ok (.putfield 29, 3) := by decide +kernel
theorem dX11_init_59 : decode cX11_init 59 = .ok (.aload_n 0, 1) := by decide +kernel
theorem dX11_init_60 : decode cX11_init 60 = .ok (.sipush 4096, 3) := by decide +kernel
theorem dX11_init_63 : decode cX11_init 63 = .ok (.newarray .long, 2) := by decide +kernel
theorem dX11_init_65 : decode cX11_init 65 = .ok (.putfield 32, 3) := by decide +kernel
theorem dX11_init_68 : decode cX11_init 68 = .ok (.aload_n 0, 1) := by decide +kernel
theorem dX11_init_69 : decode cX11_init 69 = .ok (.sipush 4096, 3) := by decide +kernel
theorem dX11_init_72 : decode cX11_init 72 = .ok (.newarray .long, 2) := by decide +kernel
theorem dX11_init_74 : decode cX11_init 74 = .ok (.putfield 36, 3) := by decide +kernel
theorem dX11_init_77 : decode cX11_init 77 = .ok (.aload_n 0, 1) := by decide +kernel
theorem dX11_init_78 : decode cX11_init 78 = .ok (.bipush 12, 2) := by decide +kernel
theorem dX11_init_80 : decode cX11_init 80 = .ok (.newarray .int, 2) := by decide +kernel
theorem dX11_init_82 : decode cX11_init 82 = .ok (.putfield 39, 3) := by decide +kernel
theorem dX11_init_85 : decode cX11_init 85 = .ok (.aload_n 0, 1) := by decide +kernel
theorem dX11_init_86 : decode cX11_init 86 = .ok (.bipush 12, 2) := by decide +kernel
theorem dX11_init_88 : decode cX11_init 88 = .ok (.newarray .int, 2) := by decide +kernel
theorem dX11_init_90 : decode cX11_init 90 = .ok (.putfield 42, 3) := by decide +kernel
theorem dX11_init_93 : decode cX11_init 93 = .ok (.aload_n 0, 1) := by decide +kernel
theorem dX11_init_94 : decode cX11_init 94 = .ok (.sipush 144, 3) := by decide +kernel
theorem dX11_init_97 : decode cX11_init 97 = .ok (.newarray .long, 2) := by decide +kernel
theorem dX11_init_99 : decode cX11_init 99 = .ok (.putfield 45, 3) := by decide +kernel
theorem dX11_init_102 : decode cX11_init 102 = .ok (.aload_n 0, 1) := by decide +kernel
theorem dX11_init_103 : decode cX11_init 103 = .ok (.sipush 144, 3) := by decide +kernel
theorem dX11_init_106 : decode cX11_init 106 = .ok (.newarray .long, 2) := by decide +kernel
theorem dX11_init_108 : decode cX11_init 108 = .ok (.putfield 48, 3) := by decide +kernel
theorem dX11_init_111 : decode cX11_init 111 = .ok (.aload_n 0, 1) := by decide +kernel
theorem dX11_init_112 : decode cX11_init 112 = .ok (.bipush 6, 2) := by decide +kernel
theorem dX11_init_114 : decode cX11_init 114 = .ok (.newarray .int, 2) := by decide +kernel
theorem dX11_init_116 : decode cX11_init 116 = .ok (.putfield 51, 3) := by decide +kernel
theorem dX11_init_119 : decode cX11_init 119 = .ok (.aload_n 0, 1) := by decide +kernel
theorem dX11_init_120 : decode cX11_init 120 = .ok (.bipush 6, 2) := by decide +kernel
theorem dX11_init_122 : decode cX11_init 122 = .ok (.newarray .int, 2) := by decide +kernel
theorem dX11_init_124 : decode cX11_init 124 = .ok (.putfield 54, 3) := by decide +kernel
theorem dX11_init_127 : decode cX11_init 127 = .ok (.aload_n 0, 1) := by decide +kernel
theorem dX11_init_128 : decode cX11_init 128 = .ok (.sipush 4096, 3) := by decide +kernel
theorem dX11_init_131 : decode cX11_init 131 = .ok (.newarray .int, 2) := by decide +kernel
theorem dX11_init_133 : decode cX11_init 133 = .ok (.putfield 57, 3) := by decide +kernel
theorem dX11_init_136 : decode cX11_init 136 = .ok (.aload_n 0, 1) := by decide +kernel
theorem dX11_init_137 : decode cX11_init 137 = .ok (.sipush 4096, 3) := by decide +kernel
theorem dX11_init_140 : decode cX11_init 140 = .ok (.newarray .int, 2) := by decide +kernel
theorem dX11_init_142 : decode cX11_init 142 = .ok (.putfield 60, 3) := by decide +kernel
theorem dX11_init_145 : decode cX11_init 145 = .ok (.aload_n 0, 1) := by decide +kernel
theorem dX11_init_146 : decode cX11_init 146 = .ok (.invokevirtual 63, 3) := by decide +kernel
theorem dX11_init_149 : decode cX11_init 149 = .ok (.iconst 0, 1) := by decide +kernel
theorem dX11_init_150 : decode cX11_init 150 = .ok (.istore_n 1, 1) := by decide +kernel
theorem dX11_init_151 : decode cX11_init 151 = .ok (.iload_n 1, 1) := by decide +kernel
theorem dX11_init_152 : decode cX11_init 152 = .ok (.bipush 58, 2) := by decide +kernel
theorem dX11_init_154 : decode cX11_init 154 = .ok (.if_icmp .ge 21, 3) := by decide +kernel
theorem dX11_init_157 : decode cX11_init 157 = .ok (.aload_n 0, 1) := by decide +kernel
theorem dX11_init_158 : decode cX11_init 158 = .ok (.getfield 7, 3) := by decide +kernel
theorem dX11_init_161 : decode cX11_init 161 = .ok (.iload_n 1, 1) := by decide +kernel
theorem dX11_init_162 : decode cX11_init 162 = .ok (.aload_n 0, 1) := by decide +kernel
theorem dX11_init_163 : decode cX11_init 163 = .ok (.getfield 13, 3) := by decide +kernel
theorem dX11_init_166 : decode cX11_init 166 = .ok (.iload_n 1, 1) := by decide +kernel
theorem dX11_init_167 : decode cX11_init 167 = .ok (.iaload, 1) := by decide +kernel
theorem dX11_init_168 : decode cX11_init 168 = .ok (.iastore, 1) := by decide +kernel
theorem dX11_init_169 : decode cX11_init 169 = .ok (.iinc 1 1, 3) := by decide +kernel
theorem dX11_init_172 : decode cX11_init 172 = .ok (.goto (-21), 3) := by decide +kernel
theorem dX11_init_175 : decode cX11_init 175 = .ok (.return_, 1) := by decide +kernel
theorem dX11_in_0 : decode cX11_in 0 = .ok (.iload_n 0, 1) := by decide +kernel
theorem dX11_in_1 : decode cX11_in 1 = .ok (.iload_n 1, 1) := by decide +kernel
theorem dX11_in_2 : decode cX11_in 2 = .ok (.if_icmp .lt 12, 3) := by decide +kernel
theorem dX11_in_5 : decode cX11_in 5 = .ok (.iload_n 0, 1) := by decide +kernel
theorem dX11_in_6 : decode cX11_in 6 = .ok (.iload_n 2, 1) := by decide +kernel
theorem dX11_in_7 : decode cX11_in 7 = .ok (.if_icmp .gt 7, 3) := by decide +kernel
theorem dX11_in_10 : decode cX11_in 10 = .ok (.iconst 1, 1) := by decide +kernel
theorem dX11_in_11 : decode cX11_in 11 = .ok (.goto 4, 3) := by decide +kernel
theorem dX11_in_14 : decode cX11_in 14 = .ok (.iconst 0, 1) := by decide +kernel
theorem dX11_in_15 : decode cX11_in 15 = .ok (.ireturn, 1) := by decide +kernel
theorem dX11_refuses_0 : decode cX11_refuses 0 = .ok (.aload_n 0, 1) := by decide +kernel
theorem dX11_refuses_1 : decode cX11_refuses 1 = .ok (.getfield 26, 3) := by decide +kernel
theorem dX11_refuses_4 : decode cX11_refuses 4 = .ok (.iload_n 1, 1) := by decide +kernel
theorem dX11_refuses_5 : decode cX11_refuses 5 = .ok (.dup2, 1) := by decide +kernel
theorem dX11_refuses_6 : decode cX11_refuses 6 = .ok (.iaload, 1) := by decide +kernel
theorem dX11_refuses_7 : decode cX11_refuses 7 = .ok (.iconst 1, 1) := by decide +kernel
theorem dX11_refuses_8 : decode cX11_refuses 8 = .ok (.iadd, 1) := by decide +kernel
theorem dX11_refuses_9 : decode cX11_refuses 9 = .ok (.iastore, 1) := by decide +kernel
theorem dX11_refuses_10 : decode cX11_refuses 10 = .ok (.iload_n 2, 1) := by decide +kernel
theorem dX11_refuses_11 : decode cX11_refuses 11 = .ok (.ireturn, 1) := by decide +kernel
set_option maxRecDepth 20000 in
theorem ggX11_bad_X11_refuses : GoodIn wsX11_bad wsX11_refuses := goodIn_r _ [5, 6, 7, 8, 9, 10, 11, 12, 13, 14, 15, 16, 17, 18, 19, 20, 21, 22, 23, 24, 25, 26, 27, 28, 29, 30, 31, 32, 33, 34] (by decide +kernel) (by decide +kernel)
set_option maxRecDepth 20000 in
theorem gX11_bad_X11_refuses : GoodIn wsX11_bad (wsV RX11 66 RX11 yX11_refuses wsX11_refuses) := goodIn_app (goodIn_of _ (by decide +kernel)) ggX11_bad_X11_refuses
theorem dX11_bad_0 : decode cX11_bad 0 = .ok (.aload_n 0, 1) := by decide +kernel
theorem dX11_bad_1 : decode cX11_bad 1 = .ok (.iconst 0, 1) := by decide +kernel
theorem dX11_bad_2 : decode cX11_bad 2 = .ok (.bipush (-2), 2) := by decide +kernel
theorem dX11_bad_4 : decode cX11_bad 4 = .ok (.invokevirtual 66, 3) := by decide +kernel
theorem dX11_bad_7 : decode cX11_bad 7 = .ok (.ireturn, 1) := by decide +kernel
set_option maxRecDepth 20000 in
theorem ggX11_isThing_X11_in : GoodIn wsX11_isThing wsX11_in := goodIn_r _ [5] (by decide +kernel) (by decide +kernel)
set_option maxRecDepth 20000 in
theorem gX11_isThing_X11_in : GoodIn wsX11_isThing (va_wsS RX11 70 yX11_in wsX11_in) := goodIn_app (goodIn_of _ (by decide +kernel)) ggX11_isThing_X11_in
theorem dX11_isThing_0 : decode cX11_isThing 0 = .ok (.iload_n 1, 1) := by decide +kernel
theorem dX11_isThing_1 : decode cX11_isThing 1 = .ok (.iconst 0, 1) := by decide +kernel
theorem dX11_isThing_2 : decode cX11_isThing 2 = .ok (.aload_n 0, 1) := by decide +kernel
theorem dX11_isThing_3 : decode cX11_isThing 3 = .ok (.getfield 7, 3) := by decide +kernel
theorem dX11_isThing_6 : decode cX11_isThing 6 = .ok (.iconst 0, 1) := by decide +kernel
theorem dX11_isThing_7 : decode cX11_isThing 7 = .ok (.iaload, 1) := by decide +kernel
theorem dX11_isThing_8 : decode cX11_isThing 8 = .ok (.iconst 1, 1) := by decide +kernel
theorem dX11_isThing_9 : decode cX11_isThing 9 = .ok (.isub, 1) := by decide +kernel
theorem dX11_isThing_10 : decode cX11_isThing 10 = .ok (.invokestatic 70, 3) := by decide +kernel
theorem dX11_isThing_13 : decode cX11_isThing 13 = .ok (.ireturn, 1) := by decide +kernel
set_option maxRecDepth 20000 in
theorem ggX11_isEnd_X11_in : GoodIn wsX11_isEnd wsX11_in := goodIn_r _ [5] (by decide +kernel) (by decide +kernel)
set_option maxRecDepth 20000 in
theorem gX11_isEnd_X11_in : GoodIn wsX11_isEnd (va_wsS RX11 70 yX11_in wsX11_in) := goodIn_app (goodIn_of _ (by decide +kernel)) ggX11_isEnd_X11_in
theorem dX11_isEnd_0 : decode cX11_isEnd 0 = .ok (.iload_n 1, 1) := by decide +kernel
theorem dX11_isEnd_1 : decode cX11_isEnd 1 = .ok (.iconst 0, 1) := by decide +kernel
theorem dX11_isEnd_2 : decode cX11_isEnd 2 = .ok (.iconst 2, 1) := by decide +kernel
theorem dX11_isEnd_3 : decode cX11_isEnd 3 = .ok (.aload_n 0, 1) := by decide +kernel
theorem dX11_isEnd_4 : decode cX11_isEnd 4 = .ok (.getfield 7, 3) := by decide +kernel
theorem dX11_isEnd_7 : decode cX11_isEnd 7 = .ok (.iconst 0, 1) := by decide +kernel
theorem dX11_isEnd_8 : decode cX11_isEnd 8 = .ok (.iaload, 1) := by decide +kernel
theorem dX11_isEnd_9 : decode cX11_isEnd 9 = .ok (.imul, 1) := by decide +kernel
theorem dX11_isEnd_10 : decode cX11_isEnd 10 = .ok (.iconst 1, 1) := by decide +kernel
theorem dX11_isEnd_11 : decode cX11_isEnd 11 = .ok (.isub, 1) := by decide +kernel
theorem dX11_isEnd_12 : decode cX11_isEnd 12 = .ok (.invokestatic 70, 3) := by decide +kernel
theorem dX11_isEnd_15 : decode cX11_isEnd 15 = .ok (.ireturn, 1) := by decide +kernel
set_option maxRecDepth 20000 in
theorem ggX11_clean_X11_in : GoodIn wsX11_clean wsX11_in := goodIn_r _ [5] (by decide +kernel) (by decide +kernel)
set_option maxRecDepth 20000 in
theorem gX11_clean_X11_in : GoodIn wsX11_clean (va_wsS RX11 70 yX11_in wsX11_in) := goodIn_app (goodIn_of _ (by decide +kernel)) ggX11_clean_X11_in
theorem dX11_clean_0 : decode cX11_clean 0 = .ok (.iconst 0, 1) := by decide +kernel
theorem dX11_clean_1 : decode cX11_clean 1 = .ok (.istore_n 1, 1) := by decide +kernel
theorem dX11_clean_2 : decode cX11_clean 2 = .ok (.iload_n 1, 1) := by decide +kernel
theorem dX11_clean_3 : decode cX11_clean 3 = .ok (.bipush 58, 2) := by decide +kernel
theorem dX11_clean_5 : decode cX11_clean 5 = .ok (.if_icmp .ge 36, 3) := by decide +kernel
theorem dX11_clean_8 : decode cX11_clean 8 = .ok (.aload_n 0, 1) := by decide +kernel
theorem dX11_clean_9 : decode cX11_clean 9 = .ok (.getfield 13, 3) := by decide +kernel
theorem dX11_clean_12 : decode cX11_clean 12 = .ok (.iload_n 1, 1) := by decide +kernel
theorem dX11_clean_13 : decode cX11_clean 13 = .ok (.iload_n 1, 1) := by decide +kernel
theorem dX11_clean_14 : decode cX11_clean 14 = .ok (.iconst 2, 1) := by decide +kernel
theorem dX11_clean_15 : decode cX11_clean 15 = .ok (.bipush 7, 2) := by decide +kernel
theorem dX11_clean_17 : decode cX11_clean 17 = .ok (.invokestatic 70, 3) := by decide +kernel
theorem dX11_clean_20 : decode cX11_clean 20 = .ok (.ifCond .ne 9, 3) := by decide +kernel
theorem dX11_clean_23 : decode cX11_clean 23 = .ok (.iload_n 1, 1) := by decide +kernel
theorem dX11_clean_24 : decode cX11_clean 24 = .ok (.bipush 46, 2) := by decide +kernel
theorem dX11_clean_26 : decode cX11_clean 26 = .ok (.if_icmp .lt 7, 3) := by decide +kernel
theorem dX11_clean_29 : decode cX11_clean 29 = .ok (.iconst (-1), 1) := by decide +kernel
theorem dX11_clean_30 : decode cX11_clean 30 = .ok (.goto 4, 3) := by decide +kernel
theorem dX11_clean_33 : decode cX11_clean 33 = .ok (.iconst 0, 1) := by decide +kernel
theorem dX11_clean_34 : decode cX11_clean 34 = .ok (.iastore, 1) := by decide +kernel
theorem dX11_clean_35 : decode cX11_clean 35 = .ok (.iinc 1 1, 3) := by decide +kernel
theorem dX11_clean_38 : decode cX11_clean 38 = .ok (.goto (-36), 3) := by decide +kernel
theorem dX11_clean_41 : decode cX11_clean 41 = .ok (.return_, 1) := by decide +kernel
set_option maxRecDepth 20000 in
theorem ggX11_thing_X11_refuses : GoodIn wsX11_thing wsX11_refuses := goodIn_r _ [6, 7, 8, 9, 10, 11, 12, 13, 14, 15, 16, 17, 18, 19, 20, 21, 22, 23, 24, 25, 26, 27, 28, 29, 30, 31, 32, 33, 34, 35] (by decide +kernel) (by decide +kernel)
set_option maxRecDepth 20000 in
theorem gX11_thing_X11_refuses : GoodIn wsX11_thing (wsV RX11 66 RX11 yX11_refuses wsX11_refuses) := goodIn_app (goodIn_of _ (by decide +kernel)) ggX11_thing_X11_refuses
theorem dX11_thing_0 : decode cX11_thing 0 = .ok (.aload_n 0, 1) := by decide +kernel
theorem dX11_thing_1 : decode cX11_thing 1 = .ok (.getfield 7, 3) := by decide +kernel
theorem dX11_thing_4 : decode cX11_thing 4 = .ok (.iconst 0, 1) := by decide +kernel
theorem dX11_thing_5 : decode cX11_thing 5 = .ok (.iaload, 1) := by decide +kernel
theorem dX11_thing_6 : decode cX11_thing 6 = .ok (.bipush 6, 2) := by decide +kernel
theorem dX11_thing_8 : decode cX11_thing 8 = .ok (.if_icmp .ne 11, 3) := by decide +kernel
theorem dX11_thing_11 : decode cX11_thing 11 = .ok (.aload_n 0, 1) := by decide +kernel
theorem dX11_thing_12 : decode cX11_thing 12 = .ok (.iconst 2, 1) := by decide +kernel
theorem dX11_thing_13 : decode cX11_thing 13 = .ok (.bipush (-4), 2) := by decide +kernel
theorem dX11_thing_15 : decode cX11_thing 15 = .ok (.invokevirtual 66, 3) := by decide +kernel
theorem dX11_thing_18 : decode cX11_thing 18 = .ok (.ireturn, 1) := by decide +kernel
theorem dX11_thing_19 : decode cX11_thing 19 = .ok (.aload_n 0, 1) := by decide +kernel
theorem dX11_thing_20 : decode cX11_thing 20 = .ok (.getfield 7, 3) := by decide +kernel
theorem dX11_thing_23 : decode cX11_thing 23 = .ok (.iconst 0, 1) := by decide +kernel
theorem dX11_thing_24 : decode cX11_thing 24 = .ok (.dup2, 1) := by decide +kernel
theorem dX11_thing_25 : decode cX11_thing 25 = .ok (.iaload, 1) := by decide +kernel
theorem dX11_thing_26 : decode cX11_thing 26 = .ok (.iconst 1, 1) := by decide +kernel
theorem dX11_thing_27 : decode cX11_thing 27 = .ok (.iadd, 1) := by decide +kernel
theorem dX11_thing_28 : decode cX11_thing 28 = .ok (.iastore, 1) := by decide +kernel
theorem dX11_thing_29 : decode cX11_thing 29 = .ok (.aload_n 0, 1) := by decide +kernel
theorem dX11_thing_30 : decode cX11_thing 30 = .ok (.getfield 7, 3) := by decide +kernel
theorem dX11_thing_33 : decode cX11_thing 33 = .ok (.iconst 0, 1) := by decide +kernel
theorem dX11_thing_34 : decode cX11_thing 34 = .ok (.iaload, 1) := by decide +kernel
theorem dX11_thing_35 : decode cX11_thing 35 = .ok (.iconst 1, 1) := by decide +kernel
theorem dX11_thing_36 : decode cX11_thing 36 = .ok (.isub, 1) := by decide +kernel
theorem dX11_thing_37 : decode cX11_thing 37 = .ok (.ireturn, 1) := by decide +kernel
set_option maxRecDepth 20000 in
theorem ggX11_of_X11_isThing : GoodIn wsX11_of wsX11_isThing := goodIn_r _ [6, 1, 7, 8, 5, 9, 15, 16, 17, 18, 19, 20, 21, 22, 23, 24, 25, 26, 27, 28, 29, 30, 31, 32, 33, 34, 35, 36, 37, 38, 39, 40, 41, 42] (by decide +kernel) (by decide +kernel)
set_option maxRecDepth 20000 in
theorem gX11_of_X11_isThing : GoodIn wsX11_of (wsV RX11 74 RX11 yX11_isThing wsX11_isThing) := goodIn_app (goodIn_of _ (by decide +kernel)) ggX11_of_X11_isThing
set_option maxRecDepth 20000 in
theorem ggX11_of_X11_in : GoodIn wsX11_of wsX11_in := goodIn_r _ [9] (by decide +kernel) (by decide +kernel)
set_option maxRecDepth 20000 in
theorem gX11_of_X11_in : GoodIn wsX11_of (va_wsS RX11 70 yX11_in wsX11_in) := goodIn_app (goodIn_of _ (by decide +kernel)) ggX11_of_X11_in
set_option maxRecDepth 20000 in
theorem ggX11_of_X11_refuses : GoodIn wsX11_of wsX11_refuses := goodIn_r _ [13, 14, 15, 16, 17, 18, 19, 20, 21, 22, 23, 24, 25, 26, 27, 28, 29, 30, 31, 32, 33, 34, 35, 36, 37, 38, 39, 40, 41, 42] (by decide +kernel) (by decide +kernel)
set_option maxRecDepth 20000 in
theorem gX11_of_X11_refuses : GoodIn wsX11_of (wsV RX11 66 RX11 yX11_refuses wsX11_refuses) := goodIn_app (goodIn_of _ (by decide +kernel)) ggX11_of_X11_refuses
theorem dX11_of_0 : decode cX11_of 0 = .ok (.aload_n 0, 1) := by decide +kernel
theorem dX11_of_1 : decode cX11_of 1 = .ok (.iload_n 1, 1) := by decide +kernel
theorem dX11_of_2 : decode cX11_of 2 = .ok (.invokevirtual 74, 3) := by decide +kernel
theorem dX11_of_5 : decode cX11_of 5 = .ok (.ifCond .eq 12, 3) := by decide +kernel
theorem dX11_of_8 : decode cX11_of 8 = .ok (.iload_n 2, 1) := by decide +kernel
theorem dX11_of_9 : decode cX11_of 9 = .ok (.iconst (-1), 1) := by decide +kernel
theorem dX11_of_10 : decode cX11_of 10 = .ok (.iconst 3, 1) := by decide +kernel
theorem dX11_of_11 : decode cX11_of 11 = .ok (.invokestatic 70, 3) := by decide +kernel
theorem dX11_of_14 : decode cX11_of 14 = .ok (.ifCond .ne 11, 3) := by decide +kernel
theorem dX11_of_17 : decode cX11_of 17 = .ok (.aload_n 0, 1) := by decide +kernel
theorem dX11_of_18 : decode cX11_of 18 = .ok (.iconst 0, 1) := by decide +kernel
theorem dX11_of_19 : decode cX11_of 19 = .ok (.bipush (-10), 2) := by decide +kernel
theorem dX11_of_21 : decode cX11_of 21 = .ok (.invokevirtual 66, 3) := by decide +kernel
theorem dX11_of_24 : decode cX11_of 24 = .ok (.ireturn, 1) := by decide +kernel
theorem dX11_of_25 : decode cX11_of 25 = .ok (.aload_n 0, 1) := by decide +kernel
theorem dX11_of_26 : decode cX11_of 26 = .ok (.getfield 7, 3) := by decide +kernel
theorem dX11_of_29 : decode cX11_of 29 = .ok (.iconst 2, 1) := by decide +kernel
theorem dX11_of_30 : decode cX11_of 30 = .ok (.iload_n 1, 1) := by decide +kernel
theorem dX11_of_31 : decode cX11_of 31 = .ok (.iadd, 1) := by decide +kernel
theorem dX11_of_32 : decode cX11_of 32 = .ok (.iaload, 1) := by decide +kernel
theorem dX11_of_33 : decode cX11_of 33 = .ok (.istore_n 3, 1) := by decide +kernel
theorem dX11_of_34 : decode cX11_of 34 = .ok (.aload_n 0, 1) := by decide +kernel
theorem dX11_of_35 : decode cX11_of 35 = .ok (.getfield 7, 3) := by decide +kernel
theorem dX11_of_38 : decode cX11_of 38 = .ok (.iconst 2, 1) := by decide +kernel
theorem dX11_of_39 : decode cX11_of 39 = .ok (.iload_n 1, 1) := by decide +kernel
theorem dX11_of_40 : decode cX11_of 40 = .ok (.iadd, 1) := by decide +kernel
theorem dX11_of_41 : decode cX11_of 41 = .ok (.iload_n 2, 1) := by decide +kernel
theorem dX11_of_42 : decode cX11_of 42 = .ok (.iastore, 1) := by decide +kernel
theorem dX11_of_43 : decode cX11_of 43 = .ok (.iload_n 3, 1) := by decide +kernel
theorem dX11_of_44 : decode cX11_of 44 = .ok (.ireturn, 1) := by decide +kernel
set_option maxRecDepth 20000 in
theorem ggX11_story_X11_isThing : GoodIn wsX11_story wsX11_isThing := goodIn_r _ [6, 1, 7, 8, 5, 9, 19, 20, 21, 22, 23, 24, 25, 26, 27, 28, 29, 30, 31, 32, 33, 34, 35, 36, 37, 38, 39, 40, 41, 42, 43, 44, 45, 46] (by decide +kernel) (by decide +kernel)
set_option maxRecDepth 20000 in
theorem gX11_story_X11_isThing : GoodIn wsX11_story (wsV RX11 74 RX11 yX11_isThing wsX11_isThing) := goodIn_app (goodIn_of _ (by decide +kernel)) ggX11_story_X11_isThing
set_option maxRecDepth 20000 in
theorem ggX11_story_X11_in : GoodIn wsX11_story wsX11_in := goodIn_r _ [9] (by decide +kernel) (by decide +kernel)
set_option maxRecDepth 20000 in
theorem gX11_story_X11_in : GoodIn wsX11_story (va_wsS RX11 70 yX11_in wsX11_in) := goodIn_app (goodIn_of _ (by decide +kernel)) ggX11_story_X11_in
set_option maxRecDepth 20000 in
theorem ggX11_story_X11_bad : GoodIn wsX11_story wsX11_bad := goodIn_r _ [13, 14, 15, 16, 5, 17, 18, 19, 20, 21, 22, 23, 24, 25, 26, 27, 28, 29, 30, 31, 32, 33, 34, 35, 36, 37, 38, 39, 40, 41, 42, 43, 44, 45, 46] (by decide +kernel) (by decide +kernel)
set_option maxRecDepth 20000 in
theorem gX11_story_X11_bad : GoodIn wsX11_story (wsV RX11 78 RX11 yX11_bad wsX11_bad) := goodIn_app (goodIn_of _ (by decide +kernel)) ggX11_story_X11_bad
theorem dX11_story_0 : decode cX11_story 0 = .ok (.aload_n 0, 1) := by decide +kernel
theorem dX11_story_1 : decode cX11_story 1 = .ok (.iload_n 1, 1) := by decide +kernel
theorem dX11_story_2 : decode cX11_story 2 = .ok (.invokevirtual 74, 3) := by decide +kernel
theorem dX11_story_5 : decode cX11_story 5 = .ok (.ifCond .eq 12, 3) := by decide +kernel
theorem dX11_story_8 : decode cX11_story 8 = .ok (.iload_n 2, 1) := by decide +kernel
theorem dX11_story_9 : decode cX11_story 9 = .ok (.iconst 0, 1) := by decide +kernel
theorem dX11_story_10 : decode cX11_story 10 = .ok (.iconst 1, 1) := by decide +kernel
theorem dX11_story_11 : decode cX11_story 11 = .ok (.invokestatic 70, 3) := by decide +kernel
theorem dX11_story_14 : decode cX11_story 14 = .ok (.ifCond .ne 8, 3) := by decide +kernel
theorem dX11_story_17 : decode cX11_story 17 = .ok (.aload_n 0, 1) := by decide +kernel
theorem dX11_story_18 : decode cX11_story 18 = .ok (.invokevirtual 78, 3) := by decide +kernel
theorem dX11_story_21 : decode cX11_story 21 = .ok (.ireturn, 1) := by decide +kernel
theorem dX11_story_22 : decode cX11_story 22 = .ok (.aload_n 0, 1) := by decide +kernel
theorem dX11_story_23 : decode cX11_story 23 = .ok (.getfield 7, 3) := by decide +kernel
theorem dX11_story_26 : decode cX11_story 26 = .ok (.bipush 8, 2) := by decide +kernel
theorem dX11_story_28 : decode cX11_story 28 = .ok (.iload_n 1, 1) := by decide +kernel
theorem dX11_story_29 : decode cX11_story 29 = .ok (.iadd, 1) := by decide +kernel
theorem dX11_story_30 : decode cX11_story 30 = .ok (.iaload, 1) := by decide +kernel
theorem dX11_story_31 : decode cX11_story 31 = .ok (.istore_n 3, 1) := by decide +kernel
theorem dX11_story_32 : decode cX11_story 32 = .ok (.aload_n 0, 1) := by decide +kernel
theorem dX11_story_33 : decode cX11_story 33 = .ok (.getfield 7, 3) := by decide +kernel
theorem dX11_story_36 : decode cX11_story 36 = .ok (.bipush 8, 2) := by decide +kernel
theorem dX11_story_38 : decode cX11_story 38 = .ok (.iload_n 1, 1) := by decide +kernel
theorem dX11_story_39 : decode cX11_story 39 = .ok (.iadd, 1) := by decide +kernel
theorem dX11_story_40 : decode cX11_story 40 = .ok (.iload_n 2, 1) := by decide +kernel
theorem dX11_story_41 : decode cX11_story 41 = .ok (.iastore, 1) := by decide +kernel
theorem dX11_story_42 : decode cX11_story 42 = .ok (.iload_n 3, 1) := by decide +kernel
theorem dX11_story_43 : decode cX11_story 43 = .ok (.ireturn, 1) := by decide +kernel
set_option maxRecDepth 20000 in
theorem ggX11_say_X11_isThing : GoodIn wsX11_say wsX11_isThing := goodIn_r _ [6, 1, 7, 8, 5, 9, 19, 20, 21, 22, 23, 24, 25, 26, 27, 28, 29, 30, 31, 32, 33, 34, 35, 36, 37, 38, 39, 40, 41, 42, 43, 44, 45, 46] (by decide +kernel) (by decide +kernel)
set_option maxRecDepth 20000 in
theorem gX11_say_X11_isThing : GoodIn wsX11_say (wsV RX11 74 RX11 yX11_isThing wsX11_isThing) := goodIn_app (goodIn_of _ (by decide +kernel)) ggX11_say_X11_isThing
set_option maxRecDepth 20000 in
theorem ggX11_say_X11_in : GoodIn wsX11_say wsX11_in := goodIn_r _ [9] (by decide +kernel) (by decide +kernel)
set_option maxRecDepth 20000 in
theorem gX11_say_X11_in : GoodIn wsX11_say (va_wsS RX11 70 yX11_in wsX11_in) := goodIn_app (goodIn_of _ (by decide +kernel)) ggX11_say_X11_in
set_option maxRecDepth 20000 in
theorem ggX11_say_X11_bad : GoodIn wsX11_say wsX11_bad := goodIn_r _ [13, 14, 15, 16, 5, 17, 18, 19, 20, 21, 22, 23, 24, 25, 26, 27, 28, 29, 30, 31, 32, 33, 34, 35, 36, 37, 38, 39, 40, 41, 42, 43, 44, 45, 46] (by decide +kernel) (by decide +kernel)
set_option maxRecDepth 20000 in
theorem gX11_say_X11_bad : GoodIn wsX11_say (wsV RX11 78 RX11 yX11_bad wsX11_bad) := goodIn_app (goodIn_of _ (by decide +kernel)) ggX11_say_X11_bad
set_option maxRecDepth 20000 in
theorem ggX11_say_X11_refuses : GoodIn wsX11_say wsX11_refuses := goodIn_r _ [17, 18, 19, 20, 21, 22, 23, 24, 25, 26, 27, 28, 29, 30, 31, 32, 33, 34, 35, 36, 37, 38, 39, 40, 41, 42, 43, 44, 45, 46] (by decide +kernel) (by decide +kernel)
set_option maxRecDepth 20000 in
theorem gX11_say_X11_refuses : GoodIn wsX11_say (wsV RX11 66 RX11 yX11_refuses wsX11_refuses) := goodIn_app (goodIn_of _ (by decide +kernel)) ggX11_say_X11_refuses
theorem dX11_say_0 : decode cX11_say 0 = .ok (.aload_n 0, 1) := by decide +kernel
theorem dX11_say_1 : decode cX11_say 1 = .ok (.iload_n 1, 1) := by decide +kernel
theorem dX11_say_2 : decode cX11_say 2 = .ok (.invokevirtual 74, 3) := by decide +kernel
theorem dX11_say_5 : decode cX11_say 5 = .ok (.ifCond .eq 36, 3) := by decide +kernel
theorem dX11_say_8 : decode cX11_say 8 = .ok (.aload_n 0, 1) := by decide +kernel
theorem dX11_say_9 : decode cX11_say 9 = .ok (.iload_n 3, 1) := by decide +kernel
theorem dX11_say_10 : decode cX11_say 10 = .ok (.invokevirtual 74, 3) := by decide +kernel
theorem dX11_say_13 : decode cX11_say 13 = .ok (.ifCond .eq 28, 3) := by decide +kernel
theorem dX11_say_16 : decode cX11_say 16 = .ok (.iload_n 1, 1) := by decide +kernel
theorem dX11_say_17 : decode cX11_say 17 = .ok (.iload_n 3, 1) := by decide +kernel
theorem dX11_say_18 : decode cX11_say 18 = .ok (.if_icmp .eq 23, 3) := by decide +kernel
theorem dX11_say_21 : decode cX11_say 21 = .ok (.iload_n 2, 1) := by decide +kernel
theorem dX11_say_22 : decode cX11_say 22 = .ok (.iconst 0, 1) := by decide +kernel
theorem dX11_say_23 : decode cX11_say 23 = .ok (.bipush 7, 2) := by decide +kernel
theorem dX11_say_25 : decode cX11_say 25 = .ok (.invokestatic 70, 3) := by decide +kernel
theorem dX11_say_28 : decode cX11_say 28 = .ok (.ifCond .eq 13, 3) := by decide +kernel
theorem dX11_say_31 : decode cX11_say 31 = .ok (.iload 4, 2) := by decide +kernel
theorem dX11_say_33 : decode cX11_say 33 = .ok (.iconst 0, 1) := by decide +kernel
theorem dX11_say_34 : decode cX11_say 34 = .ok (.iconst 3, 1) := by decide +kernel
theorem dX11_say_35 : decode cX11_say 35 = .ok (.invokestatic 70, 3) := by decide +kernel
theorem dX11_say_38 : decode cX11_say 38 = .ok (.ifCond .ne 8, 3) := by decide +kernel
theorem dX11_say_41 : decode cX11_say 41 = .ok (.aload_n 0, 1) := by decide +kernel
theorem dX11_say_42 : decode cX11_say 42 = .ok (.invokevirtual 78, 3) := by decide +kernel
theorem dX11_say_45 : decode cX11_say 45 = .ok (.ireturn, 1) := by decide +kernel
theorem dX11_say_46 : decode cX11_say 46 = .ok (.aload_n 0, 1) := by decide +kernel
theorem dX11_say_47 : decode cX11_say 47 = .ok (.getfield 7, 3) := by decide +kernel
theorem dX11_say_50 : decode cX11_say 50 = .ok (.iconst 1, 1) := by decide +kernel
theorem dX11_say_51 : decode cX11_say 51 = .ok (.iaload, 1) := by decide +kernel
theorem dX11_say_52 : decode cX11_say 52 = .ok (.bipush 8, 2) := by decide +kernel
theorem dX11_say_54 : decode cX11_say 54 = .ok (.if_icmp .ne 11, 3) := by decide +kernel
theorem dX11_say_57 : decode cX11_say 57 = .ok (.aload_n 0, 1) := by decide +kernel
theorem dX11_say_58 : decode cX11_say 58 = .ok (.iconst 2, 1) := by decide +kernel
theorem dX11_say_59 : decode cX11_say 59 = .ok (.bipush (-4), 2) := by decide +kernel
theorem dX11_say_61 : decode cX11_say 61 = .ok (.invokevirtual 66, 3) := by decide +kernel
theorem dX11_say_64 : decode cX11_say 64 = .ok (.ireturn, 1) := by decide +kernel
theorem dX11_say_65 : decode cX11_say 65 = .ok (.aload_n 0, 1) := by decide +kernel
theorem dX11_say_66 : decode cX11_say 66 = .ok (.getfield 7, 3) := by decide +kernel
theorem dX11_say_69 : decode cX11_say 69 = .ok (.iconst 1, 1) := by decide +kernel
theorem dX11_say_70 : decode cX11_say 70 = .ok (.iaload, 1) := by decide +kernel
theorem dX11_say_71 : decode cX11_say 71 = .ok (.istore 5, 2) := by decide +kernel
theorem dX11_say_73 : decode cX11_say 73 = .ok (.aload_n 0, 1) := by decide +kernel
theorem dX11_say_74 : decode cX11_say 74 = .ok (.getfield 7, 3) := by decide +kernel
theorem dX11_say_77 : decode cX11_say 77 = .ok (.bipush 14, 2) := by decide +kernel
theorem dX11_say_79 : decode cX11_say 79 = .ok (.iload 5, 2) := by decide +kernel
theorem dX11_say_81 : decode cX11_say 81 = .ok (.iadd, 1) := by decide +kernel
theorem dX11_say_82 : decode cX11_say 82 = .ok (.iload_n 2, 1) := by decide +kernel
theorem dX11_say_83 : decode cX11_say 83 = .ok (.iastore, 1) := by decide +kernel
theorem dX11_say_84 : decode cX11_say 84 = .ok (.aload_n 0, 1) := by decide +kernel
theorem dX11_say_85 : decode cX11_say 85 = .ok (.getfield 7, 3) := by decide +kernel
theorem dX11_say_88 : decode cX11_say 88 = .ok (.bipush 22, 2) := by decide +kernel
theorem dX11_say_90 : decode cX11_say 90 = .ok (.iload 5, 2) := by decide +kernel
theorem dX11_say_92 : decode cX11_say 92 = .ok (.iadd, 1) := by decide +kernel
theorem dX11_say_93 : decode cX11_say 93 = .ok (.iload_n 1, 1) := by decide +kernel
theorem dX11_say_94 : decode cX11_say 94 = .ok (.iastore, 1) := by decide +kernel
theorem dX11_say_95 : decode cX11_say 95 = .ok (.aload_n 0, 1) := by decide +kernel
theorem dX11_say_96 : decode cX11_say 96 = .ok (.getfield 7, 3) := by decide +kernel
theorem dX11_say_99 : decode cX11_say 99 = .ok (.bipush 30, 2) := by decide +kernel
theorem dX11_say_101 : decode cX11_say 101 = .ok (.iload 5, 2) := by decide +kernel
theorem dX11_say_103 : decode cX11_say 103 = .ok (.iadd, 1) := by decide +kernel
theorem dX11_say_104 : decode cX11_say 104 = .ok (.iload_n 3, 1) := by decide +kernel
theorem dX11_say_105 : decode cX11_say 105 = .ok (.iastore, 1) := by decide +kernel
theorem dX11_say_106 : decode cX11_say 106 = .ok (.aload_n 0, 1) := by decide +kernel
theorem dX11_say_107 : decode cX11_say 107 = .ok (.getfield 7, 3) := by decide +kernel
theorem dX11_say_110 : decode cX11_say 110 = .ok (.bipush 38, 2) := by decide +kernel
theorem dX11_say_112 : decode cX11_say 112 = .ok (.iload 5, 2) := by decide +kernel
theorem dX11_say_114 : decode cX11_say 114 = .ok (.iadd, 1) := by decide +kernel
theorem dX11_say_115 : decode cX11_say 115 = .ok (.iload 4, 2) := by decide +kernel
theorem dX11_say_117 : decode cX11_say 117 = .ok (.iastore, 1) := by decide +kernel
theorem dX11_say_118 : decode cX11_say 118 = .ok (.aload_n 0, 1) := by decide +kernel
theorem dX11_say_119 : decode cX11_say 119 = .ok (.getfield 7, 3) := by decide +kernel
theorem dX11_say_122 : decode cX11_say 122 = .ok (.iconst 1, 1) := by decide +kernel
theorem dX11_say_123 : decode cX11_say 123 = .ok (.dup2, 1) := by decide +kernel
theorem dX11_say_124 : decode cX11_say 124 = .ok (.iaload, 1) := by decide +kernel
theorem dX11_say_125 : decode cX11_say 125 = .ok (.iconst 1, 1) := by decide +kernel
theorem dX11_say_126 : decode cX11_say 126 = .ok (.iadd, 1) := by decide +kernel
theorem dX11_say_127 : decode cX11_say 127 = .ok (.iastore, 1) := by decide +kernel
theorem dX11_say_128 : decode cX11_say 128 = .ok (.iload 5, 2) := by decide +kernel
theorem dX11_say_130 : decode cX11_say 130 = .ok (.ireturn, 1) := by decide +kernel
set_option maxRecDepth 20000 in
theorem ggX11_unsay_X11_refuses : GoodIn wsX11_unsay wsX11_refuses := goodIn_r _ [6, 7, 8, 9, 10, 11, 12, 13, 14, 15, 16, 17, 18, 19, 20, 21, 22, 23, 24, 25, 26, 27, 28, 29, 30, 31, 32, 33, 34, 35] (by decide +kernel) (by decide +kernel)
set_option maxRecDepth 20000 in
theorem gX11_unsay_X11_refuses : GoodIn wsX11_unsay (wsV RX11 66 RX11 yX11_refuses wsX11_refuses) := goodIn_app (goodIn_of _ (by decide +kernel)) ggX11_unsay_X11_refuses
theorem dX11_unsay_0 : decode cX11_unsay 0 = .ok (.aload_n 0, 1) := by decide +kernel
theorem dX11_unsay_1 : decode cX11_unsay 1 = .ok (.getfield 7, 3) := by decide +kernel
theorem dX11_unsay_4 : decode cX11_unsay 4 = .ok (.iconst 1, 1) := by decide +kernel
theorem dX11_unsay_5 : decode cX11_unsay 5 = .ok (.iaload, 1) := by decide +kernel
theorem dX11_unsay_6 : decode cX11_unsay 6 = .ok (.ifCond .ne 11, 3) := by decide +kernel
theorem dX11_unsay_9 : decode cX11_unsay 9 = .ok (.aload_n 0, 1) := by decide +kernel
theorem dX11_unsay_10 : decode cX11_unsay 10 = .ok (.iconst 1, 1) := by decide +kernel
theorem dX11_unsay_11 : decode cX11_unsay 11 = .ok (.bipush (-3), 2) := by decide +kernel
theorem dX11_unsay_13 : decode cX11_unsay 13 = .ok (.invokevirtual 66, 3) := by decide +kernel
theorem dX11_unsay_16 : decode cX11_unsay 16 = .ok (.ireturn, 1) := by decide +kernel
theorem dX11_unsay_17 : decode cX11_unsay 17 = .ok (.aload_n 0, 1) := by decide +kernel
theorem dX11_unsay_18 : decode cX11_unsay 18 = .ok (.getfield 7, 3) := by decide +kernel
theorem dX11_unsay_21 : decode cX11_unsay 21 = .ok (.iconst 1, 1) := by decide +kernel
theorem dX11_unsay_22 : decode cX11_unsay 22 = .ok (.dup2, 1) := by decide +kernel
theorem dX11_unsay_23 : decode cX11_unsay 23 = .ok (.iaload, 1) := by decide +kernel
theorem dX11_unsay_24 : decode cX11_unsay 24 = .ok (.iconst 1, 1) := by decide +kernel
theorem dX11_unsay_25 : decode cX11_unsay 25 = .ok (.isub, 1) := by decide +kernel
theorem dX11_unsay_26 : decode cX11_unsay 26 = .ok (.iastore, 1) := by decide +kernel
theorem dX11_unsay_27 : decode cX11_unsay 27 = .ok (.aload_n 0, 1) := by decide +kernel
theorem dX11_unsay_28 : decode cX11_unsay 28 = .ok (.getfield 7, 3) := by decide +kernel
theorem dX11_unsay_31 : decode cX11_unsay 31 = .ok (.iconst 1, 1) := by decide +kernel
theorem dX11_unsay_32 : decode cX11_unsay 32 = .ok (.iaload, 1) := by decide +kernel
theorem dX11_unsay_33 : decode cX11_unsay 33 = .ok (.ireturn, 1) := by decide +kernel
set_option maxRecDepth 20000 in
theorem ggX11_type_X11_in : GoodIn wsX11_type wsX11_in := goodIn_r _ [7] (by decide +kernel) (by decide +kernel)
set_option maxRecDepth 20000 in
theorem gX11_type_X11_in : GoodIn wsX11_type (va_wsS RX11 70 yX11_in wsX11_in) := goodIn_app (goodIn_of _ (by decide +kernel)) ggX11_type_X11_in
set_option maxRecDepth 20000 in
theorem ggX11_type_X11_bad : GoodIn wsX11_type wsX11_bad := goodIn_r _ [11, 12, 13, 14, 6, 15, 16, 17, 18, 19, 20, 21, 22, 23, 24, 25, 26, 27, 28, 29, 30, 31, 32, 33, 34, 35, 36, 37, 38, 39, 40, 41, 42, 43, 44] (by decide +kernel) (by decide +kernel)
set_option maxRecDepth 20000 in
theorem gX11_type_X11_bad : GoodIn wsX11_type (wsV RX11 78 RX11 yX11_bad wsX11_bad) := goodIn_app (goodIn_of _ (by decide +kernel)) ggX11_type_X11_bad
set_option maxRecDepth 20000 in
theorem ggX11_type_X11_refuses : GoodIn wsX11_type wsX11_refuses := goodIn_r _ [15, 16, 17, 18, 19, 20, 21, 22, 23, 24, 25, 26, 27, 28, 29, 30, 31, 32, 33, 34, 35, 36, 37, 38, 39, 40, 41, 42, 43, 44] (by decide +kernel) (by decide +kernel)
set_option maxRecDepth 20000 in
theorem gX11_type_X11_refuses : GoodIn wsX11_type (wsV RX11 66 RX11 yX11_refuses wsX11_refuses) := goodIn_app (goodIn_of _ (by decide +kernel)) ggX11_type_X11_refuses
theorem dX11_type_0 : decode cX11_type 0 = .ok (.iload_n 3, 1) := by decide +kernel
theorem dX11_type_1 : decode cX11_type 1 = .ok (.iconst 1, 1) := by decide +kernel
theorem dX11_type_2 : decode cX11_type 2 = .ok (.bipush 8, 2) := by decide +kernel
theorem dX11_type_4 : decode cX11_type 4 = .ok (.invokestatic 70, 3) := by decide +kernel
theorem dX11_type_7 : decode cX11_type 7 = .ok (.ifCond .ne 8, 3) := by decide +kernel
theorem dX11_type_10 : decode cX11_type 10 = .ok (.aload_n 0, 1) := by decide +kernel
theorem dX11_type_11 : decode cX11_type 11 = .ok (.invokevirtual 78, 3) := by decide +kernel
theorem dX11_type_14 : decode cX11_type 14 = .ok (.ireturn, 1) := by decide +kernel
theorem dX11_type_15 : decode cX11_type 15 = .ok (.aload_n 0, 1) := by decide +kernel
theorem dX11_type_16 : decode cX11_type 16 = .ok (.getfield 82, 3) := by decide +kernel
theorem dX11_type_19 : decode cX11_type 19 = .ok (.iload_n 3, 1) := by decide +kernel
theorem dX11_type_20 : decode cX11_type 20 = .ok (.iadd, 1) := by decide +kernel
theorem dX11_type_21 : decode cX11_type 21 = .ok (.sipush 200, 3) := by decide +kernel
theorem dX11_type_24 : decode cX11_type 24 = .ok (.if_icmp .le 11, 3) := by decide +kernel
theorem dX11_type_27 : decode cX11_type 27 = .ok (.aload_n 0, 1) := by decide +kernel
theorem dX11_type_28 : decode cX11_type 28 = .ok (.iconst 2, 1) := by decide +kernel
theorem dX11_type_29 : decode cX11_type 29 = .ok (.bipush (-4), 2) := by decide +kernel
theorem dX11_type_31 : decode cX11_type 31 = .ok (.invokevirtual 66, 3) := by decide +kernel
theorem dX11_type_34 : decode cX11_type 34 = .ok (.ireturn, 1) := by decide +kernel
theorem dX11_type_35 : decode cX11_type 35 = .ok (.iload_n 3, 1) := by decide +kernel
theorem dX11_type_36 : decode cX11_type 36 = .ok (.iconst 1, 1) := by decide +kernel
theorem dX11_type_37 : decode cX11_type 37 = .ok (.isub, 1) := by decide +kernel
theorem dX11_type_38 : decode cX11_type 38 = .ok (.istore 4, 2) := by decide +kernel
theorem dX11_type_40 : decode cX11_type 40 = .ok (.iload 4, 2) := by decide +kernel
theorem dX11_type_42 : decode cX11_type 42 = .ok (.ifCond .lt 40, 3) := by decide +kernel
theorem dX11_type_45 : decode cX11_type 45 = .ok (.aload_n 0, 1) := by decide +kernel
theorem dX11_type_46 : decode cX11_type 46 = .ok (.getfield 23, 3) := by decide +kernel
theorem dX11_type_49 : decode cX11_type 49 = .ok (.aload_n 0, 1) := by decide +kernel
theorem dX11_type_50 : decode cX11_type 50 = .ok (.getfield 82, 3) := by decide +kernel
theorem dX11_type_53 : decode cX11_type 53 = .ok (.lload_n 1, 1) := by decide +kernel
theorem dX11_type_54 : decode cX11_type 54 = .ok (.bipush 8, 2) := by decide +kernel
theorem dX11_type_56 : decode cX11_type 56 = .ok (.iload 4, 2) := by decide +kernel
theorem dX11_type_58 : decode cX11_type 58 = .ok (.imul, 1) := by decide +kernel
theorem dX11_type_59 : decode cX11_type 59 = .ok (.lshr, 1) := by decide +kernel
theorem dX11_type_60 : decode cX11_type 60 = .ok (.ldc2_w 86, 3) := by decide +kernel
theorem dX11_type_63 : decode cX11_type 63 = .ok (.land, 1) := by decide +kernel
theorem dX11_type_64 : decode cX11_type 64 = .ok (.l2i, 1) := by decide +kernel
theorem dX11_type_65 : decode cX11_type 65 = .ok (.iastore, 1) := by decide +kernel
theorem dX11_type_66 : decode cX11_type 66 = .ok (.aload_n 0, 1) := by decide +kernel
theorem dX11_type_67 : decode cX11_type 67 = .ok (.dup, 1) := by decide +kernel
theorem dX11_type_68 : decode cX11_type 68 = .ok (.getfield 82, 3) := by decide +kernel
theorem dX11_type_71 : decode cX11_type 71 = .ok (.iconst 1, 1) := by decide +kernel
theorem dX11_type_72 : decode cX11_type 72 = .ok (.iadd, 1) := by decide +kernel
theorem dX11_type_73 : decode cX11_type 73 = .ok (.putfield 82, 3) := by decide +kernel
theorem dX11_type_76 : decode cX11_type 76 = .ok (.iinc 4 (-1), 3) := by decide +kernel
theorem dX11_type_79 : decode cX11_type 79 = .ok (.goto (-39), 3) := by decide +kernel
theorem dX11_type_82 : decode cX11_type 82 = .ok (.aload_n 0, 1) := by decide +kernel
theorem dX11_type_83 : decode cX11_type 83 = .ok (.getfield 82, 3) := by decide +kernel
theorem dX11_type_86 : decode cX11_type 86 = .ok (.ireturn, 1) := by decide +kernel
theorem dX11_clear_0 : decode cX11_clear 0 = .ok (.aload_n 0, 1) := by decide +kernel
theorem dX11_clear_1 : decode cX11_clear 1 = .ok (.getfield 82, 3) := by decide +kernel
theorem dX11_clear_4 : decode cX11_clear 4 = .ok (.istore_n 1, 1) := by decide +kernel
theorem dX11_clear_5 : decode cX11_clear 5 = .ok (.aload_n 0, 1) := by decide +kernel
theorem dX11_clear_6 : decode cX11_clear 6 = .ok (.iconst 0, 1) := by decide +kernel
theorem dX11_clear_7 : decode cX11_clear 7 = .ok (.putfield 82, 3) := by decide +kernel
theorem dX11_clear_10 : decode cX11_clear 10 = .ok (.iload_n 1, 1) := by decide +kernel
theorem dX11_clear_11 : decode cX11_clear 11 = .ok (.ireturn, 1) := by decide +kernel
theorem dX11_byteAt_0 : decode cX11_byteAt 0 = .ok (.iload_n 1, 1) := by decide +kernel
theorem dX11_byteAt_1 : decode cX11_byteAt 1 = .ok (.aload_n 0, 1) := by decide +kernel
theorem dX11_byteAt_2 : decode cX11_byteAt 2 = .ok (.getfield 82, 3) := by decide +kernel
theorem dX11_byteAt_5 : decode cX11_byteAt 5 = .ok (.if_icmp .ge 12, 3) := by decide +kernel
theorem dX11_byteAt_8 : decode cX11_byteAt 8 = .ok (.aload_n 0, 1) := by decide +kernel
theorem dX11_byteAt_9 : decode cX11_byteAt 9 = .ok (.getfield 23, 3) := by decide +kernel
theorem dX11_byteAt_12 : decode cX11_byteAt 12 = .ok (.iload_n 1, 1) := by decide +kernel
theorem dX11_byteAt_13 : decode cX11_byteAt 13 = .ok (.iaload, 1) := by decide +kernel
theorem dX11_byteAt_14 : decode cX11_byteAt 14 = .ok (.goto 4, 3) := by decide +kernel
theorem dX11_byteAt_17 : decode cX11_byteAt 17 = .ok (.iconst (-1), 1) := by decide +kernel
theorem dX11_byteAt_18 : decode cX11_byteAt 18 = .ok (.ireturn, 1) := by decide +kernel
set_option maxRecDepth 20000 in
theorem ggX11_sortOf_X11_in : GoodIn wsX11_sortOf wsX11_in := goodIn_r _ [4] (by decide +kernel) (by decide +kernel)
set_option maxRecDepth 20000 in
theorem gX11_sortOf_X11_in : GoodIn wsX11_sortOf (va_wsS RX11 70 yX11_in wsX11_in) := goodIn_app (goodIn_of _ (by decide +kernel)) ggX11_sortOf_X11_in
theorem dX11_sortOf_0 : decode cX11_sortOf 0 = .ok (.iload_n 0, 1) := by decide +kernel
theorem dX11_sortOf_1 : decode cX11_sortOf 1 = .ok (.ifCond .ge 7, 3) := by decide +kernel
theorem dX11_sortOf_4 : decode cX11_sortOf 4 = .ok (.iconst 0, 1) := by decide +kernel
theorem dX11_sortOf_5 : decode cX11_sortOf 5 = .ok (.goto 44, 3) := by decide +kernel
theorem dX11_sortOf_8 : decode cX11_sortOf 8 = .ok (.iload_n 0, 1) := by decide +kernel
theorem dX11_sortOf_9 : decode cX11_sortOf 9 = .ok (.bipush 97, 2) := by decide +kernel
theorem dX11_sortOf_11 : decode cX11_sortOf 11 = .ok (.bipush 122, 2) := by decide +kernel
theorem dX11_sortOf_13 : decode cX11_sortOf 13 = .ok (.invokestatic 70, 3) := by decide +kernel
theorem dX11_sortOf_16 : decode cX11_sortOf 16 = .ok (.ifCond .eq 7, 3) := by decide +kernel
theorem dX11_sortOf_19 : decode cX11_sortOf 19 = .ok (.iconst 1, 1) := by decide +kernel
theorem dX11_sortOf_20 : decode cX11_sortOf 20 = .ok (.goto 29, 3) := by decide +kernel
theorem dX11_sortOf_23 : decode cX11_sortOf 23 = .ok (.iload_n 0, 1) := by decide +kernel
theorem dX11_sortOf_24 : decode cX11_sortOf 24 = .ok (.bipush 48, 2) := by decide +kernel
theorem dX11_sortOf_26 : decode cX11_sortOf 26 = .ok (.bipush 57, 2) := by decide +kernel
theorem dX11_sortOf_28 : decode cX11_sortOf 28 = .ok (.invokestatic 70, 3) := by decide +kernel
theorem dX11_sortOf_31 : decode cX11_sortOf 31 = .ok (.ifCond .eq 7, 3) := by decide +kernel
theorem dX11_sortOf_34 : decode cX11_sortOf 34 = .ok (.iconst 2, 1) := by decide +kernel
theorem dX11_sortOf_35 : decode cX11_sortOf 35 = .ok (.goto 14, 3) := by decide +kernel
theorem dX11_sortOf_38 : decode cX11_sortOf 38 = .ok (.iload_n 0, 1) := by decide +kernel
theorem dX11_sortOf_39 : decode cX11_sortOf 39 = .ok (.bipush 59, 2) := by decide +kernel
theorem dX11_sortOf_41 : decode cX11_sortOf 41 = .ok (.if_icmp .ne 7, 3) := by decide +kernel
theorem dX11_sortOf_44 : decode cX11_sortOf 44 = .ok (.iconst 3, 1) := by decide +kernel
theorem dX11_sortOf_45 : decode cX11_sortOf 45 = .ok (.goto 4, 3) := by decide +kernel
theorem dX11_sortOf_48 : decode cX11_sortOf 48 = .ok (.iconst 4, 1) := by decide +kernel
theorem dX11_sortOf_49 : decode cX11_sortOf 49 = .ok (.ireturn, 1) := by decide +kernel
set_option maxRecDepth 20000 in
theorem ggX11_token_X11_byteAt : GoodIn wsX11_token wsX11_byteAt := goodIn_r _ [9, 10, 11, 18, 19, 20, 21, 22, 23, 24, 25, 26, 27, 28, 29, 30, 31, 32, 33, 34, 35, 36, 37, 38, 39, 40, 41, 42, 43, 44, 45] (by decide +kernel) (by decide +kernel)
set_option maxRecDepth 20000 in
theorem gX11_token_X11_byteAt : GoodIn wsX11_token (wsV RX11 91 RX11 yX11_byteAt wsX11_byteAt) := goodIn_app (goodIn_of _ (by decide +kernel)) ggX11_token_X11_byteAt
set_option maxRecDepth 20000 in
theorem ggX11_token_X11_sortOf : GoodIn wsX11_token wsX11_sortOf := goodIn_r _ [14, 15, 16, 8, 17] (by decide +kernel) (by decide +kernel)
set_option maxRecDepth 20000 in
theorem gX11_token_X11_sortOf : GoodIn wsX11_token (va_wsS RX11 98 yX11_sortOf wsX11_sortOf) := goodIn_app (goodIn_of _ (by decide +kernel)) ggX11_token_X11_sortOf
theorem dX11_token_0 : decode cX11_token 0 = .ok (.aload_n 0, 1) := by decide +kernel
theorem dX11_token_1 : decode cX11_token 1 = .ok (.aload_n 0, 1) := by decide +kernel
theorem dX11_token_2 : decode cX11_token 2 = .ok (.getfield 88, 3) := by decide +kernel
theorem dX11_token_5 : decode cX11_token 5 = .ok (.invokevirtual 91, 3) := by decide +kernel
theorem dX11_token_8 : decode cX11_token 8 = .ok (.bipush 32, 2) := by decide +kernel
theorem dX11_token_10 : decode cX11_token 10 = .ok (.if_icmp .ne 16, 3) := by decide +kernel
theorem dX11_token_13 : decode cX11_token 13 = .ok (.aload_n 0, 1) := by decide +kernel
theorem dX11_token_14 : decode cX11_token 14 = .ok (.dup, 1) := by decide +kernel
theorem dX11_token_15 : decode cX11_token 15 = .ok (.getfield 88, 3) := by decide +kernel
theorem dX11_token_18 : decode cX11_token 18 = .ok (.iconst 1, 1) := by decide +kernel
theorem dX11_token_19 : decode cX11_token 19 = .ok (.iadd, 1) := by decide +kernel
theorem dX11_token_20 : decode cX11_token 20 = .ok (.putfield 88, 3) := by decide +kernel
theorem dX11_token_23 : decode cX11_token 23 = .ok (.goto (-23), 3) := by decide +kernel
theorem dX11_token_26 : decode cX11_token 26 = .ok (.aload_n 0, 1) := by decide +kernel
theorem dX11_token_27 : decode cX11_token 27 = .ok (.aload_n 0, 1) := by decide +kernel
theorem dX11_token_28 : decode cX11_token 28 = .ok (.getfield 88, 3) := by decide +kernel
theorem dX11_token_31 : decode cX11_token 31 = .ok (.putfield 95, 3) := by decide +kernel
theorem dX11_token_34 : decode cX11_token 34 = .ok (.aload_n 0, 1) := by decide +kernel
theorem dX11_token_35 : decode cX11_token 35 = .ok (.aload_n 0, 1) := by decide +kernel
theorem dX11_token_36 : decode cX11_token 36 = .ok (.aload_n 0, 1) := by decide +kernel
theorem dX11_token_37 : decode cX11_token 37 = .ok (.getfield 88, 3) := by decide +kernel
theorem dX11_token_40 : decode cX11_token 40 = .ok (.invokevirtual 91, 3) := by decide +kernel
theorem dX11_token_43 : decode cX11_token 43 = .ok (.invokestatic 98, 3) := by decide +kernel
theorem dX11_token_46 : decode cX11_token 46 = .ok (.putfield 101, 3) := by decide +kernel
theorem dX11_token_49 : decode cX11_token 49 = .ok (.aload_n 0, 1) := by decide +kernel
theorem dX11_token_50 : decode cX11_token 50 = .ok (.iconst 0, 1) := by decide +kernel
theorem dX11_token_51 : decode cX11_token 51 = .ok (.putfield 104, 3) := by decide +kernel
theorem dX11_token_54 : decode cX11_token 54 = .ok (.aload_n 0, 1) := by decide +kernel
theorem dX11_token_55 : decode cX11_token 55 = .ok (.getfield 104, 3) := by decide +kernel
theorem dX11_token_58 : decode cX11_token 58 = .ok (.ifCond .ne 10, 3) := by decide +kernel
theorem dX11_token_61 : decode cX11_token 61 = .ok (.aload_n 0, 1) := by decide +kernel
theorem dX11_token_62 : decode cX11_token 62 = .ok (.getfield 101, 3) := by decide +kernel
theorem dX11_token_65 : decode cX11_token 65 = .ok (.ifCond .ne 37, 3) := by decide +kernel
theorem dX11_token_68 : decode cX11_token 68 = .ok (.aload_n 0, 1) := by decide +kernel
theorem dX11_token_69 : decode cX11_token 69 = .ok (.getfield 101, 3) := by decide +kernel
theorem dX11_token_72 : decode cX11_token 72 = .ok (.iconst 1, 1) := by decide +kernel
theorem dX11_token_73 : decode cX11_token 73 = .ok (.if_icmp .eq 11, 3) := by decide +kernel
theorem dX11_token_76 : decode cX11_token 76 = .ok (.aload_n 0, 1) := by decide +kernel
theorem dX11_token_77 : decode cX11_token 77 = .ok (.getfield 101, 3) := by decide +kernel
theorem dX11_token_80 : decode cX11_token 80 = .ok (.iconst 2, 1) := by decide +kernel
theorem dX11_token_81 : decode cX11_token 81 = .ok (.if_icmp .ne 44, 3) := by decide +kernel
theorem dX11_token_84 : decode cX11_token 84 = .ok (.aload_n 0, 1) := by decide +kernel
theorem dX11_token_85 : decode cX11_token 85 = .ok (.aload_n 0, 1) := by decide +kernel
theorem dX11_token_86 : decode cX11_token 86 = .ok (.getfield 88, 3) := by decide +kernel
theorem dX11_token_89 : decode cX11_token 89 = .ok (.invokevirtual 91, 3) := by decide +kernel
theorem dX11_token_92 : decode cX11_token 92 = .ok (.invokestatic 98, 3) := by decide +kernel
theorem dX11_token_95 : decode cX11_token 95 = .ok (.aload_n 0, 1) := by decide +kernel
theorem dX11_token_96 : decode cX11_token 96 = .ok (.getfield 101, 3) := by decide +kernel
theorem dX11_token_99 : decode cX11_token 99 = .ok (.if_icmp .ne 26, 3) := by decide +kernel
theorem dX11_token_102 : decode cX11_token 102 = .ok (.aload_n 0, 1) := by decide +kernel
theorem dX11_token_103 : decode cX11_token 103 = .ok (.dup, 1) := by decide +kernel
theorem dX11_token_104 : decode cX11_token 104 = .ok (.getfield 88, 3) := by decide +kernel
theorem dX11_token_107 : decode cX11_token 107 = .ok (.iconst 1, 1) := by decide +kernel
theorem dX11_token_108 : decode cX11_token 108 = .ok (.iadd, 1) := by decide +kernel
theorem dX11_token_109 : decode cX11_token 109 = .ok (.putfield 88, 3) := by decide +kernel
theorem dX11_token_112 : decode cX11_token 112 = .ok (.aload_n 0, 1) := by decide +kernel
theorem dX11_token_113 : decode cX11_token 113 = .ok (.dup, 1) := by decide +kernel
theorem dX11_token_114 : decode cX11_token 114 = .ok (.getfield 104, 3) := by decide +kernel
theorem dX11_token_117 : decode cX11_token 117 = .ok (.iconst 1, 1) := by decide +kernel
theorem dX11_token_118 : decode cX11_token 118 = .ok (.iadd, 1) := by decide +kernel
theorem dX11_token_119 : decode cX11_token 119 = .ok (.putfield 104, 3) := by decide +kernel
theorem dX11_token_122 : decode cX11_token 122 = .ok (.goto (-68), 3) := by decide +kernel
theorem dX11_token_125 : decode cX11_token 125 = .ok (.return_, 1) := by decide +kernel
set_option maxRecDepth 20000 in
theorem ggX11_letters_X11_byteAt : GoodIn wsX11_letters wsX11_byteAt := goodIn_r _ [9, 10, 11, 12, 13, 14, 15, 16, 17, 18, 19, 20, 21, 22, 23, 24, 25, 26, 27, 28, 29, 30, 31, 32, 33, 34, 35, 36, 37, 38, 39] (by decide +kernel) (by decide +kernel)
set_option maxRecDepth 20000 in
theorem gX11_letters_X11_byteAt : GoodIn wsX11_letters (wsV RX11 91 RX11 yX11_byteAt wsX11_byteAt) := goodIn_app (goodIn_of _ (by decide +kernel)) ggX11_letters_X11_byteAt
theorem dX11_letters_0 : decode cX11_letters 0 = .ok (.lconst 0, 1) := by decide +kernel
theorem dX11_letters_1 : decode cX11_letters 1 = .ok (.lstore_n 1, 1) := by decide +kernel
theorem dX11_letters_2 : decode cX11_letters 2 = .ok (.iconst 0, 1) := by decide +kernel
theorem dX11_letters_3 : decode cX11_letters 3 = .ok (.istore_n 3, 1) := by decide +kernel
theorem dX11_letters_4 : decode cX11_letters 4 = .ok (.iload_n 3, 1) := by decide +kernel
theorem dX11_letters_5 : decode cX11_letters 5 = .ok (.aload_n 0, 1) := by decide +kernel
theorem dX11_letters_6 : decode cX11_letters 6 = .ok (.getfield 104, 3) := by decide +kernel
theorem dX11_letters_9 : decode cX11_letters 9 = .ok (.if_icmp .ge 37, 3) := by decide +kernel
theorem dX11_letters_12 : decode cX11_letters 12 = .ok (.iload_n 3, 1) := by decide +kernel
theorem dX11_letters_13 : decode cX11_letters 13 = .ok (.bipush 7, 2) := by decide +kernel
theorem dX11_letters_15 : decode cX11_letters 15 = .ok (.if_icmp .ge 23, 3) := by decide +kernel
theorem dX11_letters_18 : decode cX11_letters 18 = .ok (.ldc2_w 107, 3) := by decide +kernel
theorem dX11_letters_21 : decode cX11_letters 21 = .ok (.lload_n 1, 1) := by decide +kernel
theorem dX11_letters_22 : decode cX11_letters 22 = .ok (.lmul, 1) := by decide +kernel
theorem dX11_letters_23 : decode cX11_letters 23 = .ok (.aload_n 0, 1) := by decide +kernel
theorem dX11_letters_24 : decode cX11_letters 24 = .ok (.aload_n 0, 1) := by decide +kernel
theorem dX11_letters_25 : decode cX11_letters 25 = .ok (.getfield 95, 3) := by decide +kernel
theorem dX11_letters_28 : decode cX11_letters 28 = .ok (.iload_n 3, 1) := by decide +kernel
theorem dX11_letters_29 : decode cX11_letters 29 = .ok (.iadd, 1) := by decide +kernel
theorem dX11_letters_30 : decode cX11_letters 30 = .ok (.invokevirtual 91, 3) := by decide +kernel
theorem dX11_letters_33 : decode cX11_letters 33 = .ok (.i2l, 1) := by decide +kernel
theorem dX11_letters_34 : decode cX11_letters 34 = .ok (.ladd, 1) := by decide +kernel
theorem dX11_letters_35 : decode cX11_letters 35 = .ok (.goto 4, 3) := by decide +kernel
theorem dX11_letters_38 : decode cX11_letters 38 = .ok (.lconst 0, 1) := by decide +kernel
theorem dX11_letters_39 : decode cX11_letters 39 = .ok (.lstore_n 1, 1) := by decide +kernel
theorem dX11_letters_40 : decode cX11_letters 40 = .ok (.iinc 3 1, 3) := by decide +kernel
theorem dX11_letters_43 : decode cX11_letters 43 = .ok (.goto (-39), 3) := by decide +kernel
theorem dX11_letters_46 : decode cX11_letters 46 = .ok (.aload_n 0, 1) := by decide +kernel
theorem dX11_letters_47 : decode cX11_letters 47 = .ok (.getfield 101, 3) := by decide +kernel
theorem dX11_letters_50 : decode cX11_letters 50 = .ok (.iconst 1, 1) := by decide +kernel
theorem dX11_letters_51 : decode cX11_letters 51 = .ok (.if_icmp .ne 16, 3) := by decide +kernel
theorem dX11_letters_54 : decode cX11_letters 54 = .ok (.aload_n 0, 1) := by decide +kernel
theorem dX11_letters_55 : decode cX11_letters 55 = .ok (.getfield 104, 3) := by decide +kernel
theorem dX11_letters_58 : decode cX11_letters 58 = .ok (.bipush 8, 2) := by decide +kernel
theorem dX11_letters_60 : decode cX11_letters 60 = .ok (.if_icmp .ge 7, 3) := by decide +kernel
theorem dX11_letters_63 : decode cX11_letters 63 = .ok (.lload_n 1, 1) := by decide +kernel
theorem dX11_letters_64 : decode cX11_letters 64 = .ok (.goto 4, 3) := by decide +kernel
theorem dX11_letters_67 : decode cX11_letters 67 = .ok (.lconst 0, 1) := by decide +kernel
theorem dX11_letters_68 : decode cX11_letters 68 = .ok (.lreturn, 1) := by decide +kernel
set_option maxRecDepth 20000 in
theorem ggX11_kind_X11_letters : GoodIn wsX11_kind wsX11_letters := goodIn_r _ [13, 14, 15, 16, 17, 18, 19, 20, 12, 21, 22, 23, 24, 25, 26, 27, 28, 29, 30, 31, 32, 33, 34, 35, 36, 37, 38, 39, 40, 41, 42, 43, 44, 45, 46, 47, 48, 49, 50, 51] (by decide +kernel) (by decide +kernel)
set_option maxRecDepth 20000 in
theorem gX11_kind_X11_letters : GoodIn wsX11_kind (wsV RX11 109 RX11 yX11_letters wsX11_letters) := goodIn_app (goodIn_of _ (by decide +kernel)) ggX11_kind_X11_letters
theorem dX11_kind_0 : decode cX11_kind 0 = .ok (.aload_n 0, 1) := by decide +kernel
theorem dX11_kind_1 : decode cX11_kind 1 = .ok (.invokevirtual 109, 3) := by decide +kernel
theorem dX11_kind_4 : decode cX11_kind 4 = .ok (.lstore_n 1, 1) := by decide +kernel
theorem dX11_kind_5 : decode cX11_kind 5 = .ok (.lload_n 1, 1) := by decide +kernel
theorem dX11_kind_6 : decode cX11_kind 6 = .ok (.ldc2_w 113, 3) := by decide +kernel
theorem dX11_kind_9 : decode cX11_kind 9 = .ok (.lcmp, 1) := by decide +kernel
theorem dX11_kind_10 : decode cX11_kind 10 = .ok (.ifCond .ne 7, 3) := by decide +kernel
theorem dX11_kind_13 : decode cX11_kind 13 = .ok (.iconst 0, 1) := by decide +kernel
theorem dX11_kind_14 : decode cX11_kind 14 = .ok (.goto 40, 3) := by decide +kernel
theorem dX11_kind_17 : decode cX11_kind 17 = .ok (.lload_n 1, 1) := by decide +kernel
theorem dX11_kind_18 : decode cX11_kind 18 = .ok (.ldc2_w 115, 3) := by decide +kernel
theorem dX11_kind_21 : decode cX11_kind 21 = .ok (.lcmp, 1) := by decide +kernel
theorem dX11_kind_22 : decode cX11_kind 22 = .ok (.ifCond .ne 7, 3) := by decide +kernel
theorem dX11_kind_25 : decode cX11_kind 25 = .ok (.iconst 1, 1) := by decide +kernel
theorem dX11_kind_26 : decode cX11_kind 26 = .ok (.goto 28, 3) := by decide +kernel
theorem dX11_kind_29 : decode cX11_kind 29 = .ok (.lload_n 1, 1) := by decide +kernel
theorem dX11_kind_30 : decode cX11_kind 30 = .ok (.ldc2_w 117, 3) := by decide +kernel
theorem dX11_kind_33 : decode cX11_kind 33 = .ok (.lcmp, 1) := by decide +kernel
theorem dX11_kind_34 : decode cX11_kind 34 = .ok (.ifCond .ne 7, 3) := by decide +kernel
theorem dX11_kind_37 : decode cX11_kind 37 = .ok (.iconst 2, 1) := by decide +kernel
theorem dX11_kind_38 : decode cX11_kind 38 = .ok (.goto 16, 3) := by decide +kernel
theorem dX11_kind_41 : decode cX11_kind 41 = .ok (.lload_n 1, 1) := by decide +kernel
theorem dX11_kind_42 : decode cX11_kind 42 = .ok (.ldc2_w 119, 3) := by decide +kernel
theorem dX11_kind_45 : decode cX11_kind 45 = .ok (.lcmp, 1) := by decide +kernel
theorem dX11_kind_46 : decode cX11_kind 46 = .ok (.ifCond .ne 7, 3) := by decide +kernel
theorem dX11_kind_49 : decode cX11_kind 49 = .ok (.iconst 3, 1) := by decide +kernel
theorem dX11_kind_50 : decode cX11_kind 50 = .ok (.goto 4, 3) := by decide +kernel
theorem dX11_kind_53 : decode cX11_kind 53 = .ok (.iconst (-1), 1) := by decide +kernel
theorem dX11_kind_54 : decode cX11_kind 54 = .ok (.istore_n 3, 1) := by decide +kernel
theorem dX11_kind_55 : decode cX11_kind 55 = .ok (.iload_n 3, 1) := by decide +kernel
theorem dX11_kind_56 : decode cX11_kind 56 = .ok (.iconst (-1), 1) := by decide +kernel
theorem dX11_kind_57 : decode cX11_kind 57 = .ok (.if_icmp .eq 7, 3) := by decide +kernel
theorem dX11_kind_60 : decode cX11_kind 60 = .ok (.iload_n 3, 1) := by decide +kernel
theorem dX11_kind_61 : decode cX11_kind 61 = .ok (.goto 54, 3) := by decide +kernel
theorem dX11_kind_64 : decode cX11_kind 64 = .ok (.lload_n 1, 1) := by decide +kernel
theorem dX11_kind_65 : decode cX11_kind 65 = .ok (.ldc2_w 121, 3) := by decide +kernel
theorem dX11_kind_68 : decode cX11_kind 68 = .ok (.lcmp, 1) := by decide +kernel
theorem dX11_kind_69 : decode cX11_kind 69 = .ok (.ifCond .ne 7, 3) := by decide +kernel
theorem dX11_kind_72 : decode cX11_kind 72 = .ok (.iconst 4, 1) := by decide +kernel
theorem dX11_kind_73 : decode cX11_kind 73 = .ok (.goto 42, 3) := by decide +kernel
theorem dX11_kind_76 : decode cX11_kind 76 = .ok (.lload_n 1, 1) := by decide +kernel
theorem dX11_kind_77 : decode cX11_kind 77 = .ok (.ldc2_w 123, 3) := by decide +kernel
theorem dX11_kind_80 : decode cX11_kind 80 = .ok (.lcmp, 1) := by decide +kernel
theorem dX11_kind_81 : decode cX11_kind 81 = .ok (.ifCond .ne 7, 3) := by decide +kernel
theorem dX11_kind_84 : decode cX11_kind 84 = .ok (.iconst 5, 1) := by decide +kernel
theorem dX11_kind_85 : decode cX11_kind 85 = .ok (.goto 30, 3) := by decide +kernel
theorem dX11_kind_88 : decode cX11_kind 88 = .ok (.lload_n 1, 1) := by decide +kernel
theorem dX11_kind_89 : decode cX11_kind 89 = .ok (.ldc2_w 125, 3) := by decide +kernel
theorem dX11_kind_92 : decode cX11_kind 92 = .ok (.lcmp, 1) := by decide +kernel
theorem dX11_kind_93 : decode cX11_kind 93 = .ok (.ifCond .ne 8, 3) := by decide +kernel
theorem dX11_kind_96 : decode cX11_kind 96 = .ok (.bipush 6, 2) := by decide +kernel
theorem dX11_kind_98 : decode cX11_kind 98 = .ok (.goto 17, 3) := by decide +kernel
theorem dX11_kind_101 : decode cX11_kind 101 = .ok (.lload_n 1, 1) := by decide +kernel
theorem dX11_kind_102 : decode cX11_kind 102 = .ok (.ldc2_w 127, 3) := by decide +kernel
theorem dX11_kind_105 : decode cX11_kind 105 = .ok (.lcmp, 1) := by decide +kernel
theorem dX11_kind_106 : decode cX11_kind 106 = .ok (.ifCond .ne 8, 3) := by decide +kernel
theorem dX11_kind_109 : decode cX11_kind 109 = .ok (.bipush 7, 2) := by decide +kernel
theorem dX11_kind_111 : decode cX11_kind 111 = .ok (.goto 4, 3) := by decide +kernel
theorem dX11_kind_114 : decode cX11_kind 114 = .ok (.iconst (-1), 1) := by decide +kernel
theorem dX11_kind_115 : decode cX11_kind 115 = .ok (.ireturn, 1) := by decide +kernel
set_option maxRecDepth 20000 in
theorem ggX11_figure_X11_byteAt : GoodIn wsX11_figure wsX11_byteAt := goodIn_r _ [8, 9, 10, 14, 15, 16, 17, 18, 19, 20, 21, 22, 23, 24, 25, 26, 27, 28, 29, 30, 31, 32, 33, 34, 35, 36, 37, 38, 39, 40, 41] (by decide +kernel) (by decide +kernel)
set_option maxRecDepth 20000 in
theorem gX11_figure_X11_byteAt : GoodIn wsX11_figure (wsV RX11 91 RX11 yX11_byteAt wsX11_byteAt) := goodIn_app (goodIn_of _ (by decide +kernel)) ggX11_figure_X11_byteAt
set_option maxRecDepth 20000 in
theorem ggX11_figure_X11_in : GoodIn wsX11_figure wsX11_in := goodIn_r _ [13] (by decide +kernel) (by decide +kernel)
set_option maxRecDepth 20000 in
theorem gX11_figure_X11_in : GoodIn wsX11_figure (va_wsS RX11 70 yX11_in wsX11_in) := goodIn_app (goodIn_of _ (by decide +kernel)) ggX11_figure_X11_in
theorem dX11_figure_0 : decode cX11_figure 0 = .ok (.aload_n 0, 1) := by decide +kernel
theorem dX11_figure_1 : decode cX11_figure 1 = .ok (.aload_n 0, 1) := by decide +kernel
theorem dX11_figure_2 : decode cX11_figure 2 = .ok (.getfield 95, 3) := by decide +kernel
theorem dX11_figure_5 : decode cX11_figure 5 = .ok (.invokevirtual 91, 3) := by decide +kernel
theorem dX11_figure_8 : decode cX11_figure 8 = .ok (.bipush 48, 2) := by decide +kernel
theorem dX11_figure_10 : decode cX11_figure 10 = .ok (.isub, 1) := by decide +kernel
theorem dX11_figure_11 : decode cX11_figure 11 = .ok (.istore_n 3, 1) := by decide +kernel
theorem dX11_figure_12 : decode cX11_figure 12 = .ok (.aload_n 0, 1) := by decide +kernel
theorem dX11_figure_13 : decode cX11_figure 13 = .ok (.getfield 101, 3) := by decide +kernel
theorem dX11_figure_16 : decode cX11_figure 16 = .ok (.iconst 2, 1) := by decide +kernel
theorem dX11_figure_17 : decode cX11_figure 17 = .ok (.if_icmp .ne 24, 3) := by decide +kernel
theorem dX11_figure_20 : decode cX11_figure 20 = .ok (.aload_n 0, 1) := by decide +kernel
theorem dX11_figure_21 : decode cX11_figure 21 = .ok (.getfield 104, 3) := by decide +kernel
theorem dX11_figure_24 : decode cX11_figure 24 = .ok (.iconst 1, 1) := by decide +kernel
theorem dX11_figure_25 : decode cX11_figure 25 = .ok (.if_icmp .ne 16, 3) := by decide +kernel
theorem dX11_figure_28 : decode cX11_figure 28 = .ok (.iload_n 3, 1) := by decide +kernel
theorem dX11_figure_29 : decode cX11_figure 29 = .ok (.iload_n 1, 1) := by decide +kernel
theorem dX11_figure_30 : decode cX11_figure 30 = .ok (.iload_n 2, 1) := by decide +kernel
theorem dX11_figure_31 : decode cX11_figure 31 = .ok (.invokestatic 70, 3) := by decide +kernel
theorem dX11_figure_34 : decode cX11_figure 34 = .ok (.ifCond .eq 7, 3) := by decide +kernel
theorem dX11_figure_37 : decode cX11_figure 37 = .ok (.iload_n 3, 1) := by decide +kernel
theorem dX11_figure_38 : decode cX11_figure 38 = .ok (.goto 4, 3) := by decide +kernel
theorem dX11_figure_41 : decode cX11_figure 41 = .ok (.iconst (-1), 1) := by decide +kernel
theorem dX11_figure_42 : decode cX11_figure 42 = .ok (.ireturn, 1) := by decide +kernel
set_option maxRecDepth 20000 in
theorem ggX11_nextFigure_X11_token : GoodIn wsX11_nextFigure wsX11_token := goodIn_r _ [5, 6, 7, 8, 9, 10, 11, 12, 4, 13, 14, 15, 16, 17, 18, 19, 20, 21, 26, 27, 28, 29, 30, 31, 32, 33, 34, 35, 36, 37, 38, 39, 40, 41, 42, 43, 44, 45, 46, 47, 48, 49, 50, 51, 52, 53] (by decide +kernel) (by decide +kernel)
set_option maxRecDepth 20000 in
theorem gX11_nextFigure_X11_token : GoodIn wsX11_nextFigure (wsV RX11 129 RX11 yX11_token wsX11_token) := goodIn_app (goodIn_of _ (by decide +kernel)) ggX11_nextFigure_X11_token
set_option maxRecDepth 20000 in
theorem ggX11_nextFigure_X11_figure : GoodIn wsX11_nextFigure wsX11_figure := goodIn_r _ [25, 7, 8, 9, 10, 11, 12, 4, 13, 14, 15, 19, 20, 21, 26, 27, 28, 29, 30, 31, 32, 33, 34, 35, 36, 37, 38, 39, 40, 41, 42, 43, 44, 45, 46, 47, 48, 49, 50, 51, 52, 53] (by decide +kernel) (by decide +kernel)
set_option maxRecDepth 20000 in
theorem gX11_nextFigure_X11_figure : GoodIn wsX11_nextFigure (wsV RX11 132 RX11 yX11_figure wsX11_figure) := goodIn_app (goodIn_of _ (by decide +kernel)) ggX11_nextFigure_X11_figure
theorem dX11_nextFigure_0 : decode cX11_nextFigure 0 = .ok (.aload_n 0, 1) := by decide +kernel
theorem dX11_nextFigure_1 : decode cX11_nextFigure 1 = .ok (.invokevirtual 129, 3) := by decide +kernel
theorem dX11_nextFigure_4 : decode cX11_nextFigure 4 = .ok (.aload_n 0, 1) := by decide +kernel
theorem dX11_nextFigure_5 : decode cX11_nextFigure 5 = .ok (.iload_n 1, 1) := by decide +kernel
theorem dX11_nextFigure_6 : decode cX11_nextFigure 6 = .ok (.iload_n 2, 1) := by decide +kernel
theorem dX11_nextFigure_7 : decode cX11_nextFigure 7 = .ok (.invokevirtual 132, 3) := by decide +kernel
theorem dX11_nextFigure_10 : decode cX11_nextFigure 10 = .ok (.ireturn, 1) := by decide +kernel
set_option maxRecDepth 20000 in
theorem ggX11_readsSaying_X11_figure : GoodIn wsX11_readsSaying wsX11_figure := goodIn_r _ [7, 8, 9, 10, 11, 12, 13, 6, 14, 15, 16, 17, 18, 19, 49, 50, 51, 52, 53, 54, 55, 56, 57, 58, 59, 60, 61, 62, 63, 64, 65, 66, 67, 68, 69, 70, 71, 72, 73, 74, 75, 76] (by decide +kernel) (by decide +kernel)
set_option maxRecDepth 20000 in
theorem gX11_readsSaying_X11_figure : GoodIn wsX11_readsSaying (wsV RX11 132 RX11 yX11_figure wsX11_figure) := goodIn_app (goodIn_of _ (by decide +kernel)) ggX11_readsSaying_X11_figure
set_option maxRecDepth 20000 in
theorem ggX11_readsSaying_X11_token : GoodIn wsX11_readsSaying wsX11_token := goodIn_r _ [23, 24, 8, 9, 10, 11, 12, 13, 6, 14, 15, 16, 25, 26, 27, 17, 18, 19, 49, 50, 51, 52, 53, 54, 55, 56, 57, 58, 59, 60, 61, 62, 63, 64, 65, 66, 67, 68, 69, 70, 71, 72, 73, 74, 75, 76] (by decide +kernel) (by decide +kernel)
set_option maxRecDepth 20000 in
theorem gX11_readsSaying_X11_token : GoodIn wsX11_readsSaying (wsV RX11 129 RX11 yX11_token wsX11_token) := goodIn_app (goodIn_of _ (by decide +kernel)) ggX11_readsSaying_X11_token
set_option maxRecDepth 20000 in
theorem ggX11_readsSaying_X11_kind : GoodIn wsX11_readsSaying wsX11_kind := goodIn_r _ [31, 32, 33, 34, 35, 36, 37, 38, 39, 40, 41, 42, 6, 43, 10, 44, 8, 9, 11, 12, 13, 14, 15, 16, 49, 50, 51, 52, 53, 54, 55, 56, 57, 58, 59, 60, 61, 62, 63, 64, 65, 66, 67, 68, 69, 70, 71, 72, 73, 74, 75, 76] (by decide +kernel) (by decide +kernel)
set_option maxRecDepth 20000 in
theorem gX11_readsSaying_X11_kind : GoodIn wsX11_readsSaying (wsV RX11 135 RX11 yX11_kind wsX11_kind) := goodIn_app (goodIn_of _ (by decide +kernel)) ggX11_readsSaying_X11_kind
set_option maxRecDepth 20000 in
theorem ggX11_readsSaying_X11_nextFigure : GoodIn wsX11_readsSaying wsX11_nextFigure := goodIn_r _ [48, 20, 21, 22, 6, 23, 24, 8, 9, 10, 11, 12, 13, 14, 15, 16, 25, 26, 27, 17, 18, 19, 3, 4, 5, 7, 49, 50, 51, 52, 53, 54, 55, 56, 57, 58, 59, 60, 61, 62, 63, 64, 65, 66, 67, 68, 69, 70, 71, 72, 73, 74, 75, 76] (by decide +kernel) (by decide +kernel)
set_option maxRecDepth 20000 in
theorem gX11_readsSaying_X11_nextFigure : GoodIn wsX11_readsSaying (wsV RX11 138 RX11 yX11_nextFigure wsX11_nextFigure) := goodIn_app (goodIn_of _ (by decide +kernel)) ggX11_readsSaying_X11_nextFigure
set_option maxRecDepth 20000 in
theorem ggX11_readsSaying_X11_letters : GoodIn wsX11_readsSaying wsX11_letters := goodIn_r _ [43, 10, 44, 8, 9, 11, 12, 13, 6, 14, 15, 16, 49, 50, 51, 52, 53, 54, 55, 56, 57, 58, 59, 60, 61, 62, 63, 64, 65, 66, 67, 68, 69, 70, 71, 72, 73, 74, 75, 76] (by decide +kernel) (by decide +kernel)
set_option maxRecDepth 20000 in
theorem gX11_readsSaying_X11_letters : GoodIn wsX11_readsSaying (wsV RX11 109 RX11 yX11_letters wsX11_letters) := goodIn_app (goodIn_of _ (by decide +kernel)) ggX11_readsSaying_X11_letters
theorem dX11_readsSaying_0 : decode cX11_readsSaying 0 = .ok (.aload_n 0, 1) := by decide +kernel
theorem dX11_readsSaying_1 : decode cX11_readsSaying 1 = .ok (.getfield 13, 3) := by decide +kernel
theorem dX11_readsSaying_4 : decode cX11_readsSaying 4 = .ok (.iconst 1, 1) := by decide +kernel
theorem dX11_readsSaying_5 : decode cX11_readsSaying 5 = .ok (.iaload, 1) := by decide +kernel
theorem dX11_readsSaying_6 : decode cX11_readsSaying 6 = .ok (.istore_n 1, 1) := by decide +kernel
theorem dX11_readsSaying_7 : decode cX11_readsSaying 7 = .ok (.aload_n 0, 1) := by decide +kernel
theorem dX11_readsSaying_8 : decode cX11_readsSaying 8 = .ok (.iconst 0, 1) := by decide +kernel
theorem dX11_readsSaying_9 : decode cX11_readsSaying 9 = .ok (.aload_n 0, 1) := by decide +kernel
theorem dX11_readsSaying_10 : decode cX11_readsSaying 10 = .ok (.getfield 13, 3) := by decide +kernel
theorem dX11_readsSaying_13 : decode cX11_readsSaying 13 = .ok (.iconst 0, 1) := by decide +kernel
theorem dX11_readsSaying_14 : decode cX11_readsSaying 14 = .ok (.iaload, 1) := by decide +kernel
theorem dX11_readsSaying_15 : decode cX11_readsSaying 15 = .ok (.iconst 1, 1) := by decide +kernel
theorem dX11_readsSaying_16 : decode cX11_readsSaying 16 = .ok (.isub, 1) := by decide +kernel
theorem dX11_readsSaying_17 : decode cX11_readsSaying 17 = .ok (.invokevirtual 132, 3) := by decide +kernel
theorem dX11_readsSaying_20 : decode cX11_readsSaying 20 = .ok (.istore_n 2, 1) := by decide +kernel
theorem dX11_readsSaying_21 : decode cX11_readsSaying 21 = .ok (.iload_n 1, 1) := by decide +kernel
theorem dX11_readsSaying_22 : decode cX11_readsSaying 22 = .ok (.bipush 8, 2) := by decide +kernel
theorem dX11_readsSaying_24 : decode cX11_readsSaying 24 = .ok (.if_icmp .eq 8, 3) := by decide +kernel
theorem dX11_readsSaying_27 : decode cX11_readsSaying 27 = .ok (.iload_n 2, 1) := by decide +kernel
theorem dX11_readsSaying_28 : decode cX11_readsSaying 28 = .ok (.iconst (-1), 1) := by decide +kernel
theorem dX11_readsSaying_29 : decode cX11_readsSaying 29 = .ok (.if_icmp .ne 5, 3) := by decide +kernel
theorem dX11_readsSaying_32 : decode cX11_readsSaying 32 = .ok (.iconst 0, 1) := by decide +kernel
theorem dX11_readsSaying_33 : decode cX11_readsSaying 33 = .ok (.ireturn, 1) := by decide +kernel
theorem dX11_readsSaying_34 : decode cX11_readsSaying 34 = .ok (.aload_n 0, 1) := by decide +kernel
theorem dX11_readsSaying_35 : decode cX11_readsSaying 35 = .ok (.invokevirtual 129, 3) := by decide +kernel
theorem dX11_readsSaying_38 : decode cX11_readsSaying 38 = .ok (.aload_n 0, 1) := by decide +kernel
theorem dX11_readsSaying_39 : decode cX11_readsSaying 39 = .ok (.invokevirtual 135, 3) := by decide +kernel
theorem dX11_readsSaying_42 : decode cX11_readsSaying 42 = .ok (.istore_n 3, 1) := by decide +kernel
theorem dX11_readsSaying_43 : decode cX11_readsSaying 43 = .ok (.iload_n 3, 1) := by decide +kernel
theorem dX11_readsSaying_44 : decode cX11_readsSaying 44 = .ok (.iconst (-1), 1) := by decide +kernel
theorem dX11_readsSaying_45 : decode cX11_readsSaying 45 = .ok (.if_icmp .ne 5, 3) := by decide +kernel
theorem dX11_readsSaying_48 : decode cX11_readsSaying 48 = .ok (.iconst 0, 1) := by decide +kernel
theorem dX11_readsSaying_49 : decode cX11_readsSaying 49 = .ok (.ireturn, 1) := by decide +kernel
theorem dX11_readsSaying_50 : decode cX11_readsSaying 50 = .ok (.aload_n 0, 1) := by decide +kernel
theorem dX11_readsSaying_51 : decode cX11_readsSaying 51 = .ok (.iconst 0, 1) := by decide +kernel
theorem dX11_readsSaying_52 : decode cX11_readsSaying 52 = .ok (.aload_n 0, 1) := by decide +kernel
theorem dX11_readsSaying_53 : decode cX11_readsSaying 53 = .ok (.getfield 13, 3) := by decide +kernel
theorem dX11_readsSaying_56 : decode cX11_readsSaying 56 = .ok (.iconst 0, 1) := by decide +kernel
theorem dX11_readsSaying_57 : decode cX11_readsSaying 57 = .ok (.iaload, 1) := by decide +kernel
theorem dX11_readsSaying_58 : decode cX11_readsSaying 58 = .ok (.iconst 1, 1) := by decide +kernel
theorem dX11_readsSaying_59 : decode cX11_readsSaying 59 = .ok (.isub, 1) := by decide +kernel
theorem dX11_readsSaying_60 : decode cX11_readsSaying 60 = .ok (.invokevirtual 138, 3) := by decide +kernel
theorem dX11_readsSaying_63 : decode cX11_readsSaying 63 = .ok (.istore 4, 2) := by decide +kernel
theorem dX11_readsSaying_65 : decode cX11_readsSaying 65 = .ok (.iload 4, 2) := by decide +kernel
theorem dX11_readsSaying_67 : decode cX11_readsSaying 67 = .ok (.iconst (-1), 1) := by decide +kernel
theorem dX11_readsSaying_68 : decode cX11_readsSaying 68 = .ok (.if_icmp .eq 9, 3) := by decide +kernel
theorem dX11_readsSaying_71 : decode cX11_readsSaying 71 = .ok (.iload_n 2, 1) := by decide +kernel
theorem dX11_readsSaying_72 : decode cX11_readsSaying 72 = .ok (.iload 4, 2) := by decide +kernel
theorem dX11_readsSaying_74 : decode cX11_readsSaying 74 = .ok (.if_icmp .ne 5, 3) := by decide +kernel
theorem dX11_readsSaying_77 : decode cX11_readsSaying 77 = .ok (.iconst 0, 1) := by decide +kernel
theorem dX11_readsSaying_78 : decode cX11_readsSaying 78 = .ok (.ireturn, 1) := by decide +kernel
theorem dX11_readsSaying_79 : decode cX11_readsSaying 79 = .ok (.aload_n 0, 1) := by decide +kernel
theorem dX11_readsSaying_80 : decode cX11_readsSaying 80 = .ok (.invokevirtual 129, 3) := by decide +kernel
theorem dX11_readsSaying_83 : decode cX11_readsSaying 83 = .ok (.iconst 0, 1) := by decide +kernel
theorem dX11_readsSaying_84 : decode cX11_readsSaying 84 = .ok (.istore 5, 2) := by decide +kernel
theorem dX11_readsSaying_86 : decode cX11_readsSaying 86 = .ok (.aload_n 0, 1) := by decide +kernel
theorem dX11_readsSaying_87 : decode cX11_readsSaying 87 = .ok (.invokevirtual 109, 3) := by decide +kernel
theorem dX11_readsSaying_90 : decode cX11_readsSaying 90 = .ok (.ldc2_w 141, 3) := by decide +kernel
theorem dX11_readsSaying_93 : decode cX11_readsSaying 93 = .ok (.lcmp, 1) := by decide +kernel
theorem dX11_readsSaying_94 : decode cX11_readsSaying 94 = .ok (.ifCond .ne 23, 3) := by decide +kernel
theorem dX11_readsSaying_97 : decode cX11_readsSaying 97 = .ok (.aload_n 0, 1) := by decide +kernel
theorem dX11_readsSaying_98 : decode cX11_readsSaying 98 = .ok (.iconst 0, 1) := by decide +kernel
theorem dX11_readsSaying_99 : decode cX11_readsSaying 99 = .ok (.iconst 3, 1) := by decide +kernel
theorem dX11_readsSaying_100 : decode cX11_readsSaying 100 = .ok (.invokevirtual 138, 3) := by decide +kernel
theorem dX11_readsSaying_103 : decode cX11_readsSaying 103 = .ok (.istore 5, 2) := by decide +kernel
theorem dX11_readsSaying_105 : decode cX11_readsSaying 105 = .ok (.iload 5, 2) := by decide +kernel
theorem dX11_readsSaying_107 : decode cX11_readsSaying 107 = .ok (.iconst (-1), 1) := by decide +kernel
theorem dX11_readsSaying_108 : decode cX11_readsSaying 108 = .ok (.if_icmp .ne 5, 3) := by decide +kernel
theorem dX11_readsSaying_111 : decode cX11_readsSaying 111 = .ok (.iconst 0, 1) := by decide +kernel
theorem dX11_readsSaying_112 : decode cX11_readsSaying 112 = .ok (.ireturn, 1) := by decide +kernel
theorem dX11_readsSaying_113 : decode cX11_readsSaying 113 = .ok (.aload_n 0, 1) := by decide +kernel
theorem dX11_readsSaying_114 : decode cX11_readsSaying 114 = .ok (.invokevirtual 129, 3) := by decide +kernel
theorem dX11_readsSaying_117 : decode cX11_readsSaying 117 = .ok (.aload_n 0, 1) := by decide +kernel
theorem dX11_readsSaying_118 : decode cX11_readsSaying 118 = .ok (.getfield 13, 3) := by decide +kernel
theorem dX11_readsSaying_121 : decode cX11_readsSaying 121 = .ok (.bipush 14, 2) := by decide +kernel
theorem dX11_readsSaying_123 : decode cX11_readsSaying 123 = .ok (.iload_n 1, 1) := by decide +kernel
theorem dX11_readsSaying_124 : decode cX11_readsSaying 124 = .ok (.iadd, 1) := by decide +kernel
theorem dX11_readsSaying_125 : decode cX11_readsSaying 125 = .ok (.iload_n 3, 1) := by decide +kernel
theorem dX11_readsSaying_126 : decode cX11_readsSaying 126 = .ok (.iastore, 1) := by decide +kernel
theorem dX11_readsSaying_127 : decode cX11_readsSaying 127 = .ok (.aload_n 0, 1) := by decide +kernel
theorem dX11_readsSaying_128 : decode cX11_readsSaying 128 = .ok (.getfield 13, 3) := by decide +kernel
theorem dX11_readsSaying_131 : decode cX11_readsSaying 131 = .ok (.bipush 22, 2) := by decide +kernel
theorem dX11_readsSaying_133 : decode cX11_readsSaying 133 = .ok (.iload_n 1, 1) := by decide +kernel
theorem dX11_readsSaying_134 : decode cX11_readsSaying 134 = .ok (.iadd, 1) := by decide +kernel
theorem dX11_readsSaying_135 : decode cX11_readsSaying 135 = .ok (.iload_n 2, 1) := by decide +kernel
theorem dX11_readsSaying_136 : decode cX11_readsSaying 136 = .ok (.iastore, 1) := by decide +kernel
theorem dX11_readsSaying_137 : decode cX11_readsSaying 137 = .ok (.aload_n 0, 1) := by decide +kernel
theorem dX11_readsSaying_138 : decode cX11_readsSaying 138 = .ok (.getfield 13, 3) := by decide +kernel
theorem dX11_readsSaying_141 : decode cX11_readsSaying 141 = .ok (.bipush 30, 2) := by decide +kernel
theorem dX11_readsSaying_143 : decode cX11_readsSaying 143 = .ok (.iload_n 1, 1) := by decide +kernel
theorem dX11_readsSaying_144 : decode cX11_readsSaying 144 = .ok (.iadd, 1) := by decide +kernel
theorem dX11_readsSaying_145 : decode cX11_readsSaying 145 = .ok (.iload 4, 2) := by decide +kernel
theorem dX11_readsSaying_147 : decode cX11_readsSaying 147 = .ok (.iastore, 1) := by decide +kernel
theorem dX11_readsSaying_148 : decode cX11_readsSaying 148 = .ok (.aload_n 0, 1) := by decide +kernel
theorem dX11_readsSaying_149 : decode cX11_readsSaying 149 = .ok (.getfield 13, 3) := by decide +kernel
theorem dX11_readsSaying_152 : decode cX11_readsSaying 152 = .ok (.bipush 38, 2) := by decide +kernel
theorem dX11_readsSaying_154 : decode cX11_readsSaying 154 = .ok (.iload_n 1, 1) := by decide +kernel
theorem dX11_readsSaying_155 : decode cX11_readsSaying 155 = .ok (.iadd, 1) := by decide +kernel
theorem dX11_readsSaying_156 : decode cX11_readsSaying 156 = .ok (.iload 5, 2) := by decide +kernel
theorem dX11_readsSaying_158 : decode cX11_readsSaying 158 = .ok (.iastore, 1) := by decide +kernel
theorem dX11_readsSaying_159 : decode cX11_readsSaying 159 = .ok (.aload_n 0, 1) := by decide +kernel
theorem dX11_readsSaying_160 : decode cX11_readsSaying 160 = .ok (.getfield 13, 3) := by decide +kernel
theorem dX11_readsSaying_163 : decode cX11_readsSaying 163 = .ok (.iconst 1, 1) := by decide +kernel
theorem dX11_readsSaying_164 : decode cX11_readsSaying 164 = .ok (.dup2, 1) := by decide +kernel
theorem dX11_readsSaying_165 : decode cX11_readsSaying 165 = .ok (.iaload, 1) := by decide +kernel
theorem dX11_readsSaying_166 : decode cX11_readsSaying 166 = .ok (.iconst 1, 1) := by decide +kernel
theorem dX11_readsSaying_167 : decode cX11_readsSaying 167 = .ok (.iadd, 1) := by decide +kernel
theorem dX11_readsSaying_168 : decode cX11_readsSaying 168 = .ok (.iastore, 1) := by decide +kernel
theorem dX11_readsSaying_169 : decode cX11_readsSaying 169 = .ok (.iconst 1, 1) := by decide +kernel
theorem dX11_readsSaying_170 : decode cX11_readsSaying 170 = .ok (.ireturn, 1) := by decide +kernel
set_option maxRecDepth 20000 in
theorem ggX11_readsItem_X11_readsSaying : GoodIn wsX11_readsItem wsX11_readsSaying := goodIn_r _ [9, 4, 10, 11, 12, 13, 8, 14, 15, 1, 16, 17, 18, 19, 20, 21, 22, 23, 24, 25, 26, 27, 28, 29, 30, 31, 32, 33, 34, 35, 36, 37, 38, 39, 40, 41, 42, 43, 44, 45, 46, 47, 48, 49, 50, 51, 52, 53, 54, 55, 56, 57, 58, 59, 60, 61, 62, 63, 64, 65, 66, 67, 68, 69, 70, 71, 72, 73, 74, 75, 76, 77, 78, 79, 80, 81, 82] (by decide +kernel) (by decide +kernel)
set_option maxRecDepth 20000 in
theorem gX11_readsItem_X11_readsSaying : GoodIn wsX11_readsItem (wsV RX11 143 RX11 yX11_readsSaying wsX11_readsSaying) := goodIn_app (goodIn_of _ (by decide +kernel)) ggX11_readsItem_X11_readsSaying
set_option maxRecDepth 20000 in
theorem ggX11_readsItem_X11_letters : GoodIn wsX11_readsItem wsX11_letters := goodIn_r _ [49, 16, 50, 15, 1, 17, 18, 19, 8, 20, 21, 22, 55, 56, 57, 58, 59, 60, 61, 62, 63, 64, 65, 66, 67, 68, 69, 70, 71, 72, 73, 74, 75, 76, 77, 78, 79, 80, 81, 82] (by decide +kernel) (by decide +kernel)
set_option maxRecDepth 20000 in
theorem gX11_readsItem_X11_letters : GoodIn wsX11_readsItem (wsV RX11 109 RX11 yX11_letters wsX11_letters) := goodIn_app (goodIn_of _ (by decide +kernel)) ggX11_readsItem_X11_letters
set_option maxRecDepth 20000 in
theorem ggX11_readsItem_X11_nextFigure : GoodIn wsX11_readsItem wsX11_nextFigure := goodIn_r _ [54, 26, 27, 28, 8, 29, 30, 15, 1, 16, 17, 18, 19, 20, 21, 22, 31, 32, 33, 23, 24, 25, 11, 12, 13, 14, 55, 56, 57, 58, 59, 60, 61, 62, 63, 64, 65, 66, 67, 68, 69, 70, 71, 72, 73, 74, 75, 76, 77, 78, 79, 80, 81, 82] (by decide +kernel) (by decide +kernel)
set_option maxRecDepth 20000 in
theorem gX11_readsItem_X11_nextFigure : GoodIn wsX11_readsItem (wsV RX11 138 RX11 yX11_nextFigure wsX11_nextFigure) := goodIn_app (goodIn_of _ (by decide +kernel)) ggX11_readsItem_X11_nextFigure
set_option maxRecDepth 20000 in
theorem ggX11_readsItem_X11_token : GoodIn wsX11_readsItem wsX11_token := goodIn_r _ [29, 30, 15, 1, 16, 17, 18, 19, 8, 20, 21, 22, 31, 32, 33, 23, 24, 25, 55, 56, 57, 58, 59, 60, 61, 62, 63, 64, 65, 66, 67, 68, 69, 70, 71, 72, 73, 74, 75, 76, 77, 78, 79, 80, 81, 82] (by decide +kernel) (by decide +kernel)
set_option maxRecDepth 20000 in
theorem gX11_readsItem_X11_token : GoodIn wsX11_readsItem (wsV RX11 129 RX11 yX11_token wsX11_token) := goodIn_app (goodIn_of _ (by decide +kernel)) ggX11_readsItem_X11_token
theorem dX11_readsItem_0 : decode cX11_readsItem 0 = .ok (.aload_n 0, 1) := by decide +kernel
theorem dX11_readsItem_1 : decode cX11_readsItem 1 = .ok (.getfield 101, 3) := by decide +kernel
theorem dX11_readsItem_4 : decode cX11_readsItem 4 = .ok (.iconst 2, 1) := by decide +kernel
theorem dX11_readsItem_5 : decode cX11_readsItem 5 = .ok (.if_icmp .ne 8, 3) := by decide +kernel
theorem dX11_readsItem_8 : decode cX11_readsItem 8 = .ok (.aload_n 0, 1) := by decide +kernel
theorem dX11_readsItem_9 : decode cX11_readsItem 9 = .ok (.invokevirtual 143, 3) := by decide +kernel
theorem dX11_readsItem_12 : decode cX11_readsItem 12 = .ok (.ireturn, 1) := by decide +kernel
theorem dX11_readsItem_13 : decode cX11_readsItem 13 = .ok (.aload_n 0, 1) := by decide +kernel
theorem dX11_readsItem_14 : decode cX11_readsItem 14 = .ok (.invokevirtual 109, 3) := by decide +kernel
theorem dX11_readsItem_17 : decode cX11_readsItem 17 = .ok (.lstore_n 1, 1) := by decide +kernel
theorem dX11_readsItem_18 : decode cX11_readsItem 18 = .ok (.lload_n 1, 1) := by decide +kernel
theorem dX11_readsItem_19 : decode cX11_readsItem 19 = .ok (.ldc2_w 147, 3) := by decide +kernel
theorem dX11_readsItem_22 : decode cX11_readsItem 22 = .ok (.lcmp, 1) := by decide +kernel
theorem dX11_readsItem_23 : decode cX11_readsItem 23 = .ok (.ifCond .eq 13, 3) := by decide +kernel
theorem dX11_readsItem_26 : decode cX11_readsItem 26 = .ok (.lload_n 1, 1) := by decide +kernel
theorem dX11_readsItem_27 : decode cX11_readsItem 27 = .ok (.ldc2_w 149, 3) := by decide +kernel
theorem dX11_readsItem_30 : decode cX11_readsItem 30 = .ok (.lcmp, 1) := by decide +kernel
theorem dX11_readsItem_31 : decode cX11_readsItem 31 = .ok (.ifCond .eq 5, 3) := by decide +kernel
theorem dX11_readsItem_34 : decode cX11_readsItem 34 = .ok (.iconst 0, 1) := by decide +kernel
theorem dX11_readsItem_35 : decode cX11_readsItem 35 = .ok (.ireturn, 1) := by decide +kernel
theorem dX11_readsItem_36 : decode cX11_readsItem 36 = .ok (.aload_n 0, 1) := by decide +kernel
theorem dX11_readsItem_37 : decode cX11_readsItem 37 = .ok (.iconst 0, 1) := by decide +kernel
theorem dX11_readsItem_38 : decode cX11_readsItem 38 = .ok (.aload_n 0, 1) := by decide +kernel
theorem dX11_readsItem_39 : decode cX11_readsItem 39 = .ok (.getfield 13, 3) := by decide +kernel
theorem dX11_readsItem_42 : decode cX11_readsItem 42 = .ok (.iconst 0, 1) := by decide +kernel
theorem dX11_readsItem_43 : decode cX11_readsItem 43 = .ok (.iaload, 1) := by decide +kernel
theorem dX11_readsItem_44 : decode cX11_readsItem 44 = .ok (.iconst 1, 1) := by decide +kernel
theorem dX11_readsItem_45 : decode cX11_readsItem 45 = .ok (.isub, 1) := by decide +kernel
theorem dX11_readsItem_46 : decode cX11_readsItem 46 = .ok (.invokevirtual 138, 3) := by decide +kernel
theorem dX11_readsItem_49 : decode cX11_readsItem 49 = .ok (.istore_n 3, 1) := by decide +kernel
theorem dX11_readsItem_50 : decode cX11_readsItem 50 = .ok (.iload_n 3, 1) := by decide +kernel
theorem dX11_readsItem_51 : decode cX11_readsItem 51 = .ok (.iconst (-1), 1) := by decide +kernel
theorem dX11_readsItem_52 : decode cX11_readsItem 52 = .ok (.if_icmp .ne 5, 3) := by decide +kernel
theorem dX11_readsItem_55 : decode cX11_readsItem 55 = .ok (.iconst 0, 1) := by decide +kernel
theorem dX11_readsItem_56 : decode cX11_readsItem 56 = .ok (.ireturn, 1) := by decide +kernel
theorem dX11_readsItem_57 : decode cX11_readsItem 57 = .ok (.lload_n 1, 1) := by decide +kernel
theorem dX11_readsItem_58 : decode cX11_readsItem 58 = .ok (.ldc2_w 147, 3) := by decide +kernel
theorem dX11_readsItem_61 : decode cX11_readsItem 61 = .ok (.lcmp, 1) := by decide +kernel
theorem dX11_readsItem_62 : decode cX11_readsItem 62 = .ok (.ifCond .ne 32, 3) := by decide +kernel
theorem dX11_readsItem_65 : decode cX11_readsItem 65 = .ok (.aload_n 0, 1) := by decide +kernel
theorem dX11_readsItem_66 : decode cX11_readsItem 66 = .ok (.iconst 0, 1) := by decide +kernel
theorem dX11_readsItem_67 : decode cX11_readsItem 67 = .ok (.iconst 3, 1) := by decide +kernel
theorem dX11_readsItem_68 : decode cX11_readsItem 68 = .ok (.invokevirtual 138, 3) := by decide +kernel
theorem dX11_readsItem_71 : decode cX11_readsItem 71 = .ok (.istore 4, 2) := by decide +kernel
theorem dX11_readsItem_73 : decode cX11_readsItem 73 = .ok (.iload 4, 2) := by decide +kernel
theorem dX11_readsItem_75 : decode cX11_readsItem 75 = .ok (.iconst (-1), 1) := by decide +kernel
theorem dX11_readsItem_76 : decode cX11_readsItem 76 = .ok (.if_icmp .ne 5, 3) := by decide +kernel
theorem dX11_readsItem_79 : decode cX11_readsItem 79 = .ok (.iconst 0, 1) := by decide +kernel
theorem dX11_readsItem_80 : decode cX11_readsItem 80 = .ok (.ireturn, 1) := by decide +kernel
theorem dX11_readsItem_81 : decode cX11_readsItem 81 = .ok (.aload_n 0, 1) := by decide +kernel
theorem dX11_readsItem_82 : decode cX11_readsItem 82 = .ok (.getfield 13, 3) := by decide +kernel
theorem dX11_readsItem_85 : decode cX11_readsItem 85 = .ok (.iconst 2, 1) := by decide +kernel
theorem dX11_readsItem_86 : decode cX11_readsItem 86 = .ok (.iload_n 3, 1) := by decide +kernel
theorem dX11_readsItem_87 : decode cX11_readsItem 87 = .ok (.iadd, 1) := by decide +kernel
theorem dX11_readsItem_88 : decode cX11_readsItem 88 = .ok (.iload 4, 2) := by decide +kernel
theorem dX11_readsItem_90 : decode cX11_readsItem 90 = .ok (.iastore, 1) := by decide +kernel
theorem dX11_readsItem_91 : decode cX11_readsItem 91 = .ok (.goto 13, 3) := by decide +kernel
theorem dX11_readsItem_94 : decode cX11_readsItem 94 = .ok (.aload_n 0, 1) := by decide +kernel
theorem dX11_readsItem_95 : decode cX11_readsItem 95 = .ok (.getfield 13, 3) := by decide +kernel
theorem dX11_readsItem_98 : decode cX11_readsItem 98 = .ok (.bipush 8, 2) := by decide +kernel
theorem dX11_readsItem_100 : decode cX11_readsItem 100 = .ok (.iload_n 3, 1) := by decide +kernel
theorem dX11_readsItem_101 : decode cX11_readsItem 101 = .ok (.iadd, 1) := by decide +kernel
theorem dX11_readsItem_102 : decode cX11_readsItem 102 = .ok (.iconst 1, 1) := by decide +kernel
theorem dX11_readsItem_103 : decode cX11_readsItem 103 = .ok (.iastore, 1) := by decide +kernel
theorem dX11_readsItem_104 : decode cX11_readsItem 104 = .ok (.aload_n 0, 1) := by decide +kernel
theorem dX11_readsItem_105 : decode cX11_readsItem 105 = .ok (.invokevirtual 129, 3) := by decide +kernel
theorem dX11_readsItem_108 : decode cX11_readsItem 108 = .ok (.iconst 1, 1) := by decide +kernel
theorem dX11_readsItem_109 : decode cX11_readsItem 109 = .ok (.ireturn, 1) := by decide +kernel
set_option maxRecDepth 20000 in
theorem ggX11_reads_X11_clean : GoodIn wsX11_reads wsX11_clean := goodIn_r _ [9, 3, 10, 11, 8, 12, 64, 65, 66, 67, 68, 69, 70, 71, 72, 73, 74, 75, 76, 77, 78, 79, 80, 81, 82, 83, 84, 85, 86, 87, 88, 89, 90, 91] (by decide +kernel) (by decide +kernel)
set_option maxRecDepth 20000 in
theorem gX11_reads_X11_clean : GoodIn wsX11_reads (wsV RX11 63 RX11 yX11_clean wsX11_clean) := goodIn_app (goodIn_of _ (by decide +kernel)) ggX11_reads_X11_clean
set_option maxRecDepth 20000 in
theorem ggX11_reads_X11_token : GoodIn wsX11_reads wsX11_token := goodIn_r _ [16, 1, 17, 4, 18, 19, 20, 21, 8, 22, 23, 24, 25, 26, 27, 10, 11, 12, 64, 65, 66, 67, 68, 69, 70, 71, 72, 73, 74, 75, 76, 77, 78, 79, 80, 81, 82, 83, 84, 85, 86, 87, 88, 89, 90, 91] (by decide +kernel) (by decide +kernel)
set_option maxRecDepth 20000 in
theorem gX11_reads_X11_token : GoodIn wsX11_reads (wsV RX11 129 RX11 yX11_token wsX11_token) := goodIn_app (goodIn_of _ (by decide +kernel)) ggX11_reads_X11_token
set_option maxRecDepth 20000 in
theorem ggX11_reads_X11_letters : GoodIn wsX11_reads wsX11_letters := goodIn_r _ [31, 18, 32, 17, 4, 19, 20, 21, 8, 22, 23, 24, 64, 65, 66, 67, 68, 69, 70, 71, 72, 73, 74, 75, 76, 77, 78, 79, 80, 81, 82, 83, 84, 85, 86, 87, 88, 89, 90, 91] (by decide +kernel) (by decide +kernel)
set_option maxRecDepth 20000 in
theorem gX11_reads_X11_letters : GoodIn wsX11_reads (wsV RX11 109 RX11 yX11_letters wsX11_letters) := goodIn_app (goodIn_of _ (by decide +kernel)) ggX11_reads_X11_letters
set_option maxRecDepth 20000 in
theorem ggX11_reads_X11_nextFigure : GoodIn wsX11_reads wsX11_nextFigure := goodIn_r _ [36, 13, 14, 15, 8, 16, 1, 17, 4, 18, 19, 20, 21, 22, 23, 24, 25, 26, 27, 10, 11, 12, 37, 38, 39, 40, 64, 65, 66, 67, 68, 69, 70, 71, 72, 73, 74, 75, 76, 77, 78, 79, 80, 81, 82, 83, 84, 85, 86, 87, 88, 89, 90, 91] (by decide +kernel) (by decide +kernel)
set_option maxRecDepth 20000 in
theorem gX11_reads_X11_nextFigure : GoodIn wsX11_reads (wsV RX11 138 RX11 yX11_nextFigure wsX11_nextFigure) := goodIn_app (goodIn_of _ (by decide +kernel)) ggX11_reads_X11_nextFigure
set_option maxRecDepth 20000 in
theorem ggX11_reads_X11_readsItem : GoodIn wsX11_reads wsX11_readsItem := goodIn_r _ [44, 4, 45, 46, 3, 47, 48, 49, 8, 50, 51, 37, 38, 39, 40, 17, 18, 19, 20, 21, 22, 23, 24, 10, 11, 12, 13, 14, 15, 16, 1, 25, 26, 27, 52, 53, 54, 55, 56, 57, 58, 59, 60, 61, 62, 63, 28, 29, 30, 31, 32, 33, 34, 35, 36, 64, 65, 66, 67, 68, 69, 70, 71, 72, 73, 74, 75, 76, 77, 78, 79, 80, 81, 82, 83, 84, 85, 86, 87, 88, 89, 90, 91] (by decide +kernel) (by decide +kernel)
set_option maxRecDepth 20000 in
theorem gX11_reads_X11_readsItem : GoodIn wsX11_reads (wsV RX11 153 RX11 yX11_readsItem wsX11_readsItem) := goodIn_app (goodIn_of _ (by decide +kernel)) ggX11_reads_X11_readsItem
theorem dX11_reads_0 : decode cX11_reads 0 = .ok (.aload_n 0, 1) := by decide +kernel
theorem dX11_reads_1 : decode cX11_reads 1 = .ok (.invokevirtual 63, 3) := by decide +kernel
theorem dX11_reads_4 : decode cX11_reads 4 = .ok (.aload_n 0, 1) := by decide +kernel
theorem dX11_reads_5 : decode cX11_reads 5 = .ok (.iconst 0, 1) := by decide +kernel
theorem dX11_reads_6 : decode cX11_reads 6 = .ok (.putfield 88, 3) := by decide +kernel
theorem dX11_reads_9 : decode cX11_reads 9 = .ok (.aload_n 0, 1) := by decide +kernel
theorem dX11_reads_10 : decode cX11_reads 10 = .ok (.invokevirtual 129, 3) := by decide +kernel
theorem dX11_reads_13 : decode cX11_reads 13 = .ok (.aload_n 0, 1) := by decide +kernel
theorem dX11_reads_14 : decode cX11_reads 14 = .ok (.invokevirtual 109, 3) := by decide +kernel
theorem dX11_reads_17 : decode cX11_reads 17 = .ok (.ldc2_w 151, 3) := by decide +kernel
theorem dX11_reads_20 : decode cX11_reads 20 = .ok (.lcmp, 1) := by decide +kernel
theorem dX11_reads_21 : decode cX11_reads 21 = .ok (.ifCond .eq 5, 3) := by decide +kernel
theorem dX11_reads_24 : decode cX11_reads 24 = .ok (.iconst 0, 1) := by decide +kernel
theorem dX11_reads_25 : decode cX11_reads 25 = .ok (.ireturn, 1) := by decide +kernel
theorem dX11_reads_26 : decode cX11_reads 26 = .ok (.aload_n 0, 1) := by decide +kernel
theorem dX11_reads_27 : decode cX11_reads 27 = .ok (.iconst 1, 1) := by decide +kernel
theorem dX11_reads_28 : decode cX11_reads 28 = .ok (.bipush 6, 2) := by decide +kernel
theorem dX11_reads_30 : decode cX11_reads 30 = .ok (.invokevirtual 138, 3) := by decide +kernel
theorem dX11_reads_33 : decode cX11_reads 33 = .ok (.istore_n 1, 1) := by decide +kernel
theorem dX11_reads_34 : decode cX11_reads 34 = .ok (.iload_n 1, 1) := by decide +kernel
theorem dX11_reads_35 : decode cX11_reads 35 = .ok (.iconst (-1), 1) := by decide +kernel
theorem dX11_reads_36 : decode cX11_reads 36 = .ok (.if_icmp .ne 5, 3) := by decide +kernel
theorem dX11_reads_39 : decode cX11_reads 39 = .ok (.iconst 0, 1) := by decide +kernel
theorem dX11_reads_40 : decode cX11_reads 40 = .ok (.ireturn, 1) := by decide +kernel
theorem dX11_reads_41 : decode cX11_reads 41 = .ok (.aload_n 0, 1) := by decide +kernel
theorem dX11_reads_42 : decode cX11_reads 42 = .ok (.getfield 13, 3) := by decide +kernel
theorem dX11_reads_45 : decode cX11_reads 45 = .ok (.iconst 0, 1) := by decide +kernel
theorem dX11_reads_46 : decode cX11_reads 46 = .ok (.iload_n 1, 1) := by decide +kernel
theorem dX11_reads_47 : decode cX11_reads 47 = .ok (.iastore, 1) := by decide +kernel
theorem dX11_reads_48 : decode cX11_reads 48 = .ok (.aload_n 0, 1) := by decide +kernel
theorem dX11_reads_49 : decode cX11_reads 49 = .ok (.invokevirtual 129, 3) := by decide +kernel
theorem dX11_reads_52 : decode cX11_reads 52 = .ok (.aload_n 0, 1) := by decide +kernel
theorem dX11_reads_53 : decode cX11_reads 53 = .ok (.getfield 101, 3) := by decide +kernel
theorem dX11_reads_56 : decode cX11_reads 56 = .ok (.iconst 3, 1) := by decide +kernel
theorem dX11_reads_57 : decode cX11_reads 57 = .ok (.if_icmp .ne 25, 3) := by decide +kernel
theorem dX11_reads_60 : decode cX11_reads 60 = .ok (.aload_n 0, 1) := by decide +kernel
theorem dX11_reads_61 : decode cX11_reads 61 = .ok (.invokevirtual 129, 3) := by decide +kernel
theorem dX11_reads_64 : decode cX11_reads 64 = .ok (.aload_n 0, 1) := by decide +kernel
theorem dX11_reads_65 : decode cX11_reads 65 = .ok (.getfield 101, 3) := by decide +kernel
theorem dX11_reads_68 : decode cX11_reads 68 = .ok (.ifCond .ne 5, 3) := by decide +kernel
theorem dX11_reads_71 : decode cX11_reads 71 = .ok (.iconst 1, 1) := by decide +kernel
theorem dX11_reads_72 : decode cX11_reads 72 = .ok (.ireturn, 1) := by decide +kernel
theorem dX11_reads_73 : decode cX11_reads 73 = .ok (.aload_n 0, 1) := by decide +kernel
theorem dX11_reads_74 : decode cX11_reads 74 = .ok (.invokevirtual 153, 3) := by decide +kernel
theorem dX11_reads_77 : decode cX11_reads 77 = .ok (.ifCond .ne (-25), 3) := by decide +kernel
theorem dX11_reads_80 : decode cX11_reads 80 = .ok (.iconst 0, 1) := by decide +kernel
theorem dX11_reads_81 : decode cX11_reads 81 = .ok (.ireturn, 1) := by decide +kernel
theorem dX11_reads_82 : decode cX11_reads 82 = .ok (.iconst 0, 1) := by decide +kernel
theorem dX11_reads_83 : decode cX11_reads 83 = .ok (.ireturn, 1) := by decide +kernel
set_option maxRecDepth 20000 in
theorem ggX11_read_X11_reads : GoodIn wsX11_read wsX11_reads := goodIn_r _ [8, 9, 10, 3, 11, 12, 13, 14, 7, 15, 16, 17, 18, 19, 20, 21, 22, 1, 23, 24, 25, 26, 27, 28, 29, 30, 31, 32, 33, 34, 35, 36, 37, 38, 39, 40, 41, 42, 43, 44, 45, 46, 47, 48, 49, 50, 51, 52, 53, 54, 55, 56, 57, 58, 59, 60, 61, 62, 63, 64, 65, 66, 67, 68, 69, 70, 71, 72, 73, 74, 75, 76, 77, 78, 79, 80, 81, 82, 83, 84, 85, 86, 87, 88, 89, 90, 91, 92, 93, 94, 95, 96] (by decide +kernel) (by decide +kernel)
set_option maxRecDepth 20000 in
theorem gX11_read_X11_reads : GoodIn wsX11_read (wsV RX11 156 RX11 yX11_reads wsX11_reads) := goodIn_app (goodIn_of _ (by decide +kernel)) ggX11_read_X11_reads
theorem dX11_read_0 : decode cX11_read 0 = .ok (.aload_n 0, 1) := by decide +kernel
theorem dX11_read_1 : decode cX11_read 1 = .ok (.invokevirtual 156, 3) := by decide +kernel
theorem dX11_read_4 : decode cX11_read 4 = .ok (.ifCond .ne 11, 3) := by decide +kernel
theorem dX11_read_7 : decode cX11_read 7 = .ok (.bipush (-10), 2) := by decide +kernel
theorem dX11_read_9 : decode cX11_read 9 = .ok (.aload_n 0, 1) := by decide +kernel
theorem dX11_read_10 : decode cX11_read 10 = .ok (.getfield 95, 3) := by decide +kernel
theorem dX11_read_13 : decode cX11_read 13 = .ok (.isub, 1) := by decide +kernel
theorem dX11_read_14 : decode cX11_read 14 = .ok (.ireturn, 1) := by decide +kernel
theorem dX11_read_15 : decode cX11_read 15 = .ok (.iconst 0, 1) := by decide +kernel
theorem dX11_read_16 : decode cX11_read 16 = .ok (.istore_n 1, 1) := by decide +kernel
theorem dX11_read_17 : decode cX11_read 17 = .ok (.iload_n 1, 1) := by decide +kernel
theorem dX11_read_18 : decode cX11_read 18 = .ok (.bipush 58, 2) := by decide +kernel
theorem dX11_read_20 : decode cX11_read 20 = .ok (.if_icmp .ge 21, 3) := by decide +kernel
theorem dX11_read_23 : decode cX11_read 23 = .ok (.aload_n 0, 1) := by decide +kernel
theorem dX11_read_24 : decode cX11_read 24 = .ok (.getfield 7, 3) := by decide +kernel
theorem dX11_read_27 : decode cX11_read 27 = .ok (.iload_n 1, 1) := by decide +kernel
theorem dX11_read_28 : decode cX11_read 28 = .ok (.aload_n 0, 1) := by decide +kernel
theorem dX11_read_29 : decode cX11_read 29 = .ok (.getfield 13, 3) := by decide +kernel
theorem dX11_read_32 : decode cX11_read 32 = .ok (.iload_n 1, 1) := by decide +kernel
theorem dX11_read_33 : decode cX11_read 33 = .ok (.iaload, 1) := by decide +kernel
theorem dX11_read_34 : decode cX11_read 34 = .ok (.iastore, 1) := by decide +kernel
theorem dX11_read_35 : decode cX11_read 35 = .ok (.iinc 1 1, 3) := by decide +kernel
theorem dX11_read_38 : decode cX11_read 38 = .ok (.goto (-21), 3) := by decide +kernel
theorem dX11_read_41 : decode cX11_read 41 = .ok (.aload_n 0, 1) := by decide +kernel
theorem dX11_read_42 : decode cX11_read 42 = .ok (.getfield 7, 3) := by decide +kernel
theorem dX11_read_45 : decode cX11_read 45 = .ok (.iconst 1, 1) := by decide +kernel
theorem dX11_read_46 : decode cX11_read 46 = .ok (.iaload, 1) := by decide +kernel
theorem dX11_read_47 : decode cX11_read 47 = .ok (.ireturn, 1) := by decide +kernel
theorem dX11_was_0 : decode cX11_was 0 = .ok (.aload_n 0, 1) := by decide +kernel
theorem dX11_was_1 : decode cX11_was 1 = .ok (.getfield 159, 3) := by decide +kernel
theorem dX11_was_4 : decode cX11_was 4 = .ok (.iload_n 1, 1) := by decide +kernel
theorem dX11_was_5 : decode cX11_was 5 = .ok (.ishr, 1) := by decide +kernel
theorem dX11_was_6 : decode cX11_was 6 = .ok (.iconst 1, 1) := by decide +kernel
theorem dX11_was_7 : decode cX11_was 7 = .ok (.iand, 1) := by decide +kernel
theorem dX11_was_8 : decode cX11_was 8 = .ok (.iconst 1, 1) := by decide +kernel
theorem dX11_was_9 : decode cX11_was 9 = .ok (.if_icmp .ne 7, 3) := by decide +kernel
theorem dX11_was_12 : decode cX11_was 12 = .ok (.iconst 1, 1) := by decide +kernel
theorem dX11_was_13 : decode cX11_was 13 = .ok (.goto 4, 3) := by decide +kernel
theorem dX11_was_16 : decode cX11_was 16 = .ok (.iconst 0, 1) := by decide +kernel
theorem dX11_was_17 : decode cX11_was 17 = .ok (.ireturn, 1) := by decide +kernel
theorem dX11_is_0 : decode cX11_is 0 = .ok (.aload_n 0, 1) := by decide +kernel
theorem dX11_is_1 : decode cX11_is 1 = .ok (.getfield 162, 3) := by decide +kernel
theorem dX11_is_4 : decode cX11_is 4 = .ok (.iload_n 1, 1) := by decide +kernel
theorem dX11_is_5 : decode cX11_is 5 = .ok (.ishr, 1) := by decide +kernel
theorem dX11_is_6 : decode cX11_is 6 = .ok (.iconst 1, 1) := by decide +kernel
theorem dX11_is_7 : decode cX11_is 7 = .ok (.iand, 1) := by decide +kernel
theorem dX11_is_8 : decode cX11_is 8 = .ok (.iconst 1, 1) := by decide +kernel
theorem dX11_is_9 : decode cX11_is 9 = .ok (.if_icmp .ne 7, 3) := by decide +kernel
theorem dX11_is_12 : decode cX11_is 12 = .ok (.iconst 1, 1) := by decide +kernel
theorem dX11_is_13 : decode cX11_is 13 = .ok (.goto 4, 3) := by decide +kernel
theorem dX11_is_16 : decode cX11_is 16 = .ok (.iconst 0, 1) := by decide +kernel
theorem dX11_is_17 : decode cX11_is 17 = .ok (.ireturn, 1) := by decide +kernel
set_option maxRecDepth 20000 in
theorem ggX11_been_X11_was : GoodIn wsX11_been wsX11_was := goodIn_r _ [5, 6, 12, 13, 14, 15, 16, 17, 18, 19, 20, 21, 22, 23, 24, 25, 26, 27, 28, 29, 30, 31, 32, 33, 34, 35, 36, 37, 38, 39] (by decide +kernel) (by decide +kernel)
set_option maxRecDepth 20000 in
theorem gX11_been_X11_was : GoodIn wsX11_been (wsV RX11 165 RX11 yX11_was wsX11_was) := goodIn_app (goodIn_of _ (by decide +kernel)) ggX11_been_X11_was
set_option maxRecDepth 20000 in
theorem ggX11_been_X11_is : GoodIn wsX11_been wsX11_is := goodIn_r _ [10, 11, 12, 13, 14, 15, 16, 17, 18, 19, 20, 21, 22, 23, 24, 25, 26, 27, 28, 29, 30, 31, 32, 33, 34, 35, 36, 37, 38, 39] (by decide +kernel) (by decide +kernel)
set_option maxRecDepth 20000 in
theorem gX11_been_X11_is : GoodIn wsX11_been (wsV RX11 168 RX11 yX11_is wsX11_is) := goodIn_app (goodIn_of _ (by decide +kernel)) ggX11_been_X11_is
theorem dX11_been_0 : decode cX11_been 0 = .ok (.aload_n 0, 1) := by decide +kernel
theorem dX11_been_1 : decode cX11_been 1 = .ok (.iload_n 1, 1) := by decide +kernel
theorem dX11_been_2 : decode cX11_been 2 = .ok (.invokevirtual 165, 3) := by decide +kernel
theorem dX11_been_5 : decode cX11_been 5 = .ok (.ifCond .ne 11, 3) := by decide +kernel
theorem dX11_been_8 : decode cX11_been 8 = .ok (.aload_n 0, 1) := by decide +kernel
theorem dX11_been_9 : decode cX11_been 9 = .ok (.iload_n 1, 1) := by decide +kernel
theorem dX11_been_10 : decode cX11_been 10 = .ok (.invokevirtual 168, 3) := by decide +kernel
theorem dX11_been_13 : decode cX11_been 13 = .ok (.ifCond .eq 7, 3) := by decide +kernel
theorem dX11_been_16 : decode cX11_been 16 = .ok (.iconst 1, 1) := by decide +kernel
theorem dX11_been_17 : decode cX11_been 17 = .ok (.goto 4, 3) := by decide +kernel
theorem dX11_been_20 : decode cX11_been 20 = .ok (.iconst 0, 1) := by decide +kernel
theorem dX11_been_21 : decode cX11_been 21 = .ok (.ireturn, 1) := by decide +kernel
set_option maxRecDepth 20000 in
theorem ggX11_apart_X11_is : GoodIn wsX11_apart wsX11_is := goodIn_r _ [5, 6, 16, 17, 18, 19, 20, 21, 22, 23, 24, 25, 26, 27, 28, 29, 30, 31, 32, 33, 34, 35, 36, 37, 38, 39, 40, 41, 42, 43] (by decide +kernel) (by decide +kernel)
set_option maxRecDepth 20000 in
theorem gX11_apart_X11_is : GoodIn wsX11_apart (wsV RX11 168 RX11 yX11_is wsX11_is) := goodIn_app (goodIn_of _ (by decide +kernel)) ggX11_apart_X11_is
set_option maxRecDepth 20000 in
theorem ggX11_apart_X11_been : GoodIn wsX11_apart wsX11_been := goodIn_r _ [10, 11, 12, 13, 4, 14, 15, 1, 2, 3, 5, 6, 16, 17, 18, 19, 20, 21, 22, 23, 24, 25, 26, 27, 28, 29, 30, 31, 32, 33, 34, 35, 36, 37, 38, 39, 40, 41, 42, 43] (by decide +kernel) (by decide +kernel)
set_option maxRecDepth 20000 in
theorem gX11_apart_X11_been : GoodIn wsX11_apart (wsV RX11 171 RX11 yX11_been wsX11_been) := goodIn_app (goodIn_of _ (by decide +kernel)) ggX11_apart_X11_been
theorem dX11_apart_0 : decode cX11_apart 0 = .ok (.aload_n 0, 1) := by decide +kernel
theorem dX11_apart_1 : decode cX11_apart 1 = .ok (.iconst 2, 1) := by decide +kernel
theorem dX11_apart_2 : decode cX11_apart 2 = .ok (.iload_n 2, 1) := by decide +kernel
theorem dX11_apart_3 : decode cX11_apart 3 = .ok (.imul, 1) := by decide +kernel
theorem dX11_apart_4 : decode cX11_apart 4 = .ok (.invokevirtual 168, 3) := by decide +kernel
theorem dX11_apart_7 : decode cX11_apart 7 = .ok (.ifCond .eq 29, 3) := by decide +kernel
theorem dX11_apart_10 : decode cX11_apart 10 = .ok (.aload_n 0, 1) := by decide +kernel
theorem dX11_apart_11 : decode cX11_apart 11 = .ok (.iconst 2, 1) := by decide +kernel
theorem dX11_apart_12 : decode cX11_apart 12 = .ok (.iload_n 1, 1) := by decide +kernel
theorem dX11_apart_13 : decode cX11_apart 13 = .ok (.imul, 1) := by decide +kernel
theorem dX11_apart_14 : decode cX11_apart 14 = .ok (.invokevirtual 171, 3) := by decide +kernel
theorem dX11_apart_17 : decode cX11_apart 17 = .ok (.ifCond .eq 19, 3) := by decide +kernel
theorem dX11_apart_20 : decode cX11_apart 20 = .ok (.aload_n 0, 1) := by decide +kernel
theorem dX11_apart_21 : decode cX11_apart 21 = .ok (.iconst 2, 1) := by decide +kernel
theorem dX11_apart_22 : decode cX11_apart 22 = .ok (.iload_n 1, 1) := by decide +kernel
theorem dX11_apart_23 : decode cX11_apart 23 = .ok (.imul, 1) := by decide +kernel
theorem dX11_apart_24 : decode cX11_apart 24 = .ok (.iconst 1, 1) := by decide +kernel
theorem dX11_apart_25 : decode cX11_apart 25 = .ok (.iadd, 1) := by decide +kernel
theorem dX11_apart_26 : decode cX11_apart 26 = .ok (.invokevirtual 171, 3) := by decide +kernel
theorem dX11_apart_29 : decode cX11_apart 29 = .ok (.ifCond .ne 7, 3) := by decide +kernel
theorem dX11_apart_32 : decode cX11_apart 32 = .ok (.iconst 1, 1) := by decide +kernel
theorem dX11_apart_33 : decode cX11_apart 33 = .ok (.goto 4, 3) := by decide +kernel
theorem dX11_apart_36 : decode cX11_apart 36 = .ok (.iconst 0, 1) := by decide +kernel
theorem dX11_apart_37 : decode cX11_apart 37 = .ok (.istore_n 3, 1) := by decide +kernel
theorem dX11_apart_38 : decode cX11_apart 38 = .ok (.aload_n 0, 1) := by decide +kernel
theorem dX11_apart_39 : decode cX11_apart 39 = .ok (.iconst 2, 1) := by decide +kernel
theorem dX11_apart_40 : decode cX11_apart 40 = .ok (.iload_n 1, 1) := by decide +kernel
theorem dX11_apart_41 : decode cX11_apart 41 = .ok (.imul, 1) := by decide +kernel
theorem dX11_apart_42 : decode cX11_apart 42 = .ok (.invokevirtual 168, 3) := by decide +kernel
theorem dX11_apart_45 : decode cX11_apart 45 = .ok (.ifCond .eq 29, 3) := by decide +kernel
theorem dX11_apart_48 : decode cX11_apart 48 = .ok (.aload_n 0, 1) := by decide +kernel
theorem dX11_apart_49 : decode cX11_apart 49 = .ok (.iconst 2, 1) := by decide +kernel
theorem dX11_apart_50 : decode cX11_apart 50 = .ok (.iload_n 2, 1) := by decide +kernel
theorem dX11_apart_51 : decode cX11_apart 51 = .ok (.imul, 1) := by decide +kernel
theorem dX11_apart_52 : decode cX11_apart 52 = .ok (.invokevirtual 171, 3) := by decide +kernel
theorem dX11_apart_55 : decode cX11_apart 55 = .ok (.ifCond .eq 19, 3) := by decide +kernel
theorem dX11_apart_58 : decode cX11_apart 58 = .ok (.aload_n 0, 1) := by decide +kernel
theorem dX11_apart_59 : decode cX11_apart 59 = .ok (.iconst 2, 1) := by decide +kernel
theorem dX11_apart_60 : decode cX11_apart 60 = .ok (.iload_n 2, 1) := by decide +kernel
theorem dX11_apart_61 : decode cX11_apart 61 = .ok (.imul, 1) := by decide +kernel
theorem dX11_apart_62 : decode cX11_apart 62 = .ok (.iconst 1, 1) := by decide +kernel
theorem dX11_apart_63 : decode cX11_apart 63 = .ok (.iadd, 1) := by decide +kernel
theorem dX11_apart_64 : decode cX11_apart 64 = .ok (.invokevirtual 171, 3) := by decide +kernel
theorem dX11_apart_67 : decode cX11_apart 67 = .ok (.ifCond .ne 7, 3) := by decide +kernel
theorem dX11_apart_70 : decode cX11_apart 70 = .ok (.iconst 1, 1) := by decide +kernel
theorem dX11_apart_71 : decode cX11_apart 71 = .ok (.goto 4, 3) := by decide +kernel
theorem dX11_apart_74 : decode cX11_apart 74 = .ok (.iconst 0, 1) := by decide +kernel
theorem dX11_apart_75 : decode cX11_apart 75 = .ok (.istore 4, 2) := by decide +kernel
theorem dX11_apart_77 : decode cX11_apart 77 = .ok (.iload_n 3, 1) := by decide +kernel
theorem dX11_apart_78 : decode cX11_apart 78 = .ok (.ifCond .ne 12, 3) := by decide +kernel
theorem dX11_apart_81 : decode cX11_apart 81 = .ok (.iload 4, 2) := by decide +kernel
theorem dX11_apart_83 : decode cX11_apart 83 = .ok (.ifCond .ne 7, 3) := by decide +kernel
theorem dX11_apart_86 : decode cX11_apart 86 = .ok (.iconst 1, 1) := by decide +kernel
theorem dX11_apart_87 : decode cX11_apart 87 = .ok (.goto 4, 3) := by decide +kernel
theorem dX11_apart_90 : decode cX11_apart 90 = .ok (.iconst 0, 1) := by decide +kernel
theorem dX11_apart_91 : decode cX11_apart 91 = .ok (.ireturn, 1) := by decide +kernel
set_option maxRecDepth 20000 in
theorem ggX11_keeps_X11_is : GoodIn wsX11_keeps wsX11_is := goodIn_r _ [5, 6, 20, 21, 22, 23, 24, 25, 26, 27, 28, 29, 30, 31, 32, 33, 34, 35, 36, 37, 38, 39, 40, 41, 42, 43, 44, 45, 46, 47] (by decide +kernel) (by decide +kernel)
set_option maxRecDepth 20000 in
theorem gX11_keeps_X11_is : GoodIn wsX11_keeps (wsV RX11 168 RX11 yX11_is wsX11_is) := goodIn_app (goodIn_of _ (by decide +kernel)) ggX11_keeps_X11_is
set_option maxRecDepth 20000 in
theorem ggX11_keeps_X11_was : GoodIn wsX11_keeps wsX11_was := goodIn_r _ [10, 11, 20, 21, 22, 23, 24, 25, 26, 27, 28, 29, 30, 31, 32, 33, 34, 35, 36, 37, 38, 39, 40, 41, 42, 43, 44, 45, 46, 47] (by decide +kernel) (by decide +kernel)
set_option maxRecDepth 20000 in
theorem gX11_keeps_X11_was : GoodIn wsX11_keeps (wsV RX11 165 RX11 yX11_was wsX11_was) := goodIn_app (goodIn_of _ (by decide +kernel)) ggX11_keeps_X11_was
set_option maxRecDepth 20000 in
theorem ggX11_keeps_X11_apart : GoodIn wsX11_keeps wsX11_apart := goodIn_r _ [15, 1, 2, 3, 4, 5, 6, 16, 17, 18, 19, 7, 8, 9, 10, 11, 20, 21, 22, 23, 24, 25, 26, 27, 28, 29, 30, 31, 32, 33, 34, 35, 36, 37, 38, 39, 40, 41, 42, 43, 44, 45, 46, 47] (by decide +kernel) (by decide +kernel)
set_option maxRecDepth 20000 in
theorem gX11_keeps_X11_apart : GoodIn wsX11_keeps (wsV RX11 174 RX11 yX11_apart wsX11_apart) := goodIn_app (goodIn_of _ (by decide +kernel)) ggX11_keeps_X11_apart
set_option maxRecDepth 20000 in
theorem ggX11_keeps_X11_been : GoodIn wsX11_keeps wsX11_been := goodIn_r _ [19, 7, 8, 9, 4, 10, 11, 1, 2, 3, 5, 6, 20, 21, 22, 23, 24, 25, 26, 27, 28, 29, 30, 31, 32, 33, 34, 35, 36, 37, 38, 39, 40, 41, 42, 43, 44, 45, 46, 47] (by decide +kernel) (by decide +kernel)
set_option maxRecDepth 20000 in
theorem gX11_keeps_X11_been : GoodIn wsX11_keeps (wsV RX11 171 RX11 yX11_been wsX11_been) := goodIn_app (goodIn_of _ (by decide +kernel)) ggX11_keeps_X11_been
theorem dX11_keeps_0 : decode cX11_keeps 0 = .ok (.iconst 2, 1) := by decide +kernel
theorem dX11_keeps_1 : decode cX11_keeps 1 = .ok (.iload_n 2, 1) := by decide +kernel
theorem dX11_keeps_2 : decode cX11_keeps 2 = .ok (.imul, 1) := by decide +kernel
theorem dX11_keeps_3 : decode cX11_keeps 3 = .ok (.istore 4, 2) := by decide +kernel
theorem dX11_keeps_5 : decode cX11_keeps 5 = .ok (.iload 4, 2) := by decide +kernel
theorem dX11_keeps_7 : decode cX11_keeps 7 = .ok (.iconst 1, 1) := by decide +kernel
theorem dX11_keeps_8 : decode cX11_keeps 8 = .ok (.iadd, 1) := by decide +kernel
theorem dX11_keeps_9 : decode cX11_keeps 9 = .ok (.istore 5, 2) := by decide +kernel
theorem dX11_keeps_11 : decode cX11_keeps 11 = .ok (.iconst 2, 1) := by decide +kernel
theorem dX11_keeps_12 : decode cX11_keeps 12 = .ok (.iload_n 3, 1) := by decide +kernel
theorem dX11_keeps_13 : decode cX11_keeps 13 = .ok (.imul, 1) := by decide +kernel
theorem dX11_keeps_14 : decode cX11_keeps 14 = .ok (.istore 6, 2) := by decide +kernel
theorem dX11_keeps_16 : decode cX11_keeps 16 = .ok (.iload 6, 2) := by decide +kernel
theorem dX11_keeps_18 : decode cX11_keeps 18 = .ok (.iconst 1, 1) := by decide +kernel
theorem dX11_keeps_19 : decode cX11_keeps 19 = .ok (.iadd, 1) := by decide +kernel
theorem dX11_keeps_20 : decode cX11_keeps 20 = .ok (.istore 7, 2) := by decide +kernel
theorem dX11_keeps_22 : decode cX11_keeps 22 = .ok (.iload_n 1, 1) := by decide +kernel
theorem dX11_keeps_23 : decode cX11_keeps 23 = .ok (.ifCond .ne 27, 3) := by decide +kernel
theorem dX11_keeps_26 : decode cX11_keeps 26 = .ok (.aload_n 0, 1) := by decide +kernel
theorem dX11_keeps_27 : decode cX11_keeps 27 = .ok (.iload 6, 2) := by decide +kernel
theorem dX11_keeps_29 : decode cX11_keeps 29 = .ok (.invokevirtual 168, 3) := by decide +kernel
theorem dX11_keeps_32 : decode cX11_keeps 32 = .ok (.ifCond .eq 12, 3) := by decide +kernel
theorem dX11_keeps_35 : decode cX11_keeps 35 = .ok (.aload_n 0, 1) := by decide +kernel
theorem dX11_keeps_36 : decode cX11_keeps 36 = .ok (.iload 5, 2) := by decide +kernel
theorem dX11_keeps_38 : decode cX11_keeps 38 = .ok (.invokevirtual 165, 3) := by decide +kernel
theorem dX11_keeps_41 : decode cX11_keeps 41 = .ok (.ifCond .eq 7, 3) := by decide +kernel
theorem dX11_keeps_44 : decode cX11_keeps 44 = .ok (.iconst 1, 1) := by decide +kernel
theorem dX11_keeps_45 : decode cX11_keeps 45 = .ok (.goto 4, 3) := by decide +kernel
theorem dX11_keeps_48 : decode cX11_keeps 48 = .ok (.iconst 0, 1) := by decide +kernel
theorem dX11_keeps_49 : decode cX11_keeps 49 = .ok (.ireturn, 1) := by decide +kernel
theorem dX11_keeps_50 : decode cX11_keeps 50 = .ok (.iload_n 1, 1) := by decide +kernel
theorem dX11_keeps_51 : decode cX11_keeps 51 = .ok (.iconst 1, 1) := by decide +kernel
theorem dX11_keeps_52 : decode cX11_keeps 52 = .ok (.if_icmp .ne 24, 3) := by decide +kernel
theorem dX11_keeps_55 : decode cX11_keeps 55 = .ok (.aload_n 0, 1) := by decide +kernel
theorem dX11_keeps_56 : decode cX11_keeps 56 = .ok (.iload 6, 2) := by decide +kernel
theorem dX11_keeps_58 : decode cX11_keeps 58 = .ok (.invokevirtual 168, 3) := by decide +kernel
theorem dX11_keeps_61 : decode cX11_keeps 61 = .ok (.aload_n 0, 1) := by decide +kernel
theorem dX11_keeps_62 : decode cX11_keeps 62 = .ok (.iload 5, 2) := by decide +kernel
theorem dX11_keeps_64 : decode cX11_keeps 64 = .ok (.invokevirtual 168, 3) := by decide +kernel
theorem dX11_keeps_67 : decode cX11_keeps 67 = .ok (.if_icmp .ne 7, 3) := by decide +kernel
theorem dX11_keeps_70 : decode cX11_keeps 70 = .ok (.iconst 1, 1) := by decide +kernel
theorem dX11_keeps_71 : decode cX11_keeps 71 = .ok (.goto 4, 3) := by decide +kernel
theorem dX11_keeps_74 : decode cX11_keeps 74 = .ok (.iconst 0, 1) := by decide +kernel
theorem dX11_keeps_75 : decode cX11_keeps 75 = .ok (.ireturn, 1) := by decide +kernel
theorem dX11_keeps_76 : decode cX11_keeps 76 = .ok (.iload_n 1, 1) := by decide +kernel
theorem dX11_keeps_77 : decode cX11_keeps 77 = .ok (.bipush 6, 2) := by decide +kernel
theorem dX11_keeps_79 : decode cX11_keeps 79 = .ok (.if_icmp .ne 10, 3) := by decide +kernel
theorem dX11_keeps_82 : decode cX11_keeps 82 = .ok (.aload_n 0, 1) := by decide +kernel
theorem dX11_keeps_83 : decode cX11_keeps 83 = .ok (.iload_n 2, 1) := by decide +kernel
theorem dX11_keeps_84 : decode cX11_keeps 84 = .ok (.iload_n 3, 1) := by decide +kernel
theorem dX11_keeps_85 : decode cX11_keeps 85 = .ok (.invokevirtual 174, 3) := by decide +kernel
theorem dX11_keeps_88 : decode cX11_keeps 88 = .ok (.ireturn, 1) := by decide +kernel
theorem dX11_keeps_89 : decode cX11_keeps 89 = .ok (.iload_n 1, 1) := by decide +kernel
theorem dX11_keeps_90 : decode cX11_keeps 90 = .ok (.iconst 3, 1) := by decide +kernel
theorem dX11_keeps_91 : decode cX11_keeps 91 = .ok (.if_icmp .ne 45, 3) := by decide +kernel
theorem dX11_keeps_94 : decode cX11_keeps 94 = .ok (.aload_n 0, 1) := by decide +kernel
theorem dX11_keeps_95 : decode cX11_keeps 95 = .ok (.iload 4, 2) := by decide +kernel
theorem dX11_keeps_97 : decode cX11_keeps 97 = .ok (.invokevirtual 168, 3) := by decide +kernel
theorem dX11_keeps_100 : decode cX11_keeps 100 = .ok (.ifCond .eq 12, 3) := by decide +kernel
theorem dX11_keeps_103 : decode cX11_keeps 103 = .ok (.aload_n 0, 1) := by decide +kernel
theorem dX11_keeps_104 : decode cX11_keeps 104 = .ok (.iload 6, 2) := by decide +kernel
theorem dX11_keeps_106 : decode cX11_keeps 106 = .ok (.invokevirtual 165, 3) := by decide +kernel
theorem dX11_keeps_109 : decode cX11_keeps 109 = .ok (.ifCond .eq 25, 3) := by decide +kernel
theorem dX11_keeps_112 : decode cX11_keeps 112 = .ok (.aload_n 0, 1) := by decide +kernel
theorem dX11_keeps_113 : decode cX11_keeps 113 = .ok (.iload 7, 2) := by decide +kernel
theorem dX11_keeps_115 : decode cX11_keeps 115 = .ok (.invokevirtual 168, 3) := by decide +kernel
theorem dX11_keeps_118 : decode cX11_keeps 118 = .ok (.ifCond .eq 12, 3) := by decide +kernel
theorem dX11_keeps_121 : decode cX11_keeps 121 = .ok (.aload_n 0, 1) := by decide +kernel
theorem dX11_keeps_122 : decode cX11_keeps 122 = .ok (.iload 5, 2) := by decide +kernel
theorem dX11_keeps_124 : decode cX11_keeps 124 = .ok (.invokevirtual 165, 3) := by decide +kernel
theorem dX11_keeps_127 : decode cX11_keeps 127 = .ok (.ifCond .eq 7, 3) := by decide +kernel
theorem dX11_keeps_130 : decode cX11_keeps 130 = .ok (.iconst 1, 1) := by decide +kernel
theorem dX11_keeps_131 : decode cX11_keeps 131 = .ok (.goto 4, 3) := by decide +kernel
theorem dX11_keeps_134 : decode cX11_keeps 134 = .ok (.iconst 0, 1) := by decide +kernel
theorem dX11_keeps_135 : decode cX11_keeps 135 = .ok (.ireturn, 1) := by decide +kernel
theorem dX11_keeps_136 : decode cX11_keeps 136 = .ok (.iload_n 1, 1) := by decide +kernel
theorem dX11_keeps_137 : decode cX11_keeps 137 = .ok (.bipush 6, 2) := by decide +kernel
theorem dX11_keeps_139 : decode cX11_keeps 139 = .ok (.if_icmp .le 63, 3) := by decide +kernel
theorem dX11_keeps_142 : decode cX11_keeps 142 = .ok (.aload_n 0, 1) := by decide +kernel
theorem dX11_keeps_143 : decode cX11_keeps 143 = .ok (.iload 6, 2) := by decide +kernel
theorem dX11_keeps_145 : decode cX11_keeps 145 = .ok (.invokevirtual 168, 3) := by decide +kernel
theorem dX11_keeps_148 : decode cX11_keeps 148 = .ok (.ifCond .eq 12, 3) := by decide +kernel
theorem dX11_keeps_151 : decode cX11_keeps 151 = .ok (.aload_n 0, 1) := by decide +kernel
theorem dX11_keeps_152 : decode cX11_keeps 152 = .ok (.iload 4, 2) := by decide +kernel
theorem dX11_keeps_154 : decode cX11_keeps 154 = .ok (.invokevirtual 165, 3) := by decide +kernel
theorem dX11_keeps_157 : decode cX11_keeps 157 = .ok (.ifCond .eq 43, 3) := by decide +kernel
theorem dX11_keeps_160 : decode cX11_keeps 160 = .ok (.aload_n 0, 1) := by decide +kernel
theorem dX11_keeps_161 : decode cX11_keeps 161 = .ok (.iload 5, 2) := by decide +kernel
theorem dX11_keeps_163 : decode cX11_keeps 163 = .ok (.invokevirtual 168, 3) := by decide +kernel
theorem dX11_keeps_166 : decode cX11_keeps 166 = .ok (.ifCond .eq 12, 3) := by decide +kernel
theorem dX11_keeps_169 : decode cX11_keeps 169 = .ok (.aload_n 0, 1) := by decide +kernel
theorem dX11_keeps_170 : decode cX11_keeps 170 = .ok (.iload 6, 2) := by decide +kernel
theorem dX11_keeps_172 : decode cX11_keeps 172 = .ok (.invokevirtual 165, 3) := by decide +kernel
theorem dX11_keeps_175 : decode cX11_keeps 175 = .ok (.ifCond .eq 25, 3) := by decide +kernel
theorem dX11_keeps_178 : decode cX11_keeps 178 = .ok (.aload_n 0, 1) := by decide +kernel
theorem dX11_keeps_179 : decode cX11_keeps 179 = .ok (.iload 7, 2) := by decide +kernel
theorem dX11_keeps_181 : decode cX11_keeps 181 = .ok (.invokevirtual 168, 3) := by decide +kernel
theorem dX11_keeps_184 : decode cX11_keeps 184 = .ok (.ifCond .eq 12, 3) := by decide +kernel
theorem dX11_keeps_187 : decode cX11_keeps 187 = .ok (.aload_n 0, 1) := by decide +kernel
theorem dX11_keeps_188 : decode cX11_keeps 188 = .ok (.iload 5, 2) := by decide +kernel
theorem dX11_keeps_190 : decode cX11_keeps 190 = .ok (.invokevirtual 165, 3) := by decide +kernel
theorem dX11_keeps_193 : decode cX11_keeps 193 = .ok (.ifCond .eq 7, 3) := by decide +kernel
theorem dX11_keeps_196 : decode cX11_keeps 196 = .ok (.iconst 1, 1) := by decide +kernel
theorem dX11_keeps_197 : decode cX11_keeps 197 = .ok (.goto 4, 3) := by decide +kernel
theorem dX11_keeps_200 : decode cX11_keeps 200 = .ok (.iconst 0, 1) := by decide +kernel
theorem dX11_keeps_201 : decode cX11_keeps 201 = .ok (.ireturn, 1) := by decide +kernel
theorem dX11_keeps_202 : decode cX11_keeps 202 = .ok (.aload_n 0, 1) := by decide +kernel
theorem dX11_keeps_203 : decode cX11_keeps 203 = .ok (.iload 4, 2) := by decide +kernel
theorem dX11_keeps_205 : decode cX11_keeps 205 = .ok (.invokevirtual 168, 3) := by decide +kernel
theorem dX11_keeps_208 : decode cX11_keeps 208 = .ok (.ifCond .eq 12, 3) := by decide +kernel
theorem dX11_keeps_211 : decode cX11_keeps 211 = .ok (.aload_n 0, 1) := by decide +kernel
theorem dX11_keeps_212 : decode cX11_keeps 212 = .ok (.iload 6, 2) := by decide +kernel
theorem dX11_keeps_214 : decode cX11_keeps 214 = .ok (.invokevirtual 171, 3) := by decide +kernel
theorem dX11_keeps_217 : decode cX11_keeps 217 = .ok (.ifCond .eq 25, 3) := by decide +kernel
theorem dX11_keeps_220 : decode cX11_keeps 220 = .ok (.aload_n 0, 1) := by decide +kernel
theorem dX11_keeps_221 : decode cX11_keeps 221 = .ok (.iload 7, 2) := by decide +kernel
theorem dX11_keeps_223 : decode cX11_keeps 223 = .ok (.invokevirtual 168, 3) := by decide +kernel
theorem dX11_keeps_226 : decode cX11_keeps 226 = .ok (.ifCond .eq 12, 3) := by decide +kernel
theorem dX11_keeps_229 : decode cX11_keeps 229 = .ok (.aload_n 0, 1) := by decide +kernel
theorem dX11_keeps_230 : decode cX11_keeps 230 = .ok (.iload 5, 2) := by decide +kernel
theorem dX11_keeps_232 : decode cX11_keeps 232 = .ok (.invokevirtual 171, 3) := by decide +kernel
theorem dX11_keeps_235 : decode cX11_keeps 235 = .ok (.ifCond .eq 7, 3) := by decide +kernel
theorem dX11_keeps_238 : decode cX11_keeps 238 = .ok (.iconst 1, 1) := by decide +kernel
theorem dX11_keeps_239 : decode cX11_keeps 239 = .ok (.goto 4, 3) := by decide +kernel
theorem dX11_keeps_242 : decode cX11_keeps 242 = .ok (.iconst 0, 1) := by decide +kernel
theorem dX11_keeps_243 : decode cX11_keeps 243 = .ok (.istore 8, 2) := by decide +kernel
theorem dX11_keeps_245 : decode cX11_keeps 245 = .ok (.iload 8, 2) := by decide +kernel
theorem dX11_keeps_247 : decode cX11_keeps 247 = .ok (.ifCond .eq 47, 3) := by decide +kernel
theorem dX11_keeps_250 : decode cX11_keeps 250 = .ok (.iload_n 1, 1) := by decide +kernel
theorem dX11_keeps_251 : decode cX11_keeps 251 = .ok (.iconst 4, 1) := by decide +kernel
theorem dX11_keeps_252 : decode cX11_keeps 252 = .ok (.if_icmp .ne 18, 3) := by decide +kernel
theorem dX11_keeps_255 : decode cX11_keeps 255 = .ok (.aload_n 0, 1) := by decide +kernel
theorem dX11_keeps_256 : decode cX11_keeps 256 = .ok (.iload 4, 2) := by decide +kernel
theorem dX11_keeps_258 : decode cX11_keeps 258 = .ok (.invokevirtual 168, 3) := by decide +kernel
theorem dX11_keeps_261 : decode cX11_keeps 261 = .ok (.aload_n 0, 1) := by decide +kernel
theorem dX11_keeps_262 : decode cX11_keeps 262 = .ok (.iload 6, 2) := by decide +kernel
theorem dX11_keeps_264 : decode cX11_keeps 264 = .ok (.invokevirtual 168, 3) := by decide +kernel
theorem dX11_keeps_267 : decode cX11_keeps 267 = .ok (.if_icmp .ne 27, 3) := by decide +kernel
theorem dX11_keeps_270 : decode cX11_keeps 270 = .ok (.iload_n 1, 1) := by decide +kernel
theorem dX11_keeps_271 : decode cX11_keeps 271 = .ok (.iconst 5, 1) := by decide +kernel
theorem dX11_keeps_272 : decode cX11_keeps 272 = .ok (.if_icmp .ne 18, 3) := by decide +kernel
theorem dX11_keeps_275 : decode cX11_keeps 275 = .ok (.aload_n 0, 1) := by decide +kernel
theorem dX11_keeps_276 : decode cX11_keeps 276 = .ok (.iload 5, 2) := by decide +kernel
theorem dX11_keeps_278 : decode cX11_keeps 278 = .ok (.invokevirtual 168, 3) := by decide +kernel
theorem dX11_keeps_281 : decode cX11_keeps 281 = .ok (.aload_n 0, 1) := by decide +kernel
theorem dX11_keeps_282 : decode cX11_keeps 282 = .ok (.iload 7, 2) := by decide +kernel
theorem dX11_keeps_284 : decode cX11_keeps 284 = .ok (.invokevirtual 168, 3) := by decide +kernel
theorem dX11_keeps_287 : decode cX11_keeps 287 = .ok (.if_icmp .ne 7, 3) := by decide +kernel
theorem dX11_keeps_290 : decode cX11_keeps 290 = .ok (.iconst 1, 1) := by decide +kernel
theorem dX11_keeps_291 : decode cX11_keeps 291 = .ok (.goto 4, 3) := by decide +kernel
theorem dX11_keeps_294 : decode cX11_keeps 294 = .ok (.iconst 0, 1) := by decide +kernel
theorem dX11_keeps_295 : decode cX11_keeps 295 = .ok (.ireturn, 1) := by decide +kernel
set_option maxRecDepth 20000 in
theorem ggX11_allKept_X11_apart : GoodIn wsX11_allKept wsX11_apart := goodIn_r _ [10, 11, 12, 13, 9, 14, 15, 16, 17, 18, 19, 20, 21, 22, 23, 24, 29, 30, 31, 32, 33, 34, 35, 36, 37, 38, 39, 40, 41, 42, 43, 44, 45, 46, 47, 48, 49, 50, 51, 52, 53, 54, 55, 56] (by decide +kernel) (by decide +kernel)
set_option maxRecDepth 20000 in
theorem gX11_allKept_X11_apart : GoodIn wsX11_allKept (wsV RX11 174 RX11 yX11_apart wsX11_apart) := goodIn_app (goodIn_of _ (by decide +kernel)) ggX11_allKept_X11_apart
set_option maxRecDepth 20000 in
theorem ggX11_allKept_X11_keeps : GoodIn wsX11_allKept wsX11_keeps := goodIn_r _ [28, 11, 12, 13, 9, 14, 15, 20, 21, 22, 23, 24, 6, 7, 8, 10, 16, 17, 18, 19, 29, 30, 31, 32, 33, 34, 35, 36, 37, 38, 39, 40, 41, 42, 43, 44, 45, 46, 47, 48, 49, 50, 51, 52, 53, 54, 55, 56] (by decide +kernel) (by decide +kernel)
set_option maxRecDepth 20000 in
theorem gX11_allKept_X11_keeps : GoodIn wsX11_allKept (wsV RX11 187 RX11 yX11_keeps wsX11_keeps) := goodIn_app (goodIn_of _ (by decide +kernel)) ggX11_allKept_X11_keeps
set_option maxRecDepth 20000 in
theorem ggX11_allKept_X11_is : GoodIn wsX11_allKept wsX11_is := goodIn_r _ [14, 15, 29, 30, 31, 32, 33, 34, 35, 36, 37, 38, 39, 40, 41, 42, 43, 44, 45, 46, 47, 48, 49, 50, 51, 52, 53, 54, 55, 56] (by decide +kernel) (by decide +kernel)
set_option maxRecDepth 20000 in
theorem gX11_allKept_X11_is : GoodIn wsX11_allKept (wsV RX11 168 RX11 yX11_is wsX11_is) := goodIn_app (goodIn_of _ (by decide +kernel)) ggX11_allKept_X11_is
theorem dX11_allKept_0 : decode cX11_allKept 0 = .ok (.aload_n 0, 1) := by decide +kernel
theorem dX11_allKept_1 : decode cX11_allKept 1 = .ok (.getfield 7, 3) := by decide +kernel
theorem dX11_allKept_4 : decode cX11_allKept 4 = .ok (.iconst 0, 1) := by decide +kernel
theorem dX11_allKept_5 : decode cX11_allKept 5 = .ok (.iaload, 1) := by decide +kernel
theorem dX11_allKept_6 : decode cX11_allKept 6 = .ok (.istore_n 1, 1) := by decide +kernel
theorem dX11_allKept_7 : decode cX11_allKept 7 = .ok (.aload_n 0, 1) := by decide +kernel
theorem dX11_allKept_8 : decode cX11_allKept 8 = .ok (.getfield 178, 3) := by decide +kernel
theorem dX11_allKept_11 : decode cX11_allKept 11 = .ok (.iconst (-1), 1) := by decide +kernel
theorem dX11_allKept_12 : decode cX11_allKept 12 = .ok (.if_icmp .eq 40, 3) := by decide +kernel
theorem dX11_allKept_15 : decode cX11_allKept 15 = .ok (.aload_n 0, 1) := by decide +kernel
theorem dX11_allKept_16 : decode cX11_allKept 16 = .ok (.aload_n 0, 1) := by decide +kernel
theorem dX11_allKept_17 : decode cX11_allKept 17 = .ok (.getfield 178, 3) := by decide +kernel
theorem dX11_allKept_20 : decode cX11_allKept 20 = .ok (.ifCond .ge 7, 3) := by decide +kernel
theorem dX11_allKept_23 : decode cX11_allKept 23 = .ok (.iconst 0, 1) := by decide +kernel
theorem dX11_allKept_24 : decode cX11_allKept 24 = .ok (.goto 7, 3) := by decide +kernel
theorem dX11_allKept_27 : decode cX11_allKept 27 = .ok (.aload_n 0, 1) := by decide +kernel
theorem dX11_allKept_28 : decode cX11_allKept 28 = .ok (.getfield 178, 3) := by decide +kernel
theorem dX11_allKept_31 : decode cX11_allKept 31 = .ok (.aload_n 0, 1) := by decide +kernel
theorem dX11_allKept_32 : decode cX11_allKept 32 = .ok (.getfield 181, 3) := by decide +kernel
theorem dX11_allKept_35 : decode cX11_allKept 35 = .ok (.ifCond .ge 7, 3) := by decide +kernel
theorem dX11_allKept_38 : decode cX11_allKept 38 = .ok (.iconst 0, 1) := by decide +kernel
theorem dX11_allKept_39 : decode cX11_allKept 39 = .ok (.goto 7, 3) := by decide +kernel
theorem dX11_allKept_42 : decode cX11_allKept 42 = .ok (.aload_n 0, 1) := by decide +kernel
theorem dX11_allKept_43 : decode cX11_allKept 43 = .ok (.getfield 181, 3) := by decide +kernel
theorem dX11_allKept_46 : decode cX11_allKept 46 = .ok (.invokevirtual 174, 3) := by decide +kernel
theorem dX11_allKept_49 : decode cX11_allKept 49 = .ok (.ifCond .eq 7, 3) := by decide +kernel
theorem dX11_allKept_52 : decode cX11_allKept 52 = .ok (.iconst 1, 1) := by decide +kernel
theorem dX11_allKept_53 : decode cX11_allKept 53 = .ok (.goto 4, 3) := by decide +kernel
theorem dX11_allKept_56 : decode cX11_allKept 56 = .ok (.iconst 0, 1) := by decide +kernel
theorem dX11_allKept_57 : decode cX11_allKept 57 = .ok (.istore_n 2, 1) := by decide +kernel
theorem dX11_allKept_58 : decode cX11_allKept 58 = .ok (.iconst 0, 1) := by decide +kernel
theorem dX11_allKept_59 : decode cX11_allKept 59 = .ok (.istore_n 3, 1) := by decide +kernel
theorem dX11_allKept_60 : decode cX11_allKept 60 = .ok (.iload_n 3, 1) := by decide +kernel
theorem dX11_allKept_61 : decode cX11_allKept 61 = .ok (.aload_n 0, 1) := by decide +kernel
theorem dX11_allKept_62 : decode cX11_allKept 62 = .ok (.getfield 7, 3) := by decide +kernel
theorem dX11_allKept_65 : decode cX11_allKept 65 = .ok (.iconst 1, 1) := by decide +kernel
theorem dX11_allKept_66 : decode cX11_allKept 66 = .ok (.iaload, 1) := by decide +kernel
theorem dX11_allKept_67 : decode cX11_allKept 67 = .ok (.if_icmp .ge 64, 3) := by decide +kernel
theorem dX11_allKept_70 : decode cX11_allKept 70 = .ok (.iload_n 2, 1) := by decide +kernel
theorem dX11_allKept_71 : decode cX11_allKept 71 = .ok (.ifCond .eq 60, 3) := by decide +kernel
theorem dX11_allKept_74 : decode cX11_allKept 74 = .ok (.aload_n 0, 1) := by decide +kernel
theorem dX11_allKept_75 : decode cX11_allKept 75 = .ok (.getfield 184, 3) := by decide +kernel
theorem dX11_allKept_78 : decode cX11_allKept 78 = .ok (.iload_n 3, 1) := by decide +kernel
theorem dX11_allKept_79 : decode cX11_allKept 79 = .ok (.ishr, 1) := by decide +kernel
theorem dX11_allKept_80 : decode cX11_allKept 80 = .ok (.iconst 1, 1) := by decide +kernel
theorem dX11_allKept_81 : decode cX11_allKept 81 = .ok (.iand, 1) := by decide +kernel
theorem dX11_allKept_82 : decode cX11_allKept 82 = .ok (.ifCond .eq 37, 3) := by decide +kernel
theorem dX11_allKept_85 : decode cX11_allKept 85 = .ok (.aload_n 0, 1) := by decide +kernel
theorem dX11_allKept_86 : decode cX11_allKept 86 = .ok (.aload_n 0, 1) := by decide +kernel
theorem dX11_allKept_87 : decode cX11_allKept 87 = .ok (.getfield 7, 3) := by decide +kernel
theorem dX11_allKept_90 : decode cX11_allKept 90 = .ok (.bipush 14, 2) := by decide +kernel
theorem dX11_allKept_92 : decode cX11_allKept 92 = .ok (.iload_n 3, 1) := by decide +kernel
theorem dX11_allKept_93 : decode cX11_allKept 93 = .ok (.iadd, 1) := by decide +kernel
theorem dX11_allKept_94 : decode cX11_allKept 94 = .ok (.iaload, 1) := by decide +kernel
theorem dX11_allKept_95 : decode cX11_allKept 95 = .ok (.aload_n 0, 1) := by decide +kernel
theorem dX11_allKept_96 : decode cX11_allKept 96 = .ok (.getfield 7, 3) := by decide +kernel
theorem dX11_allKept_99 : decode cX11_allKept 99 = .ok (.bipush 22, 2) := by decide +kernel
theorem dX11_allKept_101 : decode cX11_allKept 101 = .ok (.iload_n 3, 1) := by decide +kernel
theorem dX11_allKept_102 : decode cX11_allKept 102 = .ok (.iadd, 1) := by decide +kernel
theorem dX11_allKept_103 : decode cX11_allKept 103 = .ok (.iaload, 1) := by decide +kernel
theorem dX11_allKept_104 : decode cX11_allKept 104 = .ok (.aload_n 0, 1) := by decide +kernel
theorem dX11_allKept_105 : decode cX11_allKept 105 = .ok (.getfield 7, 3) := by decide +kernel
theorem dX11_allKept_108 : decode cX11_allKept 108 = .ok (.bipush 30, 2) := by decide +kernel
theorem dX11_allKept_110 : decode cX11_allKept 110 = .ok (.iload_n 3, 1) := by decide +kernel
theorem dX11_allKept_111 : decode cX11_allKept 111 = .ok (.iadd, 1) := by decide +kernel
theorem dX11_allKept_112 : decode cX11_allKept 112 = .ok (.iaload, 1) := by decide +kernel
theorem dX11_allKept_113 : decode cX11_allKept 113 = .ok (.invokevirtual 187, 3) := by decide +kernel
theorem dX11_allKept_116 : decode cX11_allKept 116 = .ok (.ifCond .eq 7, 3) := by decide +kernel
theorem dX11_allKept_119 : decode cX11_allKept 119 = .ok (.iconst 1, 1) := by decide +kernel
theorem dX11_allKept_120 : decode cX11_allKept 120 = .ok (.goto 4, 3) := by decide +kernel
theorem dX11_allKept_123 : decode cX11_allKept 123 = .ok (.iconst 0, 1) := by decide +kernel
theorem dX11_allKept_124 : decode cX11_allKept 124 = .ok (.istore_n 2, 1) := by decide +kernel
theorem dX11_allKept_125 : decode cX11_allKept 125 = .ok (.iinc 3 1, 3) := by decide +kernel
theorem dX11_allKept_128 : decode cX11_allKept 128 = .ok (.goto (-68), 3) := by decide +kernel
theorem dX11_allKept_131 : decode cX11_allKept 131 = .ok (.iconst 0, 1) := by decide +kernel
theorem dX11_allKept_132 : decode cX11_allKept 132 = .ok (.istore_n 3, 1) := by decide +kernel
theorem dX11_allKept_133 : decode cX11_allKept 133 = .ok (.iload_n 3, 1) := by decide +kernel
theorem dX11_allKept_134 : decode cX11_allKept 134 = .ok (.iload_n 1, 1) := by decide +kernel
theorem dX11_allKept_135 : decode cX11_allKept 135 = .ok (.if_icmp .ge 162, 3) := by decide +kernel
theorem dX11_allKept_138 : decode cX11_allKept 138 = .ok (.iload_n 2, 1) := by decide +kernel
theorem dX11_allKept_139 : decode cX11_allKept 139 = .ok (.ifCond .eq 158, 3) := by decide +kernel
theorem dX11_allKept_142 : decode cX11_allKept 142 = .ok (.iconst 0, 1) := by decide +kernel
theorem dX11_allKept_143 : decode cX11_allKept 143 = .ok (.istore 4, 2) := by decide +kernel
theorem dX11_allKept_145 : decode cX11_allKept 145 = .ok (.iload 4, 2) := by decide +kernel
theorem dX11_allKept_147 : decode cX11_allKept 147 = .ok (.iload_n 3, 1) := by decide +kernel
theorem dX11_allKept_148 : decode cX11_allKept 148 = .ok (.if_icmp .ge 61, 3) := by decide +kernel
theorem dX11_allKept_151 : decode cX11_allKept 151 = .ok (.iload_n 2, 1) := by decide +kernel
