theorem dX10_word_21 : decode cX10_word 21 = .ok (.getfield 73, 3) := by decide +kernel
theorem dX10_word_24 : decode cX10_word 24 = .ok (.aload_n 0, 1) := by decide +kernel
theorem dX10_word_25 : decode cX10_word 25 = .ok (.getfield 12, 3) := by decide +kernel
theorem dX10_word_28 : decode cX10_word 28 = .ok (.iload_n 1, 1) := by decide +kernel
theorem dX10_word_29 : decode cX10_word 29 = .ok (.invokevirtual 213, 3) := by decide +kernel
theorem dX10_word_32 : decode cX10_word 32 = .ok (.invokevirtual 216, 3) := by decide +kernel
theorem dX10_word_35 : decode cX10_word 35 = .ok (.ifCond .eq 7, 3) := by decide +kernel
theorem dX10_word_38 : decode cX10_word 38 = .ok (.iconst 1, 1) := by decide +kernel
theorem dX10_word_39 : decode cX10_word 39 = .ok (.goto 4, 3) := by decide +kernel
theorem dX10_word_42 : decode cX10_word 42 = .ok (.iconst 0, 1) := by decide +kernel
theorem dX10_word_43 : decode cX10_word 43 = .ok (.ireturn, 1) := by decide +kernel
set_option maxRecDepth 20000 in
theorem ggX10_against_X10_choose : GoodIn wsX10_against wsX10_choose := goodIn_r _ [7, 8, 9, 2, 1, 10, 11, 12, 13, 14, 15, 16, 17, 18, 19, 20, 21, 22, 23, 24, 25, 26, 27, 28, 29, 30, 31, 32, 33, 34, 35, 36, 37, 38, 39, 40, 41, 42, 43, 44, 45, 46, 47, 48, 49, 50, 51, 52, 53, 54, 55, 56, 57, 58, 59, 60, 61, 62, 63, 64, 65, 66, 6, 67, 68, 69, 70, 71, 72, 73, 74, 75, 76, 77, 78, 79, 80, 81, 82, 83, 84, 85, 86, 87, 88, 89, 90, 91, 92, 93, 94, 95, 96, 97, 98, 99, 100, 101, 102, 103, 104, 105, 106, 107, 108, 109, 110, 111, 112, 113, 114, 115, 116, 128, 129, 130, 131, 132, 133, 134, 135, 136, 137, 138, 139, 140, 141, 142, 143, 144, 145, 146, 147, 148, 149, 150, 151, 152, 153, 154, 155, 156, 157, 158, 159, 160, 161, 162, 163, 164, 165, 166, 167, 168, 169, 170, 171, 172] (by decide +kernel) (by decide +kernel)
set_option maxRecDepth 20000 in
theorem gX10_against_X10_choose : GoodIn wsX10_against (wsV RX10 174 RX10 yX10_choose wsX10_choose) := goodIn_app (goodIn_of _ (by decide +kernel)) ggX10_against_X10_choose
set_option maxRecDepth 20000 in
theorem ggX10_against_X4_sayingsNotBy : GoodIn wsX10_against wsX4_sayingsNotBy := goodIn_r _ [121, 122, 123, 145, 146, 147, 148, 149, 150, 151, 152, 153] (by decide +kernel) (by decide +kernel)
set_option maxRecDepth 20000 in
theorem gX10_against_X4_sayingsNotBy : GoodIn wsX10_against (wsV RX10 213 RX4 yX4_sayingsNotBy wsX4_sayingsNotBy) := goodIn_app (goodIn_of _ (by decide +kernel)) ggX10_against_X4_sayingsNotBy
set_option maxRecDepth 20000 in
theorem ggX10_against_X0_can : GoodIn wsX10_against wsX0_can := goodIn_r _ [127, 62, 65, 166, 167, 168] (by decide +kernel) (by decide +kernel)
set_option maxRecDepth 20000 in
theorem gX10_against_X0_can : GoodIn wsX10_against (wsV RX10 216 RX0 yX0_can wsX0_can) := goodIn_app (goodIn_of _ (by decide +kernel)) ggX10_against_X0_can
theorem dX10_against_0 : decode cX10_against 0 = .ok (.aload_n 0, 1) := by decide +kernel
theorem dX10_against_1 : decode cX10_against 1 = .ok (.invokevirtual 174, 3) := by decide +kernel
theorem dX10_against_4 : decode cX10_against 4 = .ok (.iconst 0, 1) := by decide +kernel
theorem dX10_against_5 : decode cX10_against 5 = .ok (.istore_n 1, 1) := by decide +kernel
theorem dX10_against_6 : decode cX10_against 6 = .ok (.iconst 0, 1) := by decide +kernel
theorem dX10_against_7 : decode cX10_against 7 = .ok (.istore_n 2, 1) := by decide +kernel
theorem dX10_against_8 : decode cX10_against 8 = .ok (.iload_n 2, 1) := by decide +kernel
theorem dX10_against_9 : decode cX10_against 9 = .ok (.iconst 4, 1) := by decide +kernel
theorem dX10_against_10 : decode cX10_against 10 = .ok (.if_icmp .ge 33, 3) := by decide +kernel
theorem dX10_against_13 : decode cX10_against 13 = .ok (.aload_n 0, 1) := by decide +kernel
theorem dX10_against_14 : decode cX10_against 14 = .ok (.getfield 73, 3) := by decide +kernel
theorem dX10_against_17 : decode cX10_against 17 = .ok (.aload_n 0, 1) := by decide +kernel
theorem dX10_against_18 : decode cX10_against 18 = .ok (.getfield 12, 3) := by decide +kernel
theorem dX10_against_21 : decode cX10_against 21 = .ok (.iload_n 2, 1) := by decide +kernel
theorem dX10_against_22 : decode cX10_against 22 = .ok (.invokevirtual 213, 3) := by decide +kernel
theorem dX10_against_25 : decode cX10_against 25 = .ok (.invokevirtual 216, 3) := by decide +kernel
theorem dX10_against_28 : decode cX10_against 28 = .ok (.ifCond .eq 9, 3) := by decide +kernel
theorem dX10_against_31 : decode cX10_against 31 = .ok (.iload_n 1, 1) := by decide +kernel
theorem dX10_against_32 : decode cX10_against 32 = .ok (.iconst 1, 1) := by decide +kernel
theorem dX10_against_33 : decode cX10_against 33 = .ok (.iload_n 2, 1) := by decide +kernel
theorem dX10_against_34 : decode cX10_against 34 = .ok (.ishl, 1) := by decide +kernel
theorem dX10_against_35 : decode cX10_against 35 = .ok (.ior, 1) := by decide +kernel
theorem dX10_against_36 : decode cX10_against 36 = .ok (.istore_n 1, 1) := by decide +kernel
theorem dX10_against_37 : decode cX10_against 37 = .ok (.iinc 2 1, 3) := by decide +kernel
theorem dX10_against_40 : decode cX10_against 40 = .ok (.goto (-32), 3) := by decide +kernel
theorem dX10_against_43 : decode cX10_against 43 = .ok (.iload_n 1, 1) := by decide +kernel
theorem dX10_against_44 : decode cX10_against 44 = .ok (.ireturn, 1) := by decide +kernel
set_option maxRecDepth 20000 in
theorem ggX10_watch_X10_isEnd : GoodIn wsX10_watch wsX10_isEnd := goodIn_r _ [8, 1, 9, 15, 16, 17, 18, 19, 20, 21, 22, 23, 24, 25, 26, 27, 28, 29, 30, 31, 32, 33, 34, 35, 36, 37, 38, 39, 40] (by decide +kernel) (by decide +kernel)
set_option maxRecDepth 20000 in
theorem gX10_watch_X10_isEnd : GoodIn wsX10_watch (wsV RX10 158 RX10 yX10_isEnd wsX10_isEnd) := goodIn_app (goodIn_of _ (by decide +kernel)) ggX10_watch_X10_isEnd
set_option maxRecDepth 20000 in
theorem ggX10_watch_X10_refuse : GoodIn wsX10_watch wsX10_refuse := goodIn_r _ [13, 14, 15, 16, 17, 18, 19, 20, 21, 22, 23, 24, 25, 26, 27, 28, 29, 30, 31] (by decide +kernel) (by decide +kernel)
set_option maxRecDepth 20000 in
theorem gX10_watch_X10_refuse : GoodIn wsX10_watch (wsV RX10 95 RX10 yX10_refuse wsX10_refuse) := goodIn_app (goodIn_of _ (by decide +kernel)) ggX10_watch_X10_refuse
theorem dX10_watch_0 : decode cX10_watch 0 = .ok (.aload_n 0, 1) := by decide +kernel
theorem dX10_watch_1 : decode cX10_watch 1 = .ok (.iload_n 1, 1) := by decide +kernel
theorem dX10_watch_2 : decode cX10_watch 2 = .ok (.invokevirtual 158, 3) := by decide +kernel
theorem dX10_watch_5 : decode cX10_watch 5 = .ok (.ifCond .eq 14, 3) := by decide +kernel
theorem dX10_watch_8 : decode cX10_watch 8 = .ok (.iload_n 2, 1) := by decide +kernel
theorem dX10_watch_9 : decode cX10_watch 9 = .ok (.iconst (-1), 1) := by decide +kernel
theorem dX10_watch_10 : decode cX10_watch 10 = .ok (.if_icmp .lt 9, 3) := by decide +kernel
theorem dX10_watch_13 : decode cX10_watch 13 = .ok (.iload_n 2, 1) := by decide +kernel
theorem dX10_watch_14 : decode cX10_watch 14 = .ok (.bipush 99, 2) := by decide +kernel
theorem dX10_watch_16 : decode cX10_watch 16 = .ok (.if_icmp .le 12, 3) := by decide +kernel
theorem dX10_watch_19 : decode cX10_watch 19 = .ok (.aload_n 0, 1) := by decide +kernel
theorem dX10_watch_20 : decode cX10_watch 20 = .ok (.bipush (-2), 2) := by decide +kernel
theorem dX10_watch_22 : decode cX10_watch 22 = .ok (.bipush (-10), 2) := by decide +kernel
theorem dX10_watch_24 : decode cX10_watch 24 = .ok (.invokevirtual 95, 3) := by decide +kernel
theorem dX10_watch_27 : decode cX10_watch 27 = .ok (.ireturn, 1) := by decide +kernel
theorem dX10_watch_28 : decode cX10_watch 28 = .ok (.aload_n 0, 1) := by decide +kernel
theorem dX10_watch_29 : decode cX10_watch 29 = .ok (.getfield 12, 3) := by decide +kernel
theorem dX10_watch_32 : decode cX10_watch 32 = .ok (.getfield 219, 3) := by decide +kernel
theorem dX10_watch_35 : decode cX10_watch 35 = .ok (.iload_n 1, 1) := by decide +kernel
theorem dX10_watch_36 : decode cX10_watch 36 = .ok (.iaload, 1) := by decide +kernel
theorem dX10_watch_37 : decode cX10_watch 37 = .ok (.istore_n 3, 1) := by decide +kernel
theorem dX10_watch_38 : decode cX10_watch 38 = .ok (.aload_n 0, 1) := by decide +kernel
theorem dX10_watch_39 : decode cX10_watch 39 = .ok (.getfield 12, 3) := by decide +kernel
theorem dX10_watch_42 : decode cX10_watch 42 = .ok (.getfield 219, 3) := by decide +kernel
theorem dX10_watch_45 : decode cX10_watch 45 = .ok (.iload_n 1, 1) := by decide +kernel
theorem dX10_watch_46 : decode cX10_watch 46 = .ok (.iload_n 2, 1) := by decide +kernel
theorem dX10_watch_47 : decode cX10_watch 47 = .ok (.iastore, 1) := by decide +kernel
theorem dX10_watch_48 : decode cX10_watch 48 = .ok (.aload_n 0, 1) := by decide +kernel
theorem dX10_watch_49 : decode cX10_watch 49 = .ok (.iconst 0, 1) := by decide +kernel
theorem dX10_watch_50 : decode cX10_watch 50 = .ok (.putfield 222, 3) := by decide +kernel
theorem dX10_watch_53 : decode cX10_watch 53 = .ok (.iload_n 3, 1) := by decide +kernel
theorem dX10_watch_54 : decode cX10_watch 54 = .ok (.ireturn, 1) := by decide +kernel
set_option maxRecDepth 20000 in
theorem ggX10_minute_X10_isEnd : GoodIn wsX10_minute wsX10_isEnd := goodIn_r _ [8, 9, 10, 205, 206, 207, 208, 209, 210, 211, 212, 213, 214, 215, 216, 217, 218, 219, 220, 221, 227, 228, 229, 230, 231, 232, 233, 234, 235] (by decide +kernel) (by decide +kernel)
set_option maxRecDepth 20000 in
theorem gX10_minute_X10_isEnd : GoodIn wsX10_minute (wsV RX10 158 RX10 yX10_isEnd wsX10_isEnd) := goodIn_app (goodIn_of _ (by decide +kernel)) ggX10_minute_X10_isEnd
set_option maxRecDepth 20000 in
theorem ggX10_minute_X10_isEither : GoodIn wsX10_minute wsX10_isEither := goodIn_r _ [13] (by decide +kernel) (by decide +kernel)
set_option maxRecDepth 20000 in
theorem gX10_minute_X10_isEither : GoodIn wsX10_minute (va_wsS RX10 116 yX10_isEither wsX10_isEither) := goodIn_app (goodIn_of _ (by decide +kernel)) ggX10_minute_X10_isEither
set_option maxRecDepth 20000 in
theorem ggX10_minute_X10_refuse : GoodIn wsX10_minute wsX10_refuse := goodIn_r _ [17, 18, 205, 206, 207, 208, 209, 210, 211, 212, 213, 214, 215, 216, 217, 218, 219, 220, 221] (by decide +kernel) (by decide +kernel)
set_option maxRecDepth 20000 in
theorem gX10_minute_X10_refuse : GoodIn wsX10_minute (wsV RX10 95 RX10 yX10_refuse wsX10_refuse) := goodIn_app (goodIn_of _ (by decide +kernel)) ggX10_minute_X10_refuse
set_option maxRecDepth 20000 in
theorem ggX10_minute_X10_time : GoodIn wsX10_minute wsX10_time := goodIn_r _ [22, 23, 1, 24, 25, 9, 26, 27, 28, 7, 29, 30, 31, 10, 32, 33, 34, 35, 36, 37, 38, 39, 40, 41, 42, 43, 44, 45, 46, 47, 48, 49, 50, 51, 52, 53, 54, 55, 56, 57, 58, 59, 60, 61, 62, 63, 64, 65, 66, 67, 68, 69, 70, 71, 72, 73, 74, 75, 76, 77, 78, 79, 80, 81, 82, 83, 84, 85, 86, 87, 88, 89, 90, 91, 92, 93, 94, 95, 96, 97, 98, 99, 100, 101, 102, 103, 104, 105, 106, 107, 108, 109, 110, 111, 112, 113, 114, 115, 116, 117, 118, 119, 120, 121, 122, 123, 124, 125, 126, 127, 128, 129, 130, 131, 132, 133, 134, 135, 136, 137, 138, 139, 140, 141, 142, 143, 144, 145, 146, 147, 148, 149, 150, 151, 152, 153, 154, 155, 156, 157, 158, 159, 160, 161, 162, 163, 164, 165, 166, 167, 168, 169, 170, 171, 172, 173, 174, 175, 176, 177, 178, 179, 180, 181, 182, 183, 184, 185, 186, 187, 188, 189, 190, 191, 192, 193, 194, 195, 196, 197, 198, 199, 200, 201, 202, 203, 204, 205, 206, 207, 208, 209, 210, 211, 212, 213, 214, 215, 216, 217, 218, 219, 220, 221, 227, 228, 229, 230, 231, 232, 233, 234, 235, 236, 237, 238, 239, 240, 241, 242, 243, 244, 245, 246, 247, 248, 249, 250, 251, 252, 253, 254, 255, 256, 257, 258, 259, 260, 261, 222, 223, 224, 225, 226] (by decide +kernel) (by decide +kernel)
set_option maxRecDepth 20000 in
theorem gX10_minute_X10_time : GoodIn wsX10_minute (wsV RX10 225 RX10 yX10_time wsX10_time) := goodIn_app (goodIn_of _ (by decide +kernel)) ggX10_minute_X10_time
theorem dX10_minute_0 : decode cX10_minute 0 = .ok (.aload_n 0, 1) := by decide +kernel
theorem dX10_minute_1 : decode cX10_minute 1 = .ok (.iload_n 1, 1) := by decide +kernel
theorem dX10_minute_2 : decode cX10_minute 2 = .ok (.invokevirtual 158, 3) := by decide +kernel
theorem dX10_minute_5 : decode cX10_minute 5 = .ok (.ifCond .eq 10, 3) := by decide +kernel
theorem dX10_minute_8 : decode cX10_minute 8 = .ok (.iload_n 2, 1) := by decide +kernel
theorem dX10_minute_9 : decode cX10_minute 9 = .ok (.invokestatic 116, 3) := by decide +kernel
theorem dX10_minute_12 : decode cX10_minute 12 = .ok (.ifCond .ne 12, 3) := by decide +kernel
theorem dX10_minute_15 : decode cX10_minute 15 = .ok (.aload_n 0, 1) := by decide +kernel
theorem dX10_minute_16 : decode cX10_minute 16 = .ok (.bipush (-2), 2) := by decide +kernel
theorem dX10_minute_18 : decode cX10_minute 18 = .ok (.bipush (-2), 2) := by decide +kernel
theorem dX10_minute_20 : decode cX10_minute 20 = .ok (.invokevirtual 95, 3) := by decide +kernel
theorem dX10_minute_23 : decode cX10_minute 23 = .ok (.ireturn, 1) := by decide +kernel
theorem dX10_minute_24 : decode cX10_minute 24 = .ok (.aload_n 0, 1) := by decide +kernel
theorem dX10_minute_25 : decode cX10_minute 25 = .ok (.invokevirtual 225, 3) := by decide +kernel
theorem dX10_minute_28 : decode cX10_minute 28 = .ok (.iload_n 2, 1) := by decide +kernel
theorem dX10_minute_29 : decode cX10_minute 29 = .ok (.ifCond .ne 15, 3) := by decide +kernel
theorem dX10_minute_32 : decode cX10_minute 32 = .ok (.aload_n 0, 1) := by decide +kernel
theorem dX10_minute_33 : decode cX10_minute 33 = .ok (.getfield 80, 3) := by decide +kernel
theorem dX10_minute_36 : decode cX10_minute 36 = .ok (.getfield 228, 3) := by decide +kernel
theorem dX10_minute_39 : decode cX10_minute 39 = .ok (.iload_n 1, 1) := by decide +kernel
theorem dX10_minute_40 : decode cX10_minute 40 = .ok (.iaload, 1) := by decide +kernel
theorem dX10_minute_41 : decode cX10_minute 41 = .ok (.goto 12, 3) := by decide +kernel
theorem dX10_minute_44 : decode cX10_minute 44 = .ok (.aload_n 0, 1) := by decide +kernel
theorem dX10_minute_45 : decode cX10_minute 45 = .ok (.getfield 80, 3) := by decide +kernel
theorem dX10_minute_48 : decode cX10_minute 48 = .ok (.getfield 231, 3) := by decide +kernel
theorem dX10_minute_51 : decode cX10_minute 51 = .ok (.iload_n 1, 1) := by decide +kernel
theorem dX10_minute_52 : decode cX10_minute 52 = .ok (.iaload, 1) := by decide +kernel
theorem dX10_minute_53 : decode cX10_minute 53 = .ok (.ireturn, 1) := by decide +kernel
set_option maxRecDepth 20000 in
theorem ggX10_image_X10_isEither : GoodIn wsX10_image wsX10_isEither := goodIn_r _ [7] (by decide +kernel) (by decide +kernel)
set_option maxRecDepth 20000 in
theorem gX10_image_X10_isEither : GoodIn wsX10_image (va_wsS RX10 116 yX10_isEither wsX10_isEither) := goodIn_app (goodIn_of _ (by decide +kernel)) ggX10_image_X10_isEither
set_option maxRecDepth 20000 in
theorem ggX10_image_X10_refuse : GoodIn wsX10_image wsX10_refuse := goodIn_r _ [11, 12, 27, 28, 29, 30, 31, 32, 33, 34, 35, 36, 37, 38, 39, 40, 41, 42, 43] (by decide +kernel) (by decide +kernel)
set_option maxRecDepth 20000 in
theorem gX10_image_X10_refuse : GoodIn wsX10_image (wsV RX10 95 RX10 yX10_refuse wsX10_refuse) := goodIn_app (goodIn_of _ (by decide +kernel)) ggX10_image_X10_refuse
set_option maxRecDepth 20000 in
theorem ggX10_image_X4_copy : GoodIn wsX10_image wsX4_copy := goodIn_r _ [17, 18, 19, 20, 21, 22, 23, 24, 25, 26, 44, 45, 46, 47, 48, 49, 50, 51, 52] (by decide +kernel) (by decide +kernel)
set_option maxRecDepth 20000 in
theorem gX10_image_X4_copy : GoodIn wsX10_image (wsV RX10 147 RX4 yX4_copy wsX4_copy) := goodIn_app (goodIn_of _ (by decide +kernel)) ggX10_image_X4_copy
theorem dX10_image_0 : decode cX10_image 0 = .ok (.iload_n 1, 1) := by decide +kernel
theorem dX10_image_1 : decode cX10_image 1 = .ok (.invokestatic 116, 3) := by decide +kernel
theorem dX10_image_4 : decode cX10_image 4 = .ok (.ifCond .ne 12, 3) := by decide +kernel
theorem dX10_image_7 : decode cX10_image 7 = .ok (.aload_n 0, 1) := by decide +kernel
theorem dX10_image_8 : decode cX10_image 8 = .ok (.bipush (-2), 2) := by decide +kernel
theorem dX10_image_10 : decode cX10_image 10 = .ok (.bipush (-2), 2) := by decide +kernel
theorem dX10_image_12 : decode cX10_image 12 = .ok (.invokevirtual 95, 3) := by decide +kernel
theorem dX10_image_15 : decode cX10_image 15 = .ok (.ireturn, 1) := by decide +kernel
theorem dX10_image_16 : decode cX10_image 16 = .ok (.aload_n 0, 1) := by decide +kernel
theorem dX10_image_17 : decode cX10_image 17 = .ok (.getfield 16, 3) := by decide +kernel
theorem dX10_image_20 : decode cX10_image 20 = .ok (.iload_n 1, 1) := by decide +kernel
theorem dX10_image_21 : decode cX10_image 21 = .ok (.aaload, 1) := by decide +kernel
theorem dX10_image_22 : decode cX10_image 22 = .ok (.aload_n 0, 1) := by decide +kernel
theorem dX10_image_23 : decode cX10_image 23 = .ok (.getfield 12, 3) := by decide +kernel
theorem dX10_image_26 : decode cX10_image 26 = .ok (.invokevirtual 147, 3) := by decide +kernel
theorem dX10_image_29 : decode cX10_image 29 = .ok (.aload_n 0, 1) := by decide +kernel
theorem dX10_image_30 : decode cX10_image 30 = .ok (.getfield 20, 3) := by decide +kernel
theorem dX10_image_33 : decode cX10_image 33 = .ok (.iload_n 1, 1) := by decide +kernel
theorem dX10_image_34 : decode cX10_image 34 = .ok (.iconst 1, 1) := by decide +kernel
theorem dX10_image_35 : decode cX10_image 35 = .ok (.bastore, 1) := by decide +kernel
theorem dX10_image_36 : decode cX10_image 36 = .ok (.iconst 1, 1) := by decide +kernel
theorem dX10_image_37 : decode cX10_image 37 = .ok (.ireturn, 1) := by decide +kernel
set_option maxRecDepth 20000 in
theorem ggX10_from_X10_isEither : GoodIn wsX10_from wsX10_isEither := goodIn_r _ [7] (by decide +kernel) (by decide +kernel)
set_option maxRecDepth 20000 in
theorem gX10_from_X10_isEither : GoodIn wsX10_from (va_wsS RX10 116 yX10_isEither wsX10_isEither) := goodIn_app (goodIn_of _ (by decide +kernel)) ggX10_from_X10_isEither
set_option maxRecDepth 20000 in
theorem ggX10_from_X10_refuse : GoodIn wsX10_from wsX10_refuse := goodIn_r _ [11, 12, 35, 36, 37, 38, 39, 40, 41, 42, 43, 44, 45, 46, 47, 48, 49, 50, 51] (by decide +kernel) (by decide +kernel)
set_option maxRecDepth 20000 in
theorem gX10_from_X10_refuse : GoodIn wsX10_from (wsV RX10 95 RX10 yX10_refuse wsX10_refuse) := goodIn_app (goodIn_of _ (by decide +kernel)) ggX10_from_X10_refuse
set_option maxRecDepth 20000 in
theorem ggX10_from_X4_copy : GoodIn wsX10_from wsX4_copy := goodIn_r _ [17, 18, 19, 20, 21, 22, 23, 24, 25, 26, 52, 53, 54, 55, 56, 57, 58, 59, 60] (by decide +kernel) (by decide +kernel)
set_option maxRecDepth 20000 in
theorem gX10_from_X4_copy : GoodIn wsX10_from (wsV RX10 147 RX4 yX4_copy wsX4_copy) := goodIn_app (goodIn_of _ (by decide +kernel)) ggX10_from_X4_copy
set_option maxRecDepth 20000 in
theorem ggX10_from_X10_changed : GoodIn wsX10_from wsX10_changed := goodIn_r _ [30, 31, 32, 33, 34, 35, 36, 37, 38, 39, 40, 41, 42, 43, 44, 45, 46, 47, 48, 49, 50, 51] (by decide +kernel) (by decide +kernel)
set_option maxRecDepth 20000 in
theorem gX10_from_X10_changed : GoodIn wsX10_from (wsV RX10 99 RX10 yX10_changed wsX10_changed) := goodIn_app (goodIn_of _ (by decide +kernel)) ggX10_from_X10_changed
theorem dX10_from_0 : decode cX10_from 0 = .ok (.iload_n 1, 1) := by decide +kernel
theorem dX10_from_1 : decode cX10_from 1 = .ok (.invokestatic 116, 3) := by decide +kernel
theorem dX10_from_4 : decode cX10_from 4 = .ok (.ifCond .ne 12, 3) := by decide +kernel
theorem dX10_from_7 : decode cX10_from 7 = .ok (.aload_n 0, 1) := by decide +kernel
theorem dX10_from_8 : decode cX10_from 8 = .ok (.bipush (-2), 2) := by decide +kernel
theorem dX10_from_10 : decode cX10_from 10 = .ok (.bipush (-2), 2) := by decide +kernel
theorem dX10_from_12 : decode cX10_from 12 = .ok (.invokevirtual 95, 3) := by decide +kernel
theorem dX10_from_15 : decode cX10_from 15 = .ok (.ireturn, 1) := by decide +kernel
theorem dX10_from_16 : decode cX10_from 16 = .ok (.aload_n 0, 1) := by decide +kernel
theorem dX10_from_17 : decode cX10_from 17 = .ok (.getfield 20, 3) := by decide +kernel
theorem dX10_from_20 : decode cX10_from 20 = .ok (.iload_n 1, 1) := by decide +kernel
theorem dX10_from_21 : decode cX10_from 21 = .ok (.baload, 1) := by decide +kernel
theorem dX10_from_22 : decode cX10_from 22 = .ok (.ifCond .ne 12, 3) := by decide +kernel
theorem dX10_from_25 : decode cX10_from 25 = .ok (.aload_n 0, 1) := by decide +kernel
theorem dX10_from_26 : decode cX10_from 26 = .ok (.bipush (-3), 2) := by decide +kernel
theorem dX10_from_28 : decode cX10_from 28 = .ok (.bipush (-3), 2) := by decide +kernel
theorem dX10_from_30 : decode cX10_from 30 = .ok (.invokevirtual 95, 3) := by decide +kernel
theorem dX10_from_33 : decode cX10_from 33 = .ok (.ireturn, 1) := by decide +kernel
theorem dX10_from_34 : decode cX10_from 34 = .ok (.aload_n 0, 1) := by decide +kernel
theorem dX10_from_35 : decode cX10_from 35 = .ok (.getfield 12, 3) := by decide +kernel
theorem dX10_from_38 : decode cX10_from 38 = .ok (.aload_n 0, 1) := by decide +kernel
theorem dX10_from_39 : decode cX10_from 39 = .ok (.getfield 16, 3) := by decide +kernel
theorem dX10_from_42 : decode cX10_from 42 = .ok (.iload_n 1, 1) := by decide +kernel
theorem dX10_from_43 : decode cX10_from 43 = .ok (.aaload, 1) := by decide +kernel
theorem dX10_from_44 : decode cX10_from 44 = .ok (.invokevirtual 147, 3) := by decide +kernel
theorem dX10_from_47 : decode cX10_from 47 = .ok (.aload_n 0, 1) := by decide +kernel
theorem dX10_from_48 : decode cX10_from 48 = .ok (.invokevirtual 99, 3) := by decide +kernel
theorem dX10_from_51 : decode cX10_from 51 = .ok (.iconst 1, 1) := by decide +kernel
theorem dX10_from_52 : decode cX10_from 52 = .ok (.ireturn, 1) := by decide +kernel
set_option maxRecDepth 20000 in
theorem ggX10_status_X10_refuse : GoodIn wsX10_status wsX10_refuse := goodIn_r _ [6, 1, 7, 8, 9, 10, 11, 12, 13, 14, 15, 16, 17, 18, 19, 20, 21, 22, 23] (by decide +kernel) (by decide +kernel)
set_option maxRecDepth 20000 in
theorem gX10_status_X10_refuse : GoodIn wsX10_status (wsV RX10 95 RX10 yX10_refuse wsX10_refuse) := goodIn_app (goodIn_of _ (by decide +kernel)) ggX10_status_X10_refuse
theorem dX10_status_0 : decode cX10_status 0 = .ok (.iload_n 1, 1) := by decide +kernel
theorem dX10_status_1 : decode cX10_status 1 = .ok (.ifCond .lt 8, 3) := by decide +kernel
theorem dX10_status_4 : decode cX10_status 4 = .ok (.iload_n 1, 1) := by decide +kernel
theorem dX10_status_5 : decode cX10_status 5 = .ok (.iconst 2, 1) := by decide +kernel
theorem dX10_status_6 : decode cX10_status 6 = .ok (.if_icmp .le 11, 3) := by decide +kernel
theorem dX10_status_9 : decode cX10_status 9 = .ok (.aload_n 0, 1) := by decide +kernel
theorem dX10_status_10 : decode cX10_status 10 = .ok (.bipush (-2), 2) := by decide +kernel
theorem dX10_status_12 : decode cX10_status 12 = .ok (.iconst (-1), 1) := by decide +kernel
theorem dX10_status_13 : decode cX10_status 13 = .ok (.invokevirtual 95, 3) := by decide +kernel
theorem dX10_status_16 : decode cX10_status 16 = .ok (.ireturn, 1) := by decide +kernel
theorem dX10_status_17 : decode cX10_status 17 = .ok (.aload_n 0, 1) := by decide +kernel
theorem dX10_status_18 : decode cX10_status 18 = .ok (.getfield 38, 3) := by decide +kernel
theorem dX10_status_21 : decode cX10_status 21 = .ok (.iload_n 1, 1) := by decide +kernel
theorem dX10_status_22 : decode cX10_status 22 = .ok (.iaload, 1) := by decide +kernel
theorem dX10_status_23 : decode cX10_status 23 = .ok (.ireturn, 1) := by decide +kernel
set_option maxRecDepth 20000 in
theorem ggX10_count_X4_watched : GoodIn wsX10_count wsX4_watched := goodIn_r _ [10, 11, 12, 36, 37, 38, 39, 40, 41, 42, 43, 44] (by decide +kernel) (by decide +kernel)
set_option maxRecDepth 20000 in
theorem gX10_count_X4_watched : GoodIn wsX10_count (wsV RX10 234 RX4 yX4_watched wsX4_watched) := goodIn_app (goodIn_of _ (by decide +kernel)) ggX10_count_X4_watched
set_option maxRecDepth 20000 in
theorem ggX10_count_X10_refuse : GoodIn wsX10_count wsX10_refuse := goodIn_r _ [17, 18, 19, 20, 21, 22, 23, 24, 25, 26, 27, 28, 29, 30, 31, 32, 33, 34, 35] (by decide +kernel) (by decide +kernel)
set_option maxRecDepth 20000 in
theorem gX10_count_X10_refuse : GoodIn wsX10_count (wsV RX10 95 RX10 yX10_refuse wsX10_refuse) := goodIn_app (goodIn_of _ (by decide +kernel)) ggX10_count_X10_refuse
theorem dX10_count_0 : decode cX10_count 0 = .ok (.iload_n 1, 1) := by decide +kernel
theorem dX10_count_1 : decode cX10_count 1 = .ok (.tableswitch 63 0 3 #[31, 39, 47, 55], 31) := by decide +kernel
theorem dX10_count_32 : decode cX10_count 32 = .ok (.aload_n 0, 1) := by decide +kernel
theorem dX10_count_33 : decode cX10_count 33 = .ok (.getfield 12, 3) := by decide +kernel
theorem dX10_count_36 : decode cX10_count 36 = .ok (.getfield 91, 3) := by decide +kernel
theorem dX10_count_39 : decode cX10_count 39 = .ok (.ireturn, 1) := by decide +kernel
theorem dX10_count_40 : decode cX10_count 40 = .ok (.aload_n 0, 1) := by decide +kernel
theorem dX10_count_41 : decode cX10_count 41 = .ok (.getfield 12, 3) := by decide +kernel
theorem dX10_count_44 : decode cX10_count 44 = .ok (.getfield 126, 3) := by decide +kernel
theorem dX10_count_47 : decode cX10_count 47 = .ok (.ireturn, 1) := by decide +kernel
theorem dX10_count_48 : decode cX10_count 48 = .ok (.aload_n 0, 1) := by decide +kernel
theorem dX10_count_49 : decode cX10_count 49 = .ok (.getfield 12, 3) := by decide +kernel
theorem dX10_count_52 : decode cX10_count 52 = .ok (.invokevirtual 234, 3) := by decide +kernel
theorem dX10_count_55 : decode cX10_count 55 = .ok (.ireturn, 1) := by decide +kernel
theorem dX10_count_56 : decode cX10_count 56 = .ok (.aload_n 0, 1) := by decide +kernel
theorem dX10_count_57 : decode cX10_count 57 = .ok (.getfield 27, 3) := by decide +kernel
theorem dX10_count_60 : decode cX10_count 60 = .ok (.getfield 133, 3) := by decide +kernel
theorem dX10_count_63 : decode cX10_count 63 = .ok (.ireturn, 1) := by decide +kernel
theorem dX10_count_64 : decode cX10_count 64 = .ok (.aload_n 0, 1) := by decide +kernel
theorem dX10_count_65 : decode cX10_count 65 = .ok (.bipush (-2), 2) := by decide +kernel
theorem dX10_count_67 : decode cX10_count 67 = .ok (.bipush (-2), 2) := by decide +kernel
theorem dX10_count_69 : decode cX10_count 69 = .ok (.invokevirtual 95, 3) := by decide +kernel
theorem dX10_count_72 : decode cX10_count 72 = .ok (.ireturn, 1) := by decide +kernel
set_option maxRecDepth 20000 in
theorem ggX10_digest_X4_digestWith : GoodIn wsX10_digest wsX4_digestWith := goodIn_r _ [8, 9, 10, 11, 12, 13, 14, 15, 16, 17, 18, 19, 20, 21, 22, 7, 23, 43, 44, 45, 46, 47, 48, 49, 50, 51] (by decide +kernel) (by decide +kernel)
set_option maxRecDepth 20000 in
theorem gX10_digest_X4_digestWith : GoodIn wsX10_digest (wsV RX10 237 RX4 yX4_digestWith wsX4_digestWith) := goodIn_app (goodIn_of _ (by decide +kernel)) ggX10_digest_X4_digestWith
theorem dX10_digest_0 : decode cX10_digest 0 = .ok (.aload_n 0, 1) := by decide +kernel
theorem dX10_digest_1 : decode cX10_digest 1 = .ok (.getfield 12, 3) := by decide +kernel
theorem dX10_digest_4 : decode cX10_digest 4 = .ok (.aload_n 0, 1) := by decide +kernel
theorem dX10_digest_5 : decode cX10_digest 5 = .ok (.getfield 27, 3) := by decide +kernel
theorem dX10_digest_8 : decode cX10_digest 8 = .ok (.getfield 133, 3) := by decide +kernel
theorem dX10_digest_11 : decode cX10_digest 11 = .ok (.invokevirtual 237, 3) := by decide +kernel
theorem dX10_digest_14 : decode cX10_digest 14 = .ok (.lreturn, 1) := by decide +kernel
theorem dX10_refuse_0 : decode cX10_refuse 0 = .ok (.aload_n 0, 1) := by decide +kernel
theorem dX10_refuse_1 : decode cX10_refuse 1 = .ok (.getfield 38, 3) := by decide +kernel
theorem dX10_refuse_4 : decode cX10_refuse 4 = .ok (.bipush (-2), 2) := by decide +kernel
theorem dX10_refuse_6 : decode cX10_refuse 6 = .ok (.iload_n 1, 1) := by decide +kernel
theorem dX10_refuse_7 : decode cX10_refuse 7 = .ok (.isub, 1) := by decide +kernel
theorem dX10_refuse_8 : decode cX10_refuse 8 = .ok (.dup2, 1) := by decide +kernel
theorem dX10_refuse_9 : decode cX10_refuse 9 = .ok (.iaload, 1) := by decide +kernel
theorem dX10_refuse_10 : decode cX10_refuse 10 = .ok (.iconst 1, 1) := by decide +kernel
theorem dX10_refuse_11 : decode cX10_refuse 11 = .ok (.iadd, 1) := by decide +kernel
theorem dX10_refuse_12 : decode cX10_refuse 12 = .ok (.iastore, 1) := by decide +kernel
theorem dX10_refuse_13 : decode cX10_refuse 13 = .ok (.iload_n 2, 1) := by decide +kernel
theorem dX10_refuse_14 : decode cX10_refuse 14 = .ok (.ireturn, 1) := by decide +kernel
theorem dX10_isThing_0 : decode cX10_isThing 0 = .ok (.iload_n 1, 1) := by decide +kernel
theorem dX10_isThing_1 : decode cX10_isThing 1 = .ok (.ifCond .lt 18, 3) := by decide +kernel
theorem dX10_isThing_4 : decode cX10_isThing 4 = .ok (.iload_n 1, 1) := by decide +kernel
theorem dX10_isThing_5 : decode cX10_isThing 5 = .ok (.aload_n 0, 1) := by decide +kernel
theorem dX10_isThing_6 : decode cX10_isThing 6 = .ok (.getfield 12, 3) := by decide +kernel
theorem dX10_isThing_9 : decode cX10_isThing 9 = .ok (.getfield 91, 3) := by decide +kernel
theorem dX10_isThing_12 : decode cX10_isThing 12 = .ok (.if_icmp .ge 7, 3) := by decide +kernel
theorem dX10_isThing_15 : decode cX10_isThing 15 = .ok (.iconst 1, 1) := by decide +kernel
theorem dX10_isThing_16 : decode cX10_isThing 16 = .ok (.goto 4, 3) := by decide +kernel
theorem dX10_isThing_19 : decode cX10_isThing 19 = .ok (.iconst 0, 1) := by decide +kernel
theorem dX10_isThing_20 : decode cX10_isThing 20 = .ok (.ireturn, 1) := by decide +kernel
set_option maxRecDepth 20000 in
theorem ggX10_areTwoThings_X10_isThing : GoodIn wsX10_areTwoThings wsX10_isThing := goodIn_r _ [5, 6, 7, 8, 9, 10, 11, 12, 13, 14, 15, 16, 17, 18, 19, 20, 21, 22, 23, 24, 25, 26, 27, 28, 29, 30, 31, 32, 33] (by decide +kernel) (by decide +kernel)
set_option maxRecDepth 20000 in
theorem gX10_areTwoThings_X10_isThing : GoodIn wsX10_areTwoThings (wsV RX10 106 RX10 yX10_isThing wsX10_isThing) := goodIn_app (goodIn_of _ (by decide +kernel)) ggX10_areTwoThings_X10_isThing
theorem dX10_areTwoThings_0 : decode cX10_areTwoThings 0 = .ok (.aload_n 0, 1) := by decide +kernel
theorem dX10_areTwoThings_1 : decode cX10_areTwoThings 1 = .ok (.iload_n 1, 1) := by decide +kernel
theorem dX10_areTwoThings_2 : decode cX10_areTwoThings 2 = .ok (.invokevirtual 106, 3) := by decide +kernel
theorem dX10_areTwoThings_5 : decode cX10_areTwoThings 5 = .ok (.ifCond .eq 20, 3) := by decide +kernel
theorem dX10_areTwoThings_8 : decode cX10_areTwoThings 8 = .ok (.aload_n 0, 1) := by decide +kernel
theorem dX10_areTwoThings_9 : decode cX10_areTwoThings 9 = .ok (.iload_n 2, 1) := by decide +kernel
theorem dX10_areTwoThings_10 : decode cX10_areTwoThings 10 = .ok (.invokevirtual 106, 3) := by decide +kernel
theorem dX10_areTwoThings_13 : decode cX10_areTwoThings 13 = .ok (.ifCond .eq 12, 3) := by decide +kernel
theorem dX10_areTwoThings_16 : decode cX10_areTwoThings 16 = .ok (.iload_n 1, 1) := by decide +kernel
theorem dX10_areTwoThings_17 : decode cX10_areTwoThings 17 = .ok (.iload_n 2, 1) := by decide +kernel
theorem dX10_areTwoThings_18 : decode cX10_areTwoThings 18 = .ok (.if_icmp .eq 7, 3) := by decide +kernel
theorem dX10_areTwoThings_21 : decode cX10_areTwoThings 21 = .ok (.iconst 1, 1) := by decide +kernel
theorem dX10_areTwoThings_22 : decode cX10_areTwoThings 22 = .ok (.goto 4, 3) := by decide +kernel
theorem dX10_areTwoThings_25 : decode cX10_areTwoThings 25 = .ok (.iconst 0, 1) := by decide +kernel
theorem dX10_areTwoThings_26 : decode cX10_areTwoThings 26 = .ok (.ireturn, 1) := by decide +kernel
theorem dX10_isEnd_0 : decode cX10_isEnd 0 = .ok (.iload_n 1, 1) := by decide +kernel
theorem dX10_isEnd_1 : decode cX10_isEnd 1 = .ok (.ifCond .lt 20, 3) := by decide +kernel
theorem dX10_isEnd_4 : decode cX10_isEnd 4 = .ok (.iload_n 1, 1) := by decide +kernel
theorem dX10_isEnd_5 : decode cX10_isEnd 5 = .ok (.iconst 2, 1) := by decide +kernel
theorem dX10_isEnd_6 : decode cX10_isEnd 6 = .ok (.aload_n 0, 1) := by decide +kernel
theorem dX10_isEnd_7 : decode cX10_isEnd 7 = .ok (.getfield 12, 3) := by decide +kernel
theorem dX10_isEnd_10 : decode cX10_isEnd 10 = .ok (.getfield 91, 3) := by decide +kernel
theorem dX10_isEnd_13 : decode cX10_isEnd 13 = .ok (.imul, 1) := by decide +kernel
theorem dX10_isEnd_14 : decode cX10_isEnd 14 = .ok (.if_icmp .ge 7, 3) := by decide +kernel
theorem dX10_isEnd_17 : decode cX10_isEnd 17 = .ok (.iconst 1, 1) := by decide +kernel
theorem dX10_isEnd_18 : decode cX10_isEnd 18 = .ok (.goto 4, 3) := by decide +kernel
theorem dX10_isEnd_21 : decode cX10_isEnd 21 = .ok (.iconst 0, 1) := by decide +kernel
theorem dX10_isEnd_22 : decode cX10_isEnd 22 = .ok (.ireturn, 1) := by decide +kernel
theorem dX10_isPerson_0 : decode cX10_isPerson 0 = .ok (.iload_n 0, 1) := by decide +kernel
theorem dX10_isPerson_1 : decode cX10_isPerson 1 = .ok (.ifCond .lt 12, 3) := by decide +kernel
theorem dX10_isPerson_4 : decode cX10_isPerson 4 = .ok (.iload_n 0, 1) := by decide +kernel
theorem dX10_isPerson_5 : decode cX10_isPerson 5 = .ok (.iconst 4, 1) := by decide +kernel
theorem dX10_isPerson_6 : decode cX10_isPerson 6 = .ok (.if_icmp .ge 7, 3) := by decide +kernel
theorem dX10_isPerson_9 : decode cX10_isPerson 9 = .ok (.iconst 1, 1) := by decide +kernel
theorem dX10_isPerson_10 : decode cX10_isPerson 10 = .ok (.goto 4, 3) := by decide +kernel
theorem dX10_isPerson_13 : decode cX10_isPerson 13 = .ok (.iconst 0, 1) := by decide +kernel
theorem dX10_isPerson_14 : decode cX10_isPerson 14 = .ok (.ireturn, 1) := by decide +kernel
theorem dX10_isEither_0 : decode cX10_isEither 0 = .ok (.iload_n 0, 1) := by decide +kernel
theorem dX10_isEither_1 : decode cX10_isEither 1 = .ok (.ifCond .eq 8, 3) := by decide +kernel
theorem dX10_isEither_4 : decode cX10_isEither 4 = .ok (.iload_n 0, 1) := by decide +kernel
theorem dX10_isEither_5 : decode cX10_isEither 5 = .ok (.iconst 1, 1) := by decide +kernel
theorem dX10_isEither_6 : decode cX10_isEither 6 = .ok (.if_icmp .ne 7, 3) := by decide +kernel
theorem dX10_isEither_9 : decode cX10_isEither 9 = .ok (.iconst 1, 1) := by decide +kernel
theorem dX10_isEither_10 : decode cX10_isEither 10 = .ok (.goto 4, 3) := by decide +kernel
theorem dX10_isEither_13 : decode cX10_isEither 13 = .ok (.iconst 0, 1) := by decide +kernel
theorem dX10_isEither_14 : decode cX10_isEither 14 = .ok (.ireturn, 1) := by decide +kernel
theorem dX10_changed_0 : decode cX10_changed 0 = .ok (.aload_n 0, 1) := by decide +kernel
theorem dX10_changed_1 : decode cX10_changed 1 = .ok (.iconst 0, 1) := by decide +kernel
theorem dX10_changed_2 : decode cX10_changed 2 = .ok (.putfield 241, 3) := by decide +kernel
theorem dX10_changed_5 : decode cX10_changed 5 = .ok (.aload_n 0, 1) := by decide +kernel
theorem dX10_changed_6 : decode cX10_changed 6 = .ok (.iconst 0, 1) := by decide +kernel
theorem dX10_changed_7 : decode cX10_changed 7 = .ok (.putfield 244, 3) := by decide +kernel
theorem dX10_changed_10 : decode cX10_changed 10 = .ok (.aload_n 0, 1) := by decide +kernel
theorem dX10_changed_11 : decode cX10_changed 11 = .ok (.iconst 0, 1) := by decide +kernel
theorem dX10_changed_12 : decode cX10_changed 12 = .ok (.putfield 222, 3) := by decide +kernel
theorem dX10_changed_15 : decode cX10_changed 15 = .ok (.aload_n 0, 1) := by decide +kernel
theorem dX10_changed_16 : decode cX10_changed 16 = .ok (.iconst 0, 1) := by decide +kernel
theorem dX10_changed_17 : decode cX10_changed 17 = .ok (.putfield 247, 3) := by decide +kernel
theorem dX10_changed_20 : decode cX10_changed 20 = .ok (.return_, 1) := by decide +kernel
set_option maxRecDepth 20000 in
theorem ggX10_hasFit_X10_find : GoodIn wsX10_hasFit wsX10_find := goodIn_r _ [7, 8, 9, 10, 11, 12, 13, 1, 14, 15, 16, 17, 18, 19, 20, 21, 22, 23, 24, 25, 26, 27, 28, 29, 30, 31, 32, 33, 34, 35, 36, 37, 38, 39, 40, 41, 42, 43, 44, 45, 46, 47, 48, 49, 50, 51, 52, 53, 54, 55, 56, 57, 58, 59, 60, 61, 62, 63, 64, 65, 66, 67, 68, 6, 69, 70, 71, 72, 73, 74, 75, 76, 77, 78, 79, 80, 81, 82, 83, 84, 85, 86, 87, 88, 89, 90, 91, 92, 93, 94, 95, 96, 97, 98, 99, 100, 101, 102, 103, 104, 105, 106, 107, 108, 109, 110, 111, 112, 113, 114, 115, 116, 117, 118, 119, 120, 121, 122, 123, 124, 125, 126, 127, 128, 129, 130, 131, 132, 133, 134, 135, 136, 137, 138, 139, 140, 141, 142, 143, 144, 145, 146, 147, 148, 149, 150, 151, 152, 153, 154, 155, 156, 157, 158, 166, 167, 168, 169, 170, 171, 172, 173, 174, 175, 176, 177, 178, 179, 180, 181, 182, 183, 184, 185, 186, 187, 188, 189, 190, 191, 192, 193, 159, 160, 161, 162, 163, 164, 165] (by decide +kernel) (by decide +kernel)
set_option maxRecDepth 20000 in
theorem gX10_hasFit_X10_find : GoodIn wsX10_hasFit (wsV RX10 151 RX10 yX10_find wsX10_find) := goodIn_app (goodIn_of _ (by decide +kernel)) ggX10_hasFit_X10_find
theorem dX10_hasFit_0 : decode cX10_hasFit 0 = .ok (.aload_n 0, 1) := by decide +kernel
theorem dX10_hasFit_1 : decode cX10_hasFit 1 = .ok (.invokevirtual 151, 3) := by decide +kernel
theorem dX10_hasFit_4 : decode cX10_hasFit 4 = .ok (.aload_n 0, 1) := by decide +kernel
theorem dX10_hasFit_5 : decode cX10_hasFit 5 = .ok (.getfield 66, 3) := by decide +kernel
theorem dX10_hasFit_8 : decode cX10_hasFit 8 = .ok (.getfield 154, 3) := by decide +kernel
theorem dX10_hasFit_11 : decode cX10_hasFit 11 = .ok (.lconst 0, 1) := by decide +kernel
theorem dX10_hasFit_12 : decode cX10_hasFit 12 = .ok (.lcmp, 1) := by decide +kernel
theorem dX10_hasFit_13 : decode cX10_hasFit 13 = .ok (.ifCond .le 7, 3) := by decide +kernel
theorem dX10_hasFit_16 : decode cX10_hasFit 16 = .ok (.iconst 1, 1) := by decide +kernel
theorem dX10_hasFit_17 : decode cX10_hasFit 17 = .ok (.goto 4, 3) := by decide +kernel
theorem dX10_hasFit_20 : decode cX10_hasFit 20 = .ok (.iconst 0, 1) := by decide +kernel
theorem dX10_hasFit_21 : decode cX10_hasFit 21 = .ok (.ireturn, 1) := by decide +kernel
set_option maxRecDepth 20000 in
theorem ggX10_find_X2_take : GoodIn wsX10_find wsX2_take := goodIn_r _ [12, 13, 14, 15, 16, 17, 18, 19, 20, 21, 22, 23, 24, 11, 25, 26, 27, 28, 29, 30, 31, 32, 33, 34, 35, 36, 37, 38, 39, 40, 41, 42, 43, 44, 45, 46, 47, 48, 49, 50, 51, 52, 163, 164, 165, 166, 167, 168, 169, 170, 171, 172, 173, 174, 154, 155, 156, 157, 158, 159, 160, 161, 162] (by decide +kernel) (by decide +kernel)
set_option maxRecDepth 20000 in
theorem gX10_find_X2_take : GoodIn wsX10_find (wsV RX10 250 RX2 yX2_take wsX2_take) := goodIn_app (goodIn_of _ (by decide +kernel)) ggX10_find_X2_take
set_option maxRecDepth 20000 in
theorem ggX10_find_X9_lay : GoodIn wsX10_find wsX9_lay := goodIn_r _ [57, 58, 59, 60, 61, 62, 63, 64, 65, 66, 67, 68, 11, 69, 70, 71, 13, 31, 30, 33, 32, 14, 38, 39, 40, 72, 73, 74, 75, 76, 77, 78, 79, 80, 81, 56, 82, 83, 84, 85, 86, 87, 88, 89, 90, 91, 92, 93, 94, 95, 96, 175, 176, 177, 163, 164, 165, 166, 167, 168, 169, 170, 171, 172, 173, 174, 178, 179, 180, 181] (by decide +kernel) (by decide +kernel)
set_option maxRecDepth 20000 in
theorem gX10_find_X9_lay : GoodIn wsX10_find (wsV RX10 253 RX9 yX9_lay wsX9_lay) := goodIn_app (goodIn_of _ (by decide +kernel)) ggX10_find_X9_lay
set_option maxRecDepth 20000 in
theorem ggX10_find_X3_weigh : GoodIn wsX10_find wsX3_weigh := goodIn_r _ [101, 102, 103, 104, 105, 106, 107, 108, 109, 110, 56, 111, 61, 58, 112, 113, 114, 100, 115, 116, 117, 118, 119, 120, 62, 63, 64, 65, 121, 86, 87, 88, 89, 90, 91, 92, 93, 94, 95, 96, 122, 123, 124, 125, 126, 127, 128, 129, 130, 131, 132, 133, 134, 135, 136, 182, 183, 184, 185, 186, 187, 188, 175, 176, 177, 178, 179, 180, 181] (by decide +kernel) (by decide +kernel)
set_option maxRecDepth 20000 in
theorem gX10_find_X3_weigh : GoodIn wsX10_find (wsV RX10 257 RX3 yX3_weigh wsX3_weigh) := goodIn_app (goodIn_of _ (by decide +kernel)) ggX10_find_X3_weigh
theorem dX10_find_0 : decode cX10_find 0 = .ok (.aload_n 0, 1) := by decide +kernel
theorem dX10_find_1 : decode cX10_find 1 = .ok (.getfield 241, 3) := by decide +kernel
theorem dX10_find_4 : decode cX10_find 4 = .ok (.ifCond .eq 4, 3) := by decide +kernel
theorem dX10_find_7 : decode cX10_find 7 = .ok (.return_, 1) := by decide +kernel
theorem dX10_find_8 : decode cX10_find 8 = .ok (.aload_n 0, 1) := by decide +kernel
theorem dX10_find_9 : decode cX10_find 9 = .ok (.getfield 45, 3) := by decide +kernel
theorem dX10_find_12 : decode cX10_find 12 = .ok (.aload_n 0, 1) := by decide +kernel
theorem dX10_find_13 : decode cX10_find 13 = .ok (.getfield 12, 3) := by decide +kernel
theorem dX10_find_16 : decode cX10_find 16 = .ok (.invokevirtual 250, 3) := by decide +kernel
theorem dX10_find_19 : decode cX10_find 19 = .ok (.aload_n 0, 1) := by decide +kernel
theorem dX10_find_20 : decode cX10_find 20 = .ok (.getfield 59, 3) := by decide +kernel
theorem dX10_find_23 : decode cX10_find 23 = .ok (.aload_n 0, 1) := by decide +kernel
theorem dX10_find_24 : decode cX10_find 24 = .ok (.getfield 45, 3) := by decide +kernel
theorem dX10_find_27 : decode cX10_find 27 = .ok (.aload_n 0, 1) := by decide +kernel
theorem dX10_find_28 : decode cX10_find 28 = .ok (.getfield 52, 3) := by decide +kernel
theorem dX10_find_31 : decode cX10_find 31 = .ok (.aload_n 0, 1) := by decide +kernel
theorem dX10_find_32 : decode cX10_find 32 = .ok (.getfield 12, 3) := by decide +kernel
theorem dX10_find_35 : decode cX10_find 35 = .ok (.getfield 91, 3) := by decide +kernel
theorem dX10_find_38 : decode cX10_find 38 = .ok (.invokevirtual 253, 3) := by decide +kernel
theorem dX10_find_41 : decode cX10_find 41 = .ok (.aload_n 0, 1) := by decide +kernel
theorem dX10_find_42 : decode cX10_find 42 = .ok (.getfield 66, 3) := by decide +kernel
theorem dX10_find_45 : decode cX10_find 45 = .ok (.aload_n 0, 1) := by decide +kernel
theorem dX10_find_46 : decode cX10_find 46 = .ok (.getfield 59, 3) := by decide +kernel
theorem dX10_find_49 : decode cX10_find 49 = .ok (.aload_n 0, 1) := by decide +kernel
theorem dX10_find_50 : decode cX10_find 50 = .ok (.getfield 52, 3) := by decide +kernel
theorem dX10_find_53 : decode cX10_find 53 = .ok (.aload_n 0, 1) := by decide +kernel
theorem dX10_find_54 : decode cX10_find 54 = .ok (.getfield 12, 3) := by decide +kernel
theorem dX10_find_57 : decode cX10_find 57 = .ok (.getfield 91, 3) := by decide +kernel
theorem dX10_find_60 : decode cX10_find 60 = .ok (.invokevirtual 257, 3) := by decide +kernel
theorem dX10_find_63 : decode cX10_find 63 = .ok (.aload_n 0, 1) := by decide +kernel
theorem dX10_find_64 : decode cX10_find 64 = .ok (.iconst 1, 1) := by decide +kernel
theorem dX10_find_65 : decode cX10_find 65 = .ok (.putfield 241, 3) := by decide +kernel
theorem dX10_find_68 : decode cX10_find 68 = .ok (.return_, 1) := by decide +kernel
set_option maxRecDepth 20000 in
theorem ggX10_choose_X2_take : GoodIn wsX10_choose wsX2_take := goodIn_r _ [11, 12, 13, 14, 15, 16, 17, 18, 19, 20, 21, 22, 23, 10, 24, 25, 26, 27, 28, 29, 30, 31, 32, 33, 34, 35, 36, 37, 38, 39, 40, 41, 42, 43, 44, 45, 46, 47, 48, 49, 50, 51, 139, 140, 141, 142, 143, 144, 145, 146, 147, 148, 149, 150, 130, 131, 132, 133, 134, 135, 136, 137, 138] (by decide +kernel) (by decide +kernel)
set_option maxRecDepth 20000 in
theorem gX10_choose_X2_take : GoodIn wsX10_choose (wsV RX10 250 RX2 yX2_take wsX2_take) := goodIn_app (goodIn_of _ (by decide +kernel)) ggX10_choose_X2_take
set_option maxRecDepth 20000 in
theorem ggX10_choose_X0_weigh : GoodIn wsX10_choose wsX0_weigh := goodIn_r _ [56, 57, 58, 59, 60, 61, 62, 63, 64, 65, 66, 67, 10, 68, 69, 70, 12, 30, 29, 32, 31, 13, 37, 38, 39, 71, 72, 73, 74, 75, 76, 55, 77, 78, 79, 80, 81, 82, 83, 84, 85, 86, 87, 88, 89, 90, 91, 92, 93, 94, 95, 96, 97, 98, 99, 100, 101, 102, 103, 104, 105, 106, 107, 108, 109, 110, 111, 112, 151, 152, 153, 139, 140, 141, 142, 143, 144, 145, 146, 147, 148, 149, 150, 154, 155, 156, 157] (by decide +kernel) (by decide +kernel)
set_option maxRecDepth 20000 in
theorem gX10_choose_X0_weigh : GoodIn wsX10_choose (wsV RX10 261 RX0 yX0_weigh wsX0_weigh) := goodIn_app (goodIn_of _ (by decide +kernel)) ggX10_choose_X0_weigh
theorem dX10_choose_0 : decode cX10_choose 0 = .ok (.aload_n 0, 1) := by decide +kernel
theorem dX10_choose_1 : decode cX10_choose 1 = .ok (.getfield 244, 3) := by decide +kernel
theorem dX10_choose_4 : decode cX10_choose 4 = .ok (.ifCond .eq 4, 3) := by decide +kernel
theorem dX10_choose_7 : decode cX10_choose 7 = .ok (.return_, 1) := by decide +kernel
theorem dX10_choose_8 : decode cX10_choose 8 = .ok (.aload_n 0, 1) := by decide +kernel
theorem dX10_choose_9 : decode cX10_choose 9 = .ok (.getfield 45, 3) := by decide +kernel
theorem dX10_choose_12 : decode cX10_choose 12 = .ok (.aload_n 0, 1) := by decide +kernel
theorem dX10_choose_13 : decode cX10_choose 13 = .ok (.getfield 12, 3) := by decide +kernel
theorem dX10_choose_16 : decode cX10_choose 16 = .ok (.invokevirtual 250, 3) := by decide +kernel
theorem dX10_choose_19 : decode cX10_choose 19 = .ok (.aload_n 0, 1) := by decide +kernel
theorem dX10_choose_20 : decode cX10_choose 20 = .ok (.getfield 73, 3) := by decide +kernel
theorem dX10_choose_23 : decode cX10_choose 23 = .ok (.aload_n 0, 1) := by decide +kernel
theorem dX10_choose_24 : decode cX10_choose 24 = .ok (.getfield 45, 3) := by decide +kernel
theorem dX10_choose_27 : decode cX10_choose 27 = .ok (.aload_n 0, 1) := by decide +kernel
theorem dX10_choose_28 : decode cX10_choose 28 = .ok (.getfield 52, 3) := by decide +kernel
theorem dX10_choose_31 : decode cX10_choose 31 = .ok (.aload_n 0, 1) := by decide +kernel
theorem dX10_choose_32 : decode cX10_choose 32 = .ok (.getfield 12, 3) := by decide +kernel
theorem dX10_choose_35 : decode cX10_choose 35 = .ok (.getfield 91, 3) := by decide +kernel
theorem dX10_choose_38 : decode cX10_choose 38 = .ok (.invokevirtual 261, 3) := by decide +kernel
theorem dX10_choose_41 : decode cX10_choose 41 = .ok (.aload_n 0, 1) := by decide +kernel
theorem dX10_choose_42 : decode cX10_choose 42 = .ok (.iconst 1, 1) := by decide +kernel
theorem dX10_choose_43 : decode cX10_choose 43 = .ok (.putfield 244, 3) := by decide +kernel
theorem dX10_choose_46 : decode cX10_choose 46 = .ok (.return_, 1) := by decide +kernel
set_option maxRecDepth 20000 in
theorem ggX10_time_X10_find : GoodIn wsX10_time wsX10_find := goodIn_r _ [10, 11, 12, 5, 3, 4, 13, 14, 15, 16, 17, 18, 19, 20, 21, 22, 23, 24, 25, 26, 27, 28, 29, 30, 31, 32, 33, 34, 35, 36, 37, 38, 39, 40, 41, 42, 43, 44, 45, 46, 47, 48, 49, 50, 51, 52, 53, 54, 55, 56, 57, 58, 59, 60, 61, 62, 63, 64, 65, 66, 67, 68, 69, 9, 70, 71, 72, 73, 74, 75, 76, 77, 78, 79, 80, 81, 82, 83, 84, 85, 86, 87, 88, 89, 90, 91, 92, 93, 94, 95, 96, 97, 98, 99, 100, 101, 102, 103, 104, 105, 106, 107, 108, 109, 110, 111, 112, 113, 114, 115, 116, 117, 118, 119, 120, 121, 122, 123, 124, 125, 126, 127, 128, 129, 130, 131, 132, 133, 134, 135, 136, 137, 138, 139, 140, 141, 142, 187, 188, 189, 190, 191, 192, 193, 194, 195, 196, 197, 198, 199, 200, 201, 202, 203, 204, 205, 206, 207, 208, 209, 210, 211, 212, 213, 214, 215, 216, 217, 218, 219, 220, 221, 222, 223, 224, 225, 226, 227, 228, 229, 230, 231, 232, 233, 234, 235, 236, 237, 238] (by decide +kernel) (by decide +kernel)
set_option maxRecDepth 20000 in
theorem gX10_time_X10_find : GoodIn wsX10_time (wsV RX10 151 RX10 yX10_find wsX10_find) := goodIn_app (goodIn_of _ (by decide +kernel)) ggX10_time_X10_find
set_option maxRecDepth 20000 in
theorem ggX10_time_X1_tell : GoodIn wsX10_time wsX1_tell := goodIn_r _ [147, 148, 149, 150, 151, 152, 153, 154, 155, 156, 146, 157, 158, 159, 160, 161, 162, 163, 164, 69, 9, 70, 71, 165, 92, 93, 94, 95, 96, 97, 98, 99, 166, 167, 168, 169, 170, 171, 172, 173, 174, 175, 100, 101, 102, 176, 177, 178, 179, 180, 181, 182, 183, 184, 185, 186, 239, 240, 241, 242, 243, 225, 226, 227, 228, 229, 230, 231, 204, 205, 206, 207, 208, 209, 210, 211, 212] (by decide +kernel) (by decide +kernel)
set_option maxRecDepth 20000 in
theorem gX10_time_X1_tell : GoodIn wsX10_time (wsV RX10 263 RX1 yX1_tell wsX1_tell) := goodIn_app (goodIn_of _ (by decide +kernel)) ggX10_time_X1_tell
theorem dX10_time_0 : decode cX10_time 0 = .ok (.aload_n 0, 1) := by decide +kernel
theorem dX10_time_1 : decode cX10_time 1 = .ok (.getfield 222, 3) := by decide +kernel
theorem dX10_time_4 : decode cX10_time 4 = .ok (.ifCond .eq 4, 3) := by decide +kernel
theorem dX10_time_7 : decode cX10_time 7 = .ok (.return_, 1) := by decide +kernel
theorem dX10_time_8 : decode cX10_time 8 = .ok (.aload_n 0, 1) := by decide +kernel
theorem dX10_time_9 : decode cX10_time 9 = .ok (.invokevirtual 151, 3) := by decide +kernel
theorem dX10_time_12 : decode cX10_time 12 = .ok (.aload_n 0, 1) := by decide +kernel
theorem dX10_time_13 : decode cX10_time 13 = .ok (.getfield 80, 3) := by decide +kernel
theorem dX10_time_16 : decode cX10_time 16 = .ok (.aload_n 0, 1) := by decide +kernel
theorem dX10_time_17 : decode cX10_time 17 = .ok (.getfield 59, 3) := by decide +kernel
theorem dX10_time_20 : decode cX10_time 20 = .ok (.aload_n 0, 1) := by decide +kernel
theorem dX10_time_21 : decode cX10_time 21 = .ok (.getfield 52, 3) := by decide +kernel
theorem dX10_time_24 : decode cX10_time 24 = .ok (.aload_n 0, 1) := by decide +kernel
theorem dX10_time_25 : decode cX10_time 25 = .ok (.getfield 12, 3) := by decide +kernel
theorem dX10_time_28 : decode cX10_time 28 = .ok (.invokevirtual 263, 3) := by decide +kernel
theorem dX10_time_31 : decode cX10_time 31 = .ok (.aload_n 0, 1) := by decide +kernel
theorem dX10_time_32 : decode cX10_time 32 = .ok (.iconst 1, 1) := by decide +kernel
theorem dX10_time_33 : decode cX10_time 33 = .ok (.putfield 222, 3) := by decide +kernel
theorem dX10_time_36 : decode cX10_time 36 = .ok (.return_, 1) := by decide +kernel
set_option maxRecDepth 20000 in
theorem ggX10_pair_X2_take : GoodIn wsX10_pair wsX2_take := goodIn_r _ [10, 11, 12, 13, 14, 15, 16, 17, 18, 19, 20, 21, 22, 9, 23, 24, 25, 26, 27, 28, 29, 30, 31, 32, 33, 34, 35, 36, 37, 38, 39, 40, 41, 42, 43, 44, 45, 46, 47, 48, 49, 50, 155, 156, 157, 158, 159, 160, 161, 162, 163, 164, 165, 166, 167, 168, 169, 170, 171, 172, 173, 174, 175] (by decide +kernel) (by decide +kernel)
set_option maxRecDepth 20000 in
theorem gX10_pair_X2_take : GoodIn wsX10_pair (wsV RX10 250 RX2 yX2_take wsX2_take) := goodIn_app (goodIn_of _ (by decide +kernel)) ggX10_pair_X2_take
set_option maxRecDepth 20000 in
theorem ggX10_pair_X5_seek : GoodIn wsX10_pair wsX5_seek := goodIn_r _ [55, 56, 57, 58, 59, 60, 61, 62, 54, 63, 64, 65, 66, 67, 68, 69, 70, 71, 72, 73, 74, 75, 76, 77, 78, 79, 9, 80, 19, 11, 81, 82, 83, 84, 43, 44, 45, 46, 24, 25, 26, 27, 28, 29, 30, 31, 85, 86, 87, 88, 89, 90, 91, 92, 93, 94, 95, 96, 97, 98, 99, 100, 101, 102, 103, 12, 36, 37, 38, 104, 105, 106, 107, 108, 109, 110, 111, 112, 113, 114, 115, 116, 117, 118, 119, 120, 121, 122, 123, 124, 125, 126, 127, 128, 129, 130, 131, 132, 133, 134, 135, 136, 137, 176, 177, 178, 179, 180, 181, 182, 183, 167, 168, 169, 170, 171, 172, 173, 174, 175, 155, 156, 157, 158, 159, 160, 161, 162, 163, 164, 165, 166, 184, 185, 186, 187, 188, 189, 190] (by decide +kernel) (by decide +kernel)
set_option maxRecDepth 20000 in
theorem gX10_pair_X5_seek : GoodIn wsX10_pair (wsV RX10 267 RX5 yX5_seek wsX5_seek) := goodIn_app (goodIn_of _ (by decide +kernel)) ggX10_pair_X5_seek
theorem dX10_pair_0 : decode cX10_pair 0 = .ok (.aload_n 0, 1) := by decide +kernel
theorem dX10_pair_1 : decode cX10_pair 1 = .ok (.getfield 247, 3) := by decide +kernel
theorem dX10_pair_4 : decode cX10_pair 4 = .ok (.ifCond .eq 4, 3) := by decide +kernel
theorem dX10_pair_7 : decode cX10_pair 7 = .ok (.return_, 1) := by decide +kernel
theorem dX10_pair_8 : decode cX10_pair 8 = .ok (.aload_n 0, 1) := by decide +kernel
theorem dX10_pair_9 : decode cX10_pair 9 = .ok (.getfield 45, 3) := by decide +kernel
theorem dX10_pair_12 : decode cX10_pair 12 = .ok (.aload_n 0, 1) := by decide +kernel
theorem dX10_pair_13 : decode cX10_pair 13 = .ok (.getfield 12, 3) := by decide +kernel
theorem dX10_pair_16 : decode cX10_pair 16 = .ok (.invokevirtual 250, 3) := by decide +kernel
theorem dX10_pair_19 : decode cX10_pair 19 = .ok (.aload_n 0, 1) := by decide +kernel
theorem dX10_pair_20 : decode cX10_pair 20 = .ok (.getfield 87, 3) := by decide +kernel
theorem dX10_pair_23 : decode cX10_pair 23 = .ok (.aload_n 0, 1) := by decide +kernel
theorem dX10_pair_24 : decode cX10_pair 24 = .ok (.getfield 12, 3) := by decide +kernel
theorem dX10_pair_27 : decode cX10_pair 27 = .ok (.aload_n 0, 1) := by decide +kernel
theorem dX10_pair_28 : decode cX10_pair 28 = .ok (.getfield 45, 3) := by decide +kernel
theorem dX10_pair_31 : decode cX10_pair 31 = .ok (.aload_n 0, 1) := by decide +kernel
theorem dX10_pair_32 : decode cX10_pair 32 = .ok (.getfield 52, 3) := by decide +kernel
theorem dX10_pair_35 : decode cX10_pair 35 = .ok (.invokevirtual 267, 3) := by decide +kernel
theorem dX10_pair_38 : decode cX10_pair 38 = .ok (.aload_n 0, 1) := by decide +kernel
theorem dX10_pair_39 : decode cX10_pair 39 = .ok (.iconst 1, 1) := by decide +kernel
theorem dX10_pair_40 : decode cX10_pair 40 = .ok (.putfield 247, 3) := by decide +kernel
theorem dX10_pair_43 : decode cX10_pair 43 = .ok (.return_, 1) := by decide +kernel
theorem dX10_setAt_0 : decode cX10_setAt 0 = .ok (.getstatic 271, 3) := by decide +kernel
theorem dX10_setAt_3 : decode cX10_setAt 3 = .ok (.iload_n 0, 1) := by decide +kernel
theorem dX10_setAt_4 : decode cX10_setAt 4 = .ok (.bipush 27, 2) := by decide +kernel
theorem dX10_setAt_6 : decode cX10_setAt 6 = .ok (.irem, 1) := by decide +kernel
theorem dX10_setAt_7 : decode cX10_setAt 7 = .ok (.iaload, 1) := by decide +kernel
theorem dX10_setAt_8 : decode cX10_setAt 8 = .ok (.getstatic 271, 3) := by decide +kernel
theorem dX10_setAt_11 : decode cX10_setAt 11 = .ok (.iload_n 0, 1) := by decide +kernel
theorem dX10_setAt_12 : decode cX10_setAt 12 = .ok (.bipush 27, 2) := by decide +kernel
theorem dX10_setAt_14 : decode cX10_setAt 14 = .ok (.idiv, 1) := by decide +kernel
theorem dX10_setAt_15 : decode cX10_setAt 15 = .ok (.iaload, 1) := by decide +kernel
theorem dX10_setAt_16 : decode cX10_setAt 16 = .ok (.bipush 6, 2) := by decide +kernel
theorem dX10_setAt_18 : decode cX10_setAt 18 = .ok (.ishl, 1) := by decide +kernel
theorem dX10_setAt_19 : decode cX10_setAt 19 = .ok (.ior, 1) := by decide +kernel
theorem dX10_setAt_20 : decode cX10_setAt 20 = .ok (.ireturn, 1) := by decide +kernel
theorem dX10_placeOf_0 : decode cX10_placeOf 0 = .ok (.getstatic 274, 3) := by decide +kernel
theorem dX10_placeOf_3 : decode cX10_placeOf 3 = .ok (.iload_n 0, 1) := by decide +kernel
theorem dX10_placeOf_4 : decode cX10_placeOf 4 = .ok (.bipush 63, 2) := by decide +kernel
theorem dX10_placeOf_6 : decode cX10_placeOf 6 = .ok (.iand, 1) := by decide +kernel
theorem dX10_placeOf_7 : decode cX10_placeOf 7 = .ok (.iaload, 1) := by decide +kernel
theorem dX10_placeOf_8 : decode cX10_placeOf 8 = .ok (.bipush 27, 2) := by decide +kernel
theorem dX10_placeOf_10 : decode cX10_placeOf 10 = .ok (.getstatic 274, 3) := by decide +kernel
theorem dX10_placeOf_13 : decode cX10_placeOf 13 = .ok (.iload_n 0, 1) := by decide +kernel
theorem dX10_placeOf_14 : decode cX10_placeOf 14 = .ok (.bipush 6, 2) := by decide +kernel
theorem dX10_placeOf_16 : decode cX10_placeOf 16 = .ok (.ishr, 1) := by decide +kernel
theorem dX10_placeOf_17 : decode cX10_placeOf 17 = .ok (.bipush 63, 2) := by decide +kernel
theorem dX10_placeOf_19 : decode cX10_placeOf 19 = .ok (.iand, 1) := by decide +kernel
theorem dX10_placeOf_20 : decode cX10_placeOf 20 = .ok (.iaload, 1) := by decide +kernel
theorem dX10_placeOf_21 : decode cX10_placeOf 21 = .ok (.imul, 1) := by decide +kernel
theorem dX10_placeOf_22 : decode cX10_placeOf 22 = .ok (.iadd, 1) := by decide +kernel
theorem dX10_placeOf_23 : decode cX10_placeOf 23 = .ok (.ireturn, 1) := by decide +kernel
theorem dX10_wordOf_0 : decode cX10_wordOf 0 = .ok (.iload_n 0, 1) := by decide +kernel
theorem dX10_wordOf_1 : decode cX10_wordOf 1 = .ok (.tableswitch 103 0 10 #[59, 63, 67, 71, 75, 79, 83, 87, 91, 95, 99], 59) := by decide +kernel
theorem dX10_wordOf_60 : decode cX10_wordOf 60 = .ok (.ldc_w 277, 3) := by decide +kernel
theorem dX10_wordOf_63 : decode cX10_wordOf 63 = .ok (.areturn, 1) := by decide +kernel
theorem dX10_wordOf_64 : decode cX10_wordOf 64 = .ok (.ldc_w 279, 3) := by decide +kernel
theorem dX10_wordOf_67 : decode cX10_wordOf 67 = .ok (.areturn, 1) := by decide +kernel
theorem dX10_wordOf_68 : decode cX10_wordOf 68 = .ok (.ldc_w 281, 3) := by decide +kernel
theorem dX10_wordOf_71 : decode cX10_wordOf 71 = .ok (.areturn, 1) := by decide +kernel
theorem dX10_wordOf_72 : decode cX10_wordOf 72 = .ok (.ldc_w 283, 3) := by decide +kernel
theorem dX10_wordOf_75 : decode cX10_wordOf 75 = .ok (.areturn, 1) := by decide +kernel
theorem dX10_wordOf_76 : decode cX10_wordOf 76 = .ok (.ldc_w 285, 3) := by decide +kernel
theorem dX10_wordOf_79 : decode cX10_wordOf 79 = .ok (.areturn, 1) := by decide +kernel
theorem dX10_wordOf_80 : decode cX10_wordOf 80 = .ok (.ldc_w 287, 3) := by decide +kernel
theorem dX10_wordOf_83 : decode cX10_wordOf 83 = .ok (.areturn, 1) := by decide +kernel
theorem dX10_wordOf_84 : decode cX10_wordOf 84 = .ok (.ldc_w 289, 3) := by decide +kernel
theorem dX10_wordOf_87 : decode cX10_wordOf 87 = .ok (.areturn, 1) := by decide +kernel
theorem dX10_wordOf_88 : decode cX10_wordOf 88 = .ok (.ldc_w 291, 3) := by decide +kernel
theorem dX10_wordOf_91 : decode cX10_wordOf 91 = .ok (.areturn, 1) := by decide +kernel
theorem dX10_wordOf_92 : decode cX10_wordOf 92 = .ok (.ldc_w 293, 3) := by decide +kernel
theorem dX10_wordOf_95 : decode cX10_wordOf 95 = .ok (.areturn, 1) := by decide +kernel
theorem dX10_wordOf_96 : decode cX10_wordOf 96 = .ok (.ldc_w 294, 3) := by decide +kernel
theorem dX10_wordOf_99 : decode cX10_wordOf 99 = .ok (.areturn, 1) := by decide +kernel
theorem dX10_wordOf_100 : decode cX10_wordOf 100 = .ok (.ldc_w 296, 3) := by decide +kernel
theorem dX10_wordOf_103 : decode cX10_wordOf 103 = .ok (.areturn, 1) := by decide +kernel
theorem dX10_wordOf_104 : decode cX10_wordOf 104 = .ok (.ldc_w 297, 3) := by decide +kernel
theorem dX10_wordOf_107 : decode cX10_wordOf 107 = .ok (.areturn, 1) := by decide +kernel
set_option maxRecDepth 20000 in
theorem ggX11_init_X11_clean : GoodIn wsX11_init wsX11_clean := goodIn_r _ [28, 6, 29, 30, 27, 31, 32, 33, 34, 35, 36, 37, 38, 39, 40, 41, 42, 43, 44, 45, 46, 47, 48, 49, 50, 51, 52, 53, 54, 55, 56, 57, 58, 59] (by decide +kernel) (by decide +kernel)
set_option maxRecDepth 20000 in
theorem gX11_init_X11_clean : GoodIn wsX11_init (wsV RX11 63 RX11 yX11_clean wsX11_clean) := goodIn_app (goodIn_of _ (by decide +kernel)) ggX11_init_X11_clean
theorem dX11_init_0 : decode cX11_init 0 = .ok (.aload_n 0, 1) := by decide +kernel
theorem dX11_init_1 : decode cX11_init 1 = .ok (.invokespecial 1, 3) := by decide +kernel
theorem dX11_init_4 : decode cX11_init 4 = .ok (.aload_n 0, 1) := by decide +kernel
theorem dX11_init_5 : decode cX11_init 5 = .ok (.bipush 58, 2) := by decide +kernel
theorem dX11_init_7 : decode cX11_init 7 = .ok (.newarray .int, 2) := by decide +kernel
theorem dX11_init_9 : decode cX11_init 9 = .ok (.putfield 7, 3) := by decide +kernel
theorem dX11_init_12 : decode cX11_init 12 = .ok (.aload_n 0, 1) := by decide +kernel
theorem dX11_init_13 : decode cX11_init 13 = .ok (.bipush 58, 2) := by decide +kernel
theorem dX11_init_15 : decode cX11_init 15 = .ok (.newarray .int, 2) := by decide +kernel
theorem dX11_init_17 : decode cX11_init 17 = .ok (.putfield 13, 3) := by decide +kernel
theorem dX11_init_20 : decode cX11_init 20 = .ok (.aload_n 0, 1) := by decide +kernel
theorem dX11_init_21 : decode cX11_init 21 = .ok (.bipush 116, 2) := by decide +kernel
theorem dX11_init_23 : decode cX11_init 23 = .ok (.newarray .int, 2) := by decide +kernel
theorem dX11_init_25 : decode cX11_init 25 = .ok (.putfield 16, 3) := by decide +kernel
theorem dX11_init_28 : decode cX11_init 28 = .ok (.aload_n 0, 1) := by decide +kernel
theorem dX11_init_29 : decode cX11_init 29 = .ok (.iconst 2, 1) := by decide +kernel
theorem dX11_init_30 : decode cX11_init 30 = .ok (.newarray .boolean, 2) := by decide +kernel
theorem dX11_init_32 : decode cX11_init 32 = .ok (.putfield 19, 3) := by decide +kernel
theorem dX11_init_35 : decode cX11_init 35 = .ok (.aload_n 0, 1) := by decide +kernel
theorem dX11_init_36 : decode cX11_init 36 = .ok (.sipush 200, 3) := by decide +kernel
theorem dX11_init_39 : decode cX11_init 39 = .ok (.newarray .int, 2) := by decide +kernel
theorem dX11_init_41 : decode cX11_init 41 = .ok (.putfield 23, 3) := by decide +kernel
theorem dX11_init_44 : decode cX11_init 44 = .ok (.aload_n 0, 1) := by decide +kernel
theorem dX11_init_45 : decode cX11_init 45 = .ok (.iconst 3, 1) := by decide +kernel
theorem dX11_init_46 : decode cX11_init 46 = .ok (.newarray .int, 2) := by decide +kernel
theorem dX11_init_48 : decode cX11_init 48 = .ok (.putfield 26, 3) := by decide +kernel
theorem dX11_init_51 : decode cX11_init 51 = .ok (.aload_n 0, 1) := by decide +kernel
theorem dX11_init_52 : decode cX11_init 52 = .ok (.bipush 6, 2) := by decide +kernel
theorem dX11_init_54 : decode cX11_init 54 = .ok (.newarray .int, 2) := by decide +kernel
theorem dX11_init_56 : decode cX11_init 56 = .ok (.putfield 29, 3) := by decide +kernel
theorem dX11_init_59 : decode cX11_init 59 = .ok (.aload_n 0, 1) := by decide +kernel
theorem dX11_init_60 : decode cX11_init 60 = .ok (.sipush 4096, 3) := by decide +kernel
theorem dX11_init_63 : decode cX11_init 63 = .ok (.newarray .long, 2) := by decide +kernel
theorem dX11_init_65 : decode cX11_init 65 = .ok (.putfield 32, 3) := by decide +kernel
theorem dX11_init_68 : decode cX11_init 68 = .ok (.aload_n 0, 1) := by decide +kernel
theorem dX11_init_69 : decode cX11_init 69 = .ok (.sipush 4096, 3) := by decide +kernel
theorem dX11_init_72 : decode cX11_init 72 = .ok (.newarray .long, 2) := by decide +kernel
theorem dX11_init_74 : decode cX11_init 74 = .ok (.putfield 36, 3) := by decide +kernel
theorem dX11_init_77 : decode cX11_init 77 = .ok (.aload_n 0, 1) := by decide +kernel
theorem dX11_init_78 : decode cX11_init 78 = .ok (.bipush 12, 2) := by decide +kernel
theorem dX11_init_80 : decode cX11_init 80 = .ok (.newarray .int, 2) := by decide +kernel
theorem dX11_init_82 : decode cX11_init 82 = .ok (.putfield 39, 3) := by decide +kernel
theorem dX11_init_85 : decode cX11_init 85 = .ok (.aload_n 0, 1) := by decide +kernel
theorem dX11_init_86 : decode cX11_init 86 = .ok (.bipush 12, 2) := by decide +kernel
theorem dX11_init_88 : decode cX11_init 88 = .ok (.newarray .int, 2) := by decide +kernel
theorem dX11_init_90 : decode cX11_init 90 = .ok (.putfield 42, 3) := by decide +kernel
theorem dX11_init_93 : decode cX11_init 93 = .ok (.aload_n 0, 1) := by decide +kernel
theorem dX11_init_94 : decode cX11_init 94 = .ok (.sipush 144, 3) := by decide +kernel
theorem dX11_init_97 : decode cX11_init 97 = .ok (.newarray .long, 2) := by decide +kernel
theorem dX11_init_99 : decode cX11_init 99 = .ok (.putfield 45, 3) := by decide +kernel
theorem dX11_init_102 : decode cX11_init 102 = .ok (.aload_n 0, 1) := by decide +kernel
theorem dX11_init_103 : decode cX11_init 103 = .ok (.sipush 144, 3) := by decide +kernel
theorem dX11_init_106 : decode cX11_init 106 = .ok (.newarray .long, 2) := by decide +kernel
theorem dX11_init_108 : decode cX11_init 108 = .ok (.putfield 48, 3) := by decide +kernel
theorem dX11_init_111 : decode cX11_init 111 = .ok (.aload_n 0, 1) := by decide +kernel
theorem dX11_init_112 : decode cX11_init 112 = .ok (.bipush 6, 2) := by decide +kernel
theorem dX11_init_114 : decode cX11_init 114 = .ok (.newarray .int, 2) := by decide +kernel
theorem dX11_init_116 : decode cX11_init 116 = .ok (.putfield 51, 3) := by decide +kernel
theorem dX11_init_119 : decode cX11_init 119 = .ok (.aload_n 0, 1) := by decide +kernel
theorem dX11_init_120 : decode cX11_init 120 = .ok (.bipush 6, 2) := by decide +kernel
theorem dX11_init_122 : decode cX11_init 122 = .ok (.newarray .int, 2) := by decide +kernel
theorem dX11_init_124 : decode cX11_init 124 = .ok (.putfield 54, 3) := by decide +kernel
theorem dX11_init_127 : decode cX11_init 127 = .ok (.aload_n 0, 1) := by decide +kernel
theorem dX11_init_128 : decode cX11_init 128 = .ok (.sipush 4096, 3) := by decide +kernel
theorem dX11_init_131 : decode cX11_init 131 = .ok (.newarray .int, 2) := by decide +kernel
theorem dX11_init_133 : decode cX11_init 133 = .ok (.putfield 57, 3) := by decide +kernel
theorem dX11_init_136 : decode cX11_init 136 = .ok (.aload_n 0, 1) := by decide +kernel
theorem dX11_init_137 : decode cX11_init 137 = .ok (.sipush 4096, 3) := by decide +kernel
theorem dX11_init_140 : decode cX11_init 140 = .ok (.newarray .int, 2) := by decide +kernel
theorem dX11_init_142 : decode cX11_init 142 = .ok (.putfield 60, 3) := by decide +kernel
theorem dX11_init_145 : decode cX11_init 145 = .ok (.aload_n 0, 1) := by decide +kernel
theorem dX11_init_146 : decode cX11_init 146 = .ok (.invokevirtual 63, 3) := by decide +kernel
theorem dX11_init_149 : decode cX11_init 149 = .ok (.iconst 0, 1) := by decide +kernel
theorem dX11_init_150 : decode cX11_init 150 = .ok (.istore_n 1, 1) := by decide +kernel
theorem dX11_init_151 : decode cX11_init 151 = .ok (.iload_n 1, 1) := by decide +kernel
theorem dX11_init_152 : decode cX11_init 152 = .ok (.bipush 58, 2) := by decide +kernel
theorem dX11_init_154 : decode cX11_init 154 = .ok (.if_icmp .ge 21, 3) := by decide +kernel
theorem dX11_init_157 : decode cX11_init 157 = .ok (.aload_n 0, 1) := by decide +kernel
theorem dX11_init_158 : decode cX11_init 158 = .ok (.getfield 7, 3) := by decide +kernel
theorem dX11_init_161 : decode cX11_init 161 = .ok (.iload_n 1, 1) := by decide +kernel
theorem dX11_init_162 : decode cX11_init 162 = .ok (.aload_n 0, 1) := by decide +kernel
theorem dX11_init_163 : decode cX11_init 163 = .ok (.getfield 13, 3) := by decide +kernel
theorem dX11_init_166 : decode cX11_init 166 = .ok (.iload_n 1, 1) := by decide +kernel
theorem dX11_init_167 : decode cX11_init 167 = .ok (.iaload, 1) := by decide +kernel
theorem dX11_init_168 : decode cX11_init 168 = .ok (.iastore, 1) := by decide +kernel
theorem dX11_init_169 : decode cX11_init 169 = .ok (.iinc 1 1, 3) := by decide +kernel
theorem dX11_init_172 : decode cX11_init 172 = .ok (.goto (-21), 3) := by decide +kernel
theorem dX11_init_175 : decode cX11_init 175 = .ok (.return_, 1) := by decide +kernel
theorem dX11_in_0 : decode cX11_in 0 = .ok (.iload_n 0, 1) := by decide +kernel
theorem dX11_in_1 : decode cX11_in 1 = .ok (.iload_n 1, 1) := by decide +kernel
theorem dX11_in_2 : decode cX11_in 2 = .ok (.if_icmp .lt 12, 3) := by decide +kernel
theorem dX11_in_5 : decode cX11_in 5 = .ok (.iload_n 0, 1) := by decide +kernel
theorem dX11_in_6 : decode cX11_in 6 = .ok (.iload_n 2, 1) := by decide +kernel
theorem dX11_in_7 : decode cX11_in 7 = .ok (.if_icmp .gt 7, 3) := by decide +kernel
theorem dX11_in_10 : decode cX11_in 10 = .ok (.iconst 1, 1) := by decide +kernel
theorem dX11_in_11 : decode cX11_in 11 = .ok (.goto 4, 3) := by decide +kernel
theorem dX11_in_14 : decode cX11_in 14 = .ok (.iconst 0, 1) := by decide +kernel
theorem dX11_in_15 : decode cX11_in 15 = .ok (.ireturn, 1) := by decide +kernel
theorem dX11_refuses_0 : decode cX11_refuses 0 = .ok (.aload_n 0, 1) := by decide +kernel
theorem dX11_refuses_1 : decode cX11_refuses 1 = .ok (.getfield 26, 3) := by decide +kernel
theorem dX11_refuses_4 : decode cX11_refuses 4 = .ok (.iload_n 1, 1) := by decide +kernel
theorem dX11_refuses_5 : decode cX11_refuses 5 = .ok (.dup2, 1) := by decide +kernel
theorem dX11_refuses_6 : decode cX11_refuses 6 = .ok (.iaload, 1) := by decide +kernel
theorem dX11_refuses_7 : decode cX11_refuses 7 = .ok (.iconst 1, 1) := by decide +kernel
theorem dX11_refuses_8 : decode cX11_refuses 8 = .ok (.iadd, 1) := by decide +kernel
theorem dX11_refuses_9 : decode cX11_refuses 9 = .ok (.iastore, 1) := by decide +kernel
theorem dX11_refuses_10 : decode cX11_refuses 10 = .ok (.iload_n 2, 1) := by decide +kernel
theorem dX11_refuses_11 : decode cX11_refuses 11 = .ok (.ireturn, 1) := by decide +kernel
set_option maxRecDepth 20000 in
theorem ggX11_bad_X11_refuses : GoodIn wsX11_bad wsX11_refuses := goodIn_r _ [5, 6, 7, 8, 9, 10, 11, 12, 13, 14, 15, 16, 17, 18, 19, 20, 21, 22, 23, 24, 25, 26, 27, 28, 29, 30, 31, 32, 33, 34] (by decide +kernel) (by decide +kernel)
set_option maxRecDepth 20000 in
theorem gX11_bad_X11_refuses : GoodIn wsX11_bad (wsV RX11 66 RX11 yX11_refuses wsX11_refuses) := goodIn_app (goodIn_of _ (by decide +kernel)) ggX11_bad_X11_refuses
theorem dX11_bad_0 : decode cX11_bad 0 = .ok (.aload_n 0, 1) := by decide +kernel
theorem dX11_bad_1 : decode cX11_bad 1 = .ok (.iconst 0, 1) := by decide +kernel
theorem dX11_bad_2 : decode cX11_bad 2 = .ok (.bipush (-2), 2) := by decide +kernel
theorem dX11_bad_4 : decode cX11_bad 4 = .ok (.invokevirtual 66, 3) := by decide +kernel
theorem dX11_bad_7 : decode cX11_bad 7 = .ok (.ireturn, 1) := by decide +kernel
set_option maxRecDepth 20000 in
theorem ggX11_isThing_X11_in : GoodIn wsX11_isThing wsX11_in := goodIn_r _ [5] (by decide +kernel) (by decide +kernel)
set_option maxRecDepth 20000 in
theorem gX11_isThing_X11_in : GoodIn wsX11_isThing (va_wsS RX11 70 yX11_in wsX11_in) := goodIn_app (goodIn_of _ (by decide +kernel)) ggX11_isThing_X11_in
theorem dX11_isThing_0 : decode cX11_isThing 0 = .ok (.iload_n 1, 1) := by decide +kernel
theorem dX11_isThing_1 : decode cX11_isThing 1 = .ok (.iconst 0, 1) := by decide +kernel
theorem dX11_isThing_2 : decode cX11_isThing 2 = .ok (.aload_n 0, 1) := by decide +kernel
theorem dX11_isThing_3 : decode cX11_isThing 3 = .ok (.getfield 7, 3) := by decide +kernel
theorem dX11_isThing_6 : decode cX11_isThing 6 = .ok (.iconst 0, 1) := by decide +kernel
theorem dX11_isThing_7 : decode cX11_isThing 7 = .ok (.iaload, 1) := by decide +kernel
theorem dX11_isThing_8 : decode cX11_isThing 8 = .ok (.iconst 1, 1) := by decide +kernel
theorem dX11_isThing_9 : decode cX11_isThing 9 = .ok (.isub, 1) := by decide +kernel
theorem dX11_isThing_10 : decode cX11_isThing 10 = .ok (.invokestatic 70, 3) := by decide +kernel
theorem dX11_isThing_13 : decode cX11_isThing 13 = .ok (.ireturn, 1) := by decide +kernel
set_option maxRecDepth 20000 in
theorem ggX11_isEnd_X11_in : GoodIn wsX11_isEnd wsX11_in := goodIn_r _ [5] (by decide +kernel) (by decide +kernel)
set_option maxRecDepth 20000 in
theorem gX11_isEnd_X11_in : GoodIn wsX11_isEnd (va_wsS RX11 70 yX11_in wsX11_in) := goodIn_app (goodIn_of _ (by decide +kernel)) ggX11_isEnd_X11_in
theorem dX11_isEnd_0 : decode cX11_isEnd 0 = .ok (.iload_n 1, 1) := by decide +kernel
theorem dX11_isEnd_1 : decode cX11_isEnd 1 = .ok (.iconst 0, 1) := by decide +kernel
theorem dX11_isEnd_2 : decode cX11_isEnd 2 = .ok (.iconst 2, 1) := by decide +kernel
theorem dX11_isEnd_3 : decode cX11_isEnd 3 = .ok (.aload_n 0, 1) := by decide +kernel
theorem dX11_isEnd_4 : decode cX11_isEnd 4 = .ok (.getfield 7, 3) := by decide +kernel
theorem dX11_isEnd_7 : decode cX11_isEnd 7 = .ok (.iconst 0, 1) := by decide +kernel
theorem dX11_isEnd_8 : decode cX11_isEnd 8 = .ok (.iaload, 1) := by decide +kernel
theorem dX11_isEnd_9 : decode cX11_isEnd 9 = .ok (.imul, 1) := by decide +kernel
theorem dX11_isEnd_10 : decode cX11_isEnd 10 = .ok (.iconst 1, 1) := by decide +kernel
theorem dX11_isEnd_11 : decode cX11_isEnd 11 = .ok (.isub, 1) := by decide +kernel
theorem dX11_isEnd_12 : decode cX11_isEnd 12 = .ok (.invokestatic 70, 3) := by decide +kernel
theorem dX11_isEnd_15 : decode cX11_isEnd 15 = .ok (.ireturn, 1) := by decide +kernel
set_option maxRecDepth 20000 in
theorem ggX11_clean_X11_in : GoodIn wsX11_clean wsX11_in := goodIn_r _ [5] (by decide +kernel) (by decide +kernel)
set_option maxRecDepth 20000 in
theorem gX11_clean_X11_in : GoodIn wsX11_clean (va_wsS RX11 70 yX11_in wsX11_in) := goodIn_app (goodIn_of _ (by decide +kernel)) ggX11_clean_X11_in
theorem dX11_clean_0 : decode cX11_clean 0 = .ok (.iconst 0, 1) := by decide +kernel
theorem dX11_clean_1 : decode cX11_clean 1 = .ok (.istore_n 1, 1) := by decide +kernel
theorem dX11_clean_2 : decode cX11_clean 2 = .ok (.iload_n 1, 1) := by decide +kernel
theorem dX11_clean_3 : decode cX11_clean 3 = .ok (.bipush 58, 2) := by decide +kernel
theorem dX11_clean_5 : decode cX11_clean 5 = .ok (.if_icmp .ge 36, 3) := by decide +kernel
theorem dX11_clean_8 : decode cX11_clean 8 = .ok (.aload_n 0, 1) := by decide +kernel
theorem dX11_clean_9 : decode cX11_clean 9 = .ok (.getfield 13, 3) := by decide +kernel
theorem dX11_clean_12 : decode cX11_clean 12 = .ok (.iload_n 1, 1) := by decide +kernel
theorem dX11_clean_13 : decode cX11_clean 13 = .ok (.iload_n 1, 1) := by decide +kernel
theorem dX11_clean_14 : decode cX11_clean 14 = .ok (.iconst 2, 1) := by decide +kernel
theorem dX11_clean_15 : decode cX11_clean 15 = .ok (.bipush 7, 2) := by decide +kernel
theorem dX11_clean_17 : decode cX11_clean 17 = .ok (.invokestatic 70, 3) := by decide +kernel
theorem dX11_clean_20 : decode cX11_clean 20 = .ok (.ifCond .ne 9, 3) := by decide +kernel
theorem dX11_clean_23 : decode cX11_clean 23 = .ok (.iload_n 1, 1) := by decide +kernel
theorem dX11_clean_24 : decode cX11_clean 24 = .ok (.bipush 46, 2) := by decide +kernel
theorem dX11_clean_26 : decode cX11_clean 26 = .ok (.if_icmp .lt 7, 3) := by decide +kernel
theorem dX11_clean_29 : decode cX11_clean 29 = .ok (.iconst (-1), 1) := by decide +kernel
theorem dX11_clean_30 : decode cX11_clean 30 = .ok (.goto 4, 3) := by decide +kernel
theorem dX11_clean_33 : decode cX11_clean 33 = .ok (.iconst 0, 1) := by decide +kernel
theorem dX11_clean_34 : decode cX11_clean 34 = .ok (.iastore, 1) := by decide +kernel
theorem dX11_clean_35 : decode cX11_clean 35 = .ok (.iinc 1 1, 3) := by decide +kernel
theorem dX11_clean_38 : decode cX11_clean 38 = .ok (.goto (-36), 3) := by decide +kernel
theorem dX11_clean_41 : decode cX11_clean 41 = .ok (.return_, 1) := by decide +kernel
set_option maxRecDepth 20000 in
theorem ggX11_thing_X11_refuses : GoodIn wsX11_thing wsX11_refuses := goodIn_r _ [6, 7, 8, 9, 10, 11, 12, 13, 14, 15, 16, 17, 18, 19, 20, 21, 22, 23, 24, 25, 26, 27, 28, 29, 30, 31, 32, 33, 34, 35] (by decide +kernel) (by decide +kernel)
set_option maxRecDepth 20000 in
theorem gX11_thing_X11_refuses : GoodIn wsX11_thing (wsV RX11 66 RX11 yX11_refuses wsX11_refuses) := goodIn_app (goodIn_of _ (by decide +kernel)) ggX11_thing_X11_refuses
theorem dX11_thing_0 : decode cX11_thing 0 = .ok (.aload_n 0, 1) := by decide +kernel
theorem dX11_thing_1 : decode cX11_thing 1 = .ok (.getfield 7, 3) := by decide +kernel
theorem dX11_thing_4 : decode cX11_thing 4 = .ok (.iconst 0, 1) := by decide +kernel
theorem dX11_thing_5 : decode cX11_thing 5 = .ok (.iaload, 1) := by decide +kernel
theorem dX11_thing_6 : decode cX11_thing 6 = .ok (.bipush 6, 2) := by decide +kernel
theorem dX11_thing_8 : decode cX11_thing 8 = .ok (.if_icmp .ne 11, 3) := by decide +kernel
theorem dX11_thing_11 : decode cX11_thing 11 = .ok (.aload_n 0, 1) := by decide +kernel
theorem dX11_thing_12 : decode cX11_thing 12 = .ok (.iconst 2, 1) := by decide +kernel
theorem dX11_thing_13 : decode cX11_thing 13 = .ok (.bipush (-4), 2) := by decide +kernel
theorem dX11_thing_15 : decode cX11_thing 15 = .ok (.invokevirtual 66, 3) := by decide +kernel
theorem dX11_thing_18 : decode cX11_thing 18 = .ok (.ireturn, 1) := by decide +kernel
theorem dX11_thing_19 : decode cX11_thing 19 = .ok (.aload_n 0, 1) := by decide +kernel
theorem dX11_thing_20 : decode cX11_thing 20 = .ok (.getfield 7, 3) := by decide +kernel
theorem dX11_thing_23 : decode cX11_thing 23 = .ok (.iconst 0, 1) := by decide +kernel
theorem dX11_thing_24 : decode cX11_thing 24 = .ok (.dup2, 1) := by decide +kernel
theorem dX11_thing_25 : decode cX11_thing 25 = .ok (.iaload, 1) := by decide +kernel
theorem dX11_thing_26 : decode cX11_thing 26 = .ok (.iconst 1, 1) := by decide +kernel
theorem dX11_thing_27 : decode cX11_thing 27 = .ok (.iadd, 1) := by decide +kernel
theorem dX11_thing_28 : decode cX11_thing 28 = .ok (.iastore, 1) := by decide +kernel
theorem dX11_thing_29 : decode cX11_thing 29 = .ok (.aload_n 0, 1) := by decide +kernel
theorem dX11_thing_30 : decode cX11_thing 30 = .ok (.getfield 7, 3) := by decide +kernel
theorem dX11_thing_33 : decode cX11_thing 33 = .ok (.iconst 0, 1) := by decide +kernel
theorem dX11_thing_34 : decode cX11_thing 34 = .ok (.iaload, 1) := by decide +kernel
theorem dX11_thing_35 : decode cX11_thing 35 = .ok (.iconst 1, 1) := by decide +kernel
theorem dX11_thing_36 : decode cX11_thing 36 = .ok (.isub, 1) := by decide +kernel
theorem dX11_thing_37 : decode cX11_thing 37 = .ok (.ireturn, 1) := by decide +kernel
set_option maxRecDepth 20000 in
theorem ggX11_of_X11_isThing : GoodIn wsX11_of wsX11_isThing := goodIn_r _ [6, 1, 7, 8, 5, 9, 15, 16, 17, 18, 19, 20, 21, 22, 23, 24, 25, 26, 27, 28, 29, 30, 31, 32, 33, 34, 35, 36, 37, 38, 39, 40, 41, 42] (by decide +kernel) (by decide +kernel)
set_option maxRecDepth 20000 in
theorem gX11_of_X11_isThing : GoodIn wsX11_of (wsV RX11 74 RX11 yX11_isThing wsX11_isThing) := goodIn_app (goodIn_of _ (by decide +kernel)) ggX11_of_X11_isThing
set_option maxRecDepth 20000 in
theorem ggX11_of_X11_in : GoodIn wsX11_of wsX11_in := goodIn_r _ [9] (by decide +kernel) (by decide +kernel)
set_option maxRecDepth 20000 in
theorem gX11_of_X11_in : GoodIn wsX11_of (va_wsS RX11 70 yX11_in wsX11_in) := goodIn_app (goodIn_of _ (by decide +kernel)) ggX11_of_X11_in
set_option maxRecDepth 20000 in
theorem ggX11_of_X11_refuses : GoodIn wsX11_of wsX11_refuses := goodIn_r _ [13, 14, 15, 16, 17, 18, 19, 20, 21, 22, 23, 24, 25, 26, 27, 28, 29, 30, 31, 32, 33, 34, 35, 36, 37, 38, 39, 40, 41, 42] (by decide +kernel) (by decide +kernel)
set_option maxRecDepth 20000 in
theorem gX11_of_X11_refuses : GoodIn wsX11_of (wsV RX11 66 RX11 yX11_refuses wsX11_refuses) := goodIn_app (goodIn_of _ (by decide +kernel)) ggX11_of_X11_refuses
theorem dX11_of_0 : decode cX11_of 0 = .ok (.aload_n 0, 1) := by decide +kernel
theorem dX11_of_1 : decode cX11_of 1 = .ok (.iload_n 1, 1) := by decide +kernel
theorem dX11_of_2 : decode cX11_of 2 = .ok (.invokevirtual 74, 3) := by decide +kernel
theorem dX11_of_5 : decode cX11_of 5 = .ok (.ifCond .eq 12, 3) := by decide +kernel
theorem dX11_of_8 : decode cX11_of 8 = .ok (.iload_n 2, 1) := by decide +kernel
theorem dX11_of_9 : decode cX11_of 9 = .ok (.iconst (-1), 1) := by decide +kernel
theorem dX11_of_10 : decode cX11_of 10 = .ok (.iconst 3, 1) := by decide +kernel
theorem dX11_of_11 : decode cX11_of 11 = .ok (.invokestatic 70, 3) := by decide +kernel
theorem dX11_of_14 : decode cX11_of 14 = .ok (.ifCond .ne 11, 3) := by decide +kernel
theorem dX11_of_17 : decode cX11_of 17 = .ok (.aload_n 0, 1) := by decide +kernel
theorem dX11_of_18 : decode cX11_of 18 = .ok (.iconst 0, 1) := by decide +kernel
theorem dX11_of_19 : decode cX11_of 19 = .ok (.bipush (-10), 2) := by decide +kernel
theorem dX11_of_21 : decode cX11_of 21 = .ok (.invokevirtual 66, 3) := by decide +kernel
theorem dX11_of_24 : decode cX11_of 24 = .ok (.ireturn, 1) := by decide +kernel
theorem dX11_of_25 : decode cX11_of 25 = .ok (.aload_n 0, 1) := by decide +kernel
theorem dX11_of_26 : decode cX11_of 26 = .ok (.getfield 7, 3) := by decide +kernel
theorem dX11_of_29 : decode cX11_of 29 = .ok (.iconst 2, 1) := by decide +kernel
theorem dX11_of_30 : decode cX11_of 30 = .ok (.iload_n 1, 1) := by decide +kernel
theorem dX11_of_31 : decode cX11_of 31 = .ok (.iadd, 1) := by decide +kernel
theorem dX11_of_32 : decode cX11_of 32 = .ok (.iaload, 1) := by decide +kernel
theorem dX11_of_33 : decode cX11_of 33 = .ok (.istore_n 3, 1) := by decide +kernel
theorem dX11_of_34 : decode cX11_of 34 = .ok (.aload_n 0, 1) := by decide +kernel
theorem dX11_of_35 : decode cX11_of 35 = .ok (.getfield 7, 3) := by decide +kernel
theorem dX11_of_38 : decode cX11_of 38 = .ok (.iconst 2, 1) := by decide +kernel
theorem dX11_of_39 : decode cX11_of 39 = .ok (.iload_n 1, 1) := by decide +kernel
theorem dX11_of_40 : decode cX11_of 40 = .ok (.iadd, 1) := by decide +kernel
theorem dX11_of_41 : decode cX11_of 41 = .ok (.iload_n 2, 1) := by decide +kernel
theorem dX11_of_42 : decode cX11_of 42 = .ok (.iastore, 1) := by decide +kernel
theorem dX11_of_43 : decode cX11_of 43 = .ok (.iload_n 3, 1) := by decide +kernel
theorem dX11_of_44 : decode cX11_of 44 = .ok (.ireturn, 1) := by decide +kernel
set_option maxRecDepth 20000 in
theorem ggX11_story_X11_isThing : GoodIn wsX11_story wsX11_isThing := goodIn_r _ [6, 1, 7, 8, 5, 9, 19, 20, 21, 22, 23, 24, 25, 26, 27, 28, 29, 30, 31, 32, 33, 34, 35, 36, 37, 38, 39, 40, 41, 42, 43, 44, 45, 46] (by decide +kernel) (by decide +kernel)
set_option maxRecDepth 20000 in
theorem gX11_story_X11_isThing : GoodIn wsX11_story (wsV RX11 74 RX11 yX11_isThing wsX11_isThing) := goodIn_app (goodIn_of _ (by decide +kernel)) ggX11_story_X11_isThing
set_option maxRecDepth 20000 in
theorem ggX11_story_X11_in : GoodIn wsX11_story wsX11_in := goodIn_r _ [9] (by decide +kernel) (by decide +kernel)
set_option maxRecDepth 20000 in
theorem gX11_story_X11_in : GoodIn wsX11_story (va_wsS RX11 70 yX11_in wsX11_in) := goodIn_app (goodIn_of _ (by decide +kernel)) ggX11_story_X11_in
set_option maxRecDepth 20000 in
theorem ggX11_story_X11_bad : GoodIn wsX11_story wsX11_bad := goodIn_r _ [13, 14, 15, 16, 5, 17, 18, 19, 20, 21, 22, 23, 24, 25, 26, 27, 28, 29, 30, 31, 32, 33, 34, 35, 36, 37, 38, 39, 40, 41, 42, 43, 44, 45, 46] (by decide +kernel) (by decide +kernel)
set_option maxRecDepth 20000 in
theorem gX11_story_X11_bad : GoodIn wsX11_story (wsV RX11 78 RX11 yX11_bad wsX11_bad) := goodIn_app (goodIn_of _ (by decide +kernel)) ggX11_story_X11_bad
theorem dX11_story_0 : decode cX11_story 0 = .ok (.aload_n 0, 1) := by decide +kernel
theorem dX11_story_1 : decode cX11_story 1 = .ok (.iload_n 1, 1) := by decide +kernel
theorem dX11_story_2 : decode cX11_story 2 = .ok (.invokevirtual 74, 3) := by decide +kernel
theorem dX11_story_5 : decode cX11_story 5 = .ok (.ifCond .eq 12, 3) := by decide +kernel
theorem dX11_story_8 : decode cX11_story 8 = .ok (.iload_n 2, 1) := by decide +kernel
theorem dX11_story_9 : decode cX11_story 9 = .ok (.iconst 0, 1) := by decide +kernel
theorem dX11_story_10 : decode cX11_story 10 = .ok (.iconst 1, 1) := by decide +kernel
theorem dX11_story_11 : decode cX11_story 11 = .ok (.invokestatic 70, 3) := by decide +kernel
theorem dX11_story_14 : decode cX11_story 14 = .ok (.ifCond .ne 8, 3) := by decide +kernel
theorem dX11_story_17 : decode cX11_story 17 = .ok (.aload_n 0, 1) := by decide +kernel
theorem dX11_story_18 : decode cX11_story 18 = .ok (.invokevirtual 78, 3) := by decide +kernel
theorem dX11_story_21 : decode cX11_story 21 = .ok (.ireturn, 1) := by decide +kernel
theorem dX11_story_22 : decode cX11_story 22 = .ok (.aload_n 0, 1) := by decide +kernel
theorem dX11_story_23 : decode cX11_story 23 = .ok (.getfield 7, 3) := by decide +kernel
theorem dX11_story_26 : decode cX11_story 26 = .ok (.bipush 8, 2) := by decide +kernel
theorem dX11_story_28 : decode cX11_story 28 = .ok (.iload_n 1, 1) := by decide +kernel
theorem dX11_story_29 : decode cX11_story 29 = .ok (.iadd, 1) := by decide +kernel
theorem dX11_story_30 : decode cX11_story 30 = .ok (.iaload, 1) := by decide +kernel
theorem dX11_story_31 : decode cX11_story 31 = .ok (.istore_n 3, 1) := by decide +kernel
theorem dX11_story_32 : decode cX11_story 32 = .ok (.aload_n 0, 1) := by decide +kernel
theorem dX11_story_33 : decode cX11_story 33 = .ok (.getfield 7, 3) := by decide +kernel
theorem dX11_story_36 : decode cX11_story 36 = .ok (.bipush 8, 2) := by decide +kernel
theorem dX11_story_38 : decode cX11_story 38 = .ok (.iload_n 1, 1) := by decide +kernel
theorem dX11_story_39 : decode cX11_story 39 = .ok (.iadd, 1) := by decide +kernel
theorem dX11_story_40 : decode cX11_story 40 = .ok (.iload_n 2, 1) := by decide +kernel
theorem dX11_story_41 : decode cX11_story 41 = .ok (.iastore, 1) := by decide +kernel
theorem dX11_story_42 : decode cX11_story 42 = .ok (.iload_n 3, 1) := by decide +kernel
theorem dX11_story_43 : decode cX11_story 43 = .ok (.ireturn, 1) := by decide +kernel
set_option maxRecDepth 20000 in
theorem ggX11_say_X11_isThing : GoodIn wsX11_say wsX11_isThing := goodIn_r _ [6, 1, 7, 8, 5, 9, 19, 20, 21, 22, 23, 24, 25, 26, 27, 28, 29, 30, 31, 32, 33, 34, 35, 36, 37, 38, 39, 40, 41, 42, 43, 44, 45, 46] (by decide +kernel) (by decide +kernel)
set_option maxRecDepth 20000 in
theorem gX11_say_X11_isThing : GoodIn wsX11_say (wsV RX11 74 RX11 yX11_isThing wsX11_isThing) := goodIn_app (goodIn_of _ (by decide +kernel)) ggX11_say_X11_isThing
set_option maxRecDepth 20000 in
theorem ggX11_say_X11_in : GoodIn wsX11_say wsX11_in := goodIn_r _ [9] (by decide +kernel) (by decide +kernel)
set_option maxRecDepth 20000 in
theorem gX11_say_X11_in : GoodIn wsX11_say (va_wsS RX11 70 yX11_in wsX11_in) := goodIn_app (goodIn_of _ (by decide +kernel)) ggX11_say_X11_in
set_option maxRecDepth 20000 in
theorem ggX11_say_X11_bad : GoodIn wsX11_say wsX11_bad := goodIn_r _ [13, 14, 15, 16, 5, 17, 18, 19, 20, 21, 22, 23, 24, 25, 26, 27, 28, 29, 30, 31, 32, 33, 34, 35, 36, 37, 38, 39, 40, 41, 42, 43, 44, 45, 46] (by decide +kernel) (by decide +kernel)
set_option maxRecDepth 20000 in
theorem gX11_say_X11_bad : GoodIn wsX11_say (wsV RX11 78 RX11 yX11_bad wsX11_bad) := goodIn_app (goodIn_of _ (by decide +kernel)) ggX11_say_X11_bad
set_option maxRecDepth 20000 in
theorem ggX11_say_X11_refuses : GoodIn wsX11_say wsX11_refuses := goodIn_r _ [17, 18, 19, 20, 21, 22, 23, 24, 25, 26, 27, 28, 29, 30, 31, 32, 33, 34, 35, 36, 37, 38, 39, 40, 41, 42, 43, 44, 45, 46] (by decide +kernel) (by decide +kernel)
set_option maxRecDepth 20000 in
theorem gX11_say_X11_refuses : GoodIn wsX11_say (wsV RX11 66 RX11 yX11_refuses wsX11_refuses) := goodIn_app (goodIn_of _ (by decide +kernel)) ggX11_say_X11_refuses
theorem dX11_say_0 : decode cX11_say 0 = .ok (.aload_n 0, 1) := by decide +kernel
theorem dX11_say_1 : decode cX11_say 1 = .ok (.iload_n 1, 1) := by decide +kernel
theorem dX11_say_2 : decode cX11_say 2 = .ok (.invokevirtual 74, 3) := by decide +kernel
theorem dX11_say_5 : decode cX11_say 5 = .ok (.ifCond .eq 36, 3) := by decide +kernel
theorem dX11_say_8 : decode cX11_say 8 = .ok (.aload_n 0, 1) := by decide +kernel
theorem dX11_say_9 : decode cX11_say 9 = .ok (.iload_n 3, 1) := by decide +kernel
theorem dX11_say_10 : decode cX11_say 10 = .ok (.invokevirtual 74, 3) := by decide +kernel
theorem dX11_say_13 : decode cX11_say 13 = .ok (.ifCond .eq 28, 3) := by decide +kernel
theorem dX11_say_16 : decode cX11_say 16 = .ok (.iload_n 1, 1) := by decide +kernel
theorem dX11_say_17 : decode cX11_say 17 = .ok (.iload_n 3, 1) := by decide +kernel
theorem dX11_say_18 : decode cX11_say 18 = .ok (.if_icmp .eq 23, 3) := by decide +kernel
theorem dX11_say_21 : decode cX11_say 21 = .ok (.iload_n 2, 1) := by decide +kernel
theorem dX11_say_22 : decode cX11_say 22 = .ok (.iconst 0, 1) := by decide +kernel
theorem dX11_say_23 : decode cX11_say 23 = .ok (.bipush 7, 2) := by decide +kernel
theorem dX11_say_25 : decode cX11_say 25 = .ok (.invokestatic 70, 3) := by decide +kernel
theorem dX11_say_28 : decode cX11_say 28 = .ok (.ifCond .eq 13, 3) := by decide +kernel
theorem dX11_say_31 : decode cX11_say 31 = .ok (.iload 4, 2) := by decide +kernel
theorem dX11_say_33 : decode cX11_say 33 = .ok (.iconst 0, 1) := by decide +kernel
theorem dX11_say_34 : decode cX11_say 34 = .ok (.iconst 3, 1) := by decide +kernel
theorem dX11_say_35 : decode cX11_say 35 = .ok (.invokestatic 70, 3) := by decide +kernel
theorem dX11_say_38 : decode cX11_say 38 = .ok (.ifCond .ne 8, 3) := by decide +kernel
theorem dX11_say_41 : decode cX11_say 41 = .ok (.aload_n 0, 1) := by decide +kernel
theorem dX11_say_42 : decode cX11_say 42 = .ok (.invokevirtual 78, 3) := by decide +kernel
theorem dX11_say_45 : decode cX11_say 45 = .ok (.ireturn, 1) := by decide +kernel
theorem dX11_say_46 : decode cX11_say 46 = .ok (.aload_n 0, 1) := by decide +kernel
theorem dX11_say_47 : decode cX11_say 47 = .ok (.getfield 7, 3) := by decide +kernel
theorem dX11_say_50 : decode cX11_say 50 = .ok (.iconst 1, 1) := by decide +kernel
theorem dX11_say_51 : decode cX11_say 51 = .ok (.iaload, 1) := by decide +kernel
theorem dX11_say_52 : decode cX11_say 52 = .ok (.bipush 8, 2) := by decide +kernel
theorem dX11_say_54 : decode cX11_say 54 = .ok (.if_icmp .ne 11, 3) := by decide +kernel
theorem dX11_say_57 : decode cX11_say 57 = .ok (.aload_n 0, 1) := by decide +kernel
theorem dX11_say_58 : decode cX11_say 58 = .ok (.iconst 2, 1) := by decide +kernel
theorem dX11_say_59 : decode cX11_say 59 = .ok (.bipush (-4), 2) := by decide +kernel
theorem dX11_say_61 : decode cX11_say 61 = .ok (.invokevirtual 66, 3) := by decide +kernel
theorem dX11_say_64 : decode cX11_say 64 = .ok (.ireturn, 1) := by decide +kernel
theorem dX11_say_65 : decode cX11_say 65 = .ok (.aload_n 0, 1) := by decide +kernel
theorem dX11_say_66 : decode cX11_say 66 = .ok (.getfield 7, 3) := by decide +kernel
theorem dX11_say_69 : decode cX11_say 69 = .ok (.iconst 1, 1) := by decide +kernel
theorem dX11_say_70 : decode cX11_say 70 = .ok (.iaload, 1) := by decide +kernel
theorem dX11_say_71 : decode cX11_say 71 = .ok (.istore 5, 2) := by decide +kernel
theorem dX11_say_73 : decode cX11_say 73 = .ok (.aload_n 0, 1) := by decide +kernel
theorem dX11_say_74 : decode cX11_say 74 = .ok (.getfield 7, 3) := by decide +kernel
theorem dX11_say_77 : decode cX11_say 77 = .ok (.bipush 14, 2) := by decide +kernel
theorem dX11_say_79 : decode cX11_say 79 = .ok (.iload 5, 2) := by decide +kernel
theorem dX11_say_81 : decode cX11_say 81 = .ok (.iadd, 1) := by decide +kernel
theorem dX11_say_82 : decode cX11_say 82 = .ok (.iload_n 2, 1) := by decide +kernel
theorem dX11_say_83 : decode cX11_say 83 = .ok (.iastore, 1) := by decide +kernel
theorem dX11_say_84 : decode cX11_say 84 = .ok (.aload_n 0, 1) := by decide +kernel
theorem dX11_say_85 : decode cX11_say 85 = .ok (.getfield 7, 3) := by decide +kernel
theorem dX11_say_88 : decode cX11_say 88 = .ok (.bipush 22, 2) := by decide +kernel
theorem dX11_say_90 : decode cX11_say 90 = .ok (.iload 5, 2) := by decide +kernel
theorem dX11_say_92 : decode cX11_say 92 = .ok (.iadd, 1) := by decide +kernel
theorem dX11_say_93 : decode cX11_say 93 = .ok (.iload_n 1, 1) := by decide +kernel
theorem dX11_say_94 : decode cX11_say 94 = .ok (.iastore, 1) := by decide +kernel
theorem dX11_say_95 : decode cX11_say 95 = .ok (.aload_n 0, 1) := by decide +kernel
theorem dX11_say_96 : decode cX11_say 96 = .ok (.getfield 7, 3) := by decide +kernel
theorem dX11_say_99 : decode cX11_say 99 = .ok (.bipush 30, 2) := by decide +kernel
theorem dX11_say_101 : decode cX11_say 101 = .ok (.iload 5, 2) := by decide +kernel
theorem dX11_say_103 : decode cX11_say 103 = .ok (.iadd, 1) := by decide +kernel
theorem dX11_say_104 : decode cX11_say 104 = .ok (.iload_n 3, 1) := by decide +kernel
theorem dX11_say_105 : decode cX11_say 105 = .ok (.iastore, 1) := by decide +kernel
theorem dX11_say_106 : decode cX11_say 106 = .ok (.aload_n 0, 1) := by decide +kernel
theorem dX11_say_107 : decode cX11_say 107 = .ok (.getfield 7, 3) := by decide +kernel
theorem dX11_say_110 : decode cX11_say 110 = .ok (.bipush 38, 2) := by decide +kernel
theorem dX11_say_112 : decode cX11_say 112 = .ok (.iload 5, 2) := by decide +kernel
theorem dX11_say_114 : decode cX11_say 114 = .ok (.iadd, 1) := by decide +kernel
theorem dX11_say_115 : decode cX11_say 115 = .ok (.iload 4, 2) := by decide +kernel
theorem dX11_say_117 : decode cX11_say 117 = .ok (.iastore, 1) := by decide +kernel
theorem dX11_say_118 : decode cX11_say 118 = .ok (.aload_n 0, 1) := by decide +kernel
theorem dX11_say_119 : decode cX11_say 119 = .ok (.getfield 7, 3) := by decide +kernel
theorem dX11_say_122 : decode cX11_say 122 = .ok (.iconst 1, 1) := by decide +kernel
theorem dX11_say_123 : decode cX11_say 123 = .ok (.dup2, 1) := by decide +kernel
theorem dX11_say_124 : decode cX11_say 124 = .ok (.iaload, 1) := by decide +kernel
theorem dX11_say_125 : decode cX11_say 125 = .ok (.iconst 1, 1) := by decide +kernel
theorem dX11_say_126 : decode cX11_say 126 = .ok (.iadd, 1) := by decide +kernel
theorem dX11_say_127 : decode cX11_say 127 = .ok (.iastore, 1) := by decide +kernel
theorem dX11_say_128 : decode cX11_say 128 = .ok (.iload 5, 2) := by decide +kernel
theorem dX11_say_130 : decode cX11_say 130 = .ok (.ireturn, 1) := by decide +kernel
set_option maxRecDepth 20000 in
theorem ggX11_unsay_X11_refuses : GoodIn wsX11_unsay wsX11_refuses := goodIn_r _ [6, 7, 8, 9, 10, 11, 12, 13, 14, 15, 16, 17, 18, 19, 20, 21, 22, 23, 24, 25, 26, 27, 28, 29, 30, 31, 32, 33, 34, 35] (by decide +kernel) (by decide +kernel)
set_option maxRecDepth 20000 in
theorem gX11_unsay_X11_refuses : GoodIn wsX11_unsay (wsV RX11 66 RX11 yX11_refuses wsX11_refuses) := goodIn_app (goodIn_of _ (by decide +kernel)) ggX11_unsay_X11_refuses
theorem dX11_unsay_0 : decode cX11_unsay 0 = .ok (.aload_n 0, 1) := by decide +kernel
theorem dX11_unsay_1 : decode cX11_unsay 1 = .ok (.getfield 7, 3) := by decide +kernel
theorem dX11_unsay_4 : decode cX11_unsay 4 = .ok (.iconst 1, 1) := by decide +kernel
theorem dX11_unsay_5 : decode cX11_unsay 5 = .ok (.iaload, 1) := by decide +kernel
theorem dX11_unsay_6 : decode cX11_unsay 6 = .ok (.ifCond .ne 11, 3) := by decide +kernel
theorem dX11_unsay_9 : decode cX11_unsay 9 = .ok (.aload_n 0, 1) := by decide +kernel
theorem dX11_unsay_10 : decode cX11_unsay 10 = .ok (.iconst 1, 1) := by decide +kernel
theorem dX11_unsay_11 : decode cX11_unsay 11 = .ok (.bipush (-3), 2) := by decide +kernel
theorem dX11_unsay_13 : decode cX11_unsay 13 = .ok (.invokevirtual 66, 3) := by decide +kernel
theorem dX11_unsay_16 : decode cX11_unsay 16 = .ok (.ireturn, 1) := by decide +kernel
theorem dX11_unsay_17 : decode cX11_unsay 17 = .ok (.aload_n 0, 1) := by decide +kernel
theorem dX11_unsay_18 : decode cX11_unsay 18 = .ok (.getfield 7, 3) := by decide +kernel
theorem dX11_unsay_21 : decode cX11_unsay 21 = .ok (.iconst 1, 1) := by decide +kernel
theorem dX11_unsay_22 : decode cX11_unsay 22 = .ok (.dup2, 1) := by decide +kernel
theorem dX11_unsay_23 : decode cX11_unsay 23 = .ok (.iaload, 1) := by decide +kernel
theorem dX11_unsay_24 : decode cX11_unsay 24 = .ok (.iconst 1, 1) := by decide +kernel
theorem dX11_unsay_25 : decode cX11_unsay 25 = .ok (.isub, 1) := by decide +kernel
theorem dX11_unsay_26 : decode cX11_unsay 26 = .ok (.iastore, 1) := by decide +kernel
theorem dX11_unsay_27 : decode cX11_unsay 27 = .ok (.aload_n 0, 1) := by decide +kernel
theorem dX11_unsay_28 : decode cX11_unsay 28 = .ok (.getfield 7, 3) := by decide +kernel
theorem dX11_unsay_31 : decode cX11_unsay 31 = .ok (.iconst 1, 1) := by decide +kernel
theorem dX11_unsay_32 : decode cX11_unsay 32 = .ok (.iaload, 1) := by decide +kernel
theorem dX11_unsay_33 : decode cX11_unsay 33 = .ok (.ireturn, 1) := by decide +kernel
set_option maxRecDepth 20000 in
theorem ggX11_type_X11_in : GoodIn wsX11_type wsX11_in := goodIn_r _ [7] (by decide +kernel) (by decide +kernel)
set_option maxRecDepth 20000 in
theorem gX11_type_X11_in : GoodIn wsX11_type (va_wsS RX11 70 yX11_in wsX11_in) := goodIn_app (goodIn_of _ (by decide +kernel)) ggX11_type_X11_in
set_option maxRecDepth 20000 in
theorem ggX11_type_X11_bad : GoodIn wsX11_type wsX11_bad := goodIn_r _ [11, 12, 13, 14, 6, 15, 16, 17, 18, 19, 20, 21, 22, 23, 24, 25, 26, 27, 28, 29, 30, 31, 32, 33, 34, 35, 36, 37, 38, 39, 40, 41, 42, 43, 44] (by decide +kernel) (by decide +kernel)
set_option maxRecDepth 20000 in
theorem gX11_type_X11_bad : GoodIn wsX11_type (wsV RX11 78 RX11 yX11_bad wsX11_bad) := goodIn_app (goodIn_of _ (by decide +kernel)) ggX11_type_X11_bad
set_option maxRecDepth 20000 in
theorem ggX11_type_X11_refuses : GoodIn wsX11_type wsX11_refuses := goodIn_r _ [15, 16, 17, 18, 19, 20, 21, 22, 23, 24, 25, 26, 27, 28, 29, 30, 31, 32, 33, 34, 35, 36, 37, 38, 39, 40, 41, 42, 43, 44] (by decide +kernel) (by decide +kernel)
set_option maxRecDepth 20000 in
theorem gX11_type_X11_refuses : GoodIn wsX11_type (wsV RX11 66 RX11 yX11_refuses wsX11_refuses) := goodIn_app (goodIn_of _ (by decide +kernel)) ggX11_type_X11_refuses
theorem dX11_type_0 : decode cX11_type 0 = .ok (.iload_n 3, 1) := by decide +kernel
theorem dX11_type_1 : decode cX11_type 1 = .ok (.iconst 1, 1) := by decide +kernel
theorem dX11_type_2 : decode cX11_type 2 = .ok (.bipush 8, 2) := by decide +kernel
theorem dX11_type_4 : decode cX11_type 4 = .ok (.invokestatic 70, 3) := by decide +kernel
theorem dX11_type_7 : decode cX11_type 7 = .ok (.ifCond .ne 8, 3) := by decide +kernel
theorem dX11_type_10 : decode cX11_type 10 = .ok (.aload_n 0, 1) := by decide +kernel
theorem dX11_type_11 : decode cX11_type 11 = .ok (.invokevirtual 78, 3) := by decide +kernel
theorem dX11_type_14 : decode cX11_type 14 = .ok (.ireturn, 1) := by decide +kernel
theorem dX11_type_15 : decode cX11_type 15 = .ok (.aload_n 0, 1) := by decide +kernel
theorem dX11_type_16 : decode cX11_type 16 = .ok (.getfield 82, 3) := by decide +kernel
theorem dX11_type_19 : decode cX11_type 19 = .ok (.iload_n 3, 1) := by decide +kernel
theorem dX11_type_20 : decode cX11_type 20 = .ok (.iadd, 1) := by decide +kernel
theorem dX11_type_21 : decode cX11_type 21 = .ok (.sipush 200, 3) := by decide +kernel
theorem dX11_type_24 : decode cX11_type 24 = .ok (.if_icmp .le 11, 3) := by decide +kernel
theorem dX11_type_27 : decode cX11_type 27 = .ok (.aload_n 0, 1) := by decide +kernel
theorem dX11_type_28 : decode cX11_type 28 = .ok (.iconst 2, 1) := by decide +kernel
theorem dX11_type_29 : decode cX11_type 29 = .ok (.bipush (-4), 2) := by decide +kernel
theorem dX11_type_31 : decode cX11_type 31 = .ok (.invokevirtual 66, 3) := by decide +kernel
theorem dX11_type_34 : decode cX11_type 34 = .ok (.ireturn, 1) := by decide +kernel
theorem dX11_type_35 : decode cX11_type 35 = .ok (.iload_n 3, 1) := by decide +kernel
theorem dX11_type_36 : decode cX11_type 36 = .ok (.iconst 1, 1) := by decide +kernel
theorem dX11_type_37 : decode cX11_type 37 = .ok (.isub, 1) := by decide +kernel
theorem dX11_type_38 : decode cX11_type 38 = .ok (.istore 4, 2) := by decide +kernel
theorem dX11_type_40 : decode cX11_type 40 = .ok (.iload 4, 2) := by decide +kernel
theorem dX11_type_42 : decode cX11_type 42 = .ok (.ifCond .lt 40, 3) := by decide +kernel
theorem dX11_type_45 : decode cX11_type 45 = .ok (.aload_n 0, 1) := by decide +kernel
theorem dX11_type_46 : decode cX11_type 46 = .ok (.getfield 23, 3) := by decide +kernel
theorem dX11_type_49 : decode cX11_type 49 = .ok (.aload_n 0, 1) := by decide +kernel
theorem dX11_type_50 : decode cX11_type 50 = .ok (.getfield 82, 3) := by decide +kernel
theorem dX11_type_53 : decode cX11_type 53 = .ok (.lload_n 1, 1) := by decide +kernel
theorem dX11_type_54 : decode cX11_type 54 = .ok (.bipush 8, 2) := by decide +kernel
theorem dX11_type_56 : decode cX11_type 56 = .ok (.iload 4, 2) := by decide +kernel
theorem dX11_type_58 : decode cX11_type 58 = .ok (.imul, 1) := by decide +kernel
theorem dX11_type_59 : decode cX11_type 59 = .ok (.lshr, 1) := by decide +kernel
theorem dX11_type_60 : decode cX11_type 60 = .ok (.ldc2_w 86, 3) := by decide +kernel
theorem dX11_type_63 : decode cX11_type 63 = .ok (.land, 1) := by decide +kernel
theorem dX11_type_64 : decode cX11_type 64 = .ok (.l2i, 1) := by decide +kernel
theorem dX11_type_65 : decode cX11_type 65 = .ok (.iastore, 1) := by decide +kernel
theorem dX11_type_66 : decode cX11_type 66 = .ok (.aload_n 0, 1) := by decide +kernel
theorem dX11_type_67 : decode cX11_type 67 = .ok (.dup, 1) := by decide +kernel
theorem dX11_type_68 : decode cX11_type 68 = .ok (.getfield 82, 3) := by decide +kernel
theorem dX11_type_71 : decode cX11_type 71 = .ok (.iconst 1, 1) := by decide +kernel
theorem dX11_type_72 : decode cX11_type 72 = .ok (.iadd, 1) := by decide +kernel
theorem dX11_type_73 : decode cX11_type 73 = .ok (.putfield 82, 3) := by decide +kernel
theorem dX11_type_76 : decode cX11_type 76 = .ok (.iinc 4 (-1), 3) := by decide +kernel
theorem dX11_type_79 : decode cX11_type 79 = .ok (.goto (-39), 3) := by decide +kernel
theorem dX11_type_82 : decode cX11_type 82 = .ok (.aload_n 0, 1) := by decide +kernel
theorem dX11_type_83 : decode cX11_type 83 = .ok (.getfield 82, 3) := by decide +kernel
theorem dX11_type_86 : decode cX11_type 86 = .ok (.ireturn, 1) := by decide +kernel
theorem dX11_clear_0 : decode cX11_clear 0 = .ok (.aload_n 0, 1) := by decide +kernel
theorem dX11_clear_1 : decode cX11_clear 1 = .ok (.getfield 82, 3) := by decide +kernel
theorem dX11_clear_4 : decode cX11_clear 4 = .ok (.istore_n 1, 1) := by decide +kernel
theorem dX11_clear_5 : decode cX11_clear 5 = .ok (.aload_n 0, 1) := by decide +kernel
theorem dX11_clear_6 : decode cX11_clear 6 = .ok (.iconst 0, 1) := by decide +kernel
theorem dX11_clear_7 : decode cX11_clear 7 = .ok (.putfield 82, 3) := by decide +kernel
theorem dX11_clear_10 : decode cX11_clear 10 = .ok (.iload_n 1, 1) := by decide +kernel
theorem dX11_clear_11 : decode cX11_clear 11 = .ok (.ireturn, 1) := by decide +kernel
theorem dX11_byteAt_0 : decode cX11_byteAt 0 = .ok (.iload_n 1, 1) := by decide +kernel
theorem dX11_byteAt_1 : decode cX11_byteAt 1 = .ok (.aload_n 0, 1) := by decide +kernel
theorem dX11_byteAt_2 : decode cX11_byteAt 2 = .ok (.getfield 82, 3) := by decide +kernel
theorem dX11_byteAt_5 : decode cX11_byteAt 5 = .ok (.if_icmp .ge 12, 3) := by decide +kernel
theorem dX11_byteAt_8 : decode cX11_byteAt 8 = .ok (.aload_n 0, 1) := by decide +kernel
theorem dX11_byteAt_9 : decode cX11_byteAt 9 = .ok (.getfield 23, 3) := by decide +kernel
theorem dX11_byteAt_12 : decode cX11_byteAt 12 = .ok (.iload_n 1, 1) := by decide +kernel
theorem dX11_byteAt_13 : decode cX11_byteAt 13 = .ok (.iaload, 1) := by decide +kernel
theorem dX11_byteAt_14 : decode cX11_byteAt 14 = .ok (.goto 4, 3) := by decide +kernel
theorem dX11_byteAt_17 : decode cX11_byteAt 17 = .ok (.iconst (-1), 1) := by decide +kernel
theorem dX11_byteAt_18 : decode cX11_byteAt 18 = .ok (.ireturn, 1) := by decide +kernel
set_option maxRecDepth 20000 in
theorem ggX11_sortOf_X11_in : GoodIn wsX11_sortOf wsX11_in := goodIn_r _ [4] (by decide +kernel) (by decide +kernel)
set_option maxRecDepth 20000 in
theorem gX11_sortOf_X11_in : GoodIn wsX11_sortOf (va_wsS RX11 70 yX11_in wsX11_in) := goodIn_app (goodIn_of _ (by decide +kernel)) ggX11_sortOf_X11_in
theorem dX11_sortOf_0 : decode cX11_sortOf 0 = .ok (.iload_n 0, 1) := by decide +kernel
theorem dX11_sortOf_1 : decode cX11_sortOf 1 = .ok (.ifCond .ge 7, 3) := by decide +kernel
theorem dX11_sortOf_4 : decode cX11_sortOf 4 = .ok (.iconst 0, 1) := by decide +kernel
theorem dX11_sortOf_5 : decode cX11_sortOf 5 = .ok (.goto 44, 3) := by decide +kernel
theorem dX11_sortOf_8 : decode cX11_sortOf 8 = .ok (.iload_n 0, 1) := by decide +kernel
theorem dX11_sortOf_9 : decode cX11_sortOf 9 = .ok (.bipush 97, 2) := by decide +kernel
theorem dX11_sortOf_11 : decode cX11_sortOf 11 = .ok (.bipush 122, 2) := by decide +kernel
theorem dX11_sortOf_13 : decode cX11_sortOf 13 = .ok (.invokestatic 70, 3) := by decide +kernel
theorem dX11_sortOf_16 : decode cX11_sortOf 16 = .ok (.ifCond .eq 7, 3) := by decide +kernel
theorem dX11_sortOf_19 : decode cX11_sortOf 19 = .ok (.iconst 1, 1) := by decide +kernel
theorem dX11_sortOf_20 : decode cX11_sortOf 20 = .ok (.goto 29, 3) := by decide +kernel
theorem dX11_sortOf_23 : decode cX11_sortOf 23 = .ok (.iload_n 0, 1) := by decide +kernel
theorem dX11_sortOf_24 : decode cX11_sortOf 24 = .ok (.bipush 48, 2) := by decide +kernel
theorem dX11_sortOf_26 : decode cX11_sortOf 26 = .ok (.bipush 57, 2) := by decide +kernel
theorem dX11_sortOf_28 : decode cX11_sortOf 28 = .ok (.invokestatic 70, 3) := by decide +kernel
theorem dX11_sortOf_31 : decode cX11_sortOf 31 = .ok (.ifCond .eq 7, 3) := by decide +kernel
theorem dX11_sortOf_34 : decode cX11_sortOf 34 = .ok (.iconst 2, 1) := by decide +kernel
theorem dX11_sortOf_35 : decode cX11_sortOf 35 = .ok (.goto 14, 3) := by decide +kernel
theorem dX11_sortOf_38 : decode cX11_sortOf 38 = .ok (.iload_n 0, 1) := by decide +kernel
theorem dX11_sortOf_39 : decode cX11_sortOf 39 = .ok (.bipush 59, 2) := by decide +kernel
theorem dX11_sortOf_41 : decode cX11_sortOf 41 = .ok (.if_icmp .ne 7, 3) := by decide +kernel
theorem dX11_sortOf_44 : decode cX11_sortOf 44 = .ok (.iconst 3, 1) := by decide +kernel
theorem dX11_sortOf_45 : decode cX11_sortOf 45 = .ok (.goto 4, 3) := by decide +kernel
theorem dX11_sortOf_48 : decode cX11_sortOf 48 = .ok (.iconst 4, 1) := by decide +kernel
theorem dX11_sortOf_49 : decode cX11_sortOf 49 = .ok (.ireturn, 1) := by decide +kernel
set_option maxRecDepth 20000 in
theorem ggX11_token_X11_byteAt : GoodIn wsX11_token wsX11_byteAt := goodIn_r _ [9, 10, 11, 18, 19, 20, 21, 22, 23, 24, 25, 26, 27, 28, 29, 30, 31, 32, 33, 34, 35, 36, 37, 38, 39, 40, 41, 42, 43, 44, 45] (by decide +kernel) (by decide +kernel)
set_option maxRecDepth 20000 in
theorem gX11_token_X11_byteAt : GoodIn wsX11_token (wsV RX11 91 RX11 yX11_byteAt wsX11_byteAt) := goodIn_app (goodIn_of _ (by decide +kernel)) ggX11_token_X11_byteAt
set_option maxRecDepth 20000 in
theorem ggX11_token_X11_sortOf : GoodIn wsX11_token wsX11_sortOf := goodIn_r _ [14, 15, 16, 8, 17] (by decide +kernel) (by decide +kernel)
set_option maxRecDepth 20000 in
theorem gX11_token_X11_sortOf : GoodIn wsX11_token (va_wsS RX11 98 yX11_sortOf wsX11_sortOf) := goodIn_app (goodIn_of _ (by decide +kernel)) ggX11_token_X11_sortOf
theorem dX11_token_0 : decode cX11_token 0 = .ok (.aload_n 0, 1) := by decide +kernel
theorem dX11_token_1 : decode cX11_token 1 = .ok (.aload_n 0, 1) := by decide +kernel
theorem dX11_token_2 : decode cX11_token 2 = .ok (.getfield 88, 3) := by decide +kernel
theorem dX11_token_5 : decode cX11_token 5 = .ok (.invokevirtual 91, 3) := by decide +kernel
theorem dX11_token_8 : decode cX11_token 8 = .ok (.bipush 32, 2) := by decide +kernel
theorem dX11_token_10 : decode cX11_token 10 = .ok (.if_icmp .ne 16, 3) := by decide +kernel
theorem dX11_token_13 : decode cX11_token 13 = .ok (.aload_n 0, 1) := by decide +kernel
theorem dX11_token_14 : decode cX11_token 14 = .ok (.dup, 1) := by decide +kernel
