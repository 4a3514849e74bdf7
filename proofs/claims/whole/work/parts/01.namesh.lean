theorem dX11_watch_44 : decode cX11_watch 44 = .ok (.iload_n 2, 1) := by decide +kernel
theorem dX11_watch_45 : decode cX11_watch 45 = .ok (.iastore, 1) := by decide +kernel
theorem dX11_watch_46 : decode cX11_watch 46 = .ok (.iload_n 3, 1) := by decide +kernel
theorem dX11_watch_47 : decode cX11_watch 47 = .ok (.ireturn, 1) := by decide +kernel
theorem dX11_told_0 : decode cX11_told 0 = .ok (.iconst (-1), 1) := by decide +kernel
theorem dX11_told_1 : decode cX11_told 1 = .ok (.istore_n 2, 1) := by decide +kernel
theorem dX11_told_2 : decode cX11_told 2 = .ok (.iconst 0, 1) := by decide +kernel
theorem dX11_told_3 : decode cX11_told 3 = .ok (.istore_n 3, 1) := by decide +kernel
theorem dX11_told_4 : decode cX11_told 4 = .ok (.iload_n 3, 1) := by decide +kernel
theorem dX11_told_5 : decode cX11_told 5 = .ok (.iconst 2, 1) := by decide +kernel
theorem dX11_told_6 : decode cX11_told 6 = .ok (.aload_n 0, 1) := by decide +kernel
theorem dX11_told_7 : decode cX11_told 7 = .ok (.getfield 7, 3) := by decide +kernel
theorem dX11_told_10 : decode cX11_told 10 = .ok (.iconst 0, 1) := by decide +kernel
theorem dX11_told_11 : decode cX11_told 11 = .ok (.iaload, 1) := by decide +kernel
theorem dX11_told_12 : decode cX11_told 12 = .ok (.imul, 1) := by decide +kernel
theorem dX11_told_13 : decode cX11_told 13 = .ok (.if_icmp .ge 68, 3) := by decide +kernel
theorem dX11_told_16 : decode cX11_told 16 = .ok (.iload_n 1, 1) := by decide +kernel
theorem dX11_told_17 : decode cX11_told 17 = .ok (.iload_n 3, 1) := by decide +kernel
theorem dX11_told_18 : decode cX11_told 18 = .ok (.ishr, 1) := by decide +kernel
theorem dX11_told_19 : decode cX11_told 19 = .ok (.iconst 1, 1) := by decide +kernel
theorem dX11_told_20 : decode cX11_told 20 = .ok (.iand, 1) := by decide +kernel
theorem dX11_told_21 : decode cX11_told 21 = .ok (.iconst 1, 1) := by decide +kernel
theorem dX11_told_22 : decode cX11_told 22 = .ok (.if_icmp .ne 15, 3) := by decide +kernel
theorem dX11_told_25 : decode cX11_told 25 = .ok (.aload_n 0, 1) := by decide +kernel
theorem dX11_told_26 : decode cX11_told 26 = .ok (.getfield 7, 3) := by decide +kernel
theorem dX11_told_29 : decode cX11_told 29 = .ok (.bipush 46, 2) := by decide +kernel
theorem dX11_told_31 : decode cX11_told 31 = .ok (.iload_n 3, 1) := by decide +kernel
theorem dX11_told_32 : decode cX11_told 32 = .ok (.iadd, 1) := by decide +kernel
theorem dX11_told_33 : decode cX11_told 33 = .ok (.iaload, 1) := by decide +kernel
theorem dX11_told_34 : decode cX11_told 34 = .ok (.goto 4, 3) := by decide +kernel
theorem dX11_told_37 : decode cX11_told 37 = .ok (.iconst (-1), 1) := by decide +kernel
theorem dX11_told_38 : decode cX11_told 38 = .ok (.istore 4, 2) := by decide +kernel
theorem dX11_told_40 : decode cX11_told 40 = .ok (.iload 4, 2) := by decide +kernel
theorem dX11_told_42 : decode cX11_told 42 = .ok (.iconst (-1), 1) := by decide +kernel
theorem dX11_told_43 : decode cX11_told 43 = .ok (.if_icmp .eq 9, 3) := by decide +kernel
theorem dX11_told_46 : decode cX11_told 46 = .ok (.iload_n 2, 1) := by decide +kernel
theorem dX11_told_47 : decode cX11_told 47 = .ok (.bipush (-2), 2) := by decide +kernel
theorem dX11_told_49 : decode cX11_told 49 = .ok (.if_icmp .ne 7, 3) := by decide +kernel
theorem dX11_told_52 : decode cX11_told 52 = .ok (.iload_n 2, 1) := by decide +kernel
theorem dX11_told_53 : decode cX11_told 53 = .ok (.goto 21, 3) := by decide +kernel
theorem dX11_told_56 : decode cX11_told 56 = .ok (.iload_n 2, 1) := by decide +kernel
theorem dX11_told_57 : decode cX11_told 57 = .ok (.iconst (-1), 1) := by decide +kernel
theorem dX11_told_58 : decode cX11_told 58 = .ok (.if_icmp .eq 9, 3) := by decide +kernel
theorem dX11_told_61 : decode cX11_told 61 = .ok (.iload_n 2, 1) := by decide +kernel
theorem dX11_told_62 : decode cX11_told 62 = .ok (.iload 4, 2) := by decide +kernel
theorem dX11_told_64 : decode cX11_told 64 = .ok (.if_icmp .ne 8, 3) := by decide +kernel
theorem dX11_told_67 : decode cX11_told 67 = .ok (.iload 4, 2) := by decide +kernel
theorem dX11_told_69 : decode cX11_told 69 = .ok (.goto 5, 3) := by decide +kernel
theorem dX11_told_72 : decode cX11_told 72 = .ok (.bipush (-2), 2) := by decide +kernel
theorem dX11_told_74 : decode cX11_told 74 = .ok (.istore_n 2, 1) := by decide +kernel
theorem dX11_told_75 : decode cX11_told 75 = .ok (.iinc 3 1, 3) := by decide +kernel
theorem dX11_told_78 : decode cX11_told 78 = .ok (.goto (-74), 3) := by decide +kernel
theorem dX11_told_81 : decode cX11_told 81 = .ok (.iload_n 2, 1) := by decide +kernel
theorem dX11_told_82 : decode cX11_told 82 = .ok (.ireturn, 1) := by decide +kernel
set_option maxRecDepth 20000 in
theorem ggX11_earliest_X11_told : GoodIn wsX11_earliest wsX11_told := goodIn_r _ [6, 7, 8, 9, 10, 11, 12, 13, 14, 15, 16, 17, 18, 19, 20, 21, 22, 23, 24, 25, 26, 27, 28, 29, 30, 31, 32, 33, 34, 35] (by decide +kernel) (by decide +kernel)
set_option maxRecDepth 20000 in
theorem gX11_earliest_X11_told : GoodIn wsX11_earliest (wsV RX11 256 RX11 yX11_told wsX11_told) := goodIn_app (goodIn_of _ (by decide +kernel)) ggX11_earliest_X11_told
theorem dX11_earliest_0 : decode cX11_earliest 0 = .ok (.aload_n 0, 1) := by decide +kernel
theorem dX11_earliest_1 : decode cX11_earliest 1 = .ok (.iload_n 2, 1) := by decide +kernel
theorem dX11_earliest_2 : decode cX11_earliest 2 = .ok (.invokevirtual 256, 3) := by decide +kernel
theorem dX11_earliest_5 : decode cX11_earliest 5 = .ok (.istore_n 3, 1) := by decide +kernel
theorem dX11_earliest_6 : decode cX11_earliest 6 = .ok (.iload_n 3, 1) := by decide +kernel
theorem dX11_earliest_7 : decode cX11_earliest 7 = .ok (.iconst (-1), 1) := by decide +kernel
theorem dX11_earliest_8 : decode cX11_earliest 8 = .ok (.if_icmp .ne 14, 3) := by decide +kernel
theorem dX11_earliest_11 : decode cX11_earliest 11 = .ok (.aload_n 0, 1) := by decide +kernel
theorem dX11_earliest_12 : decode cX11_earliest 12 = .ok (.getfield 57, 3) := by decide +kernel
theorem dX11_earliest_15 : decode cX11_earliest 15 = .ok (.iload_n 1, 1) := by decide +kernel
theorem dX11_earliest_16 : decode cX11_earliest 16 = .ok (.iaload, 1) := by decide +kernel
theorem dX11_earliest_17 : decode cX11_earliest 17 = .ok (.iconst 1, 1) := by decide +kernel
theorem dX11_earliest_18 : decode cX11_earliest 18 = .ok (.iadd, 1) := by decide +kernel
theorem dX11_earliest_19 : decode cX11_earliest 19 = .ok (.goto 4, 3) := by decide +kernel
theorem dX11_earliest_22 : decode cX11_earliest 22 = .ok (.iload_n 3, 1) := by decide +kernel
theorem dX11_earliest_23 : decode cX11_earliest 23 = .ok (.istore 4, 2) := by decide +kernel
theorem dX11_earliest_25 : decode cX11_earliest 25 = .ok (.iload_n 3, 1) := by decide +kernel
theorem dX11_earliest_26 : decode cX11_earliest 26 = .ok (.bipush (-2), 2) := by decide +kernel
theorem dX11_earliest_28 : decode cX11_earliest 28 = .ok (.if_icmp .eq 21, 3) := by decide +kernel
theorem dX11_earliest_31 : decode cX11_earliest 31 = .ok (.iload 4, 2) := by decide +kernel
theorem dX11_earliest_33 : decode cX11_earliest 33 = .ok (.aload_n 0, 1) := by decide +kernel
theorem dX11_earliest_34 : decode cX11_earliest 34 = .ok (.getfield 57, 3) := by decide +kernel
theorem dX11_earliest_37 : decode cX11_earliest 37 = .ok (.iload_n 1, 1) := by decide +kernel
theorem dX11_earliest_38 : decode cX11_earliest 38 = .ok (.iaload, 1) := by decide +kernel
theorem dX11_earliest_39 : decode cX11_earliest 39 = .ok (.if_icmp .le 10, 3) := by decide +kernel
theorem dX11_earliest_42 : decode cX11_earliest 42 = .ok (.iload 4, 2) := by decide +kernel
theorem dX11_earliest_44 : decode cX11_earliest 44 = .ok (.bipush 99, 2) := by decide +kernel
theorem dX11_earliest_46 : decode cX11_earliest 46 = .ok (.if_icmp .le 8, 3) := by decide +kernel
theorem dX11_earliest_49 : decode cX11_earliest 49 = .ok (.bipush 100, 2) := by decide +kernel
theorem dX11_earliest_51 : decode cX11_earliest 51 = .ok (.goto 5, 3) := by decide +kernel
theorem dX11_earliest_54 : decode cX11_earliest 54 = .ok (.iload 4, 2) := by decide +kernel
theorem dX11_earliest_56 : decode cX11_earliest 56 = .ok (.ireturn, 1) := by decide +kernel
set_option maxRecDepth 20000 in
theorem ggX11_latest_X11_told : GoodIn wsX11_latest wsX11_told := goodIn_r _ [6, 7, 8, 9, 10, 11, 12, 13, 14, 15, 16, 17, 18, 19, 20, 21, 22, 23, 24, 25, 26, 27, 28, 29, 30, 31, 32, 33, 34, 35] (by decide +kernel) (by decide +kernel)
set_option maxRecDepth 20000 in
theorem gX11_latest_X11_told : GoodIn wsX11_latest (wsV RX11 256 RX11 yX11_told wsX11_told) := goodIn_app (goodIn_of _ (by decide +kernel)) ggX11_latest_X11_told
theorem dX11_latest_0 : decode cX11_latest 0 = .ok (.aload_n 0, 1) := by decide +kernel
theorem dX11_latest_1 : decode cX11_latest 1 = .ok (.iload_n 2, 1) := by decide +kernel
theorem dX11_latest_2 : decode cX11_latest 2 = .ok (.invokevirtual 256, 3) := by decide +kernel
theorem dX11_latest_5 : decode cX11_latest 5 = .ok (.istore_n 3, 1) := by decide +kernel
theorem dX11_latest_6 : decode cX11_latest 6 = .ok (.iload_n 3, 1) := by decide +kernel
theorem dX11_latest_7 : decode cX11_latest 7 = .ok (.iconst (-1), 1) := by decide +kernel
theorem dX11_latest_8 : decode cX11_latest 8 = .ok (.if_icmp .ne 12, 3) := by decide +kernel
theorem dX11_latest_11 : decode cX11_latest 11 = .ok (.aload_n 0, 1) := by decide +kernel
theorem dX11_latest_12 : decode cX11_latest 12 = .ok (.getfield 60, 3) := by decide +kernel
theorem dX11_latest_15 : decode cX11_latest 15 = .ok (.iload_n 1, 1) := by decide +kernel
theorem dX11_latest_16 : decode cX11_latest 16 = .ok (.iaload, 1) := by decide +kernel
theorem dX11_latest_17 : decode cX11_latest 17 = .ok (.goto 19, 3) := by decide +kernel
theorem dX11_latest_20 : decode cX11_latest 20 = .ok (.iload_n 3, 1) := by decide +kernel
theorem dX11_latest_21 : decode cX11_latest 21 = .ok (.aload_n 0, 1) := by decide +kernel
theorem dX11_latest_22 : decode cX11_latest 22 = .ok (.getfield 60, 3) := by decide +kernel
theorem dX11_latest_25 : decode cX11_latest 25 = .ok (.iload_n 1, 1) := by decide +kernel
theorem dX11_latest_26 : decode cX11_latest 26 = .ok (.iaload, 1) := by decide +kernel
theorem dX11_latest_27 : decode cX11_latest 27 = .ok (.if_icmp .le 8, 3) := by decide +kernel
theorem dX11_latest_30 : decode cX11_latest 30 = .ok (.bipush (-2), 2) := by decide +kernel
theorem dX11_latest_32 : decode cX11_latest 32 = .ok (.goto 4, 3) := by decide +kernel
theorem dX11_latest_35 : decode cX11_latest 35 = .ok (.iload_n 3, 1) := by decide +kernel
theorem dX11_latest_36 : decode cX11_latest 36 = .ok (.ireturn, 1) := by decide +kernel
set_option maxRecDepth 20000 in
theorem ggX11_minutes_X11_plain : GoodIn wsX11_minutes wsX11_plain := goodIn_r _ [7, 8, 9, 10, 63, 64, 65, 66, 67, 68, 69, 70, 71, 72, 73, 74, 75, 76, 77, 78, 79, 80, 81, 82, 83, 84, 85, 86, 87, 88, 89, 90] (by decide +kernel) (by decide +kernel)
set_option maxRecDepth 20000 in
theorem gX11_minutes_X11_plain : GoodIn wsX11_minutes (wsV RX11 205 RX11 yX11_plain wsX11_plain) := goodIn_app (goodIn_of _ (by decide +kernel)) ggX11_minutes_X11_plain
set_option maxRecDepth 20000 in
theorem ggX11_minutes_X11_full : GoodIn wsX11_minutes wsX11_full := goodIn_r _ [14, 15, 63, 64, 65, 66, 67, 68, 69, 70, 71, 72, 73, 74, 75, 76, 77, 78, 79, 80, 81, 82, 83, 84, 85, 86, 87, 88, 89, 90] (by decide +kernel) (by decide +kernel)
set_option maxRecDepth 20000 in
theorem gX11_minutes_X11_full : GoodIn wsX11_minutes (wsV RX11 193 RX11 yX11_full wsX11_full) := goodIn_app (goodIn_of _ (by decide +kernel)) ggX11_minutes_X11_full
set_option maxRecDepth 20000 in
theorem ggX11_minutes_X11_next : GoodIn wsX11_minutes wsX11_next := goodIn_r _ [19, 15, 63, 64, 65, 66, 67, 68, 69, 70, 71, 72, 73, 74, 75, 76, 77, 78, 79, 80, 81, 82, 83, 84, 85, 86, 87, 88, 89, 90] (by decide +kernel) (by decide +kernel)
set_option maxRecDepth 20000 in
theorem gX11_minutes_X11_next : GoodIn wsX11_minutes (wsV RX11 199 RX11 yX11_next wsX11_next) := goodIn_app (goodIn_of _ (by decide +kernel)) ggX11_minutes_X11_next
set_option maxRecDepth 20000 in
theorem ggX11_minutes_X11_moves : GoodIn wsX11_minutes wsX11_moves := goodIn_r _ [23, 24, 25, 26, 27, 28, 6, 29, 15, 9, 30, 8, 10, 31, 32, 33, 34, 35, 36, 37, 38, 39, 40, 41, 42, 43, 44, 45, 46, 47, 48, 49, 50, 63, 64, 65, 66, 67, 68, 69, 70, 71, 72, 73, 74, 75, 76, 77, 78, 79, 80, 81, 82, 83, 84, 85, 86, 87, 88, 89, 90] (by decide +kernel) (by decide +kernel)
set_option maxRecDepth 20000 in
theorem gX11_minutes_X11_moves : GoodIn wsX11_minutes (wsV RX11 202 RX11 yX11_moves wsX11_moves) := goodIn_app (goodIn_of _ (by decide +kernel)) ggX11_minutes_X11_moves
set_option maxRecDepth 20000 in
theorem ggX11_minutes_X11_earliest : GoodIn wsX11_minutes wsX11_earliest := goodIn_r _ [54, 1, 55, 56, 57, 6, 58, 15, 63, 64, 65, 66, 67, 68, 69, 70, 71, 72, 73, 74, 75, 76, 77, 78, 79, 80, 81, 82, 83, 84, 85, 86, 87, 88, 89, 90] (by decide +kernel) (by decide +kernel)
set_option maxRecDepth 20000 in
theorem gX11_minutes_X11_earliest : GoodIn wsX11_minutes (wsV RX11 259 RX11 yX11_earliest wsX11_earliest) := goodIn_app (goodIn_of _ (by decide +kernel)) ggX11_minutes_X11_earliest
set_option maxRecDepth 20000 in
theorem ggX11_minutes_X11_latest : GoodIn wsX11_minutes wsX11_latest := goodIn_r _ [62, 2, 55, 56, 57, 6, 58, 15, 63, 64, 65, 66, 67, 68, 69, 70, 71, 72, 73, 74, 75, 76, 77, 78, 79, 80, 81, 82, 83, 84, 85, 86, 87, 88, 89, 90] (by decide +kernel) (by decide +kernel)
set_option maxRecDepth 20000 in
theorem gX11_minutes_X11_latest : GoodIn wsX11_minutes (wsV RX11 262 RX11 yX11_latest wsX11_latest) := goodIn_app (goodIn_of _ (by decide +kernel)) ggX11_minutes_X11_latest
theorem dX11_minutes_0 : decode cX11_minutes 0 = .ok (.aload_n 0, 1) := by decide +kernel
theorem dX11_minutes_1 : decode cX11_minutes 1 = .ok (.invokevirtual 205, 3) := by decide +kernel
theorem dX11_minutes_4 : decode cX11_minutes 4 = .ok (.iconst 0, 1) := by decide +kernel
theorem dX11_minutes_5 : decode cX11_minutes 5 = .ok (.istore_n 1, 1) := by decide +kernel
theorem dX11_minutes_6 : decode cX11_minutes 6 = .ok (.iload_n 1, 1) := by decide +kernel
theorem dX11_minutes_7 : decode cX11_minutes 7 = .ok (.aload_n 0, 1) := by decide +kernel
theorem dX11_minutes_8 : decode cX11_minutes 8 = .ok (.invokevirtual 193, 3) := by decide +kernel
theorem dX11_minutes_11 : decode cX11_minutes 11 = .ok (.if_icmp .gt 46, 3) := by decide +kernel
theorem dX11_minutes_14 : decode cX11_minutes 14 = .ok (.aload_n 0, 1) := by decide +kernel
theorem dX11_minutes_15 : decode cX11_minutes 15 = .ok (.getfield 57, 3) := by decide +kernel
theorem dX11_minutes_18 : decode cX11_minutes 18 = .ok (.iload_n 1, 1) := by decide +kernel
theorem dX11_minutes_19 : decode cX11_minutes 19 = .ok (.iload_n 1, 1) := by decide +kernel
theorem dX11_minutes_20 : decode cX11_minutes 20 = .ok (.ifCond .ne 7, 3) := by decide +kernel
theorem dX11_minutes_23 : decode cX11_minutes 23 = .ok (.iconst (-1), 1) := by decide +kernel
theorem dX11_minutes_24 : decode cX11_minutes 24 = .ok (.goto 5, 3) := by decide +kernel
theorem dX11_minutes_27 : decode cX11_minutes 27 = .ok (.bipush 100, 2) := by decide +kernel
theorem dX11_minutes_29 : decode cX11_minutes 29 = .ok (.iastore, 1) := by decide +kernel
theorem dX11_minutes_30 : decode cX11_minutes 30 = .ok (.aload_n 0, 1) := by decide +kernel
theorem dX11_minutes_31 : decode cX11_minutes 31 = .ok (.getfield 60, 3) := by decide +kernel
theorem dX11_minutes_34 : decode cX11_minutes 34 = .ok (.iload_n 1, 1) := by decide +kernel
theorem dX11_minutes_35 : decode cX11_minutes 35 = .ok (.iload_n 1, 1) := by decide +kernel
theorem dX11_minutes_36 : decode cX11_minutes 36 = .ok (.aload_n 0, 1) := by decide +kernel
theorem dX11_minutes_37 : decode cX11_minutes 37 = .ok (.invokevirtual 193, 3) := by decide +kernel
theorem dX11_minutes_40 : decode cX11_minutes 40 = .ok (.if_icmp .ne 8, 3) := by decide +kernel
theorem dX11_minutes_43 : decode cX11_minutes 43 = .ok (.bipush 99, 2) := by decide +kernel
theorem dX11_minutes_45 : decode cX11_minutes 45 = .ok (.goto 5, 3) := by decide +kernel
theorem dX11_minutes_48 : decode cX11_minutes 48 = .ok (.bipush (-2), 2) := by decide +kernel
theorem dX11_minutes_50 : decode cX11_minutes 50 = .ok (.iastore, 1) := by decide +kernel
theorem dX11_minutes_51 : decode cX11_minutes 51 = .ok (.iinc 1 1, 3) := by decide +kernel
theorem dX11_minutes_54 : decode cX11_minutes 54 = .ok (.goto (-48), 3) := by decide +kernel
theorem dX11_minutes_57 : decode cX11_minutes 57 = .ok (.iconst 0, 1) := by decide +kernel
theorem dX11_minutes_58 : decode cX11_minutes 58 = .ok (.istore_n 1, 1) := by decide +kernel
theorem dX11_minutes_59 : decode cX11_minutes 59 = .ok (.iload_n 1, 1) := by decide +kernel
theorem dX11_minutes_60 : decode cX11_minutes 60 = .ok (.aload_n 0, 1) := by decide +kernel
theorem dX11_minutes_61 : decode cX11_minutes 61 = .ok (.invokevirtual 193, 3) := by decide +kernel
theorem dX11_minutes_64 : decode cX11_minutes 64 = .ok (.if_icmp .ge 96, 3) := by decide +kernel
theorem dX11_minutes_67 : decode cX11_minutes 67 = .ok (.aload_n 0, 1) := by decide +kernel
theorem dX11_minutes_68 : decode cX11_minutes 68 = .ok (.getfield 57, 3) := by decide +kernel
theorem dX11_minutes_71 : decode cX11_minutes 71 = .ok (.iload_n 1, 1) := by decide +kernel
theorem dX11_minutes_72 : decode cX11_minutes 72 = .ok (.iaload, 1) := by decide +kernel
theorem dX11_minutes_73 : decode cX11_minutes 73 = .ok (.bipush 100, 2) := by decide +kernel
theorem dX11_minutes_75 : decode cX11_minutes 75 = .ok (.if_icmp .ge 11, 3) := by decide +kernel
theorem dX11_minutes_78 : decode cX11_minutes 78 = .ok (.aload_n 0, 1) := by decide +kernel
theorem dX11_minutes_79 : decode cX11_minutes 79 = .ok (.iload_n 1, 1) := by decide +kernel
theorem dX11_minutes_80 : decode cX11_minutes 80 = .ok (.invokevirtual 199, 3) := by decide +kernel
theorem dX11_minutes_83 : decode cX11_minutes 83 = .ok (.goto 4, 3) := by decide +kernel
theorem dX11_minutes_86 : decode cX11_minutes 86 = .ok (.iconst 0, 1) := by decide +kernel
theorem dX11_minutes_87 : decode cX11_minutes 87 = .ok (.istore_n 2, 1) := by decide +kernel
theorem dX11_minutes_88 : decode cX11_minutes 88 = .ok (.iload_n 2, 1) := by decide +kernel
theorem dX11_minutes_89 : decode cX11_minutes 89 = .ok (.istore_n 3, 1) := by decide +kernel
theorem dX11_minutes_90 : decode cX11_minutes 90 = .ok (.iload_n 3, 1) := by decide +kernel
theorem dX11_minutes_91 : decode cX11_minutes 91 = .ok (.ifCond .le 63, 3) := by decide +kernel
theorem dX11_minutes_94 : decode cX11_minutes 94 = .ok (.aload_n 0, 1) := by decide +kernel
theorem dX11_minutes_95 : decode cX11_minutes 95 = .ok (.iload_n 1, 1) := by decide +kernel
theorem dX11_minutes_96 : decode cX11_minutes 96 = .ok (.iload_n 3, 1) := by decide +kernel
theorem dX11_minutes_97 : decode cX11_minutes 97 = .ok (.invokevirtual 202, 3) := by decide +kernel
theorem dX11_minutes_100 : decode cX11_minutes 100 = .ok (.ifCond .eq 45, 3) := by decide +kernel
theorem dX11_minutes_103 : decode cX11_minutes 103 = .ok (.aload_n 0, 1) := by decide +kernel
theorem dX11_minutes_104 : decode cX11_minutes 104 = .ok (.iload_n 1, 1) := by decide +kernel
theorem dX11_minutes_105 : decode cX11_minutes 105 = .ok (.iload_n 3, 1) := by decide +kernel
theorem dX11_minutes_106 : decode cX11_minutes 106 = .ok (.invokevirtual 259, 3) := by decide +kernel
theorem dX11_minutes_109 : decode cX11_minutes 109 = .ok (.istore 4, 2) := by decide +kernel
theorem dX11_minutes_111 : decode cX11_minutes 111 = .ok (.aload_n 0, 1) := by decide +kernel
theorem dX11_minutes_112 : decode cX11_minutes 112 = .ok (.getfield 57, 3) := by decide +kernel
theorem dX11_minutes_115 : decode cX11_minutes 115 = .ok (.iload_n 1, 1) := by decide +kernel
theorem dX11_minutes_116 : decode cX11_minutes 116 = .ok (.iload_n 3, 1) := by decide +kernel
theorem dX11_minutes_117 : decode cX11_minutes 117 = .ok (.ior, 1) := by decide +kernel
theorem dX11_minutes_118 : decode cX11_minutes 118 = .ok (.iload 4, 2) := by decide +kernel
theorem dX11_minutes_120 : decode cX11_minutes 120 = .ok (.aload_n 0, 1) := by decide +kernel
theorem dX11_minutes_121 : decode cX11_minutes 121 = .ok (.getfield 57, 3) := by decide +kernel
theorem dX11_minutes_124 : decode cX11_minutes 124 = .ok (.iload_n 1, 1) := by decide +kernel
theorem dX11_minutes_125 : decode cX11_minutes 125 = .ok (.iload_n 3, 1) := by decide +kernel
theorem dX11_minutes_126 : decode cX11_minutes 126 = .ok (.ior, 1) := by decide +kernel
theorem dX11_minutes_127 : decode cX11_minutes 127 = .ok (.iaload, 1) := by decide +kernel
theorem dX11_minutes_128 : decode cX11_minutes 128 = .ok (.if_icmp .ge 8, 3) := by decide +kernel
theorem dX11_minutes_131 : decode cX11_minutes 131 = .ok (.iload 4, 2) := by decide +kernel
theorem dX11_minutes_133 : decode cX11_minutes 133 = .ok (.goto 11, 3) := by decide +kernel
theorem dX11_minutes_136 : decode cX11_minutes 136 = .ok (.aload_n 0, 1) := by decide +kernel
theorem dX11_minutes_137 : decode cX11_minutes 137 = .ok (.getfield 57, 3) := by decide +kernel
theorem dX11_minutes_140 : decode cX11_minutes 140 = .ok (.iload_n 1, 1) := by decide +kernel
theorem dX11_minutes_141 : decode cX11_minutes 141 = .ok (.iload_n 3, 1) := by decide +kernel
theorem dX11_minutes_142 : decode cX11_minutes 142 = .ok (.ior, 1) := by decide +kernel
theorem dX11_minutes_143 : decode cX11_minutes 143 = .ok (.iaload, 1) := by decide +kernel
theorem dX11_minutes_144 : decode cX11_minutes 144 = .ok (.iastore, 1) := by decide +kernel
theorem dX11_minutes_145 : decode cX11_minutes 145 = .ok (.iload_n 3, 1) := by decide +kernel
theorem dX11_minutes_146 : decode cX11_minutes 146 = .ok (.iconst 1, 1) := by decide +kernel
theorem dX11_minutes_147 : decode cX11_minutes 147 = .ok (.isub, 1) := by decide +kernel
theorem dX11_minutes_148 : decode cX11_minutes 148 = .ok (.iload_n 2, 1) := by decide +kernel
theorem dX11_minutes_149 : decode cX11_minutes 149 = .ok (.iand, 1) := by decide +kernel
theorem dX11_minutes_150 : decode cX11_minutes 150 = .ok (.istore_n 3, 1) := by decide +kernel
theorem dX11_minutes_151 : decode cX11_minutes 151 = .ok (.goto (-61), 3) := by decide +kernel
theorem dX11_minutes_154 : decode cX11_minutes 154 = .ok (.iinc 1 1, 3) := by decide +kernel
theorem dX11_minutes_157 : decode cX11_minutes 157 = .ok (.goto (-98), 3) := by decide +kernel
theorem dX11_minutes_160 : decode cX11_minutes 160 = .ok (.aload_n 0, 1) := by decide +kernel
theorem dX11_minutes_161 : decode cX11_minutes 161 = .ok (.invokevirtual 193, 3) := by decide +kernel
theorem dX11_minutes_164 : decode cX11_minutes 164 = .ok (.iconst 1, 1) := by decide +kernel
theorem dX11_minutes_165 : decode cX11_minutes 165 = .ok (.isub, 1) := by decide +kernel
theorem dX11_minutes_166 : decode cX11_minutes 166 = .ok (.istore_n 1, 1) := by decide +kernel
theorem dX11_minutes_167 : decode cX11_minutes 167 = .ok (.iload_n 1, 1) := by decide +kernel
theorem dX11_minutes_168 : decode cX11_minutes 168 = .ok (.ifCond .lt 94, 3) := by decide +kernel
theorem dX11_minutes_171 : decode cX11_minutes 171 = .ok (.aload_n 0, 1) := by decide +kernel
theorem dX11_minutes_172 : decode cX11_minutes 172 = .ok (.getfield 57, 3) := by decide +kernel
theorem dX11_minutes_175 : decode cX11_minutes 175 = .ok (.iload_n 1, 1) := by decide +kernel
theorem dX11_minutes_176 : decode cX11_minutes 176 = .ok (.iaload, 1) := by decide +kernel
theorem dX11_minutes_177 : decode cX11_minutes 177 = .ok (.bipush 100, 2) := by decide +kernel
theorem dX11_minutes_179 : decode cX11_minutes 179 = .ok (.if_icmp .ge 11, 3) := by decide +kernel
theorem dX11_minutes_182 : decode cX11_minutes 182 = .ok (.aload_n 0, 1) := by decide +kernel
theorem dX11_minutes_183 : decode cX11_minutes 183 = .ok (.iload_n 1, 1) := by decide +kernel
theorem dX11_minutes_184 : decode cX11_minutes 184 = .ok (.invokevirtual 199, 3) := by decide +kernel
theorem dX11_minutes_187 : decode cX11_minutes 187 = .ok (.goto 4, 3) := by decide +kernel
theorem dX11_minutes_190 : decode cX11_minutes 190 = .ok (.iconst 0, 1) := by decide +kernel
theorem dX11_minutes_191 : decode cX11_minutes 191 = .ok (.istore_n 2, 1) := by decide +kernel
theorem dX11_minutes_192 : decode cX11_minutes 192 = .ok (.iload_n 2, 1) := by decide +kernel
theorem dX11_minutes_193 : decode cX11_minutes 193 = .ok (.istore_n 3, 1) := by decide +kernel
theorem dX11_minutes_194 : decode cX11_minutes 194 = .ok (.iload_n 3, 1) := by decide +kernel
theorem dX11_minutes_195 : decode cX11_minutes 195 = .ok (.ifCond .le 61, 3) := by decide +kernel
theorem dX11_minutes_198 : decode cX11_minutes 198 = .ok (.aload_n 0, 1) := by decide +kernel
theorem dX11_minutes_199 : decode cX11_minutes 199 = .ok (.iload_n 1, 1) := by decide +kernel
theorem dX11_minutes_200 : decode cX11_minutes 200 = .ok (.iload_n 3, 1) := by decide +kernel
theorem dX11_minutes_201 : decode cX11_minutes 201 = .ok (.invokevirtual 202, 3) := by decide +kernel
theorem dX11_minutes_204 : decode cX11_minutes 204 = .ok (.ifCond .eq 43, 3) := by decide +kernel
theorem dX11_minutes_207 : decode cX11_minutes 207 = .ok (.aload_n 0, 1) := by decide +kernel
theorem dX11_minutes_208 : decode cX11_minutes 208 = .ok (.iload_n 1, 1) := by decide +kernel
theorem dX11_minutes_209 : decode cX11_minutes 209 = .ok (.iload_n 3, 1) := by decide +kernel
theorem dX11_minutes_210 : decode cX11_minutes 210 = .ok (.ior, 1) := by decide +kernel
theorem dX11_minutes_211 : decode cX11_minutes 211 = .ok (.iload_n 3, 1) := by decide +kernel
theorem dX11_minutes_212 : decode cX11_minutes 212 = .ok (.invokevirtual 262, 3) := by decide +kernel
theorem dX11_minutes_215 : decode cX11_minutes 215 = .ok (.iconst 1, 1) := by decide +kernel
theorem dX11_minutes_216 : decode cX11_minutes 216 = .ok (.isub, 1) := by decide +kernel
theorem dX11_minutes_217 : decode cX11_minutes 217 = .ok (.istore 4, 2) := by decide +kernel
theorem dX11_minutes_219 : decode cX11_minutes 219 = .ok (.aload_n 0, 1) := by decide +kernel
theorem dX11_minutes_220 : decode cX11_minutes 220 = .ok (.getfield 60, 3) := by decide +kernel
theorem dX11_minutes_223 : decode cX11_minutes 223 = .ok (.iload_n 1, 1) := by decide +kernel
theorem dX11_minutes_224 : decode cX11_minutes 224 = .ok (.iload 4, 2) := by decide +kernel
theorem dX11_minutes_226 : decode cX11_minutes 226 = .ok (.aload_n 0, 1) := by decide +kernel
theorem dX11_minutes_227 : decode cX11_minutes 227 = .ok (.getfield 60, 3) := by decide +kernel
theorem dX11_minutes_230 : decode cX11_minutes 230 = .ok (.iload_n 1, 1) := by decide +kernel
theorem dX11_minutes_231 : decode cX11_minutes 231 = .ok (.iaload, 1) := by decide +kernel
theorem dX11_minutes_232 : decode cX11_minutes 232 = .ok (.if_icmp .le 8, 3) := by decide +kernel
theorem dX11_minutes_235 : decode cX11_minutes 235 = .ok (.iload 4, 2) := by decide +kernel
theorem dX11_minutes_237 : decode cX11_minutes 237 = .ok (.goto 9, 3) := by decide +kernel
theorem dX11_minutes_240 : decode cX11_minutes 240 = .ok (.aload_n 0, 1) := by decide +kernel
theorem dX11_minutes_241 : decode cX11_minutes 241 = .ok (.getfield 60, 3) := by decide +kernel
theorem dX11_minutes_244 : decode cX11_minutes 244 = .ok (.iload_n 1, 1) := by decide +kernel
theorem dX11_minutes_245 : decode cX11_minutes 245 = .ok (.iaload, 1) := by decide +kernel
theorem dX11_minutes_246 : decode cX11_minutes 246 = .ok (.iastore, 1) := by decide +kernel
theorem dX11_minutes_247 : decode cX11_minutes 247 = .ok (.iload_n 3, 1) := by decide +kernel
theorem dX11_minutes_248 : decode cX11_minutes 248 = .ok (.iconst 1, 1) := by decide +kernel
theorem dX11_minutes_249 : decode cX11_minutes 249 = .ok (.isub, 1) := by decide +kernel
theorem dX11_minutes_250 : decode cX11_minutes 250 = .ok (.iload_n 2, 1) := by decide +kernel
theorem dX11_minutes_251 : decode cX11_minutes 251 = .ok (.iand, 1) := by decide +kernel
theorem dX11_minutes_252 : decode cX11_minutes 252 = .ok (.istore_n 3, 1) := by decide +kernel
theorem dX11_minutes_253 : decode cX11_minutes 253 = .ok (.goto (-59), 3) := by decide +kernel
theorem dX11_minutes_256 : decode cX11_minutes 256 = .ok (.iinc 1 (-1), 3) := by decide +kernel
theorem dX11_minutes_259 : decode cX11_minutes 259 = .ok (.goto (-92), 3) := by decide +kernel
theorem dX11_minutes_262 : decode cX11_minutes 262 = .ok (.return_, 1) := by decide +kernel
set_option maxRecDepth 20000 in
theorem ggX11_minute_X11_isEnd : GoodIn wsX11_minute wsX11_isEnd := goodIn_r _ [6, 7, 8, 9, 5, 10, 83, 84, 85, 86, 87, 88, 89, 90, 91, 92, 93, 94, 95, 96, 97, 98, 99, 100, 101, 102, 103, 104, 105, 106, 107, 108, 109, 110] (by decide +kernel) (by decide +kernel)
set_option maxRecDepth 20000 in
theorem gX11_minute_X11_isEnd : GoodIn wsX11_minute (wsV RX11 217 RX11 yX11_isEnd wsX11_isEnd) := goodIn_app (goodIn_of _ (by decide +kernel)) ggX11_minute_X11_isEnd
set_option maxRecDepth 20000 in
theorem ggX11_minute_X11_in : GoodIn wsX11_minute wsX11_in := goodIn_r _ [10] (by decide +kernel) (by decide +kernel)
set_option maxRecDepth 20000 in
theorem gX11_minute_X11_in : GoodIn wsX11_minute (va_wsS RX11 70 yX11_in wsX11_in) := goodIn_app (goodIn_of _ (by decide +kernel)) ggX11_minute_X11_in
set_option maxRecDepth 20000 in
theorem ggX11_minute_X11_bad : GoodIn wsX11_minute wsX11_bad := goodIn_r _ [14, 15, 16, 17, 5, 18, 19, 83, 84, 85, 86, 87, 88, 89, 90, 91, 92, 93, 94, 95, 96, 97, 98, 99, 100, 101, 102, 103, 104, 105, 106, 107, 108, 109, 110] (by decide +kernel) (by decide +kernel)
set_option maxRecDepth 20000 in
theorem gX11_minute_X11_bad : GoodIn wsX11_minute (wsV RX11 78 RX11 yX11_bad wsX11_bad) := goodIn_app (goodIn_of _ (by decide +kernel)) ggX11_minute_X11_bad
set_option maxRecDepth 20000 in
theorem ggX11_minute_X11_minutes : GoodIn wsX11_minute wsX11_minutes := goodIn_r _ [23, 1, 24, 25, 26, 27, 5, 28, 29, 30, 31, 32, 33, 34, 35, 7, 36, 37, 38, 39, 40, 41, 42, 43, 44, 45, 46, 47, 48, 49, 50, 51, 52, 53, 54, 55, 56, 57, 58, 59, 60, 61, 62, 63, 64, 65, 66, 67, 68, 69, 70, 71, 72, 73, 74, 75, 76, 77, 78, 79, 80, 81, 82, 83, 84, 85, 86, 87, 88, 89, 90, 91, 92, 93, 94, 95, 96, 97, 98, 99, 100, 101, 102, 103, 104, 105, 106, 107, 108, 109, 110] (by decide +kernel) (by decide +kernel)
set_option maxRecDepth 20000 in
theorem gX11_minute_X11_minutes : GoodIn wsX11_minute (wsV RX11 265 RX11 yX11_minutes wsX11_minutes) := goodIn_app (goodIn_of _ (by decide +kernel)) ggX11_minute_X11_minutes
set_option maxRecDepth 20000 in
theorem ggX11_minute_X11_full : GoodIn wsX11_minute wsX11_full := goodIn_r _ [35, 7, 83, 84, 85, 86, 87, 88, 89, 90, 91, 92, 93, 94, 95, 96, 97, 98, 99, 100, 101, 102, 103, 104, 105, 106, 107, 108, 109, 110] (by decide +kernel) (by decide +kernel)
set_option maxRecDepth 20000 in
theorem gX11_minute_X11_full : GoodIn wsX11_minute (wsV RX11 193 RX11 yX11_full wsX11_full) := goodIn_app (goodIn_of _ (by decide +kernel)) ggX11_minute_X11_full
set_option maxRecDepth 20000 in
theorem ggX11_minute_X11_next : GoodIn wsX11_minute wsX11_next := goodIn_r _ [39, 7, 83, 84, 85, 86, 87, 88, 89, 90, 91, 92, 93, 94, 95, 96, 97, 98, 99, 100, 101, 102, 103, 104, 105, 106, 107, 108, 109, 110] (by decide +kernel) (by decide +kernel)
set_option maxRecDepth 20000 in
theorem gX11_minute_X11_next : GoodIn wsX11_minute (wsV RX11 199 RX11 yX11_next wsX11_next) := goodIn_app (goodIn_of _ (by decide +kernel)) ggX11_minute_X11_next
set_option maxRecDepth 20000 in
theorem ggX11_minute_X11_moves : GoodIn wsX11_minute wsX11_moves := goodIn_r _ [43, 44, 45, 46, 47, 48, 5, 49, 7, 30, 50, 29, 31, 51, 52, 53, 54, 55, 56, 57, 58, 59, 60, 61, 62, 63, 64, 65, 66, 67, 68, 69, 70, 83, 84, 85, 86, 87, 88, 89, 90, 91, 92, 93, 94, 95, 96, 97, 98, 99, 100, 101, 102, 103, 104, 105, 106, 107, 108, 109, 110] (by decide +kernel) (by decide +kernel)
set_option maxRecDepth 20000 in
theorem gX11_minute_X11_moves : GoodIn wsX11_minute (wsV RX11 202 RX11 yX11_moves wsX11_moves) := goodIn_app (goodIn_of _ (by decide +kernel)) ggX11_minute_X11_moves
set_option maxRecDepth 20000 in
theorem ggX11_minute_X11_earliest : GoodIn wsX11_minute wsX11_earliest := goodIn_r _ [74, 1, 75, 76, 77, 5, 78, 7, 83, 84, 85, 86, 87, 88, 89, 90, 91, 92, 93, 94, 95, 96, 97, 98, 99, 100, 101, 102, 103, 104, 105, 106, 107, 108, 109, 110] (by decide +kernel) (by decide +kernel)
set_option maxRecDepth 20000 in
theorem gX11_minute_X11_earliest : GoodIn wsX11_minute (wsV RX11 259 RX11 yX11_earliest wsX11_earliest) := goodIn_app (goodIn_of _ (by decide +kernel)) ggX11_minute_X11_earliest
set_option maxRecDepth 20000 in
theorem ggX11_minute_X11_latest : GoodIn wsX11_minute wsX11_latest := goodIn_r _ [82, 24, 75, 76, 77, 5, 78, 7, 83, 84, 85, 86, 87, 88, 89, 90, 91, 92, 93, 94, 95, 96, 97, 98, 99, 100, 101, 102, 103, 104, 105, 106, 107, 108, 109, 110] (by decide +kernel) (by decide +kernel)
set_option maxRecDepth 20000 in
theorem gX11_minute_X11_latest : GoodIn wsX11_minute (wsV RX11 262 RX11 yX11_latest wsX11_latest) := goodIn_app (goodIn_of _ (by decide +kernel)) ggX11_minute_X11_latest
theorem dX11_minute_0 : decode cX11_minute 0 = .ok (.aload_n 0, 1) := by decide +kernel
theorem dX11_minute_1 : decode cX11_minute 1 = .ok (.iload_n 1, 1) := by decide +kernel
theorem dX11_minute_2 : decode cX11_minute 2 = .ok (.invokevirtual 217, 3) := by decide +kernel
theorem dX11_minute_5 : decode cX11_minute 5 = .ok (.ifCond .eq 12, 3) := by decide +kernel
theorem dX11_minute_8 : decode cX11_minute 8 = .ok (.iload_n 2, 1) := by decide +kernel
theorem dX11_minute_9 : decode cX11_minute 9 = .ok (.iconst 0, 1) := by decide +kernel
theorem dX11_minute_10 : decode cX11_minute 10 = .ok (.iconst 1, 1) := by decide +kernel
theorem dX11_minute_11 : decode cX11_minute 11 = .ok (.invokestatic 70, 3) := by decide +kernel
theorem dX11_minute_14 : decode cX11_minute 14 = .ok (.ifCond .ne 8, 3) := by decide +kernel
theorem dX11_minute_17 : decode cX11_minute 17 = .ok (.aload_n 0, 1) := by decide +kernel
theorem dX11_minute_18 : decode cX11_minute 18 = .ok (.invokevirtual 78, 3) := by decide +kernel
theorem dX11_minute_21 : decode cX11_minute 21 = .ok (.ireturn, 1) := by decide +kernel
theorem dX11_minute_22 : decode cX11_minute 22 = .ok (.aload_n 0, 1) := by decide +kernel
theorem dX11_minute_23 : decode cX11_minute 23 = .ok (.invokevirtual 265, 3) := by decide +kernel
theorem dX11_minute_26 : decode cX11_minute 26 = .ok (.iconst (-1), 1) := by decide +kernel
theorem dX11_minute_27 : decode cX11_minute 27 = .ok (.istore_n 3, 1) := by decide +kernel
theorem dX11_minute_28 : decode cX11_minute 28 = .ok (.iconst 0, 1) := by decide +kernel
theorem dX11_minute_29 : decode cX11_minute 29 = .ok (.istore 4, 2) := by decide +kernel
theorem dX11_minute_31 : decode cX11_minute 31 = .ok (.iload 4, 2) := by decide +kernel
theorem dX11_minute_33 : decode cX11_minute 33 = .ok (.aload_n 0, 1) := by decide +kernel
theorem dX11_minute_34 : decode cX11_minute 34 = .ok (.invokevirtual 193, 3) := by decide +kernel
theorem dX11_minute_37 : decode cX11_minute 37 = .ok (.if_icmp .ge 171, 3) := by decide +kernel
theorem dX11_minute_40 : decode cX11_minute 40 = .ok (.aload_n 0, 1) := by decide +kernel
theorem dX11_minute_41 : decode cX11_minute 41 = .ok (.getfield 57, 3) := by decide +kernel
theorem dX11_minute_44 : decode cX11_minute 44 = .ok (.iload 4, 2) := by decide +kernel
theorem dX11_minute_46 : decode cX11_minute 46 = .ok (.iaload, 1) := by decide +kernel
theorem dX11_minute_47 : decode cX11_minute 47 = .ok (.bipush 100, 2) := by decide +kernel
theorem dX11_minute_49 : decode cX11_minute 49 = .ok (.if_icmp .ge 12, 3) := by decide +kernel
theorem dX11_minute_52 : decode cX11_minute 52 = .ok (.aload_n 0, 1) := by decide +kernel
theorem dX11_minute_53 : decode cX11_minute 53 = .ok (.iload 4, 2) := by decide +kernel
theorem dX11_minute_55 : decode cX11_minute 55 = .ok (.invokevirtual 199, 3) := by decide +kernel
theorem dX11_minute_58 : decode cX11_minute 58 = .ok (.goto 4, 3) := by decide +kernel
theorem dX11_minute_61 : decode cX11_minute 61 = .ok (.iconst 0, 1) := by decide +kernel
theorem dX11_minute_62 : decode cX11_minute 62 = .ok (.istore 5, 2) := by decide +kernel
theorem dX11_minute_64 : decode cX11_minute 64 = .ok (.iload 5, 2) := by decide +kernel
theorem dX11_minute_66 : decode cX11_minute 66 = .ok (.istore 6, 2) := by decide +kernel
theorem dX11_minute_68 : decode cX11_minute 68 = .ok (.iload 6, 2) := by decide +kernel
theorem dX11_minute_70 : decode cX11_minute 70 = .ok (.ifCond .le 132, 3) := by decide +kernel
theorem dX11_minute_73 : decode cX11_minute 73 = .ok (.iload 6, 2) := by decide +kernel
theorem dX11_minute_75 : decode cX11_minute 75 = .ok (.iload_n 1, 1) := by decide +kernel
theorem dX11_minute_76 : decode cX11_minute 76 = .ok (.ishr, 1) := by decide +kernel
theorem dX11_minute_77 : decode cX11_minute 77 = .ok (.iconst 1, 1) := by decide +kernel
theorem dX11_minute_78 : decode cX11_minute 78 = .ok (.iand, 1) := by decide +kernel
theorem dX11_minute_79 : decode cX11_minute 79 = .ok (.iconst 1, 1) := by decide +kernel
theorem dX11_minute_80 : decode cX11_minute 80 = .ok (.if_icmp .ne 110, 3) := by decide +kernel
theorem dX11_minute_83 : decode cX11_minute 83 = .ok (.aload_n 0, 1) := by decide +kernel
theorem dX11_minute_84 : decode cX11_minute 84 = .ok (.iload 4, 2) := by decide +kernel
theorem dX11_minute_86 : decode cX11_minute 86 = .ok (.iload 6, 2) := by decide +kernel
theorem dX11_minute_88 : decode cX11_minute 88 = .ok (.invokevirtual 202, 3) := by decide +kernel
theorem dX11_minute_91 : decode cX11_minute 91 = .ok (.ifCond .eq 99, 3) := by decide +kernel
theorem dX11_minute_94 : decode cX11_minute 94 = .ok (.aload_n 0, 1) := by decide +kernel
theorem dX11_minute_95 : decode cX11_minute 95 = .ok (.iload 4, 2) := by decide +kernel
theorem dX11_minute_97 : decode cX11_minute 97 = .ok (.iload 6, 2) := by decide +kernel
theorem dX11_minute_99 : decode cX11_minute 99 = .ok (.invokevirtual 259, 3) := by decide +kernel
theorem dX11_minute_102 : decode cX11_minute 102 = .ok (.istore 7, 2) := by decide +kernel
theorem dX11_minute_104 : decode cX11_minute 104 = .ok (.aload_n 0, 1) := by decide +kernel
theorem dX11_minute_105 : decode cX11_minute 105 = .ok (.iload 4, 2) := by decide +kernel
theorem dX11_minute_107 : decode cX11_minute 107 = .ok (.iload 6, 2) := by decide +kernel
theorem dX11_minute_109 : decode cX11_minute 109 = .ok (.ior, 1) := by decide +kernel
theorem dX11_minute_110 : decode cX11_minute 110 = .ok (.iload 6, 2) := by decide +kernel
theorem dX11_minute_112 : decode cX11_minute 112 = .ok (.invokevirtual 262, 3) := by decide +kernel
theorem dX11_minute_115 : decode cX11_minute 115 = .ok (.istore 8, 2) := by decide +kernel
theorem dX11_minute_117 : decode cX11_minute 117 = .ok (.iload_n 2, 1) := by decide +kernel
theorem dX11_minute_118 : decode cX11_minute 118 = .ok (.ifCond .ne 8, 3) := by decide +kernel
theorem dX11_minute_121 : decode cX11_minute 121 = .ok (.iload 7, 2) := by decide +kernel
theorem dX11_minute_123 : decode cX11_minute 123 = .ok (.goto 5, 3) := by decide +kernel
theorem dX11_minute_126 : decode cX11_minute 126 = .ok (.iload 8, 2) := by decide +kernel
theorem dX11_minute_128 : decode cX11_minute 128 = .ok (.istore 9, 2) := by decide +kernel
theorem dX11_minute_130 : decode cX11_minute 130 = .ok (.iload 7, 2) := by decide +kernel
theorem dX11_minute_132 : decode cX11_minute 132 = .ok (.iload 8, 2) := by decide +kernel
theorem dX11_minute_134 : decode cX11_minute 134 = .ok (.if_icmp .gt 41, 3) := by decide +kernel
theorem dX11_minute_137 : decode cX11_minute 137 = .ok (.iload_n 3, 1) := by decide +kernel
theorem dX11_minute_138 : decode cX11_minute 138 = .ok (.iconst (-1), 1) := by decide +kernel
theorem dX11_minute_139 : decode cX11_minute 139 = .ok (.if_icmp .eq 32, 3) := by decide +kernel
theorem dX11_minute_142 : decode cX11_minute 142 = .ok (.iload_n 2, 1) := by decide +kernel
theorem dX11_minute_143 : decode cX11_minute 143 = .ok (.ifCond .ne 7, 3) := by decide +kernel
theorem dX11_minute_146 : decode cX11_minute 146 = .ok (.iconst 1, 1) := by decide +kernel
theorem dX11_minute_147 : decode cX11_minute 147 = .ok (.goto 4, 3) := by decide +kernel
theorem dX11_minute_150 : decode cX11_minute 150 = .ok (.iconst 0, 1) := by decide +kernel
theorem dX11_minute_151 : decode cX11_minute 151 = .ok (.iload 9, 2) := by decide +kernel
theorem dX11_minute_153 : decode cX11_minute 153 = .ok (.iload_n 3, 1) := by decide +kernel
theorem dX11_minute_154 : decode cX11_minute 154 = .ok (.if_icmp .ge 7, 3) := by decide +kernel
theorem dX11_minute_157 : decode cX11_minute 157 = .ok (.iconst 1, 1) := by decide +kernel
theorem dX11_minute_158 : decode cX11_minute 158 = .ok (.goto 4, 3) := by decide +kernel
theorem dX11_minute_161 : decode cX11_minute 161 = .ok (.iconst 0, 1) := by decide +kernel
theorem dX11_minute_162 : decode cX11_minute 162 = .ok (.if_icmp .ne 13, 3) := by decide +kernel
theorem dX11_minute_165 : decode cX11_minute 165 = .ok (.iload 9, 2) := by decide +kernel
theorem dX11_minute_167 : decode cX11_minute 167 = .ok (.iload_n 3, 1) := by decide +kernel
theorem dX11_minute_168 : decode cX11_minute 168 = .ok (.if_icmp .eq 7, 3) := by decide +kernel
theorem dX11_minute_171 : decode cX11_minute 171 = .ok (.iconst 1, 1) := by decide +kernel
theorem dX11_minute_172 : decode cX11_minute 172 = .ok (.goto 4, 3) := by decide +kernel
theorem dX11_minute_175 : decode cX11_minute 175 = .ok (.iconst 0, 1) := by decide +kernel
theorem dX11_minute_176 : decode cX11_minute 176 = .ok (.istore 10, 2) := by decide +kernel
theorem dX11_minute_178 : decode cX11_minute 178 = .ok (.iload 10, 2) := by decide +kernel
theorem dX11_minute_180 : decode cX11_minute 180 = .ok (.ifCond .eq 8, 3) := by decide +kernel
theorem dX11_minute_183 : decode cX11_minute 183 = .ok (.iload 9, 2) := by decide +kernel
theorem dX11_minute_185 : decode cX11_minute 185 = .ok (.goto 4, 3) := by decide +kernel
theorem dX11_minute_188 : decode cX11_minute 188 = .ok (.iload_n 3, 1) := by decide +kernel
theorem dX11_minute_189 : decode cX11_minute 189 = .ok (.istore_n 3, 1) := by decide +kernel
theorem dX11_minute_190 : decode cX11_minute 190 = .ok (.iload 6, 2) := by decide +kernel
theorem dX11_minute_192 : decode cX11_minute 192 = .ok (.iconst 1, 1) := by decide +kernel
theorem dX11_minute_193 : decode cX11_minute 193 = .ok (.isub, 1) := by decide +kernel
theorem dX11_minute_194 : decode cX11_minute 194 = .ok (.iload 5, 2) := by decide +kernel
theorem dX11_minute_196 : decode cX11_minute 196 = .ok (.iand, 1) := by decide +kernel
theorem dX11_minute_197 : decode cX11_minute 197 = .ok (.istore 6, 2) := by decide +kernel
theorem dX11_minute_199 : decode cX11_minute 199 = .ok (.goto (-131), 3) := by decide +kernel
theorem dX11_minute_202 : decode cX11_minute 202 = .ok (.iinc 4 1, 3) := by decide +kernel
theorem dX11_minute_205 : decode cX11_minute 205 = .ok (.goto (-174), 3) := by decide +kernel
theorem dX11_minute_208 : decode cX11_minute 208 = .ok (.iload_n 3, 1) := by decide +kernel
theorem dX11_minute_209 : decode cX11_minute 209 = .ok (.ireturn, 1) := by decide +kernel
set_option maxRecDepth 20000 in
theorem ggX11_image_X11_in : GoodIn wsX11_image wsX11_in := goodIn_r _ [7] (by decide +kernel) (by decide +kernel)
set_option maxRecDepth 20000 in
theorem gX11_image_X11_in : GoodIn wsX11_image (va_wsS RX11 70 yX11_in wsX11_in) := goodIn_app (goodIn_of _ (by decide +kernel)) ggX11_image_X11_in
set_option maxRecDepth 20000 in
theorem ggX11_image_X11_bad : GoodIn wsX11_image wsX11_bad := goodIn_r _ [11, 12, 13, 14, 6, 15, 16, 17, 18, 19, 20, 21, 22, 23, 24, 25, 26, 27, 28, 29, 30, 31, 32, 33, 34, 35, 36, 37, 38, 39, 40, 41, 42, 43, 44] (by decide +kernel) (by decide +kernel)
set_option maxRecDepth 20000 in
theorem gX11_image_X11_bad : GoodIn wsX11_image (wsV RX11 78 RX11 yX11_bad wsX11_bad) := goodIn_app (goodIn_of _ (by decide +kernel)) ggX11_image_X11_bad
theorem dX11_image_0 : decode cX11_image 0 = .ok (.iload_n 1, 1) := by decide +kernel
theorem dX11_image_1 : decode cX11_image 1 = .ok (.iconst 0, 1) := by decide +kernel
theorem dX11_image_2 : decode cX11_image 2 = .ok (.iconst 1, 1) := by decide +kernel
theorem dX11_image_3 : decode cX11_image 3 = .ok (.invokestatic 70, 3) := by decide +kernel
theorem dX11_image_6 : decode cX11_image 6 = .ok (.ifCond .ne 8, 3) := by decide +kernel
theorem dX11_image_9 : decode cX11_image 9 = .ok (.aload_n 0, 1) := by decide +kernel
theorem dX11_image_10 : decode cX11_image 10 = .ok (.invokevirtual 78, 3) := by decide +kernel
theorem dX11_image_13 : decode cX11_image 13 = .ok (.ireturn, 1) := by decide +kernel
theorem dX11_image_14 : decode cX11_image 14 = .ok (.iconst 0, 1) := by decide +kernel
theorem dX11_image_15 : decode cX11_image 15 = .ok (.istore_n 2, 1) := by decide +kernel
theorem dX11_image_16 : decode cX11_image 16 = .ok (.iload_n 2, 1) := by decide +kernel
theorem dX11_image_17 : decode cX11_image 17 = .ok (.bipush 58, 2) := by decide +kernel
theorem dX11_image_19 : decode cX11_image 19 = .ok (.if_icmp .ge 26, 3) := by decide +kernel
theorem dX11_image_22 : decode cX11_image 22 = .ok (.aload_n 0, 1) := by decide +kernel
theorem dX11_image_23 : decode cX11_image 23 = .ok (.getfield 16, 3) := by decide +kernel
theorem dX11_image_26 : decode cX11_image 26 = .ok (.bipush 58, 2) := by decide +kernel
theorem dX11_image_28 : decode cX11_image 28 = .ok (.iload_n 1, 1) := by decide +kernel
theorem dX11_image_29 : decode cX11_image 29 = .ok (.imul, 1) := by decide +kernel
theorem dX11_image_30 : decode cX11_image 30 = .ok (.iload_n 2, 1) := by decide +kernel
theorem dX11_image_31 : decode cX11_image 31 = .ok (.iadd, 1) := by decide +kernel
theorem dX11_image_32 : decode cX11_image 32 = .ok (.aload_n 0, 1) := by decide +kernel
theorem dX11_image_33 : decode cX11_image 33 = .ok (.getfield 7, 3) := by decide +kernel
theorem dX11_image_36 : decode cX11_image 36 = .ok (.iload_n 2, 1) := by decide +kernel
theorem dX11_image_37 : decode cX11_image 37 = .ok (.iaload, 1) := by decide +kernel
theorem dX11_image_38 : decode cX11_image 38 = .ok (.iastore, 1) := by decide +kernel
theorem dX11_image_39 : decode cX11_image 39 = .ok (.iinc 2 1, 3) := by decide +kernel
theorem dX11_image_42 : decode cX11_image 42 = .ok (.goto (-26), 3) := by decide +kernel
theorem dX11_image_45 : decode cX11_image 45 = .ok (.aload_n 0, 1) := by decide +kernel
theorem dX11_image_46 : decode cX11_image 46 = .ok (.getfield 19, 3) := by decide +kernel
theorem dX11_image_49 : decode cX11_image 49 = .ok (.iload_n 1, 1) := by decide +kernel
theorem dX11_image_50 : decode cX11_image 50 = .ok (.iconst 1, 1) := by decide +kernel
theorem dX11_image_51 : decode cX11_image 51 = .ok (.bastore, 1) := by decide +kernel
theorem dX11_image_52 : decode cX11_image 52 = .ok (.iconst 1, 1) := by decide +kernel
theorem dX11_image_53 : decode cX11_image 53 = .ok (.ireturn, 1) := by decide +kernel
set_option maxRecDepth 20000 in
theorem ggX11_from_X11_in : GoodIn wsX11_from wsX11_in := goodIn_r _ [7] (by decide +kernel) (by decide +kernel)
set_option maxRecDepth 20000 in
theorem gX11_from_X11_in : GoodIn wsX11_from (va_wsS RX11 70 yX11_in wsX11_in) := goodIn_app (goodIn_of _ (by decide +kernel)) ggX11_from_X11_in
set_option maxRecDepth 20000 in
theorem ggX11_from_X11_bad : GoodIn wsX11_from wsX11_bad := goodIn_r _ [11, 12, 13, 14, 6, 15, 16, 17, 18, 19, 20, 21, 22, 23, 24, 25, 26, 27, 28, 29, 30, 31, 32, 33, 34, 35, 36, 37, 38, 39, 40, 41, 42, 43, 44] (by decide +kernel) (by decide +kernel)
set_option maxRecDepth 20000 in
theorem gX11_from_X11_bad : GoodIn wsX11_from (wsV RX11 78 RX11 yX11_bad wsX11_bad) := goodIn_app (goodIn_of _ (by decide +kernel)) ggX11_from_X11_bad
set_option maxRecDepth 20000 in
theorem ggX11_from_X11_refuses : GoodIn wsX11_from wsX11_refuses := goodIn_r _ [15, 16, 17, 18, 19, 20, 21, 22, 23, 24, 25, 26, 27, 28, 29, 30, 31, 32, 33, 34, 35, 36, 37, 38, 39, 40, 41, 42, 43, 44] (by decide +kernel) (by decide +kernel)
set_option maxRecDepth 20000 in
theorem gX11_from_X11_refuses : GoodIn wsX11_from (wsV RX11 66 RX11 yX11_refuses wsX11_refuses) := goodIn_app (goodIn_of _ (by decide +kernel)) ggX11_from_X11_refuses
theorem dX11_from_0 : decode cX11_from 0 = .ok (.iload_n 1, 1) := by decide +kernel
theorem dX11_from_1 : decode cX11_from 1 = .ok (.iconst 0, 1) := by decide +kernel
theorem dX11_from_2 : decode cX11_from 2 = .ok (.iconst 1, 1) := by decide +kernel
theorem dX11_from_3 : decode cX11_from 3 = .ok (.invokestatic 70, 3) := by decide +kernel
theorem dX11_from_6 : decode cX11_from 6 = .ok (.ifCond .ne 8, 3) := by decide +kernel
theorem dX11_from_9 : decode cX11_from 9 = .ok (.aload_n 0, 1) := by decide +kernel
theorem dX11_from_10 : decode cX11_from 10 = .ok (.invokevirtual 78, 3) := by decide +kernel
theorem dX11_from_13 : decode cX11_from 13 = .ok (.ireturn, 1) := by decide +kernel
theorem dX11_from_14 : decode cX11_from 14 = .ok (.aload_n 0, 1) := by decide +kernel
theorem dX11_from_15 : decode cX11_from 15 = .ok (.getfield 19, 3) := by decide +kernel
theorem dX11_from_18 : decode cX11_from 18 = .ok (.iload_n 1, 1) := by decide +kernel
theorem dX11_from_19 : decode cX11_from 19 = .ok (.baload, 1) := by decide +kernel
theorem dX11_from_20 : decode cX11_from 20 = .ok (.ifCond .ne 11, 3) := by decide +kernel
theorem dX11_from_23 : decode cX11_from 23 = .ok (.aload_n 0, 1) := by decide +kernel
theorem dX11_from_24 : decode cX11_from 24 = .ok (.iconst 1, 1) := by decide +kernel
theorem dX11_from_25 : decode cX11_from 25 = .ok (.bipush (-3), 2) := by decide +kernel
theorem dX11_from_27 : decode cX11_from 27 = .ok (.invokevirtual 66, 3) := by decide +kernel
theorem dX11_from_30 : decode cX11_from 30 = .ok (.ireturn, 1) := by decide +kernel
theorem dX11_from_31 : decode cX11_from 31 = .ok (.iconst 0, 1) := by decide +kernel
theorem dX11_from_32 : decode cX11_from 32 = .ok (.istore_n 2, 1) := by decide +kernel
theorem dX11_from_33 : decode cX11_from 33 = .ok (.iload_n 2, 1) := by decide +kernel
theorem dX11_from_34 : decode cX11_from 34 = .ok (.bipush 58, 2) := by decide +kernel
theorem dX11_from_36 : decode cX11_from 36 = .ok (.if_icmp .ge 26, 3) := by decide +kernel
theorem dX11_from_39 : decode cX11_from 39 = .ok (.aload_n 0, 1) := by decide +kernel
theorem dX11_from_40 : decode cX11_from 40 = .ok (.getfield 7, 3) := by decide +kernel
theorem dX11_from_43 : decode cX11_from 43 = .ok (.iload_n 2, 1) := by decide +kernel
theorem dX11_from_44 : decode cX11_from 44 = .ok (.aload_n 0, 1) := by decide +kernel
theorem dX11_from_45 : decode cX11_from 45 = .ok (.getfield 16, 3) := by decide +kernel
theorem dX11_from_48 : decode cX11_from 48 = .ok (.bipush 58, 2) := by decide +kernel
theorem dX11_from_50 : decode cX11_from 50 = .ok (.iload_n 1, 1) := by decide +kernel
theorem dX11_from_51 : decode cX11_from 51 = .ok (.imul, 1) := by decide +kernel
theorem dX11_from_52 : decode cX11_from 52 = .ok (.iload_n 2, 1) := by decide +kernel
theorem dX11_from_53 : decode cX11_from 53 = .ok (.iadd, 1) := by decide +kernel
theorem dX11_from_54 : decode cX11_from 54 = .ok (.iaload, 1) := by decide +kernel
theorem dX11_from_55 : decode cX11_from 55 = .ok (.iastore, 1) := by decide +kernel
theorem dX11_from_56 : decode cX11_from 56 = .ok (.iinc 2 1, 3) := by decide +kernel
theorem dX11_from_59 : decode cX11_from 59 = .ok (.goto (-26), 3) := by decide +kernel
theorem dX11_from_62 : decode cX11_from 62 = .ok (.iconst 1, 1) := by decide +kernel
theorem dX11_from_63 : decode cX11_from 63 = .ok (.ireturn, 1) := by decide +kernel
set_option maxRecDepth 20000 in
theorem ggX11_status_X11_in : GoodIn wsX11_status wsX11_in := goodIn_r _ [5] (by decide +kernel) (by decide +kernel)
set_option maxRecDepth 20000 in
theorem gX11_status_X11_in : GoodIn wsX11_status (va_wsS RX11 70 yX11_in wsX11_in) := goodIn_app (goodIn_of _ (by decide +kernel)) ggX11_status_X11_in
set_option maxRecDepth 20000 in
theorem ggX11_status_X11_refuses : GoodIn wsX11_status wsX11_refuses := goodIn_r _ [9, 1, 10, 11, 12, 13, 14, 15, 16, 17, 18, 19, 20, 21, 22, 23, 24, 25, 26, 27, 28, 29, 30, 31, 32, 33, 34, 35, 36, 37] (by decide +kernel) (by decide +kernel)
set_option maxRecDepth 20000 in
theorem gX11_status_X11_refuses : GoodIn wsX11_status (wsV RX11 66 RX11 yX11_refuses wsX11_refuses) := goodIn_app (goodIn_of _ (by decide +kernel)) ggX11_status_X11_refuses
theorem dX11_status_0 : decode cX11_status 0 = .ok (.iload_n 1, 1) := by decide +kernel
theorem dX11_status_1 : decode cX11_status 1 = .ok (.iconst 0, 1) := by decide +kernel
theorem dX11_status_2 : decode cX11_status 2 = .ok (.iconst 2, 1) := by decide +kernel
theorem dX11_status_3 : decode cX11_status 3 = .ok (.invokestatic 70, 3) := by decide +kernel
theorem dX11_status_6 : decode cX11_status 6 = .ok (.ifCond .eq 12, 3) := by decide +kernel
theorem dX11_status_9 : decode cX11_status 9 = .ok (.aload_n 0, 1) := by decide +kernel
theorem dX11_status_10 : decode cX11_status 10 = .ok (.getfield 26, 3) := by decide +kernel
theorem dX11_status_13 : decode cX11_status 13 = .ok (.iload_n 1, 1) := by decide +kernel
theorem dX11_status_14 : decode cX11_status 14 = .ok (.iaload, 1) := by decide +kernel
theorem dX11_status_15 : decode cX11_status 15 = .ok (.goto 9, 3) := by decide +kernel
theorem dX11_status_18 : decode cX11_status 18 = .ok (.aload_n 0, 1) := by decide +kernel
theorem dX11_status_19 : decode cX11_status 19 = .ok (.iconst 0, 1) := by decide +kernel
theorem dX11_status_20 : decode cX11_status 20 = .ok (.iconst (-1), 1) := by decide +kernel
theorem dX11_status_21 : decode cX11_status 21 = .ok (.invokevirtual 66, 3) := by decide +kernel
theorem dX11_status_24 : decode cX11_status 24 = .ok (.ireturn, 1) := by decide +kernel
theorem dX11_counted_0 : decode cX11_counted 0 = .ok (.iconst 0, 1) := by decide +kernel
theorem dX11_counted_1 : decode cX11_counted 1 = .ok (.istore_n 2, 1) := by decide +kernel
theorem dX11_counted_2 : decode cX11_counted 2 = .ok (.iconst 0, 1) := by decide +kernel
theorem dX11_counted_3 : decode cX11_counted 3 = .ok (.istore_n 3, 1) := by decide +kernel
theorem dX11_counted_4 : decode cX11_counted 4 = .ok (.iload_n 3, 1) := by decide +kernel
theorem dX11_counted_5 : decode cX11_counted 5 = .ok (.bipush 12, 2) := by decide +kernel
theorem dX11_counted_7 : decode cX11_counted 7 = .ok (.if_icmp .ge 30, 3) := by decide +kernel
theorem dX11_counted_10 : decode cX11_counted 10 = .ok (.iload_n 2, 1) := by decide +kernel
theorem dX11_counted_11 : decode cX11_counted 11 = .ok (.aload_n 0, 1) := by decide +kernel
theorem dX11_counted_12 : decode cX11_counted 12 = .ok (.getfield 7, 3) := by decide +kernel
theorem dX11_counted_15 : decode cX11_counted 15 = .ok (.bipush 46, 2) := by decide +kernel
theorem dX11_counted_17 : decode cX11_counted 17 = .ok (.iload_n 3, 1) := by decide +kernel
theorem dX11_counted_18 : decode cX11_counted 18 = .ok (.iadd, 1) := by decide +kernel
theorem dX11_counted_19 : decode cX11_counted 19 = .ok (.iaload, 1) := by decide +kernel
theorem dX11_counted_20 : decode cX11_counted 20 = .ok (.iconst (-1), 1) := by decide +kernel
theorem dX11_counted_21 : decode cX11_counted 21 = .ok (.if_icmp .eq 7, 3) := by decide +kernel
theorem dX11_counted_24 : decode cX11_counted 24 = .ok (.iconst 1, 1) := by decide +kernel
theorem dX11_counted_25 : decode cX11_counted 25 = .ok (.goto 4, 3) := by decide +kernel
theorem dX11_counted_28 : decode cX11_counted 28 = .ok (.iconst 0, 1) := by decide +kernel
theorem dX11_counted_29 : decode cX11_counted 29 = .ok (.iadd, 1) := by decide +kernel
theorem dX11_counted_30 : decode cX11_counted 30 = .ok (.istore_n 2, 1) := by decide +kernel
theorem dX11_counted_31 : decode cX11_counted 31 = .ok (.iinc 3 1, 3) := by decide +kernel
theorem dX11_counted_34 : decode cX11_counted 34 = .ok (.goto (-30), 3) := by decide +kernel
theorem dX11_counted_37 : decode cX11_counted 37 = .ok (.iload_n 1, 1) := by decide +kernel
theorem dX11_counted_38 : decode cX11_counted 38 = .ok (.ifCond .ne 12, 3) := by decide +kernel
theorem dX11_counted_41 : decode cX11_counted 41 = .ok (.aload_n 0, 1) := by decide +kernel
theorem dX11_counted_42 : decode cX11_counted 42 = .ok (.getfield 7, 3) := by decide +kernel
theorem dX11_counted_45 : decode cX11_counted 45 = .ok (.iconst 0, 1) := by decide +kernel
theorem dX11_counted_46 : decode cX11_counted 46 = .ok (.iaload, 1) := by decide +kernel
theorem dX11_counted_47 : decode cX11_counted 47 = .ok (.goto 30, 3) := by decide +kernel
theorem dX11_counted_50 : decode cX11_counted 50 = .ok (.iload_n 1, 1) := by decide +kernel
theorem dX11_counted_51 : decode cX11_counted 51 = .ok (.iconst 1, 1) := by decide +kernel
theorem dX11_counted_52 : decode cX11_counted 52 = .ok (.if_icmp .ne 12, 3) := by decide +kernel
theorem dX11_counted_55 : decode cX11_counted 55 = .ok (.aload_n 0, 1) := by decide +kernel
theorem dX11_counted_56 : decode cX11_counted 56 = .ok (.getfield 7, 3) := by decide +kernel
theorem dX11_counted_59 : decode cX11_counted 59 = .ok (.iconst 1, 1) := by decide +kernel
theorem dX11_counted_60 : decode cX11_counted 60 = .ok (.iaload, 1) := by decide +kernel
theorem dX11_counted_61 : decode cX11_counted 61 = .ok (.goto 16, 3) := by decide +kernel
theorem dX11_counted_64 : decode cX11_counted 64 = .ok (.iload_n 1, 1) := by decide +kernel
theorem dX11_counted_65 : decode cX11_counted 65 = .ok (.iconst 2, 1) := by decide +kernel
theorem dX11_counted_66 : decode cX11_counted 66 = .ok (.if_icmp .ne 7, 3) := by decide +kernel
theorem dX11_counted_69 : decode cX11_counted 69 = .ok (.iload_n 2, 1) := by decide +kernel
theorem dX11_counted_70 : decode cX11_counted 70 = .ok (.goto 7, 3) := by decide +kernel
theorem dX11_counted_73 : decode cX11_counted 73 = .ok (.aload_n 0, 1) := by decide +kernel
theorem dX11_counted_74 : decode cX11_counted 74 = .ok (.getfield 82, 3) := by decide +kernel
theorem dX11_counted_77 : decode cX11_counted 77 = .ok (.ireturn, 1) := by decide +kernel
set_option maxRecDepth 20000 in
theorem ggX11_count_X11_in : GoodIn wsX11_count wsX11_in := goodIn_r _ [4] (by decide +kernel) (by decide +kernel)
set_option maxRecDepth 20000 in
theorem gX11_count_X11_in : GoodIn wsX11_count (va_wsS RX11 70 yX11_in wsX11_in) := goodIn_app (goodIn_of _ (by decide +kernel)) ggX11_count_X11_in
set_option maxRecDepth 20000 in
theorem ggX11_count_X11_counted : GoodIn wsX11_count wsX11_counted := goodIn_r _ [8, 9, 10, 20, 21, 22, 23, 24, 25, 26, 27, 28, 29, 30, 31, 32, 33, 34, 35, 36, 37, 38, 39, 40, 41, 42, 43, 44, 45, 46, 47] (by decide +kernel) (by decide +kernel)
set_option maxRecDepth 20000 in
theorem gX11_count_X11_counted : GoodIn wsX11_count (wsV RX11 268 RX11 yX11_counted wsX11_counted) := goodIn_app (goodIn_of _ (by decide +kernel)) ggX11_count_X11_counted
set_option maxRecDepth 20000 in
theorem ggX11_count_X11_bad : GoodIn wsX11_count wsX11_bad := goodIn_r _ [14, 15, 16, 17, 3, 18, 19, 20, 21, 22, 23, 24, 25, 26, 27, 28, 29, 30, 31, 32, 33, 34, 35, 36, 37, 38, 39, 40, 41, 42, 43, 44, 45, 46, 47] (by decide +kernel) (by decide +kernel)
set_option maxRecDepth 20000 in
theorem gX11_count_X11_bad : GoodIn wsX11_count (wsV RX11 78 RX11 yX11_bad wsX11_bad) := goodIn_app (goodIn_of _ (by decide +kernel)) ggX11_count_X11_bad
theorem dX11_count_0 : decode cX11_count 0 = .ok (.iload_n 1, 1) := by decide +kernel
theorem dX11_count_1 : decode cX11_count 1 = .ok (.iconst 0, 1) := by decide +kernel
theorem dX11_count_2 : decode cX11_count 2 = .ok (.iconst 3, 1) := by decide +kernel
theorem dX11_count_3 : decode cX11_count 3 = .ok (.invokestatic 70, 3) := by decide +kernel
theorem dX11_count_6 : decode cX11_count 6 = .ok (.ifCond .eq 11, 3) := by decide +kernel
theorem dX11_count_9 : decode cX11_count 9 = .ok (.aload_n 0, 1) := by decide +kernel
theorem dX11_count_10 : decode cX11_count 10 = .ok (.iload_n 1, 1) := by decide +kernel
theorem dX11_count_11 : decode cX11_count 11 = .ok (.invokevirtual 268, 3) := by decide +kernel
theorem dX11_count_14 : decode cX11_count 14 = .ok (.goto 7, 3) := by decide +kernel
theorem dX11_count_17 : decode cX11_count 17 = .ok (.aload_n 0, 1) := by decide +kernel
theorem dX11_count_18 : decode cX11_count 18 = .ok (.invokevirtual 78, 3) := by decide +kernel
theorem dX11_count_21 : decode cX11_count 21 = .ok (.ireturn, 1) := by decide +kernel
set_option maxRecDepth 20000 in
theorem ggX11_digest_X11_counted : GoodIn wsX11_digest wsX11_counted := goodIn_r _ [8, 3, 9, 10, 11, 12, 13, 14, 15, 16, 17, 18, 19, 20, 21, 22, 23, 24, 25, 26, 27, 28, 29, 30, 31, 32, 33, 34, 35, 36, 37] (by decide +kernel) (by decide +kernel)
set_option maxRecDepth 20000 in
theorem gX11_digest_X11_counted : GoodIn wsX11_digest (wsV RX11 268 RX11 yX11_counted wsX11_counted) := goodIn_app (goodIn_of _ (by decide +kernel)) ggX11_digest_X11_counted
theorem dX11_digest_0 : decode cX11_digest 0 = .ok (.ldc2_w 270, 3) := by decide +kernel
theorem dX11_digest_3 : decode cX11_digest 3 = .ok (.lstore_n 1, 1) := by decide +kernel
theorem dX11_digest_4 : decode cX11_digest 4 = .ok (.iconst 0, 1) := by decide +kernel
theorem dX11_digest_5 : decode cX11_digest 5 = .ok (.istore_n 3, 1) := by decide +kernel
theorem dX11_digest_6 : decode cX11_digest 6 = .ok (.iload_n 3, 1) := by decide +kernel
theorem dX11_digest_7 : decode cX11_digest 7 = .ok (.iconst 4, 1) := by decide +kernel
theorem dX11_digest_8 : decode cX11_digest 8 = .ok (.if_icmp .ge 22, 3) := by decide +kernel
theorem dX11_digest_11 : decode cX11_digest 11 = .ok (.ldc2_w 272, 3) := by decide +kernel
theorem dX11_digest_14 : decode cX11_digest 14 = .ok (.lload_n 1, 1) := by decide +kernel
theorem dX11_digest_15 : decode cX11_digest 15 = .ok (.lmul, 1) := by decide +kernel
theorem dX11_digest_16 : decode cX11_digest 16 = .ok (.aload_n 0, 1) := by decide +kernel
theorem dX11_digest_17 : decode cX11_digest 17 = .ok (.iload_n 3, 1) := by decide +kernel
theorem dX11_digest_18 : decode cX11_digest 18 = .ok (.invokevirtual 268, 3) := by decide +kernel
theorem dX11_digest_21 : decode cX11_digest 21 = .ok (.i2l, 1) := by decide +kernel
theorem dX11_digest_22 : decode cX11_digest 22 = .ok (.ladd, 1) := by decide +kernel
theorem dX11_digest_23 : decode cX11_digest 23 = .ok (.lstore_n 1, 1) := by decide +kernel
theorem dX11_digest_24 : decode cX11_digest 24 = .ok (.iinc 3 1, 3) := by decide +kernel
theorem dX11_digest_27 : decode cX11_digest 27 = .ok (.goto (-21), 3) := by decide +kernel
theorem dX11_digest_30 : decode cX11_digest 30 = .ok (.iconst 0, 1) := by decide +kernel
theorem dX11_digest_31 : decode cX11_digest 31 = .ok (.istore_n 3, 1) := by decide +kernel
theorem dX11_digest_32 : decode cX11_digest 32 = .ok (.iload_n 3, 1) := by decide +kernel
theorem dX11_digest_33 : decode cX11_digest 33 = .ok (.aload_n 0, 1) := by decide +kernel
theorem dX11_digest_34 : decode cX11_digest 34 = .ok (.getfield 7, 3) := by decide +kernel
theorem dX11_digest_37 : decode cX11_digest 37 = .ok (.iconst 0, 1) := by decide +kernel
theorem dX11_digest_38 : decode cX11_digest 38 = .ok (.iaload, 1) := by decide +kernel
theorem dX11_digest_39 : decode cX11_digest 39 = .ok (.if_icmp .ge 40, 3) := by decide +kernel
theorem dX11_digest_42 : decode cX11_digest 42 = .ok (.ldc2_w 272, 3) := by decide +kernel
theorem dX11_digest_45 : decode cX11_digest 45 = .ok (.ldc2_w 272, 3) := by decide +kernel
theorem dX11_digest_48 : decode cX11_digest 48 = .ok (.lload_n 1, 1) := by decide +kernel
theorem dX11_digest_49 : decode cX11_digest 49 = .ok (.lmul, 1) := by decide +kernel
theorem dX11_digest_50 : decode cX11_digest 50 = .ok (.aload_n 0, 1) := by decide +kernel
theorem dX11_digest_51 : decode cX11_digest 51 = .ok (.getfield 7, 3) := by decide +kernel
theorem dX11_digest_54 : decode cX11_digest 54 = .ok (.iconst 2, 1) := by decide +kernel
theorem dX11_digest_55 : decode cX11_digest 55 = .ok (.iload_n 3, 1) := by decide +kernel
theorem dX11_digest_56 : decode cX11_digest 56 = .ok (.iadd, 1) := by decide +kernel
theorem dX11_digest_57 : decode cX11_digest 57 = .ok (.iaload, 1) := by decide +kernel
theorem dX11_digest_58 : decode cX11_digest 58 = .ok (.i2l, 1) := by decide +kernel
theorem dX11_digest_59 : decode cX11_digest 59 = .ok (.ladd, 1) := by decide +kernel
theorem dX11_digest_60 : decode cX11_digest 60 = .ok (.lmul, 1) := by decide +kernel
theorem dX11_digest_61 : decode cX11_digest 61 = .ok (.aload_n 0, 1) := by decide +kernel
theorem dX11_digest_62 : decode cX11_digest 62 = .ok (.getfield 7, 3) := by decide +kernel
theorem dX11_digest_65 : decode cX11_digest 65 = .ok (.bipush 8, 2) := by decide +kernel
theorem dX11_digest_67 : decode cX11_digest 67 = .ok (.iload_n 3, 1) := by decide +kernel
theorem dX11_digest_68 : decode cX11_digest 68 = .ok (.iadd, 1) := by decide +kernel
theorem dX11_digest_69 : decode cX11_digest 69 = .ok (.iaload, 1) := by decide +kernel
theorem dX11_digest_70 : decode cX11_digest 70 = .ok (.i2l, 1) := by decide +kernel
theorem dX11_digest_71 : decode cX11_digest 71 = .ok (.ladd, 1) := by decide +kernel
theorem dX11_digest_72 : decode cX11_digest 72 = .ok (.lstore_n 1, 1) := by decide +kernel
theorem dX11_digest_73 : decode cX11_digest 73 = .ok (.iinc 3 1, 3) := by decide +kernel
theorem dX11_digest_76 : decode cX11_digest 76 = .ok (.goto (-44), 3) := by decide +kernel
theorem dX11_digest_79 : decode cX11_digest 79 = .ok (.iconst 0, 1) := by decide +kernel
theorem dX11_digest_80 : decode cX11_digest 80 = .ok (.istore_n 3, 1) := by decide +kernel
theorem dX11_digest_81 : decode cX11_digest 81 = .ok (.iload_n 3, 1) := by decide +kernel
theorem dX11_digest_82 : decode cX11_digest 82 = .ok (.aload_n 0, 1) := by decide +kernel
theorem dX11_digest_83 : decode cX11_digest 83 = .ok (.getfield 7, 3) := by decide +kernel
theorem dX11_digest_86 : decode cX11_digest 86 = .ok (.iconst 1, 1) := by decide +kernel
theorem dX11_digest_87 : decode cX11_digest 87 = .ok (.iaload, 1) := by decide +kernel
theorem dX11_digest_88 : decode cX11_digest 88 = .ok (.if_icmp .ge 73, 3) := by decide +kernel
theorem dX11_digest_91 : decode cX11_digest 91 = .ok (.ldc2_w 272, 3) := by decide +kernel
theorem dX11_digest_94 : decode cX11_digest 94 = .ok (.ldc2_w 272, 3) := by decide +kernel
theorem dX11_digest_97 : decode cX11_digest 97 = .ok (.lload_n 1, 1) := by decide +kernel
theorem dX11_digest_98 : decode cX11_digest 98 = .ok (.lmul, 1) := by decide +kernel
theorem dX11_digest_99 : decode cX11_digest 99 = .ok (.aload_n 0, 1) := by decide +kernel
theorem dX11_digest_100 : decode cX11_digest 100 = .ok (.getfield 7, 3) := by decide +kernel
theorem dX11_digest_103 : decode cX11_digest 103 = .ok (.bipush 14, 2) := by decide +kernel
theorem dX11_digest_105 : decode cX11_digest 105 = .ok (.iload_n 3, 1) := by decide +kernel
theorem dX11_digest_106 : decode cX11_digest 106 = .ok (.iadd, 1) := by decide +kernel
theorem dX11_digest_107 : decode cX11_digest 107 = .ok (.iaload, 1) := by decide +kernel
theorem dX11_digest_108 : decode cX11_digest 108 = .ok (.i2l, 1) := by decide +kernel
theorem dX11_digest_109 : decode cX11_digest 109 = .ok (.ladd, 1) := by decide +kernel
theorem dX11_digest_110 : decode cX11_digest 110 = .ok (.lmul, 1) := by decide +kernel
theorem dX11_digest_111 : decode cX11_digest 111 = .ok (.aload_n 0, 1) := by decide +kernel
theorem dX11_digest_112 : decode cX11_digest 112 = .ok (.getfield 7, 3) := by decide +kernel
theorem dX11_digest_115 : decode cX11_digest 115 = .ok (.bipush 22, 2) := by decide +kernel
theorem dX11_digest_117 : decode cX11_digest 117 = .ok (.iload_n 3, 1) := by decide +kernel
theorem dX11_digest_118 : decode cX11_digest 118 = .ok (.iadd, 1) := by decide +kernel
theorem dX11_digest_119 : decode cX11_digest 119 = .ok (.iaload, 1) := by decide +kernel
theorem dX11_digest_120 : decode cX11_digest 120 = .ok (.i2l, 1) := by decide +kernel
theorem dX11_digest_121 : decode cX11_digest 121 = .ok (.ladd, 1) := by decide +kernel
theorem dX11_digest_122 : decode cX11_digest 122 = .ok (.lstore_n 1, 1) := by decide +kernel
theorem dX11_digest_123 : decode cX11_digest 123 = .ok (.ldc2_w 272, 3) := by decide +kernel
theorem dX11_digest_126 : decode cX11_digest 126 = .ok (.ldc2_w 272, 3) := by decide +kernel
theorem dX11_digest_129 : decode cX11_digest 129 = .ok (.lload_n 1, 1) := by decide +kernel
theorem dX11_digest_130 : decode cX11_digest 130 = .ok (.lmul, 1) := by decide +kernel
theorem dX11_digest_131 : decode cX11_digest 131 = .ok (.aload_n 0, 1) := by decide +kernel
theorem dX11_digest_132 : decode cX11_digest 132 = .ok (.getfield 7, 3) := by decide +kernel
theorem dX11_digest_135 : decode cX11_digest 135 = .ok (.bipush 30, 2) := by decide +kernel
theorem dX11_digest_137 : decode cX11_digest 137 = .ok (.iload_n 3, 1) := by decide +kernel
theorem dX11_digest_138 : decode cX11_digest 138 = .ok (.iadd, 1) := by decide +kernel
theorem dX11_digest_139 : decode cX11_digest 139 = .ok (.iaload, 1) := by decide +kernel
theorem dX11_digest_140 : decode cX11_digest 140 = .ok (.i2l, 1) := by decide +kernel
theorem dX11_digest_141 : decode cX11_digest 141 = .ok (.ladd, 1) := by decide +kernel
theorem dX11_digest_142 : decode cX11_digest 142 = .ok (.lmul, 1) := by decide +kernel
theorem dX11_digest_143 : decode cX11_digest 143 = .ok (.aload_n 0, 1) := by decide +kernel
theorem dX11_digest_144 : decode cX11_digest 144 = .ok (.getfield 7, 3) := by decide +kernel
theorem dX11_digest_147 : decode cX11_digest 147 = .ok (.bipush 38, 2) := by decide +kernel
theorem dX11_digest_149 : decode cX11_digest 149 = .ok (.iload_n 3, 1) := by decide +kernel
theorem dX11_digest_150 : decode cX11_digest 150 = .ok (.iadd, 1) := by decide +kernel
theorem dX11_digest_151 : decode cX11_digest 151 = .ok (.iaload, 1) := by decide +kernel
theorem dX11_digest_152 : decode cX11_digest 152 = .ok (.i2l, 1) := by decide +kernel
theorem dX11_digest_153 : decode cX11_digest 153 = .ok (.ladd, 1) := by decide +kernel
theorem dX11_digest_154 : decode cX11_digest 154 = .ok (.lstore_n 1, 1) := by decide +kernel
theorem dX11_digest_155 : decode cX11_digest 155 = .ok (.iinc 3 1, 3) := by decide +kernel
theorem dX11_digest_158 : decode cX11_digest 158 = .ok (.goto (-77), 3) := by decide +kernel
theorem dX11_digest_161 : decode cX11_digest 161 = .ok (.iconst 0, 1) := by decide +kernel
theorem dX11_digest_162 : decode cX11_digest 162 = .ok (.istore_n 3, 1) := by decide +kernel
theorem dX11_digest_163 : decode cX11_digest 163 = .ok (.iload_n 3, 1) := by decide +kernel
theorem dX11_digest_164 : decode cX11_digest 164 = .ok (.iconst 2, 1) := by decide +kernel
theorem dX11_digest_165 : decode cX11_digest 165 = .ok (.aload_n 0, 1) := by decide +kernel
theorem dX11_digest_166 : decode cX11_digest 166 = .ok (.getfield 7, 3) := by decide +kernel
theorem dX11_digest_169 : decode cX11_digest 169 = .ok (.iconst 0, 1) := by decide +kernel
theorem dX11_digest_170 : decode cX11_digest 170 = .ok (.iaload, 1) := by decide +kernel
theorem dX11_digest_171 : decode cX11_digest 171 = .ok (.imul, 1) := by decide +kernel
theorem dX11_digest_172 : decode cX11_digest 172 = .ok (.if_icmp .ge 26, 3) := by decide +kernel
theorem dX11_digest_175 : decode cX11_digest 175 = .ok (.ldc2_w 272, 3) := by decide +kernel
theorem dX11_digest_178 : decode cX11_digest 178 = .ok (.lload_n 1, 1) := by decide +kernel
theorem dX11_digest_179 : decode cX11_digest 179 = .ok (.lmul, 1) := by decide +kernel
theorem dX11_digest_180 : decode cX11_digest 180 = .ok (.aload_n 0, 1) := by decide +kernel
theorem dX11_digest_181 : decode cX11_digest 181 = .ok (.getfield 7, 3) := by decide +kernel
theorem dX11_digest_184 : decode cX11_digest 184 = .ok (.bipush 46, 2) := by decide +kernel
theorem dX11_digest_186 : decode cX11_digest 186 = .ok (.iload_n 3, 1) := by decide +kernel
theorem dX11_digest_187 : decode cX11_digest 187 = .ok (.iadd, 1) := by decide +kernel
theorem dX11_digest_188 : decode cX11_digest 188 = .ok (.iaload, 1) := by decide +kernel
theorem dX11_digest_189 : decode cX11_digest 189 = .ok (.i2l, 1) := by decide +kernel
theorem dX11_digest_190 : decode cX11_digest 190 = .ok (.ladd, 1) := by decide +kernel
theorem dX11_digest_191 : decode cX11_digest 191 = .ok (.lstore_n 1, 1) := by decide +kernel
theorem dX11_digest_192 : decode cX11_digest 192 = .ok (.iinc 3 1, 3) := by decide +kernel
theorem dX11_digest_195 : decode cX11_digest 195 = .ok (.goto (-32), 3) := by decide +kernel
theorem dX11_digest_198 : decode cX11_digest 198 = .ok (.lload_n 1, 1) := by decide +kernel
theorem dX11_digest_199 : decode cX11_digest 199 = .ok (.lreturn, 1) := by decide +kernel
theorem dJ6_bitCount_0f7a4_0 : decode cJ6_bitCount_0f7a4 0 = .ok (.iload_n 0, 1) := by decide +kernel
theorem dJ6_bitCount_0f7a4_1 : decode cJ6_bitCount_0f7a4 1 = .ok (.iload_n 0, 1) := by decide +kernel
theorem dJ6_bitCount_0f7a4_2 : decode cJ6_bitCount_0f7a4 2 = .ok (.iconst 1, 1) := by decide +kernel
theorem dJ6_bitCount_0f7a4_3 : decode cJ6_bitCount_0f7a4 3 = .ok (.iushr, 1) := by decide +kernel
theorem dJ6_bitCount_0f7a4_4 : decode cJ6_bitCount_0f7a4 4 = .ok (.ldc_w 265, 3) := by decide +kernel
theorem dJ6_bitCount_0f7a4_7 : decode cJ6_bitCount_0f7a4 7 = .ok (.iand, 1) := by decide +kernel
theorem dJ6_bitCount_0f7a4_8 : decode cJ6_bitCount_0f7a4 8 = .ok (.isub, 1) := by decide +kernel
theorem dJ6_bitCount_0f7a4_9 : decode cJ6_bitCount_0f7a4 9 = .ok (.istore_n 0, 1) := by decide +kernel
theorem dJ6_bitCount_0f7a4_10 : decode cJ6_bitCount_0f7a4 10 = .ok (.iload_n 0, 1) := by decide +kernel
theorem dJ6_bitCount_0f7a4_11 : decode cJ6_bitCount_0f7a4 11 = .ok (.ldc_w 266, 3) := by decide +kernel
theorem dJ6_bitCount_0f7a4_14 : decode cJ6_bitCount_0f7a4 14 = .ok (.iand, 1) := by decide +kernel
theorem dJ6_bitCount_0f7a4_15 : decode cJ6_bitCount_0f7a4 15 = .ok (.iload_n 0, 1) := by decide +kernel
theorem dJ6_bitCount_0f7a4_16 : decode cJ6_bitCount_0f7a4 16 = .ok (.iconst 2, 1) := by decide +kernel
theorem dJ6_bitCount_0f7a4_17 : decode cJ6_bitCount_0f7a4 17 = .ok (.iushr, 1) := by decide +kernel
theorem dJ6_bitCount_0f7a4_18 : decode cJ6_bitCount_0f7a4 18 = .ok (.ldc_w 266, 3) := by decide +kernel
theorem dJ6_bitCount_0f7a4_21 : decode cJ6_bitCount_0f7a4 21 = .ok (.iand, 1) := by decide +kernel
theorem dJ6_bitCount_0f7a4_22 : decode cJ6_bitCount_0f7a4 22 = .ok (.iadd, 1) := by decide +kernel
theorem dJ6_bitCount_0f7a4_23 : decode cJ6_bitCount_0f7a4 23 = .ok (.istore_n 0, 1) := by decide +kernel
theorem dJ6_bitCount_0f7a4_24 : decode cJ6_bitCount_0f7a4 24 = .ok (.iload_n 0, 1) := by decide +kernel
theorem dJ6_bitCount_0f7a4_25 : decode cJ6_bitCount_0f7a4 25 = .ok (.iload_n 0, 1) := by decide +kernel
theorem dJ6_bitCount_0f7a4_26 : decode cJ6_bitCount_0f7a4 26 = .ok (.iconst 4, 1) := by decide +kernel
theorem dJ6_bitCount_0f7a4_27 : decode cJ6_bitCount_0f7a4 27 = .ok (.iushr, 1) := by decide +kernel
theorem dJ6_bitCount_0f7a4_28 : decode cJ6_bitCount_0f7a4 28 = .ok (.iadd, 1) := by decide +kernel
theorem dJ6_bitCount_0f7a4_29 : decode cJ6_bitCount_0f7a4 29 = .ok (.ldc_w 267, 3) := by decide +kernel
theorem dJ6_bitCount_0f7a4_32 : decode cJ6_bitCount_0f7a4 32 = .ok (.iand, 1) := by decide +kernel
theorem dJ6_bitCount_0f7a4_33 : decode cJ6_bitCount_0f7a4 33 = .ok (.istore_n 0, 1) := by decide +kernel
theorem dJ6_bitCount_0f7a4_34 : decode cJ6_bitCount_0f7a4 34 = .ok (.iload_n 0, 1) := by decide +kernel
theorem dJ6_bitCount_0f7a4_35 : decode cJ6_bitCount_0f7a4 35 = .ok (.iload_n 0, 1) := by decide +kernel
theorem dJ6_bitCount_0f7a4_36 : decode cJ6_bitCount_0f7a4 36 = .ok (.bipush 8, 2) := by decide +kernel
theorem dJ6_bitCount_0f7a4_38 : decode cJ6_bitCount_0f7a4 38 = .ok (.iushr, 1) := by decide +kernel
theorem dJ6_bitCount_0f7a4_39 : decode cJ6_bitCount_0f7a4 39 = .ok (.iadd, 1) := by decide +kernel
theorem dJ6_bitCount_0f7a4_40 : decode cJ6_bitCount_0f7a4 40 = .ok (.istore_n 0, 1) := by decide +kernel
theorem dJ6_bitCount_0f7a4_41 : decode cJ6_bitCount_0f7a4 41 = .ok (.iload_n 0, 1) := by decide +kernel
theorem dJ6_bitCount_0f7a4_42 : decode cJ6_bitCount_0f7a4 42 = .ok (.iload_n 0, 1) := by decide +kernel
theorem dJ6_bitCount_0f7a4_43 : decode cJ6_bitCount_0f7a4 43 = .ok (.bipush 16, 2) := by decide +kernel
theorem dJ6_bitCount_0f7a4_45 : decode cJ6_bitCount_0f7a4 45 = .ok (.iushr, 1) := by decide +kernel
theorem dJ6_bitCount_0f7a4_46 : decode cJ6_bitCount_0f7a4 46 = .ok (.iadd, 1) := by decide +kernel
theorem dJ6_bitCount_0f7a4_47 : decode cJ6_bitCount_0f7a4 47 = .ok (.istore_n 0, 1) := by decide +kernel
theorem dJ6_bitCount_0f7a4_48 : decode cJ6_bitCount_0f7a4 48 = .ok (.iload_n 0, 1) := by decide +kernel
theorem dJ6_bitCount_0f7a4_49 : decode cJ6_bitCount_0f7a4 49 = .ok (.bipush 63, 2) := by decide +kernel
theorem dJ6_bitCount_0f7a4_51 : decode cJ6_bitCount_0f7a4 51 = .ok (.iand, 1) := by decide +kernel
theorem dJ6_bitCount_0f7a4_52 : decode cJ6_bitCount_0f7a4 52 = .ok (.ireturn, 1) := by decide +kernel
theorem dJ9_max_7cf53_0 : decode cJ9_max_7cf53 0 = .ok (.iload_n 0, 1) := by decide +kernel
theorem dJ9_max_7cf53_1 : decode cJ9_max_7cf53 1 = .ok (.iload_n 1, 1) := by decide +kernel
theorem dJ9_max_7cf53_2 : decode cJ9_max_7cf53 2 = .ok (.if_icmp .lt 7, 3) := by decide +kernel
theorem dJ9_max_7cf53_5 : decode cJ9_max_7cf53 5 = .ok (.iload_n 0, 1) := by decide +kernel
theorem dJ9_max_7cf53_6 : decode cJ9_max_7cf53 6 = .ok (.goto 4, 3) := by decide +kernel
theorem dJ9_max_7cf53_9 : decode cJ9_max_7cf53 9 = .ok (.iload_n 1, 1) := by decide +kernel
theorem dJ9_max_7cf53_10 : decode cJ9_max_7cf53 10 = .ok (.ireturn, 1) := by decide +kernel
theorem dJ9_max_f86c9_0 : decode cJ9_max_f86c9 0 = .ok (.lload_n 0, 1) := by decide +kernel
theorem dJ9_max_f86c9_1 : decode cJ9_max_f86c9 1 = .ok (.lload_n 2, 1) := by decide +kernel
theorem dJ9_max_f86c9_2 : decode cJ9_max_f86c9 2 = .ok (.lcmp, 1) := by decide +kernel
theorem dJ9_max_f86c9_3 : decode cJ9_max_f86c9 3 = .ok (.ifCond .lt 7, 3) := by decide +kernel
theorem dJ9_max_f86c9_6 : decode cJ9_max_f86c9 6 = .ok (.lload_n 0, 1) := by decide +kernel
theorem dJ9_max_f86c9_7 : decode cJ9_max_f86c9 7 = .ok (.goto 4, 3) := by decide +kernel
theorem dJ9_max_f86c9_10 : decode cJ9_max_f86c9 10 = .ok (.lload_n 2, 1) := by decide +kernel
theorem dJ9_max_f86c9_11 : decode cJ9_max_f86c9 11 = .ok (.lreturn, 1) := by decide +kernel
theorem dJ9_min_7cf53_0 : decode cJ9_min_7cf53 0 = .ok (.iload_n 0, 1) := by decide +kernel
theorem dJ9_min_7cf53_1 : decode cJ9_min_7cf53 1 = .ok (.iload_n 1, 1) := by decide +kernel
theorem dJ9_min_7cf53_2 : decode cJ9_min_7cf53 2 = .ok (.if_icmp .gt 7, 3) := by decide +kernel
theorem dJ9_min_7cf53_5 : decode cJ9_min_7cf53 5 = .ok (.iload_n 0, 1) := by decide +kernel
theorem dJ9_min_7cf53_6 : decode cJ9_min_7cf53 6 = .ok (.goto 4, 3) := by decide +kernel
theorem dJ9_min_7cf53_9 : decode cJ9_min_7cf53 9 = .ok (.iload_n 1, 1) := by decide +kernel
theorem dJ9_min_7cf53_10 : decode cJ9_min_7cf53 10 = .ok (.ireturn, 1) := by decide +kernel
set_option maxRecDepth 20000 in
theorem ggJ0_length_8abf5_J0_coder_7d493 : GoodIn wsJ0_length_8abf5 wsJ0_coder_7d493 := goodIn_r _ [6, 7, 8] (by decide +kernel) (by decide +kernel)
set_option maxRecDepth 20000 in
theorem gJ0_length_8abf5_J0_coder_7d493 : GoodIn wsJ0_length_8abf5 (wsV RJ0 335 RJ0 yJ0_coder_7d493 wsJ0_coder_7d493) := goodIn_app (goodIn_of _ (by decide +kernel)) ggJ0_length_8abf5_J0_coder_7d493
theorem dJ0_length_8abf5_0 : decode cJ0_length_8abf5 0 = .ok (.aload_n 0, 1) := by decide +kernel
theorem dJ0_length_8abf5_1 : decode cJ0_length_8abf5 1 = .ok (.getfield 9, 3) := by decide +kernel
theorem dJ0_length_8abf5_4 : decode cJ0_length_8abf5 4 = .ok (.arraylength, 1) := by decide +kernel
theorem dJ0_length_8abf5_5 : decode cJ0_length_8abf5 5 = .ok (.aload_n 0, 1) := by decide +kernel
theorem dJ0_length_8abf5_6 : decode cJ0_length_8abf5 6 = .ok (.invokevirtual 335, 3) := by decide +kernel
theorem dJ0_length_8abf5_9 : decode cJ0_length_8abf5 9 = .ok (.ishr, 1) := by decide +kernel
theorem dJ0_length_8abf5_10 : decode cJ0_length_8abf5 10 = .ok (.ireturn, 1) := by decide +kernel
set_option maxRecDepth 20000 in
theorem ggJ0_charAt_5068e_J0_isLatin1_aae02 : GoodIn wsJ0_charAt_5068e wsJ0_isLatin1_aae02 := goodIn_r _ [6, 7, 8] (by decide +kernel) (by decide +kernel)
set_option maxRecDepth 20000 in
theorem gJ0_charAt_5068e_J0_isLatin1_aae02 : GoodIn wsJ0_charAt_5068e (wsV RJ0 492 RJ0 yJ0_isLatin1_aae02 wsJ0_isLatin1_aae02) := goodIn_app (goodIn_of _ (by decide +kernel)) ggJ0_charAt_5068e_J0_isLatin1_aae02
set_option maxRecDepth 20000 in
theorem ggJ0_charAt_5068e_J1_charAt_3b067 : GoodIn wsJ0_charAt_5068e wsJ1_charAt_3b067 := goodIn_r _ [12, 13, 14, 5, 15, 16, 17, 18, 19, 20] (by decide +kernel) (by decide +kernel)
set_option maxRecDepth 20000 in
theorem gJ0_charAt_5068e_J1_charAt_3b067 : GoodIn wsJ0_charAt_5068e (va_wsS RJ0 495 yJ1_charAt_3b067 wsJ1_charAt_3b067) := goodIn_app (goodIn_of _ (by decide +kernel)) ggJ0_charAt_5068e_J1_charAt_3b067
set_option maxRecDepth 20000 in
theorem ggJ0_charAt_5068e_J2_charAt_3b067 : GoodIn wsJ0_charAt_5068e wsJ2_charAt_3b067 := goodIn_r _ [24, 25, 26, 23, 27, 28, 29, 30, 31, 14, 5, 15, 16, 17, 18, 19, 20, 32, 33, 34, 35, 36, 37] (by decide +kernel) (by decide +kernel)
set_option maxRecDepth 20000 in
theorem gJ0_charAt_5068e_J2_charAt_3b067 : GoodIn wsJ0_charAt_5068e (va_wsS RJ0 498 yJ2_charAt_3b067 wsJ2_charAt_3b067) := goodIn_app (goodIn_of _ (by decide +kernel)) ggJ0_charAt_5068e_J2_charAt_3b067
theorem dJ0_charAt_5068e_0 : decode cJ0_charAt_5068e 0 = .ok (.aload_n 0, 1) := by decide +kernel
theorem dJ0_charAt_5068e_1 : decode cJ0_charAt_5068e 1 = .ok (.invokevirtual 492, 3) := by decide +kernel
theorem dJ0_charAt_5068e_4 : decode cJ0_charAt_5068e 4 = .ok (.ifCond .eq 12, 3) := by decide +kernel
theorem dJ0_charAt_5068e_7 : decode cJ0_charAt_5068e 7 = .ok (.aload_n 0, 1) := by decide +kernel
theorem dJ0_charAt_5068e_8 : decode cJ0_charAt_5068e 8 = .ok (.getfield 9, 3) := by decide +kernel
theorem dJ0_charAt_5068e_11 : decode cJ0_charAt_5068e 11 = .ok (.iload_n 1, 1) := by decide +kernel
theorem dJ0_charAt_5068e_12 : decode cJ0_charAt_5068e 12 = .ok (.invokestatic 495, 3) := by decide +kernel
theorem dJ0_charAt_5068e_15 : decode cJ0_charAt_5068e 15 = .ok (.ireturn, 1) := by decide +kernel
theorem dJ0_charAt_5068e_16 : decode cJ0_charAt_5068e 16 = .ok (.aload_n 0, 1) := by decide +kernel
theorem dJ0_charAt_5068e_17 : decode cJ0_charAt_5068e 17 = .ok (.getfield 9, 3) := by decide +kernel
theorem dJ0_charAt_5068e_20 : decode cJ0_charAt_5068e 20 = .ok (.iload_n 1, 1) := by decide +kernel
theorem dJ0_charAt_5068e_21 : decode cJ0_charAt_5068e 21 = .ok (.invokestatic 498, 3) := by decide +kernel
theorem dJ0_charAt_5068e_24 : decode cJ0_charAt_5068e 24 = .ok (.ireturn, 1) := by decide +kernel
theorem dJ0_coder_7d493_0 : decode cJ0_coder_7d493 0 = .ok (.getstatic 38, 3) := by decide +kernel
theorem dJ0_coder_7d493_3 : decode cJ0_coder_7d493 3 = .ok (.ifCond .eq 10, 3) := by decide +kernel
theorem dJ0_coder_7d493_6 : decode cJ0_coder_7d493 6 = .ok (.aload_n 0, 1) := by decide +kernel
theorem dJ0_coder_7d493_7 : decode cJ0_coder_7d493 7 = .ok (.getfield 15, 3) := by decide +kernel
theorem dJ0_coder_7d493_10 : decode cJ0_coder_7d493 10 = .ok (.goto 4, 3) := by decide +kernel
theorem dJ0_coder_7d493_13 : decode cJ0_coder_7d493 13 = .ok (.iconst 1, 1) := by decide +kernel
theorem dJ0_coder_7d493_14 : decode cJ0_coder_7d493 14 = .ok (.ireturn, 1) := by decide +kernel
theorem dJ0_isLatin1_aae02_0 : decode cJ0_isLatin1_aae02 0 = .ok (.getstatic 38, 3) := by decide +kernel
theorem dJ0_isLatin1_aae02_3 : decode cJ0_isLatin1_aae02 3 = .ok (.ifCond .eq 14, 3) := by decide +kernel
theorem dJ0_isLatin1_aae02_6 : decode cJ0_isLatin1_aae02 6 = .ok (.aload_n 0, 1) := by decide +kernel
theorem dJ0_isLatin1_aae02_7 : decode cJ0_isLatin1_aae02 7 = .ok (.getfield 15, 3) := by decide +kernel
theorem dJ0_isLatin1_aae02_10 : decode cJ0_isLatin1_aae02 10 = .ok (.ifCond .ne 7, 3) := by decide +kernel
theorem dJ0_isLatin1_aae02_13 : decode cJ0_isLatin1_aae02 13 = .ok (.iconst 1, 1) := by decide +kernel
theorem dJ0_isLatin1_aae02_14 : decode cJ0_isLatin1_aae02 14 = .ok (.goto 4, 3) := by decide +kernel
theorem dJ0_isLatin1_aae02_17 : decode cJ0_isLatin1_aae02 17 = .ok (.iconst 0, 1) := by decide +kernel
theorem dJ0_isLatin1_aae02_18 : decode cJ0_isLatin1_aae02 18 = .ok (.ireturn, 1) := by decide +kernel
set_option maxRecDepth 20000 in
theorem ggJ0_checkIndex_df160_J3_checkIndex_8e157 : GoodIn wsJ0_checkIndex_df160 wsJ3_checkIndex_8e157 := goodIn_r _ [5] (by decide +kernel) (by decide +kernel)
set_option maxRecDepth 20000 in
theorem gJ0_checkIndex_df160_J3_checkIndex_8e157 : GoodIn wsJ0_checkIndex_df160 (va_wsS RJ0 1059 yJ3_checkIndex_8e157 wsJ3_checkIndex_8e157) := goodIn_app (goodIn_of _ (by decide +kernel)) ggJ0_checkIndex_df160_J3_checkIndex_8e157
theorem dJ0_checkIndex_df160_0 : decode cJ0_checkIndex_df160 0 = .ok (.iload_n 0, 1) := by decide +kernel
theorem dJ0_checkIndex_df160_1 : decode cJ0_checkIndex_df160 1 = .ok (.iload_n 1, 1) := by decide +kernel
theorem dJ0_checkIndex_df160_2 : decode cJ0_checkIndex_df160 2 = .ok (.getstatic 1053, 3) := by decide +kernel
theorem dJ0_checkIndex_df160_5 : decode cJ0_checkIndex_df160 5 = .ok (.invokestatic 1059, 3) := by decide +kernel
theorem dJ0_checkIndex_df160_8 : decode cJ0_checkIndex_df160 8 = .ok (.pop, 1) := by decide +kernel
theorem dJ0_checkIndex_df160_9 : decode cJ0_checkIndex_df160 9 = .ok (.return_, 1) := by decide +kernel
set_option maxRecDepth 20000 in
theorem ggJ1_charAt_3b067_J0_checkIndex_df160 : GoodIn wsJ1_charAt_3b067 wsJ0_checkIndex_df160 := goodIn_r _ [4, 5, 6, 7, 8, 9] (by decide +kernel) (by decide +kernel)
set_option maxRecDepth 20000 in
theorem gJ1_charAt_3b067_J0_checkIndex_df160 : GoodIn wsJ1_charAt_3b067 (va_wsS RJ1 9 yJ0_checkIndex_df160 wsJ0_checkIndex_df160) := goodIn_app (goodIn_of _ (by decide +kernel)) ggJ1_charAt_3b067_J0_checkIndex_df160
theorem dJ1_charAt_3b067_0 : decode cJ1_charAt_3b067 0 = .ok (.iload_n 1, 1) := by decide +kernel
theorem dJ1_charAt_3b067_1 : decode cJ1_charAt_3b067 1 = .ok (.aload_n 0, 1) := by decide +kernel
theorem dJ1_charAt_3b067_2 : decode cJ1_charAt_3b067 2 = .ok (.arraylength, 1) := by decide +kernel
theorem dJ1_charAt_3b067_3 : decode cJ1_charAt_3b067 3 = .ok (.invokestatic 9, 3) := by decide +kernel
theorem dJ1_charAt_3b067_6 : decode cJ1_charAt_3b067 6 = .ok (.aload_n 0, 1) := by decide +kernel
theorem dJ1_charAt_3b067_7 : decode cJ1_charAt_3b067 7 = .ok (.iload_n 1, 1) := by decide +kernel
theorem dJ1_charAt_3b067_8 : decode cJ1_charAt_3b067 8 = .ok (.baload, 1) := by decide +kernel
theorem dJ1_charAt_3b067_9 : decode cJ1_charAt_3b067 9 = .ok (.sipush 255, 3) := by decide +kernel
theorem dJ1_charAt_3b067_12 : decode cJ1_charAt_3b067 12 = .ok (.iand, 1) := by decide +kernel
theorem dJ1_charAt_3b067_13 : decode cJ1_charAt_3b067 13 = .ok (.i2c, 1) := by decide +kernel
theorem dJ1_charAt_3b067_14 : decode cJ1_charAt_3b067 14 = .ok (.ireturn, 1) := by decide +kernel
set_option maxRecDepth 20000 in
theorem ggJ2_getChar_3b067_J2_length_9d52b : GoodIn wsJ2_getChar_3b067 wsJ2_length_9d52b := goodIn_r _ [7] (by decide +kernel) (by decide +kernel)
set_option maxRecDepth 20000 in
theorem gJ2_getChar_3b067_J2_length_9d52b : GoodIn wsJ2_getChar_3b067 (va_wsS RJ2 48 yJ2_length_9d52b wsJ2_length_9d52b) := goodIn_app (goodIn_of _ (by decide +kernel)) ggJ2_getChar_3b067_J2_length_9d52b
theorem dJ2_getChar_3b067_0 : decode cJ2_getChar_3b067 0 = .ok (.getstatic 44, 3) := by decide +kernel
theorem dJ2_getChar_3b067_3 : decode cJ2_getChar_3b067 3 = .ok (.ifCond .ne 25, 3) := by decide +kernel
theorem dJ2_getChar_3b067_6 : decode cJ2_getChar_3b067 6 = .ok (.iload_n 1, 1) := by decide +kernel
theorem dJ2_getChar_3b067_7 : decode cJ2_getChar_3b067 7 = .ok (.ifCond .lt 11, 3) := by decide +kernel
theorem dJ2_getChar_3b067_10 : decode cJ2_getChar_3b067 10 = .ok (.iload_n 1, 1) := by decide +kernel
theorem dJ2_getChar_3b067_11 : decode cJ2_getChar_3b067 11 = .ok (.aload_n 0, 1) := by decide +kernel
theorem dJ2_getChar_3b067_12 : decode cJ2_getChar_3b067 12 = .ok (.invokestatic 48, 3) := by decide +kernel
theorem dJ2_getChar_3b067_15 : decode cJ2_getChar_3b067 15 = .ok (.if_icmp .lt 13, 3) := by decide +kernel
theorem dJ2_getChar_3b067_18 : decode cJ2_getChar_3b067 18 = .ok (.new 52, 3) := by decide +kernel
theorem dJ2_getChar_3b067_21 : decode cJ2_getChar_3b067 21 = .ok (.dup, 1) := by decide +kernel
theorem dJ2_getChar_3b067_22 : decode cJ2_getChar_3b067 22 = .ok (.ldc 54, 2) := by decide +kernel
theorem dJ2_getChar_3b067_24 : decode cJ2_getChar_3b067 24 = .ok (.invokespecial 56, 3) := by decide +kernel
theorem dJ2_getChar_3b067_27 : decode cJ2_getChar_3b067 27 = .ok (.athrow, 1) := by decide +kernel
theorem dJ2_getChar_3b067_28 : decode cJ2_getChar_3b067 28 = .ok (.iload_n 1, 1) := by decide +kernel
theorem dJ2_getChar_3b067_29 : decode cJ2_getChar_3b067 29 = .ok (.iconst 1, 1) := by decide +kernel
theorem dJ2_getChar_3b067_30 : decode cJ2_getChar_3b067 30 = .ok (.ishl, 1) := by decide +kernel
theorem dJ2_getChar_3b067_31 : decode cJ2_getChar_3b067 31 = .ok (.istore_n 1, 1) := by decide +kernel
theorem dJ2_getChar_3b067_32 : decode cJ2_getChar_3b067 32 = .ok (.aload_n 0, 1) := by decide +kernel
theorem dJ2_getChar_3b067_33 : decode cJ2_getChar_3b067 33 = .ok (.iload_n 1, 1) := by decide +kernel
theorem dJ2_getChar_3b067_34 : decode cJ2_getChar_3b067 34 = .ok (.iinc 1 1, 3) := by decide +kernel
theorem dJ2_getChar_3b067_37 : decode cJ2_getChar_3b067 37 = .ok (.baload, 1) := by decide +kernel
theorem dJ2_getChar_3b067_38 : decode cJ2_getChar_3b067 38 = .ok (.sipush 255, 3) := by decide +kernel
theorem dJ2_getChar_3b067_41 : decode cJ2_getChar_3b067 41 = .ok (.iand, 1) := by decide +kernel
theorem dJ2_getChar_3b067_42 : decode cJ2_getChar_3b067 42 = .ok (.getstatic 59, 3) := by decide +kernel
theorem dJ2_getChar_3b067_45 : decode cJ2_getChar_3b067 45 = .ok (.ishl, 1) := by decide +kernel
theorem dJ2_getChar_3b067_46 : decode cJ2_getChar_3b067 46 = .ok (.aload_n 0, 1) := by decide +kernel
theorem dJ2_getChar_3b067_47 : decode cJ2_getChar_3b067 47 = .ok (.iload_n 1, 1) := by decide +kernel
theorem dJ2_getChar_3b067_48 : decode cJ2_getChar_3b067 48 = .ok (.baload, 1) := by decide +kernel
theorem dJ2_getChar_3b067_49 : decode cJ2_getChar_3b067 49 = .ok (.sipush 255, 3) := by decide +kernel
theorem dJ2_getChar_3b067_52 : decode cJ2_getChar_3b067 52 = .ok (.iand, 1) := by decide +kernel
theorem dJ2_getChar_3b067_53 : decode cJ2_getChar_3b067 53 = .ok (.getstatic 63, 3) := by decide +kernel
theorem dJ2_getChar_3b067_56 : decode cJ2_getChar_3b067 56 = .ok (.ishl, 1) := by decide +kernel
theorem dJ2_getChar_3b067_57 : decode cJ2_getChar_3b067 57 = .ok (.ior, 1) := by decide +kernel
theorem dJ2_getChar_3b067_58 : decode cJ2_getChar_3b067 58 = .ok (.i2c, 1) := by decide +kernel
theorem dJ2_getChar_3b067_59 : decode cJ2_getChar_3b067 59 = .ok (.ireturn, 1) := by decide +kernel
theorem dJ2_length_9d52b_0 : decode cJ2_length_9d52b 0 = .ok (.aload_n 0, 1) := by decide +kernel
theorem dJ2_length_9d52b_1 : decode cJ2_length_9d52b 1 = .ok (.arraylength, 1) := by decide +kernel
theorem dJ2_length_9d52b_2 : decode cJ2_length_9d52b 2 = .ok (.iconst 1, 1) := by decide +kernel
theorem dJ2_length_9d52b_3 : decode cJ2_length_9d52b 3 = .ok (.ishr, 1) := by decide +kernel
theorem dJ2_length_9d52b_4 : decode cJ2_length_9d52b 4 = .ok (.ireturn, 1) := by decide +kernel
set_option maxRecDepth 20000 in
theorem ggJ2_charAt_3b067_J2_checkIndex_2214a : GoodIn wsJ2_charAt_3b067 wsJ2_checkIndex_2214a := goodIn_r _ [4, 5, 6, 3, 7, 8, 9, 10, 11, 12, 13, 14, 15, 16] (by decide +kernel) (by decide +kernel)
set_option maxRecDepth 20000 in
theorem gJ2_charAt_3b067_J2_checkIndex_2214a : GoodIn wsJ2_charAt_3b067 (va_wsS RJ2 67 yJ2_checkIndex_2214a wsJ2_checkIndex_2214a) := goodIn_app (goodIn_of _ (by decide +kernel)) ggJ2_charAt_3b067_J2_checkIndex_2214a
set_option maxRecDepth 20000 in
theorem ggJ2_charAt_3b067_J2_getChar_3b067 : GoodIn wsJ2_charAt_3b067 wsJ2_getChar_3b067 := goodIn_r _ [19, 20, 21, 22, 5, 6, 3, 7] (by decide +kernel) (by decide +kernel)
set_option maxRecDepth 20000 in
theorem gJ2_charAt_3b067_J2_getChar_3b067 : GoodIn wsJ2_charAt_3b067 (va_wsS RJ2 71 yJ2_getChar_3b067 wsJ2_getChar_3b067) := goodIn_app (goodIn_of _ (by decide +kernel)) ggJ2_charAt_3b067_J2_getChar_3b067
theorem dJ2_charAt_3b067_0 : decode cJ2_charAt_3b067 0 = .ok (.iload_n 1, 1) := by decide +kernel
theorem dJ2_charAt_3b067_1 : decode cJ2_charAt_3b067 1 = .ok (.aload_n 0, 1) := by decide +kernel
theorem dJ2_charAt_3b067_2 : decode cJ2_charAt_3b067 2 = .ok (.invokestatic 67, 3) := by decide +kernel
theorem dJ2_charAt_3b067_5 : decode cJ2_charAt_3b067 5 = .ok (.aload_n 0, 1) := by decide +kernel
theorem dJ2_charAt_3b067_6 : decode cJ2_charAt_3b067 6 = .ok (.iload_n 1, 1) := by decide +kernel
theorem dJ2_charAt_3b067_7 : decode cJ2_charAt_3b067 7 = .ok (.invokestatic 71, 3) := by decide +kernel
theorem dJ2_charAt_3b067_10 : decode cJ2_charAt_3b067 10 = .ok (.ireturn, 1) := by decide +kernel
set_option maxRecDepth 20000 in
theorem ggJ2_checkIndex_2214a_J2_length_9d52b : GoodIn wsJ2_checkIndex_2214a wsJ2_length_9d52b := goodIn_r _ [4] (by decide +kernel) (by decide +kernel)
set_option maxRecDepth 20000 in
theorem gJ2_checkIndex_2214a_J2_length_9d52b : GoodIn wsJ2_checkIndex_2214a (va_wsS RJ2 48 yJ2_length_9d52b wsJ2_length_9d52b) := goodIn_app (goodIn_of _ (by decide +kernel)) ggJ2_checkIndex_2214a_J2_length_9d52b
set_option maxRecDepth 20000 in
theorem ggJ2_checkIndex_2214a_J0_checkIndex_df160 : GoodIn wsJ2_checkIndex_2214a wsJ0_checkIndex_df160 := goodIn_r _ [8, 9, 10, 11, 12, 13] (by decide +kernel) (by decide +kernel)
set_option maxRecDepth 20000 in
theorem gJ2_checkIndex_2214a_J0_checkIndex_df160 : GoodIn wsJ2_checkIndex_2214a (va_wsS RJ2 414 yJ0_checkIndex_df160 wsJ0_checkIndex_df160) := goodIn_app (goodIn_of _ (by decide +kernel)) ggJ2_checkIndex_2214a_J0_checkIndex_df160
theorem dJ2_checkIndex_2214a_0 : decode cJ2_checkIndex_2214a 0 = .ok (.iload_n 0, 1) := by decide +kernel
theorem dJ2_checkIndex_2214a_1 : decode cJ2_checkIndex_2214a 1 = .ok (.aload_n 1, 1) := by decide +kernel
theorem dJ2_checkIndex_2214a_2 : decode cJ2_checkIndex_2214a 2 = .ok (.invokestatic 48, 3) := by decide +kernel
theorem dJ2_checkIndex_2214a_5 : decode cJ2_checkIndex_2214a 5 = .ok (.invokestatic 414, 3) := by decide +kernel
theorem dJ2_checkIndex_2214a_8 : decode cJ2_checkIndex_2214a 8 = .ok (.return_, 1) := by decide +kernel
theorem dJ3_checkIndex_8e157_0 : decode cJ3_checkIndex_8e157 0 = .ok (.iload_n 0, 1) := by decide +kernel
theorem dJ3_checkIndex_8e157_1 : decode cJ3_checkIndex_8e157 1 = .ok (.ifCond .lt 8, 3) := by decide +kernel
theorem dJ3_checkIndex_8e157_4 : decode cJ3_checkIndex_8e157 4 = .ok (.iload_n 0, 1) := by decide +kernel
theorem dJ3_checkIndex_8e157_5 : decode cJ3_checkIndex_8e157 5 = .ok (.iload_n 1, 1) := by decide +kernel
theorem dJ3_checkIndex_8e157_6 : decode cJ3_checkIndex_8e157 6 = .ok (.if_icmp .lt 10, 3) := by decide +kernel
theorem dJ3_checkIndex_8e157_9 : decode cJ3_checkIndex_8e157 9 = .ok (.aload_n 2, 1) := by decide +kernel
theorem dJ3_checkIndex_8e157_10 : decode cJ3_checkIndex_8e157 10 = .ok (.iload_n 0, 1) := by decide +kernel
theorem dJ3_checkIndex_8e157_11 : decode cJ3_checkIndex_8e157 11 = .ok (.iload_n 1, 1) := by decide +kernel
theorem dJ3_checkIndex_8e157_12 : decode cJ3_checkIndex_8e157 12 = .ok (.invokestatic 95, 3) := by decide +kernel
theorem dJ3_checkIndex_8e157_15 : decode cJ3_checkIndex_8e157 15 = .ok (.athrow, 1) := by decide +kernel
theorem dJ3_checkIndex_8e157_16 : decode cJ3_checkIndex_8e157 16 = .ok (.iload_n 0, 1) := by decide +kernel
theorem dJ3_checkIndex_8e157_17 : decode cJ3_checkIndex_8e157 17 = .ok (.ireturn, 1) := by decide +kernel
set_option maxRecDepth 20000 in
theorem ggL_law_X10_init : GoodIn wsL_law wsX10_init := goodIn_r _ [9, 10, 11, 12, 13, 14, 15, 16, 17, 18, 19, 20, 21, 22, 23, 24, 25, 26, 27, 28, 29, 30, 31, 32, 33, 34, 35, 36, 37, 38, 39, 40, 41, 42, 43, 44, 45, 46, 47, 48, 49, 50, 51, 52, 53, 54, 55, 56, 57, 58, 59, 60, 61, 62, 63, 64, 65, 66, 67, 68, 69, 70, 71, 72, 73, 74, 75, 76, 77, 78, 79, 80, 81, 82, 83, 84, 85, 86, 87, 88, 89, 90, 91, 92, 93, 94, 95, 96, 97, 98, 99, 100, 101, 102, 103, 104, 105, 106, 107, 108, 109, 110, 111, 112, 113, 114, 115, 116, 117, 118, 119, 120, 121, 122, 123, 124, 125, 126, 127, 128, 129, 130, 1128, 1129, 1130, 1131, 1132, 1133, 1134, 1135, 1136, 1083, 1084, 1085, 1086, 1087, 1088, 1089, 1090, 1091, 1092, 1093, 1094, 1095, 1096, 1097, 1098, 1099, 1137, 1138, 1139, 1140, 1141, 1142, 1143, 1144, 1145, 1146, 1147, 1148, 1149, 1150, 1151, 1152, 1153, 1154, 1155, 1156, 1157, 1158, 1159, 1160, 1161, 1162, 1163, 1164, 1165, 1166, 1167, 1168, 1169, 1170, 1171, 1172, 1173, 1174, 1175, 1176, 1177, 1178, 1179, 1180, 1181, 1182, 1183, 1184, 1185, 1186] (by decide +kernel) (by decide +kernel)
set_option maxRecDepth 20000 in
theorem gL_law_X10_init : GoodIn wsL_law (wsX10_init) := ggL_law_X10_init
set_option maxRecDepth 20000 in
theorem ggL_law_X11_init : GoodIn wsL_law wsX11_init := goodIn_r _ [133, 134, 11, 12, 28, 135, 136, 137, 18, 138, 139, 140, 141, 99, 142, 143, 144, 145, 146, 147, 148, 149, 150, 151, 152, 153, 154, 5, 155, 156, 157, 158, 1100, 1101, 1102, 1103, 1104, 1105, 1106, 1107, 1108, 1109, 1110, 1111, 1112, 1113, 1114, 1115, 1116, 1117, 1118, 1119, 1120, 1121, 1122, 1123, 1124, 1125, 1126, 1127] (by decide +kernel) (by decide +kernel)
set_option maxRecDepth 20000 in
theorem gL_law_X11_init : GoodIn wsL_law (wsX11_init) := ggL_law_X11_init
set_option maxRecDepth 20000 in
theorem ggL_law_X10_thing : GoodIn wsL_law wsX10_thing := goodIn_r _ [162, 16, 163, 164, 165, 166, 2, 167, 29, 168, 169, 170, 171, 172, 173, 174, 175, 176, 177, 178, 15, 179, 180, 61, 62, 63, 1083, 1084, 1085, 1086, 1087, 1088, 1089, 1090, 1091, 1092, 1093, 1094, 1095, 1096, 1097, 1098, 1099, 1128, 1129, 1130, 1131, 1132, 1133, 1134, 1135, 1136] (by decide +kernel) (by decide +kernel)
set_option maxRecDepth 20000 in
theorem gL_law_X10_thing : GoodIn wsL_law (wsV RL 13 RX10 yX10_thing wsX10_thing) := goodIn_app (goodIn_of _ (by decide +kernel)) ggL_law_X10_thing
set_option maxRecDepth 20000 in
theorem ggL_law_X11_thing : GoodIn wsL_law wsX11_thing := goodIn_r _ [184, 135, 185, 186, 187, 5, 188, 140, 1100, 1101, 1102, 1103, 1104, 1105, 1106, 1107, 1108, 1109, 1110, 1111, 1112, 1113, 1114, 1115, 1116, 1117, 1118, 1119, 1120, 1121, 1122, 1123, 1124, 1125, 1126, 1127] (by decide +kernel) (by decide +kernel)
set_option maxRecDepth 20000 in
theorem gL_law_X11_thing : GoodIn wsL_law (wsV RL 17 RX11 yX11_thing wsX11_thing) := goodIn_app (goodIn_of _ (by decide +kernel)) ggL_law_X11_thing
set_option maxRecDepth 20000 in
theorem ggL_law_X10_of : GoodIn wsL_law wsX10_of := goodIn_r _ [192, 16, 193, 194, 195, 196, 2, 197, 163, 198, 199, 200, 164, 165, 166, 167, 29, 168, 169, 170, 171, 172, 173, 174, 175, 1083, 1084, 1085, 1086, 1087, 1088, 1089, 1090, 1091, 1092, 1093, 1094, 1095, 1096, 1097, 1098, 1099, 1128, 1129, 1130, 1131, 1132, 1133, 1134, 1135, 1136] (by decide +kernel) (by decide +kernel)
set_option maxRecDepth 20000 in
theorem gL_law_X10_of : GoodIn wsL_law (wsV RL 18 RX10 yX10_of wsX10_of) := goodIn_app (goodIn_of _ (by decide +kernel)) ggL_law_X10_of
set_option maxRecDepth 20000 in
theorem ggL_law_X11_of : GoodIn wsL_law wsX11_of := goodIn_r _ [204, 135, 205, 206, 207, 5, 208, 156, 157, 158, 185, 186, 187, 188, 140, 1100, 1101, 1102, 1103, 1104, 1105, 1106, 1107, 1108, 1109, 1110, 1111, 1112, 1113, 1114, 1115, 1116, 1117, 1118, 1119, 1120, 1121, 1122, 1123, 1124, 1125, 1126, 1127] (by decide +kernel) (by decide +kernel)
set_option maxRecDepth 20000 in
theorem gL_law_X11_of : GoodIn wsL_law (wsV RL 22 RX11 yX11_of wsX11_of) := goodIn_app (goodIn_of _ (by decide +kernel)) ggL_law_X11_of
set_option maxRecDepth 20000 in
theorem ggL_law_X10_story : GoodIn wsL_law wsX10_story := goodIn_r _ [212, 16, 213, 194, 195, 196, 2, 197, 163, 214, 215, 216, 164, 165, 166, 167, 29, 168, 169, 170, 171, 172, 173, 174, 175, 1083, 1084, 1085, 1086, 1087, 1088, 1089, 1090, 1091, 1092, 1093, 1094, 1095, 1096, 1097, 1098, 1099, 1128, 1129, 1130, 1131, 1132, 1133, 1134, 1135, 1136] (by decide +kernel) (by decide +kernel)
set_option maxRecDepth 20000 in
theorem gL_law_X10_story : GoodIn wsL_law (wsV RL 23 RX10 yX10_story wsX10_story) := goodIn_app (goodIn_of _ (by decide +kernel)) ggL_law_X10_story
set_option maxRecDepth 20000 in
theorem ggL_law_X11_story : GoodIn wsL_law wsX11_story := goodIn_r _ [220, 135, 205, 206, 207, 5, 208, 156, 157, 158, 221, 222, 223, 224, 185, 186, 187, 188, 140, 1100, 1101, 1102, 1103, 1104, 1105, 1106, 1107, 1108, 1109, 1110, 1111, 1112, 1113, 1114, 1115, 1116, 1117, 1118, 1119, 1120, 1121, 1122, 1123, 1124, 1125, 1126, 1127] (by decide +kernel) (by decide +kernel)
set_option maxRecDepth 20000 in
theorem gL_law_X11_story : GoodIn wsL_law (wsV RL 26 RX11 yX11_story wsX11_story) := goodIn_app (goodIn_of _ (by decide +kernel)) ggL_law_X11_story
set_option maxRecDepth 20000 in
theorem ggL_law_X10_say : GoodIn wsL_law wsX10_say := goodIn_r _ [228, 16, 229, 230, 231, 232, 2, 233, 194, 195, 196, 197, 163, 198, 199, 200, 164, 165, 166, 167, 29, 168, 169, 170, 171, 172, 173, 174, 175, 234, 235, 236, 15, 237, 238, 65, 64, 66, 67, 1083, 1084, 1085, 1086, 1087, 1088, 1089, 1090, 1091, 1092, 1093, 1094, 1095, 1096, 1097, 1098, 1099, 1128, 1129, 1130, 1131, 1132, 1133, 1134, 1135, 1136] (by decide +kernel) (by decide +kernel)
set_option maxRecDepth 20000 in
theorem gL_law_X10_say : GoodIn wsL_law (wsV RL 27 RX10 yX10_say wsX10_say) := goodIn_app (goodIn_of _ (by decide +kernel)) ggL_law_X10_say
set_option maxRecDepth 20000 in
theorem ggL_law_X11_say : GoodIn wsL_law wsX11_say := goodIn_r _ [242, 135, 205, 206, 207, 5, 208, 156, 157, 158, 221, 222, 223, 224, 185, 186, 187, 188, 140, 1100, 1101, 1102, 1103, 1104, 1105, 1106, 1107, 1108, 1109, 1110, 1111, 1112, 1113, 1114, 1115, 1116, 1117, 1118, 1119, 1120, 1121, 1122, 1123, 1124, 1125, 1126, 1127] (by decide +kernel) (by decide +kernel)
set_option maxRecDepth 20000 in
theorem gL_law_X11_say : GoodIn wsL_law (wsV RL 31 RX11 yX11_say wsX11_say) := goodIn_app (goodIn_of _ (by decide +kernel)) ggL_law_X11_say
set_option maxRecDepth 20000 in
theorem ggL_law_X10_unsay : GoodIn wsL_law wsX10_unsay := goodIn_r _ [246, 16, 229, 164, 165, 166, 2, 167, 29, 168, 169, 170, 171, 172, 173, 174, 175, 1083, 1084, 1085, 1086, 1087, 1088, 1089, 1090, 1091, 1092, 1093, 1094, 1095, 1096, 1097, 1098, 1099, 1128, 1129, 1130, 1131, 1132, 1133, 1134, 1135, 1136] (by decide +kernel) (by decide +kernel)
set_option maxRecDepth 20000 in
theorem gL_law_X10_unsay : GoodIn wsL_law (wsV RL 32 RX10 yX10_unsay wsX10_unsay) := goodIn_app (goodIn_of _ (by decide +kernel)) ggL_law_X10_unsay
set_option maxRecDepth 20000 in
theorem ggL_law_X11_unsay : GoodIn wsL_law wsX11_unsay := goodIn_r _ [250, 135, 185, 186, 187, 5, 188, 140, 1100, 1101, 1102, 1103, 1104, 1105, 1106, 1107, 1108, 1109, 1110, 1111, 1112, 1113, 1114, 1115, 1116, 1117, 1118, 1119, 1120, 1121, 1122, 1123, 1124, 1125, 1126, 1127] (by decide +kernel) (by decide +kernel)
set_option maxRecDepth 20000 in
theorem gL_law_X11_unsay : GoodIn wsL_law (wsV RL 35 RX11 yX11_unsay wsX11_unsay) := goodIn_app (goodIn_of _ (by decide +kernel)) ggL_law_X11_unsay
set_option maxRecDepth 20000 in
theorem ggL_law_X10_type : GoodIn wsL_law wsX10_type := goodIn_r _ [254, 23, 255, 164, 165, 166, 2, 167, 29, 256, 257, 258, 22, 259, 71, 260, 1083, 1084, 1085, 1086, 1087, 1088, 1089, 1090, 1091, 1092, 1093, 1094, 1095, 1096, 1097, 1098, 1099, 1137, 1138] (by decide +kernel) (by decide +kernel)
set_option maxRecDepth 20000 in
theorem gL_law_X10_type : GoodIn wsL_law (wsV RL 38 RX10 yX10_type wsX10_type) := goodIn_app (goodIn_of _ (by decide +kernel)) ggL_law_X10_type
set_option maxRecDepth 20000 in
theorem ggL_law_X11_type : GoodIn wsL_law wsX11_type := goodIn_r _ [264, 265, 139, 266, 156, 157, 5, 158, 221, 222, 223, 224, 185, 186, 187, 188, 140, 1100, 1101, 1102, 1103, 1104, 1105, 1106, 1107, 1108, 1109, 1110, 1111, 1112, 1113, 1114, 1115, 1116, 1117, 1118, 1119, 1120, 1121, 1122, 1123, 1124, 1125, 1126, 1127] (by decide +kernel) (by decide +kernel)
set_option maxRecDepth 20000 in
theorem gL_law_X11_type : GoodIn wsL_law (wsV RL 42 RX11 yX11_type wsX11_type) := goodIn_app (goodIn_of _ (by decide +kernel)) ggL_law_X11_type
set_option maxRecDepth 20000 in
theorem ggL_law_X10_clear : GoodIn wsL_law wsX10_clear := goodIn_r _ [270, 23, 255, 1083, 1084, 1085, 1086, 1087, 1088, 1089, 1090, 1091, 1092, 1093, 1094, 1095, 1096, 1097, 1098, 1099, 1137, 1138] (by decide +kernel) (by decide +kernel)
set_option maxRecDepth 20000 in
theorem gL_law_X10_clear : GoodIn wsL_law (wsV RL 43 RX10 yX10_clear wsX10_clear) := goodIn_app (goodIn_of _ (by decide +kernel)) ggL_law_X10_clear
set_option maxRecDepth 20000 in
theorem ggL_law_X11_clear : GoodIn wsL_law wsX11_clear := goodIn_r _ [274, 265, 1100, 1101, 1102, 1103, 1104, 1105, 1106, 1107, 1108, 1109, 1110, 1111, 1112, 1113, 1114, 1115, 1116, 1117, 1118, 1119, 1120, 1121, 1122, 1123, 1124, 1125, 1126, 1127] (by decide +kernel) (by decide +kernel)
set_option maxRecDepth 20000 in
theorem gL_law_X11_clear : GoodIn wsL_law (wsV RL 46 RX11 yX11_clear wsX11_clear) := goodIn_app (goodIn_of _ (by decide +kernel)) ggL_law_X11_clear
set_option maxRecDepth 20000 in
theorem ggL_law_X10_read : GoodIn wsL_law wsX10_read := goodIn_r _ [278, 27, 23, 16, 279, 229, 280, 281, 282, 26, 283, 78, 284, 76, 285, 286, 287, 288, 289, 15, 290, 180, 238, 291, 292, 293, 294, 295, 296, 297, 298, 299, 300, 301, 302, 303, 304, 305, 306, 2, 307, 308, 309, 310, 311, 312, 313, 314, 315, 316, 317, 318, 319, 320, 321, 322, 323, 324, 325, 326, 327, 328, 329, 330, 331, 332, 333, 334, 335, 336, 337, 338, 339, 340, 341, 342, 343, 344, 345, 346, 347, 348, 349, 350, 351, 352, 353, 354, 355, 356, 357, 358, 359, 360, 361, 362, 363, 364, 365, 366, 367, 368, 369, 370, 371, 372, 373, 374, 375, 376, 377, 177, 178, 179, 61, 62, 63, 378, 379, 380, 381, 382, 383, 384, 385, 386, 387, 388, 389, 390, 391, 392, 393, 394, 395, 396, 235, 236, 237, 65, 64, 66, 67, 397, 398, 399, 400, 401, 402, 403, 404, 405, 406, 407, 408, 409, 410, 168, 169, 170, 171, 172, 173, 174, 175, 1083, 1084, 1085, 1086, 1087, 1088, 1089, 1090, 1091, 1092, 1093, 1094, 1095, 1096, 1097, 1098, 1099, 1139, 1140, 1141, 1142, 1143, 1144, 1128, 1129, 1130, 1131, 1132, 1133, 1134, 1135, 1136, 1137, 1138] (by decide +kernel) (by decide +kernel)
set_option maxRecDepth 20000 in
theorem gL_law_X10_read : GoodIn wsL_law (wsV RL 47 RX10 yX10_read wsX10_read) := goodIn_app (goodIn_of _ (by decide +kernel)) ggL_law_X10_read
set_option maxRecDepth 20000 in
theorem ggL_law_X11_read : GoodIn wsL_law wsX11_read := goodIn_r _ [414, 415, 135, 136, 416, 417, 418, 5, 419, 420, 421, 422, 152, 153, 154, 155, 156, 157, 158, 423, 424, 425, 426, 427, 428, 429, 430, 431, 265, 139, 432, 433, 434, 435, 436, 437, 438, 439, 440, 441, 442, 443, 444, 445, 446, 447, 448, 449, 450, 451, 452, 453, 454, 455, 456, 457, 458, 459, 460, 461, 462, 463, 464, 465, 466, 467, 468, 469, 470, 1100, 1101, 1102, 1103, 1104, 1105, 1106, 1107, 1108, 1109, 1110, 1111, 1112, 1113, 1114, 1115, 1116, 1117, 1118, 1119, 1120, 1121, 1122, 1123, 1124, 1125, 1126, 1127] (by decide +kernel) (by decide +kernel)
set_option maxRecDepth 20000 in
theorem gL_law_X11_read : GoodIn wsL_law (wsV RL 50 RX11 yX11_read wsX11_read) := goodIn_app (goodIn_of _ (by decide +kernel)) ggL_law_X11_read
set_option maxRecDepth 20000 in
theorem ggL_law_X10_fits : GoodIn wsL_law wsX10_fits := goodIn_r _ [474, 45, 475, 476, 477, 478, 2, 479, 172, 33, 16, 41, 37, 163, 480, 481, 482, 32, 483, 484, 485, 486, 487, 488, 489, 490, 491, 492, 493, 494, 495, 496, 497, 498, 499, 500, 82, 83, 84, 85, 501, 502, 503, 504, 86, 87, 88, 505, 506, 507, 508, 509, 510, 511, 512, 513, 514, 515, 516, 517, 518, 519, 40, 520, 521, 98, 522, 100, 523, 524, 525, 526, 527, 528, 529, 530, 89, 531, 532, 533, 534, 535, 536, 537, 538, 539, 540, 541, 542, 543, 544, 545, 546, 36, 547, 548, 549, 94, 93, 550, 551, 552, 553, 554, 555, 44, 556, 557, 105, 106, 558, 107, 559, 560, 561, 562, 563, 564, 565, 566, 567, 108, 568, 569, 570, 571, 572, 573, 574, 575, 576, 577, 578, 579, 580, 581, 582, 104, 583, 584, 585, 586, 1083, 1084, 1085, 1086, 1087, 1088, 1089, 1090, 1091, 1092, 1093, 1094, 1095, 1096, 1097, 1098, 1099, 1164, 1165, 1166, 1167, 1168, 1169, 1170, 1128, 1129, 1130, 1131, 1132, 1133, 1134, 1135, 1136, 1145, 1146, 1147, 1148, 1149, 1150, 1151, 1152, 1153, 1154, 1155, 1156, 1161, 1162, 1163, 1157, 1158, 1159, 1160] (by decide +kernel) (by decide +kernel)
set_option maxRecDepth 20000 in
theorem gL_law_X10_fits : GoodIn wsL_law (wsV RL 51 RX10 yX10_fits wsX10_fits) := goodIn_app (goodIn_of _ (by decide +kernel)) ggL_law_X10_fits
set_option maxRecDepth 20000 in
theorem ggL_law_X11_fits : GoodIn wsL_law wsX11_fits := goodIn_r _ [590, 591, 592, 593, 5, 594, 595, 596, 597, 598, 599, 600, 141, 601, 602, 603, 604, 142, 605, 606, 607, 608, 135, 609, 610, 611, 612, 613, 614, 615, 616, 617, 618, 619, 620, 621, 622, 623, 624, 625, 626, 627, 628, 629, 630, 631, 632, 633, 634, 635, 636, 637, 638, 639, 640, 641, 642, 643, 644, 645, 646, 647, 1100, 1101, 1102, 1103, 1104, 1105, 1106, 1107, 1108, 1109, 1110, 1111, 1112, 1113, 1114, 1115, 1116, 1117, 1118, 1119, 1120, 1121, 1122, 1123, 1124, 1125, 1126, 1127] (by decide +kernel) (by decide +kernel)
set_option maxRecDepth 20000 in
theorem gL_law_X11_fits : GoodIn wsL_law (wsV RL 55 RX11 yX11_fits wsX11_fits) := goodIn_app (goodIn_of _ (by decide +kernel)) ggL_law_X11_fits
set_option maxRecDepth 20000 in
theorem ggL_law_X10_first : GoodIn wsL_law wsX10_first := goodIn_r _ [651, 45, 652, 653, 654, 655, 2, 656, 16, 163, 164, 165, 166, 167, 29, 657, 658, 659, 660, 475, 476, 477, 478, 479, 172, 33, 41, 37, 480, 481, 482, 32, 483, 484, 485, 486, 487, 488, 489, 490, 491, 492, 493, 494, 495, 496, 497, 498, 499, 500, 82, 83, 84, 85, 501, 502, 503, 504, 86, 87, 88, 505, 506, 507, 508, 509, 510, 511, 512, 513, 514, 515, 516, 517, 518, 519, 40, 520, 521, 98, 522, 100, 523, 524, 525, 526, 527, 528, 529, 530, 89, 531, 532, 533, 534, 535, 536, 537, 538, 539, 540, 541, 542, 543, 544, 545, 546, 36, 547, 548, 549, 94, 93, 550, 551, 552, 553, 554, 555, 44, 556, 557, 105, 106, 558, 107, 559, 560, 561, 562, 563, 564, 565, 566, 567, 108, 568, 569, 570, 571, 572, 573, 574, 575, 576, 577, 578, 579, 580, 581, 582, 104, 583, 584, 585, 586, 1083, 1084, 1085, 1086, 1087, 1088, 1089, 1090, 1091, 1092, 1093, 1094, 1095, 1096, 1097, 1098, 1099, 1164, 1165, 1166, 1167, 1168, 1169, 1170, 1128, 1129, 1130, 1131, 1132, 1133, 1134, 1135, 1136, 1145, 1146, 1147, 1148, 1149, 1150, 1151, 1152, 1153, 1154, 1155, 1156, 1161, 1162, 1163, 1157, 1158, 1159, 1160] (by decide +kernel) (by decide +kernel)
set_option maxRecDepth 20000 in
theorem gL_law_X10_first : GoodIn wsL_law (wsV RL 56 RX10 yX10_first wsX10_first) := goodIn_app (goodIn_of _ (by decide +kernel)) ggL_law_X10_first
set_option maxRecDepth 20000 in
theorem ggL_law_X11_first : GoodIn wsL_law wsX11_first := goodIn_r _ [664, 144, 665, 666, 667, 5, 668, 135, 156, 157, 158, 221, 222, 223, 224, 185, 186, 187, 188, 140, 669, 670, 671, 672, 673, 142, 145, 591, 592, 593, 594, 595, 596, 597, 598, 599, 600, 141, 601, 602, 603, 604, 605, 606, 607, 608, 609, 610, 611, 612, 613, 614, 615, 616, 617, 618, 619, 620, 621, 622, 623, 624, 625, 626, 627, 628, 629, 630, 631, 632, 633, 634, 635, 636, 637, 638, 639, 640, 641, 642, 643, 644, 645, 646, 647, 1100, 1101, 1102, 1103, 1104, 1105, 1106, 1107, 1108, 1109, 1110, 1111, 1112, 1113, 1114, 1115, 1116, 1117, 1118, 1119, 1120, 1121, 1122, 1123, 1124, 1125, 1126, 1127] (by decide +kernel) (by decide +kernel)
set_option maxRecDepth 20000 in
theorem gL_law_X11_first : GoodIn wsL_law (wsV RL 60 RX11 yX11_first wsX11_first) := goodIn_app (goodIn_of _ (by decide +kernel)) ggL_law_X11_first
set_option maxRecDepth 20000 in
theorem ggL_law_X10_moments : GoodIn wsL_law wsX10_moments := goodIn_r _ [677, 45, 678, 657, 658, 659, 2, 660, 475, 476, 477, 478, 479, 172, 33, 16, 41, 37, 163, 480, 481, 482, 32, 483, 484, 485, 486, 487, 488, 489, 490, 491, 492, 493, 494, 495, 496, 497, 498, 499, 500, 82, 83, 84, 85, 501, 502, 503, 504, 86, 87, 88, 505, 506, 507, 508, 509, 510, 511, 512, 513, 514, 515, 516, 517, 518, 519, 40, 520, 521, 98, 522, 100, 523, 524, 525, 526, 527, 528, 529, 530, 89, 531, 532, 533, 534, 535, 536, 537, 538, 539, 540, 541, 542, 543, 544, 545, 546, 36, 547, 548, 549, 94, 93, 550, 551, 552, 553, 554, 555, 44, 556, 557, 105, 106, 558, 107, 559, 560, 561, 562, 563, 564, 565, 566, 567, 108, 568, 569, 570, 571, 572, 573, 574, 575, 576, 577, 578, 579, 580, 581, 582, 104, 583, 584, 585, 586, 164, 165, 166, 167, 29, 1083, 1084, 1085, 1086, 1087, 1088, 1089, 1090, 1091, 1092, 1093, 1094, 1095, 1096, 1097, 1098, 1099, 1164, 1165, 1166, 1167, 1168, 1169, 1170, 1128, 1129, 1130, 1131, 1132, 1133, 1134, 1135, 1136, 1145, 1146, 1147, 1148, 1149, 1150, 1151, 1152, 1153, 1154, 1155, 1156, 1161, 1162, 1163, 1157, 1158, 1159, 1160] (by decide +kernel) (by decide +kernel)
set_option maxRecDepth 20000 in
theorem gL_law_X10_moments : GoodIn wsL_law (wsV RL 61 RX10 yX10_moments wsX10_moments) := goodIn_app (goodIn_of _ (by decide +kernel)) ggL_law_X10_moments
set_option maxRecDepth 20000 in
theorem ggL_law_X11_moments : GoodIn wsL_law wsX11_moments := goodIn_r _ [682, 673, 669, 670, 671, 5, 672, 142, 135, 144, 145, 591, 592, 593, 594, 595, 596, 597, 598, 599, 600, 141, 601, 602, 603, 604, 605, 606, 607, 608, 609, 610, 611, 612, 613, 614, 615, 616, 617, 618, 619, 620, 621, 622, 623, 624, 625, 626, 627, 628, 629, 630, 631, 632, 633, 634, 635, 636, 637, 638, 639, 640, 641, 642, 643, 644, 645, 646, 647, 185, 186, 187, 188, 140, 1100, 1101, 1102, 1103, 1104, 1105, 1106, 1107, 1108, 1109, 1110, 1111, 1112, 1113, 1114, 1115, 1116, 1117, 1118, 1119, 1120, 1121, 1122, 1123, 1124, 1125, 1126, 1127] (by decide +kernel) (by decide +kernel)
set_option maxRecDepth 20000 in
theorem gL_law_X11_moments : GoodIn wsL_law (wsV RL 64 RX11 yX11_moments wsX11_moments) := goodIn_app (goodIn_of _ (by decide +kernel)) ggL_law_X11_moments
set_option maxRecDepth 20000 in
theorem ggL_law_X10_last : GoodIn wsL_law wsX10_last := goodIn_r _ [686, 45, 678, 16, 163, 657, 658, 659, 2, 660, 475, 476, 477, 478, 479, 172, 33, 41, 37, 480, 481, 482, 32, 483, 484, 485, 486, 487, 488, 489, 490, 491, 492, 493, 494, 495, 496, 497, 498, 499, 500, 82, 83, 84, 85, 501, 502, 503, 504, 86, 87, 88, 505, 506, 507, 508, 509, 510, 511, 512, 513, 514, 515, 516, 517, 518, 519, 40, 520, 521, 98, 522, 100, 523, 524, 525, 526, 527, 528, 529, 530, 89, 531, 532, 533, 534, 535, 536, 537, 538, 539, 540, 541, 542, 543, 544, 545, 546, 36, 547, 548, 549, 94, 93, 550, 551, 552, 553, 554, 555, 44, 556, 557, 105, 106, 558, 107, 559, 560, 561, 562, 563, 564, 565, 566, 567, 108, 568, 569, 570, 571, 572, 573, 574, 575, 576, 577, 578, 579, 580, 581, 582, 104, 583, 584, 585, 586, 164, 165, 166, 167, 29, 687, 688, 689, 690, 1083, 1084, 1085, 1086, 1087, 1088, 1089, 1090, 1091, 1092, 1093, 1094, 1095, 1096, 1097, 1098, 1099, 1164, 1165, 1166, 1167, 1168, 1169, 1170, 1128, 1129, 1130, 1131, 1132, 1133, 1134, 1135, 1136, 1145, 1146, 1147, 1148, 1149, 1150, 1151, 1152, 1153, 1154, 1155, 1156, 1161, 1162, 1163, 1157, 1158, 1159, 1160] (by decide +kernel) (by decide +kernel)
set_option maxRecDepth 20000 in
theorem gL_law_X10_last : GoodIn wsL_law (wsV RL 65 RX10 yX10_last wsX10_last) := goodIn_app (goodIn_of _ (by decide +kernel)) ggL_law_X10_last
set_option maxRecDepth 20000 in
theorem ggL_law_X11_last : GoodIn wsL_law wsX11_last := goodIn_r _ [694, 673, 135, 145, 669, 670, 671, 5, 672, 142, 144, 591, 592, 593, 594, 595, 596, 597, 598, 599, 600, 141, 601, 602, 603, 604, 605, 606, 607, 608, 609, 610, 611, 612, 613, 614, 615, 616, 617, 618, 619, 620, 621, 622, 623, 624, 625, 626, 627, 628, 629, 630, 631, 632, 633, 634, 635, 636, 637, 638, 639, 640, 641, 642, 643, 644, 645, 646, 647, 185, 186, 187, 188, 140, 156, 157, 158, 221, 222, 223, 224, 1100, 1101, 1102, 1103, 1104, 1105, 1106, 1107, 1108, 1109, 1110, 1111, 1112, 1113, 1114, 1115, 1116, 1117, 1118, 1119, 1120, 1121, 1122, 1123, 1124, 1125, 1126, 1127] (by decide +kernel) (by decide +kernel)
set_option maxRecDepth 20000 in
theorem gL_law_X11_last : GoodIn wsL_law (wsV RL 68 RX11 yX11_last wsX11_last) := goodIn_app (goodIn_of _ (by decide +kernel)) ggL_law_X11_last
set_option maxRecDepth 20000 in
theorem ggL_law_X10_clash : GoodIn wsL_law wsX10_clash := goodIn_r _ [698, 49, 16, 229, 699, 700, 701, 2, 702, 173, 33, 37, 163, 480, 481, 482, 32, 483, 484, 485, 486, 487, 488, 489, 490, 491, 492, 493, 494, 495, 496, 497, 498, 499, 500, 82, 83, 84, 85, 501, 502, 503, 504, 86, 87, 88, 505, 506, 507, 508, 509, 510, 511, 512, 513, 514, 515, 516, 703, 704, 705, 48, 706, 112, 707, 708, 709, 523, 524, 525, 710, 527, 528, 529, 530, 89, 531, 532, 533, 711, 712, 713, 714, 715, 716, 113, 717, 535, 536, 537, 718, 545, 546, 36, 547, 548, 549, 94, 93, 719, 720, 721, 722, 723, 724, 725, 550, 551, 552, 726, 727, 728, 729, 730, 731, 732, 733, 734, 735, 736, 737, 738, 739, 740, 741, 742, 743, 744, 745, 746, 747, 748, 749, 1083, 1084, 1085, 1086, 1087, 1088, 1089, 1090, 1091, 1092, 1093, 1094, 1095, 1096, 1097, 1098, 1099, 1128, 1129, 1130, 1131, 1132, 1133, 1134, 1135, 1136, 1145, 1146, 1147, 1148, 1149, 1150, 1151, 1152, 1153, 1154, 1155, 1156, 1171, 1172, 1173, 1157, 1158, 1159, 1160] (by decide +kernel) (by decide +kernel)
set_option maxRecDepth 20000 in
theorem gL_law_X10_clash : GoodIn wsL_law (wsV RL 69 RX10 yX10_clash wsX10_clash) := goodIn_app (goodIn_of _ (by decide +kernel)) ggL_law_X10_clash
set_option maxRecDepth 20000 in
theorem ggL_law_X11_clash : GoodIn wsL_law wsX11_clash := goodIn_r _ [753, 135, 754, 755, 756, 5, 757, 599, 595, 596, 597, 598, 600, 141, 601, 602, 603, 604, 142, 605, 606, 607, 608, 609, 610, 611, 612, 613, 614, 615, 616, 617, 618, 619, 620, 621, 622, 623, 624, 625, 626, 627, 628, 629, 630, 631, 632, 633, 634, 635, 636, 637, 638, 639, 640, 641, 642, 643, 644, 645, 646, 647, 758, 759, 760, 1100, 1101, 1102, 1103, 1104, 1105, 1106, 1107, 1108, 1109, 1110, 1111, 1112, 1113, 1114, 1115, 1116, 1117, 1118, 1119, 1120, 1121, 1122, 1123, 1124, 1125, 1126, 1127] (by decide +kernel) (by decide +kernel)
set_option maxRecDepth 20000 in
theorem gL_law_X11_clash : GoodIn wsL_law (wsV RL 72 RX11 yX11_clash wsX11_clash) := goodIn_app (goodIn_of _ (by decide +kernel)) ggL_law_X11_clash
set_option maxRecDepth 20000 in
theorem ggL_law_X10_drop : GoodIn wsL_law wsX10_drop := goodIn_r _ [764, 49, 16, 229, 699, 700, 701, 2, 702, 173, 33, 37, 163, 480, 481, 482, 32, 483, 484, 485, 486, 487, 488, 489, 490, 491, 492, 493, 494, 495, 496, 497, 498, 499, 500, 82, 83, 84, 85, 501, 502, 503, 504, 86, 87, 88, 505, 506, 507, 508, 509, 510, 511, 512, 513, 514, 515, 516, 703, 704, 705, 48, 706, 112, 707, 708, 709, 523, 524, 525, 710, 527, 528, 529, 530, 89, 531, 532, 533, 711, 712, 713, 714, 715, 716, 113, 717, 535, 536, 537, 718, 545, 546, 36, 547, 548, 549, 94, 93, 719, 720, 721, 722, 723, 724, 725, 550, 551, 552, 726, 727, 728, 729, 730, 731, 732, 733, 734, 765, 766, 767, 768, 739, 740, 741, 742, 743, 744, 745, 746, 747, 748, 749, 1083, 1084, 1085, 1086, 1087, 1088, 1089, 1090, 1091, 1092, 1093, 1094, 1095, 1096, 1097, 1098, 1099, 1128, 1129, 1130, 1131, 1132, 1133, 1134, 1135, 1136, 1145, 1146, 1147, 1148, 1149, 1150, 1151, 1152, 1153, 1154, 1155, 1156, 1171, 1172, 1173, 1157, 1158, 1159, 1160] (by decide +kernel) (by decide +kernel)
set_option maxRecDepth 20000 in
theorem gL_law_X10_drop : GoodIn wsL_law (wsV RL 73 RX10 yX10_drop wsX10_drop) := goodIn_app (goodIn_of _ (by decide +kernel)) ggL_law_X10_drop
set_option maxRecDepth 20000 in
theorem ggL_law_X11_drop : GoodIn wsL_law wsX11_drop := goodIn_r _ [772, 135, 758, 759, 5, 760, 754, 755, 756, 757, 599, 595, 596, 597, 598, 600, 141, 601, 602, 603, 604, 142, 605, 606, 607, 608, 609, 610, 611, 612, 613, 614, 615, 616, 617, 618, 619, 620, 621, 622, 623, 624, 625, 626, 627, 628, 629, 630, 631, 632, 633, 634, 635, 636, 637, 638, 639, 640, 641, 642, 643, 644, 645, 646, 647, 1100, 1101, 1102, 1103, 1104, 1105, 1106, 1107, 1108, 1109, 1110, 1111, 1112, 1113, 1114, 1115, 1116, 1117, 1118, 1119, 1120, 1121, 1122, 1123, 1124, 1125, 1126, 1127] (by decide +kernel) (by decide +kernel)
set_option maxRecDepth 20000 in
theorem gL_law_X11_drop : GoodIn wsL_law (wsV RL 76 RX11 yX11_drop wsX11_drop) := goodIn_app (goodIn_of _ (by decide +kernel)) ggL_law_X11_drop
set_option maxRecDepth 20000 in
theorem ggL_law_X10_between : GoodIn wsL_law wsX10_between := goodIn_r _ [776, 45, 653, 654, 655, 2, 656, 16, 163, 164, 165, 166, 167, 29, 657, 658, 659, 660, 475, 476, 477, 478, 479, 172, 33, 41, 37, 480, 481, 482, 32, 483, 484, 485, 486, 487, 488, 489, 490, 491, 492, 493, 494, 495, 496, 497, 498, 499, 500, 82, 83, 84, 85, 501, 502, 503, 504, 86, 87, 88, 505, 506, 507, 508, 509, 510, 511, 512, 513, 514, 515, 516, 517, 518, 519, 40, 520, 521, 98, 522, 100, 523, 524, 525, 526, 527, 528, 529, 530, 89, 531, 532, 533, 534, 535, 536, 537, 538, 539, 540, 541, 542, 543, 544, 545, 546, 36, 547, 548, 549, 94, 93, 550, 551, 552, 553, 554, 555, 44, 556, 557, 105, 106, 558, 107, 559, 560, 561, 562, 563, 564, 565, 566, 567, 108, 568, 569, 570, 571, 572, 573, 574, 575, 576, 577, 578, 579, 580, 581, 582, 104, 583, 584, 585, 586, 777, 778, 779, 780, 781, 782, 783, 784, 785, 786, 787, 788, 789, 790, 791, 792, 793, 794, 795, 1083, 1084, 1085, 1086, 1087, 1088, 1089, 1090, 1091, 1092, 1093, 1094, 1095, 1096, 1097, 1098, 1099, 1128, 1129, 1130, 1131, 1132, 1133, 1134, 1135, 1136, 1164, 1165, 1166, 1167, 1168, 1169, 1170, 1145, 1146, 1147, 1148, 1149, 1150, 1151, 1152, 1153, 1154, 1155, 1156, 1161, 1162, 1163, 1157, 1158, 1159, 1160] (by decide +kernel) (by decide +kernel)
set_option maxRecDepth 20000 in
theorem gL_law_X10_between : GoodIn wsL_law (wsV RL 77 RX10 yX10_between wsX10_between) := goodIn_app (goodIn_of _ (by decide +kernel)) ggL_law_X10_between
set_option maxRecDepth 20000 in
theorem ggL_law_X11_between : GoodIn wsL_law wsX11_between := goodIn_r _ [799, 665, 666, 667, 5, 668, 135, 156, 157, 158, 221, 222, 223, 224, 185, 186, 187, 188, 140, 800, 801, 802, 803, 146, 147, 143, 142, 591, 592, 593, 594, 595, 596, 597, 598, 599, 600, 141, 601, 602, 603, 604, 605, 606, 607, 608, 609, 610, 611, 612, 613, 614, 615, 616, 617, 618, 619, 620, 621, 622, 623, 624, 625, 626, 627, 628, 629, 630, 631, 632, 633, 634, 635, 636, 637, 638, 639, 640, 641, 642, 643, 644, 645, 646, 647, 804, 805, 806, 807, 808, 809, 810, 811, 1100, 1101, 1102, 1103, 1104, 1105, 1106, 1107, 1108, 1109, 1110, 1111, 1112, 1113, 1114, 1115, 1116, 1117, 1118, 1119, 1120, 1121, 1122, 1123, 1124, 1125, 1126, 1127] (by decide +kernel) (by decide +kernel)
set_option maxRecDepth 20000 in
theorem gL_law_X11_between : GoodIn wsL_law (wsV RL 80 RX11 yX11_between wsX11_between) := goodIn_app (goodIn_of _ (by decide +kernel)) ggL_law_X11_between
set_option maxRecDepth 20000 in
theorem ggL_law_X10_sure : GoodIn wsL_law wsX10_sure := goodIn_r _ [815, 45, 16, 163, 657, 658, 659, 2, 660, 475, 476, 477, 478, 479, 172, 33, 41, 37, 480, 481, 482, 32, 483, 484, 485, 486, 487, 488, 489, 490, 491, 492, 493, 494, 495, 496, 497, 498, 499, 500, 82, 83, 84, 85, 501, 502, 503, 504, 86, 87, 88, 505, 506, 507, 508, 509, 510, 511, 512, 513, 514, 515, 516, 517, 518, 519, 40, 520, 521, 98, 522, 100, 523, 524, 525, 526, 527, 528, 529, 530, 89, 531, 532, 533, 534, 535, 536, 537, 538, 539, 540, 541, 542, 543, 544, 545, 546, 36, 547, 548, 549, 94, 93, 550, 551, 552, 553, 554, 555, 44, 556, 557, 105, 106, 558, 107, 559, 560, 561, 562, 563, 564, 565, 566, 567, 108, 568, 569, 570, 571, 572, 573, 574, 575, 576, 577, 578, 579, 580, 581, 582, 104, 583, 584, 585, 586, 816, 817, 818, 819, 820, 821, 822, 823, 824, 778, 779, 780, 781, 782, 783, 784, 785, 786, 787, 788, 789, 790, 791, 792, 793, 794, 795, 825, 744, 745, 746, 747, 748, 749, 164, 165, 166, 167, 29, 1083, 1084, 1085, 1086, 1087, 1088, 1089, 1090, 1091, 1092, 1093, 1094, 1095, 1096, 1097, 1098, 1099, 1128, 1129, 1130, 1131, 1132, 1133, 1134, 1135, 1136, 1164, 1165, 1166, 1167, 1168, 1169, 1170, 1145, 1146, 1147, 1148, 1149, 1150, 1151, 1152, 1153, 1154, 1155, 1156, 1161, 1162, 1163, 1157, 1158, 1159, 1160] (by decide +kernel) (by decide +kernel)
set_option maxRecDepth 20000 in
theorem gL_law_X10_sure : GoodIn wsL_law (wsV RL 81 RX10 yX10_sure wsX10_sure) := goodIn_app (goodIn_of _ (by decide +kernel)) ggL_law_X10_sure
set_option maxRecDepth 20000 in
theorem ggL_law_X11_sure : GoodIn wsL_law wsX11_sure := goodIn_r _ [829, 135, 800, 801, 802, 5, 803, 146, 147, 143, 142, 591, 592, 593, 594, 595, 596, 597, 598, 599, 600, 141, 601, 602, 603, 604, 605, 606, 607, 608, 609, 610, 611, 612, 613, 614, 615, 616, 617, 618, 619, 620, 621, 622, 623, 624, 625, 626, 627, 628, 629, 630, 631, 632, 633, 634, 635, 636, 637, 638, 639, 640, 641, 642, 643, 644, 645, 646, 647, 804, 805, 806, 807, 185, 186, 187, 188, 140, 830, 831, 832, 833, 808, 809, 810, 811, 1100, 1101, 1102, 1103, 1104, 1105, 1106, 1107, 1108, 1109, 1110, 1111, 1112, 1113, 1114, 1115, 1116, 1117, 1118, 1119, 1120, 1121, 1122, 1123, 1124, 1125, 1126, 1127] (by decide +kernel) (by decide +kernel)
set_option maxRecDepth 20000 in
theorem gL_law_X11_sure : GoodIn wsL_law (wsV RL 84 RX11 yX11_sure wsX11_sure) := goodIn_app (goodIn_of _ (by decide +kernel)) ggL_law_X11_sure
set_option maxRecDepth 20000 in
theorem ggL_law_X10_together : GoodIn wsL_law wsX10_together := goodIn_r _ [837, 45, 230, 231, 232, 2, 233, 194, 195, 196, 197, 16, 163, 164, 165, 166, 167, 29, 476, 477, 478, 479, 172, 33, 41, 37, 480, 481, 482, 32, 483, 484, 485, 486, 487, 488, 489, 490, 491, 492, 493, 494, 495, 496, 497, 498, 499, 500, 82, 83, 84, 85, 501, 502, 503, 504, 86, 87, 88, 505, 506, 507, 508, 509, 510, 511, 512, 513, 514, 515, 516, 517, 518, 519, 40, 520, 521, 98, 522, 100, 523, 524, 525, 526, 527, 528, 529, 530, 89, 531, 532, 533, 534, 535, 536, 537, 538, 539, 540, 541, 542, 543, 544, 545, 546, 36, 547, 548, 549, 94, 93, 550, 551, 552, 553, 554, 555, 44, 556, 557, 105, 106, 558, 107, 559, 560, 561, 562, 563, 564, 565, 566, 567, 108, 568, 569, 570, 571, 572, 573, 574, 575, 576, 577, 578, 579, 580, 581, 582, 104, 583, 584, 585, 586, 838, 839, 840, 841, 842, 843, 844, 845, 781, 782, 783, 784, 785, 786, 787, 788, 789, 790, 791, 792, 793, 794, 795, 1083, 1084, 1085, 1086, 1087, 1088, 1089, 1090, 1091, 1092, 1093, 1094, 1095, 1096, 1097, 1098, 1099, 1128, 1129, 1130, 1131, 1132, 1133, 1134, 1135, 1136, 1145, 1146, 1147, 1148, 1149, 1150, 1151, 1152, 1153, 1154, 1155, 1156, 1161, 1162, 1163, 1157, 1158, 1159, 1160, 1164, 1165, 1166, 1167, 1168, 1169, 1170] (by decide +kernel) (by decide +kernel)
set_option maxRecDepth 20000 in
theorem gL_law_X10_together : GoodIn wsL_law (wsV RL 85 RX10 yX10_together wsX10_together) := goodIn_app (goodIn_of _ (by decide +kernel)) ggL_law_X10_together
set_option maxRecDepth 20000 in
theorem ggL_law_X11_together : GoodIn wsL_law wsX11_together := goodIn_r _ [849, 600, 627, 205, 206, 207, 5, 208, 135, 156, 157, 158, 221, 222, 223, 224, 185, 186, 187, 188, 140, 591, 592, 593, 594, 595, 596, 597, 598, 599, 141, 601, 602, 603, 604, 142, 605, 606, 607, 608, 609, 610, 611, 612, 613, 614, 615, 616, 617, 618, 619, 620, 621, 622, 623, 624, 625, 626, 628, 629, 630, 631, 632, 633, 634, 635, 636, 637, 638, 639, 640, 641, 642, 643, 644, 645, 646, 647, 1100, 1101, 1102, 1103, 1104, 1105, 1106, 1107, 1108, 1109, 1110, 1111, 1112, 1113, 1114, 1115, 1116, 1117, 1118, 1119, 1120, 1121, 1122, 1123, 1124, 1125, 1126, 1127] (by decide +kernel) (by decide +kernel)
set_option maxRecDepth 20000 in
theorem gL_law_X11_together : GoodIn wsL_law (wsV RL 89 RX11 yX11_together wsX11_together) := goodIn_app (goodIn_of _ (by decide +kernel)) ggL_law_X11_together
set_option maxRecDepth 20000 in
theorem ggL_law_X10_ask : GoodIn wsL_law wsX10_ask := goodIn_r _ [853, 45, 16, 163, 214, 215, 2, 216, 164, 165, 166, 167, 29, 657, 658, 659, 660, 475, 476, 477, 478, 479, 172, 33, 41, 37, 480, 481, 482, 32, 483, 484, 485, 486, 487, 488, 489, 490, 491, 492, 493, 494, 495, 496, 497, 498, 499, 500, 82, 83, 84, 85, 501, 502, 503, 504, 86, 87, 88, 505, 506, 507, 508, 509, 510, 511, 512, 513, 514, 515, 516, 517, 518, 519, 40, 520, 521, 98, 522, 100, 523, 524, 525, 526, 527, 528, 529, 530, 89, 531, 532, 533, 534, 535, 536, 537, 538, 539, 540, 541, 542, 543, 544, 545, 546, 36, 547, 548, 549, 94, 93, 550, 551, 552, 553, 554, 555, 44, 556, 557, 105, 106, 558, 107, 559, 560, 561, 562, 563, 564, 565, 566, 567, 108, 568, 569, 570, 571, 572, 573, 574, 575, 576, 577, 578, 579, 580, 581, 582, 104, 583, 584, 585, 586, 854, 855, 856, 857, 858, 859, 860, 861, 862, 863, 864, 791, 865, 785, 786, 787, 788, 789, 790, 792, 793, 794, 795, 781, 782, 783, 784, 820, 821, 822, 823, 824, 778, 779, 780, 825, 744, 745, 746, 747, 748, 749, 1083, 1084, 1085, 1086, 1087, 1088, 1089, 1090, 1091, 1092, 1093, 1094, 1095, 1096, 1097, 1098, 1099, 1128, 1129, 1130, 1131, 1132, 1133, 1134, 1135, 1136, 1164, 1165, 1166, 1167, 1168, 1169, 1170, 1145, 1146, 1147, 1148, 1149, 1150, 1151, 1152, 1153, 1154, 1155, 1156, 1161, 1162, 1163, 1157, 1158, 1159, 1160] (by decide +kernel) (by decide +kernel)
set_option maxRecDepth 20000 in
theorem gL_law_X10_ask : GoodIn wsL_law (wsV RL 90 RX10 yX10_ask wsX10_ask) := goodIn_app (goodIn_of _ (by decide +kernel)) ggL_law_X10_ask
set_option maxRecDepth 20000 in
theorem ggL_law_X11_ask : GoodIn wsL_law wsX11_ask := goodIn_r _ [869, 870, 135, 147, 146, 871, 156, 157, 5, 158, 221, 222, 223, 224, 185, 186, 187, 188, 140, 800, 801, 802, 803, 143, 142, 591, 592, 593, 594, 595, 596, 597, 598, 599, 600, 141, 601, 602, 603, 604, 605, 606, 607, 608, 609, 610, 611, 612, 613, 614, 615, 616, 617, 618, 619, 620, 621, 622, 623, 624, 625, 626, 627, 628, 629, 630, 631, 632, 633, 634, 635, 636, 637, 638, 639, 640, 641, 642, 643, 644, 645, 646, 647, 804, 805, 806, 807, 872, 873, 874, 830, 831, 832, 833, 808, 809, 810, 811, 1100, 1101, 1102, 1103, 1104, 1105, 1106, 1107, 1108, 1109, 1110, 1111, 1112, 1113, 1114, 1115, 1116, 1117, 1118, 1119, 1120, 1121, 1122, 1123, 1124, 1125, 1126, 1127] (by decide +kernel) (by decide +kernel)
set_option maxRecDepth 20000 in
theorem gL_law_X11_ask : GoodIn wsL_law (wsV RL 94 RX11 yX11_ask wsX11_ask) := goodIn_app (goodIn_of _ (by decide +kernel)) ggL_law_X11_ask
set_option maxRecDepth 20000 in
theorem ggL_law_X10_one : GoodIn wsL_law wsX10_one := goodIn_r _ [878, 57, 879, 880, 881, 882, 164, 165, 166, 2, 167, 29, 883, 884, 885, 886, 175, 33, 16, 37, 480, 481, 482, 32, 483, 484, 485, 486, 487, 488, 489, 490, 491, 492, 493, 494, 495, 496, 497, 498, 499, 500, 82, 83, 84, 85, 501, 502, 503, 504, 86, 87, 88, 505, 506, 507, 508, 509, 510, 511, 512, 513, 514, 515, 516, 887, 888, 889, 56, 890, 891, 892, 893, 894, 895, 896, 897, 898, 899, 128, 129, 900, 901, 902, 903, 130, 904, 905, 906, 907, 127, 908, 909, 910, 911, 912, 913, 914, 915, 916, 518, 519, 40, 520, 521, 98, 522, 100, 523, 524, 525, 526, 527, 528, 529, 530, 89, 531, 532, 533, 534, 535, 536, 537, 538, 539, 540, 541, 542, 543, 544, 545, 546, 36, 547, 548, 549, 94, 93, 550, 551, 552, 917, 561, 562, 563, 918, 919, 920, 921, 125, 1083, 1084, 1085, 1086, 1087, 1088, 1089, 1090, 1091, 1092, 1093, 1094, 1095, 1096, 1097, 1098, 1099, 1179, 1180, 1181, 1182, 1183, 1184, 1185, 1186, 1145, 1146, 1147, 1148, 1149, 1150, 1151, 1152, 1153, 1154, 1155, 1156, 1128, 1129, 1130, 1131, 1132, 1133, 1134, 1135, 1136, 1161, 1162, 1163, 1157, 1158, 1159, 1160] (by decide +kernel) (by decide +kernel)
set_option maxRecDepth 20000 in
theorem gL_law_X10_one : GoodIn wsL_law (wsV RL 95 RX10 yX10_one wsX10_one) := goodIn_app (goodIn_of _ (by decide +kernel)) ggL_law_X10_one
set_option maxRecDepth 20000 in
theorem ggL_law_X11_one : GoodIn wsL_law wsX11_one := goodIn_r _ [925, 135, 148, 149, 141, 185, 186, 187, 5, 188, 140, 595, 596, 597, 598, 599, 600, 926, 927, 928, 601, 602, 603, 604, 142, 605, 606, 607, 608, 609, 610, 611, 612, 613, 614, 615, 616, 617, 618, 619, 620, 621, 622, 623, 624, 625, 626, 627, 628, 629, 630, 631, 632, 633, 634, 635, 636, 637, 638, 639, 640, 641, 642, 643, 644, 645, 646, 647, 1100, 1101, 1102, 1103, 1104, 1105, 1106, 1107, 1108, 1109, 1110, 1111, 1112, 1113, 1114, 1115, 1116, 1117, 1118, 1119, 1120, 1121, 1122, 1123, 1124, 1125, 1126, 1127] (by decide +kernel) (by decide +kernel)
set_option maxRecDepth 20000 in
theorem gL_law_X11_one : GoodIn wsL_law (wsV RL 98 RX11 yX11_one wsX11_one) := goodIn_app (goodIn_of _ (by decide +kernel)) ggL_law_X11_one
set_option maxRecDepth 20000 in
theorem ggL_law_X10_word : GoodIn wsL_law wsX10_word := goodIn_r _ [932, 49, 16, 198, 199, 2, 200, 164, 165, 166, 167, 29, 699, 700, 701, 702, 173, 33, 37, 163, 480, 481, 482, 32, 483, 484, 485, 486, 487, 488, 489, 490, 491, 492, 493, 494, 495, 496, 497, 498, 499, 500, 82, 83, 84, 85, 501, 502, 503, 504, 86, 87, 88, 505, 506, 507, 508, 509, 510, 511, 512, 513, 514, 515, 516, 703, 704, 705, 48, 706, 112, 707, 708, 709, 523, 524, 525, 710, 527, 528, 529, 530, 89, 531, 532, 533, 711, 712, 713, 714, 715, 716, 113, 717, 535, 536, 537, 718, 545, 546, 36, 547, 548, 549, 94, 93, 719, 720, 721, 722, 723, 724, 725, 550, 551, 552, 726, 727, 728, 729, 730, 731, 732, 733, 734, 933, 934, 935, 15, 936, 238, 67, 937, 740, 741, 742, 1083, 1084, 1085, 1086, 1087, 1088, 1089, 1090, 1091, 1092, 1093, 1094, 1095, 1096, 1097, 1098, 1099, 1128, 1129, 1130, 1131, 1132, 1133, 1134, 1135, 1136, 1145, 1146, 1147, 1148, 1149, 1150, 1151, 1152, 1153, 1154, 1155, 1156, 1171, 1172, 1173, 1157, 1158, 1159, 1160] (by decide +kernel) (by decide +kernel)
set_option maxRecDepth 20000 in
theorem gL_law_X10_word : GoodIn wsL_law (wsV RL 99 RX10 yX10_word wsX10_word) := goodIn_app (goodIn_of _ (by decide +kernel)) ggL_law_X10_word
set_option maxRecDepth 20000 in
theorem ggL_law_X11_word : GoodIn wsL_law wsX11_word := goodIn_r _ [941, 156, 157, 5, 158, 221, 222, 223, 224, 185, 186, 187, 188, 140, 942, 943, 944, 945, 135, 754, 755, 756, 757, 599, 595, 596, 597, 598, 600, 141, 601, 602, 603, 604, 142, 605, 606, 607, 608, 609, 610, 611, 612, 613, 614, 615, 616, 617, 618, 619, 620, 621, 622, 623, 624, 625, 626, 627, 628, 629, 630, 631, 632, 633, 634, 635, 636, 637, 638, 639, 640, 641, 642, 643, 644, 645, 646, 647, 1100, 1101, 1102, 1103, 1104, 1105, 1106, 1107, 1108, 1109, 1110, 1111, 1112, 1113, 1114, 1115, 1116, 1117, 1118, 1119, 1120, 1121, 1122, 1123, 1124, 1125, 1126, 1127] (by decide +kernel) (by decide +kernel)
set_option maxRecDepth 20000 in
theorem gL_law_X11_word : GoodIn wsL_law (wsV RL 102 RX11 yX11_word wsX11_word) := goodIn_app (goodIn_of _ (by decide +kernel)) ggL_law_X11_word
set_option maxRecDepth 20000 in
theorem ggL_law_X10_against : GoodIn wsL_law wsX10_against := goodIn_r _ [949, 49, 16, 699, 700, 701, 2, 702, 173, 33, 37, 163, 480, 481, 482, 32, 483, 484, 485, 486, 487, 488, 489, 490, 491, 492, 493, 494, 495, 496, 497, 498, 499, 500, 82, 83, 84, 85, 501, 502, 503, 504, 86, 87, 88, 505, 506, 507, 508, 509, 510, 511, 512, 513, 514, 515, 516, 703, 704, 705, 48, 706, 112, 707, 708, 709, 523, 524, 525, 710, 527, 528, 529, 530, 89, 531, 532, 533, 711, 712, 713, 714, 715, 716, 113, 717, 535, 536, 537, 718, 545, 546, 36, 547, 548, 549, 94, 93, 719, 720, 721, 722, 723, 724, 725, 550, 551, 552, 726, 727, 728, 729, 730, 731, 732, 733, 734, 933, 934, 935, 15, 936, 238, 67, 937, 740, 741, 742, 1083, 1084, 1085, 1086, 1087, 1088, 1089, 1090, 1091, 1092, 1093, 1094, 1095, 1096, 1097, 1098, 1099, 1128, 1129, 1130, 1131, 1132, 1133, 1134, 1135, 1136, 1145, 1146, 1147, 1148, 1149, 1150, 1151, 1152, 1153, 1154, 1155, 1156, 1171, 1172, 1173, 1157, 1158, 1159, 1160] (by decide +kernel) (by decide +kernel)
set_option maxRecDepth 20000 in
theorem gL_law_X10_against : GoodIn wsL_law (wsV RL 103 RX10 yX10_against wsX10_against) := goodIn_app (goodIn_of _ (by decide +kernel)) ggL_law_X10_against
set_option maxRecDepth 20000 in
theorem ggL_law_X11_against : GoodIn wsL_law wsX11_against := goodIn_r _ [953, 942, 943, 944, 5, 945, 135, 754, 755, 756, 757, 599, 595, 596, 597, 598, 600, 141, 601, 602, 603, 604, 142, 605, 606, 607, 608, 609, 610, 611, 612, 613, 614, 615, 616, 617, 618, 619, 620, 621, 622, 623, 624, 625, 626, 627, 628, 629, 630, 631, 632, 633, 634, 635, 636, 637, 638, 639, 640, 641, 642, 643, 644, 645, 646, 647, 1100, 1101, 1102, 1103, 1104, 1105, 1106, 1107, 1108, 1109, 1110, 1111, 1112, 1113, 1114, 1115, 1116, 1117, 1118, 1119, 1120, 1121, 1122, 1123, 1124, 1125, 1126, 1127] (by decide +kernel) (by decide +kernel)
set_option maxRecDepth 20000 in
theorem gL_law_X11_against : GoodIn wsL_law (wsV RL 106 RX11 yX11_against wsX11_against) := goodIn_app (goodIn_of _ (by decide +kernel)) ggL_law_X11_against
set_option maxRecDepth 20000 in
theorem ggL_law_X10_watch : GoodIn wsL_law wsX10_watch := goodIn_r _ [957, 16, 958, 174, 653, 654, 655, 2, 656, 163, 164, 165, 166, 167, 29, 1083, 1084, 1085, 1086, 1087, 1088, 1089, 1090, 1091, 1092, 1093, 1094, 1095, 1096, 1097, 1098, 1099, 1128, 1129, 1130, 1131, 1132, 1133, 1134, 1135, 1136] (by decide +kernel) (by decide +kernel)
set_option maxRecDepth 20000 in
theorem gL_law_X10_watch : GoodIn wsL_law (wsV RL 107 RX10 yX10_watch wsX10_watch) := goodIn_app (goodIn_of _ (by decide +kernel)) ggL_law_X10_watch
set_option maxRecDepth 20000 in
theorem ggL_law_X11_watch : GoodIn wsL_law wsX11_watch := goodIn_r _ [962, 135, 665, 666, 667, 5, 668, 156, 157, 158, 185, 186, 187, 188, 140, 1100, 1101, 1102, 1103, 1104, 1105, 1106, 1107, 1108, 1109, 1110, 1111, 1112, 1113, 1114, 1115, 1116, 1117, 1118, 1119, 1120, 1121, 1122, 1123, 1124, 1125, 1126, 1127] (by decide +kernel) (by decide +kernel)
set_option maxRecDepth 20000 in
theorem gL_law_X11_watch : GoodIn wsL_law (wsV RL 110 RX11 yX11_watch wsX11_watch) := goodIn_app (goodIn_of _ (by decide +kernel)) ggL_law_X11_watch
set_option maxRecDepth 20000 in
theorem ggL_law_X10_minute : GoodIn wsL_law wsX10_minute := goodIn_r _ [966, 53, 967, 968, 653, 654, 655, 2, 656, 16, 163, 214, 215, 216, 164, 165, 166, 167, 29, 969, 970, 971, 972, 174, 41, 37, 476, 477, 478, 479, 172, 33, 45, 480, 481, 482, 32, 483, 484, 485, 486, 487, 488, 489, 490, 491, 492, 493, 494, 495, 496, 497, 498, 499, 500, 82, 83, 84, 85, 501, 502, 503, 504, 86, 87, 88, 505, 506, 507, 508, 509, 510, 511, 512, 513, 514, 515, 516, 517, 518, 519, 40, 520, 521, 98, 522, 100, 523, 524, 525, 526, 527, 528, 529, 530, 89, 531, 532, 533, 534, 535, 536, 537, 538, 539, 540, 541, 542, 543, 544, 545, 546, 36, 547, 548, 549, 94, 93, 550, 551, 552, 553, 554, 555, 44, 556, 557, 105, 106, 558, 107, 559, 560, 561, 562, 563, 564, 565, 566, 567, 108, 568, 569, 570, 571, 572, 573, 574, 575, 576, 577, 578, 579, 580, 581, 582, 104, 583, 584, 585, 586, 973, 974, 975, 52, 976, 117, 118, 119, 977, 978, 120, 979, 980, 981, 982, 983, 984, 121, 985, 790, 791, 792, 986, 987, 988, 989, 990, 991, 992, 993, 994, 995, 996, 997, 998, 999, 1000, 1001, 794, 795, 1002, 1003, 1004, 1005, 1083, 1084, 1085, 1086, 1087, 1088, 1089, 1090, 1091, 1092, 1093, 1094, 1095, 1096, 1097, 1098, 1099, 1174, 1175, 1176, 1177, 1178, 1128, 1129, 1130, 1131, 1132, 1133, 1134, 1135, 1136, 1145, 1146, 1147, 1148, 1149, 1150, 1151, 1152, 1153, 1154, 1155, 1156, 1161, 1162, 1163, 1157, 1158, 1159, 1160, 1164, 1165, 1166, 1167, 1168, 1169, 1170] (by decide +kernel) (by decide +kernel)
set_option maxRecDepth 20000 in
theorem gL_law_X10_minute : GoodIn wsL_law (wsV RL 111 RX10 yX10_minute wsX10_minute) := goodIn_app (goodIn_of _ (by decide +kernel)) ggL_law_X10_minute
set_option maxRecDepth 20000 in
theorem ggL_law_X11_minute : GoodIn wsL_law wsX11_minute := goodIn_r _ [1009, 150, 665, 666, 667, 5, 668, 135, 156, 157, 158, 221, 222, 223, 224, 185, 186, 187, 188, 140, 1010, 1011, 1012, 1013, 151, 595, 596, 597, 598, 599, 600, 141, 605, 606, 607, 608, 613, 614, 615, 616, 617, 618, 619, 620, 621, 622, 623, 624, 625, 626, 627, 628, 629, 630, 631, 632, 633, 634, 635, 636, 637, 638, 639, 640, 641, 642, 643, 644, 645, 646, 647, 1014, 1015, 1016, 1017, 1018, 1019, 1020, 1021, 1022, 1023, 1024, 1025, 1100, 1101, 1102, 1103, 1104, 1105, 1106, 1107, 1108, 1109, 1110, 1111, 1112, 1113, 1114, 1115, 1116, 1117, 1118, 1119, 1120, 1121, 1122, 1123, 1124, 1125, 1126, 1127] (by decide +kernel) (by decide +kernel)
set_option maxRecDepth 20000 in
theorem gL_law_X11_minute : GoodIn wsL_law (wsV RL 114 RX11 yX11_minute wsX11_minute) := goodIn_app (goodIn_of _ (by decide +kernel)) ggL_law_X11_minute
set_option maxRecDepth 20000 in
theorem ggL_law_X10_image : GoodIn wsL_law wsX10_image := goodIn_r _ [1029, 17, 16, 19, 214, 215, 2, 216, 164, 165, 166, 167, 29, 407, 408, 409, 15, 410, 180, 238, 61, 62, 63, 64, 65, 66, 67, 1083, 1084, 1085, 1086, 1087, 1088, 1089, 1090, 1091, 1092, 1093, 1094, 1095, 1096, 1097, 1098, 1099, 1128, 1129, 1130, 1131, 1132, 1133, 1134, 1135, 1136] (by decide +kernel) (by decide +kernel)
set_option maxRecDepth 20000 in
theorem gL_law_X10_image : GoodIn wsL_law (wsV RL 115 RX10 yX10_image wsX10_image) := goodIn_app (goodIn_of _ (by decide +kernel)) ggL_law_X10_image
set_option maxRecDepth 20000 in
theorem ggL_law_X11_image : GoodIn wsL_law wsX11_image := goodIn_r _ [1033, 137, 135, 138, 156, 157, 5, 158, 221, 222, 223, 224, 185, 186, 187, 188, 140, 1100, 1101, 1102, 1103, 1104, 1105, 1106, 1107, 1108, 1109, 1110, 1111, 1112, 1113, 1114, 1115, 1116, 1117, 1118, 1119, 1120, 1121, 1122, 1123, 1124, 1125, 1126, 1127] (by decide +kernel) (by decide +kernel)
set_option maxRecDepth 20000 in
theorem gL_law_X11_image : GoodIn wsL_law (wsV RL 118 RX11 yX11_image wsX11_image) := goodIn_app (goodIn_of _ (by decide +kernel)) ggL_law_X11_image
set_option maxRecDepth 20000 in
theorem ggL_law_X10_from : GoodIn wsL_law wsX10_from := goodIn_r _ [1037, 19, 16, 17, 214, 215, 2, 216, 164, 165, 166, 167, 29, 407, 408, 409, 15, 410, 180, 238, 61, 62, 63, 64, 65, 66, 67, 168, 169, 170, 171, 172, 173, 174, 175, 1083, 1084, 1085, 1086, 1087, 1088, 1089, 1090, 1091, 1092, 1093, 1094, 1095, 1096, 1097, 1098, 1099, 1128, 1129, 1130, 1131, 1132, 1133, 1134, 1135, 1136] (by decide +kernel) (by decide +kernel)
set_option maxRecDepth 20000 in
theorem gL_law_X10_from : GoodIn wsL_law (wsV RL 119 RX10 yX10_from wsX10_from) := goodIn_app (goodIn_of _ (by decide +kernel)) ggL_law_X10_from
set_option maxRecDepth 20000 in
theorem ggL_law_X11_from : GoodIn wsL_law wsX11_from := goodIn_r _ [1041, 138, 135, 137, 156, 157, 5, 158, 221, 222, 223, 224, 185, 186, 187, 188, 140, 1100, 1101, 1102, 1103, 1104, 1105, 1106, 1107, 1108, 1109, 1110, 1111, 1112, 1113, 1114, 1115, 1116, 1117, 1118, 1119, 1120, 1121, 1122, 1123, 1124, 1125, 1126, 1127] (by decide +kernel) (by decide +kernel)
set_option maxRecDepth 20000 in
theorem gL_law_X11_from : GoodIn wsL_law (wsV RL 122 RX11 yX11_from wsX11_from) := goodIn_app (goodIn_of _ (by decide +kernel)) ggL_law_X11_from
set_option maxRecDepth 20000 in
theorem ggL_law_X10_status : GoodIn wsL_law wsX10_status := goodIn_r _ [1045, 29, 164, 165, 166, 2, 167, 1083, 1084, 1085, 1086, 1087, 1088, 1089, 1090, 1091, 1092, 1093, 1094, 1095, 1096, 1097, 1098, 1099] (by decide +kernel) (by decide +kernel)
set_option maxRecDepth 20000 in
theorem gL_law_X10_status : GoodIn wsL_law (wsV RL 123 RX10 yX10_status wsX10_status) := goodIn_app (goodIn_of _ (by decide +kernel)) ggL_law_X10_status
set_option maxRecDepth 20000 in
theorem ggL_law_X11_status : GoodIn wsL_law wsX11_status := goodIn_r _ [1049, 140, 156, 157, 5, 158, 185, 186, 187, 188, 1100, 1101, 1102, 1103, 1104, 1105, 1106, 1107, 1108, 1109, 1110, 1111, 1112, 1113, 1114, 1115, 1116, 1117, 1118, 1119, 1120, 1121, 1122, 1123, 1124, 1125, 1126, 1127] (by decide +kernel) (by decide +kernel)
set_option maxRecDepth 20000 in
theorem gL_law_X11_status : GoodIn wsL_law (wsV RL 126 RX11 yX11_status wsX11_status) := goodIn_app (goodIn_of _ (by decide +kernel)) ggL_law_X11_status
set_option maxRecDepth 20000 in
theorem ggL_law_X10_count : GoodIn wsL_law wsX10_count := goodIn_r _ [1053, 16, 163, 229, 23, 255, 1054, 1055, 1056, 15, 1057, 180, 63, 164, 165, 166, 2, 167, 29, 1083, 1084, 1085, 1086, 1087, 1088, 1089, 1090, 1091, 1092, 1093, 1094, 1095, 1096, 1097, 1098, 1099, 1128, 1129, 1130, 1131, 1132, 1133, 1134, 1135, 1136, 1137, 1138] (by decide +kernel) (by decide +kernel)
set_option maxRecDepth 20000 in
theorem gL_law_X10_count : GoodIn wsL_law (wsV RL 127 RX10 yX10_count wsX10_count) := goodIn_app (goodIn_of _ (by decide +kernel)) ggL_law_X10_count
set_option maxRecDepth 20000 in
theorem ggL_law_X11_count : GoodIn wsL_law wsX11_count := goodIn_r _ [1061, 156, 157, 5, 158, 1062, 1063, 1064, 1065, 135, 265, 221, 222, 223, 224, 185, 186, 187, 188, 140, 1100, 1101, 1102, 1103, 1104, 1105, 1106, 1107, 1108, 1109, 1110, 1111, 1112, 1113, 1114, 1115, 1116, 1117, 1118, 1119, 1120, 1121, 1122, 1123, 1124, 1125, 1126, 1127] (by decide +kernel) (by decide +kernel)
set_option maxRecDepth 20000 in
theorem gL_law_X11_count : GoodIn wsL_law (wsV RL 130 RX11 yX11_count wsX11_count) := goodIn_app (goodIn_of _ (by decide +kernel)) ggL_law_X11_count
set_option maxRecDepth 20000 in
theorem ggL_law_X10_digest : GoodIn wsL_law wsX10_digest := goodIn_r _ [1069, 16, 23, 255, 1070, 1071, 1072, 15, 1073, 1074, 1075, 180, 238, 61, 62, 64, 65, 66, 67, 63, 1076, 1055, 1056, 1057, 1083, 1084, 1085, 1086, 1087, 1088, 1089, 1090, 1091, 1092, 1093, 1094, 1095, 1096, 1097, 1098, 1099, 1137, 1138, 1128, 1129, 1130, 1131, 1132, 1133, 1134, 1135, 1136] (by decide +kernel) (by decide +kernel)
set_option maxRecDepth 20000 in
theorem gL_law_X10_digest : GoodIn wsL_law (wsV RL 131 RX10 yX10_digest wsX10_digest) := goodIn_app (goodIn_of _ (by decide +kernel)) ggL_law_X10_digest
set_option maxRecDepth 20000 in
theorem ggL_law_X11_digest : GoodIn wsL_law wsX11_digest := goodIn_r _ [1080, 1081, 1082, 135, 1062, 1063, 1064, 5, 1065, 265, 1100, 1101, 1102, 1103, 1104, 1105, 1106, 1107, 1108, 1109, 1110, 1111, 1112, 1113, 1114, 1115, 1116, 1117, 1118, 1119, 1120, 1121, 1122, 1123, 1124, 1125, 1126, 1127] (by decide +kernel) (by decide +kernel)
set_option maxRecDepth 20000 in
theorem gL_law_X11_digest : GoodIn wsL_law (wsV RL 134 RX11 yX11_digest wsX11_digest) := goodIn_app (goodIn_of _ (by decide +kernel)) ggL_law_X11_digest
theorem dL_law_0 : decode cL_law 0 = .ok (.new 7, 3) := by decide +kernel
theorem dL_law_3 : decode cL_law 3 = .ok (.dup, 1) := by decide +kernel
theorem dL_law_4 : decode cL_law 4 = .ok (.invokespecial 9, 3) := by decide +kernel
theorem dL_law_7 : decode cL_law 7 = .ok (.astore_n 1, 1) := by decide +kernel
theorem dL_law_8 : decode cL_law 8 = .ok (.new 10, 3) := by decide +kernel
theorem dL_law_11 : decode cL_law 11 = .ok (.dup, 1) := by decide +kernel
theorem dL_law_12 : decode cL_law 12 = .ok (.invokespecial 12, 3) := by decide +kernel
theorem dL_law_15 : decode cL_law 15 = .ok (.astore_n 2, 1) := by decide +kernel
theorem dL_law_16 : decode cL_law 16 = .ok (.iconst 0, 1) := by decide +kernel
theorem dL_law_17 : decode cL_law 17 = .ok (.istore_n 3, 1) := by decide +kernel
theorem dL_law_18 : decode cL_law 18 = .ok (.iload_n 3, 1) := by decide +kernel
theorem dL_law_19 : decode cL_law 19 = .ok (.aload_n 0, 1) := by decide +kernel
theorem dL_law_20 : decode cL_law 20 = .ok (.arraylength, 1) := by decide +kernel
theorem dL_law_21 : decode cL_law 21 = .ok (.iconst 5, 1) := by decide +kernel
theorem dL_law_22 : decode cL_law 22 = .ok (.isub, 1) := by decide +kernel
theorem dL_law_23 : decode cL_law 23 = .ok (.if_icmp .gt 811, 3) := by decide +kernel
theorem dL_law_26 : decode cL_law 26 = .ok (.aload_n 0, 1) := by decide +kernel
theorem dL_law_27 : decode cL_law 27 = .ok (.iload_n 3, 1) := by decide +kernel
theorem dL_law_28 : decode cL_law 28 = .ok (.iaload, 1) := by decide +kernel
theorem dL_law_29 : decode cL_law 29 = .ok (.bipush 31, 2) := by decide +kernel
theorem dL_law_31 : decode cL_law 31 = .ok (.iand, 1) := by decide +kernel
theorem dL_law_32 : decode cL_law 32 = .ok (.tableswitch 796 0 27 #[128, 141, 174, 207, 260, 273, 336, 349, 362, 376, 399, 412, 435, 448, 461, 494, 507, 541, 565, 588, 611, 624, 657, 690, 713, 736, 759, 782], 128) := by decide +kernel
theorem dL_law_160 : decode cL_law 160 = .ok (.aload_n 1, 1) := by decide +kernel
theorem dL_law_161 : decode cL_law 161 = .ok (.invokevirtual 13, 3) := by decide +kernel
theorem dL_law_164 : decode cL_law 164 = .ok (.aload_n 2, 1) := by decide +kernel
theorem dL_law_165 : decode cL_law 165 = .ok (.invokevirtual 17, 3) := by decide +kernel
theorem dL_law_168 : decode cL_law 168 = .ok (.if_icmp .eq 660, 3) := by decide +kernel
theorem dL_law_171 : decode cL_law 171 = .ok (.iconst 0, 1) := by decide +kernel
theorem dL_law_172 : decode cL_law 172 = .ok (.ireturn, 1) := by decide +kernel
theorem dL_law_173 : decode cL_law 173 = .ok (.aload_n 1, 1) := by decide +kernel
theorem dL_law_174 : decode cL_law 174 = .ok (.aload_n 0, 1) := by decide +kernel
theorem dL_law_175 : decode cL_law 175 = .ok (.iload_n 3, 1) := by decide +kernel
theorem dL_law_176 : decode cL_law 176 = .ok (.iconst 1, 1) := by decide +kernel
theorem dL_law_177 : decode cL_law 177 = .ok (.iadd, 1) := by decide +kernel
theorem dL_law_178 : decode cL_law 178 = .ok (.iaload, 1) := by decide +kernel
theorem dL_law_179 : decode cL_law 179 = .ok (.aload_n 0, 1) := by decide +kernel
theorem dL_law_180 : decode cL_law 180 = .ok (.iload_n 3, 1) := by decide +kernel
theorem dL_law_181 : decode cL_law 181 = .ok (.iconst 2, 1) := by decide +kernel
theorem dL_law_182 : decode cL_law 182 = .ok (.iadd, 1) := by decide +kernel
theorem dL_law_183 : decode cL_law 183 = .ok (.iaload, 1) := by decide +kernel
theorem dL_law_184 : decode cL_law 184 = .ok (.invokevirtual 18, 3) := by decide +kernel
theorem dL_law_187 : decode cL_law 187 = .ok (.aload_n 2, 1) := by decide +kernel
theorem dL_law_188 : decode cL_law 188 = .ok (.aload_n 0, 1) := by decide +kernel
theorem dL_law_189 : decode cL_law 189 = .ok (.iload_n 3, 1) := by decide +kernel
theorem dL_law_190 : decode cL_law 190 = .ok (.iconst 1, 1) := by decide +kernel
theorem dL_law_191 : decode cL_law 191 = .ok (.iadd, 1) := by decide +kernel
theorem dL_law_192 : decode cL_law 192 = .ok (.iaload, 1) := by decide +kernel
theorem dL_law_193 : decode cL_law 193 = .ok (.aload_n 0, 1) := by decide +kernel
theorem dL_law_194 : decode cL_law 194 = .ok (.iload_n 3, 1) := by decide +kernel
theorem dL_law_195 : decode cL_law 195 = .ok (.iconst 2, 1) := by decide +kernel
theorem dL_law_196 : decode cL_law 196 = .ok (.iadd, 1) := by decide +kernel
theorem dL_law_197 : decode cL_law 197 = .ok (.iaload, 1) := by decide +kernel
theorem dL_law_198 : decode cL_law 198 = .ok (.invokevirtual 22, 3) := by decide +kernel
theorem dL_law_201 : decode cL_law 201 = .ok (.if_icmp .eq 627, 3) := by decide +kernel
theorem dL_law_204 : decode cL_law 204 = .ok (.iconst 0, 1) := by decide +kernel
theorem dL_law_205 : decode cL_law 205 = .ok (.ireturn, 1) := by decide +kernel
theorem dL_law_206 : decode cL_law 206 = .ok (.aload_n 1, 1) := by decide +kernel
theorem dL_law_207 : decode cL_law 207 = .ok (.aload_n 0, 1) := by decide +kernel
theorem dL_law_208 : decode cL_law 208 = .ok (.iload_n 3, 1) := by decide +kernel
theorem dL_law_209 : decode cL_law 209 = .ok (.iconst 1, 1) := by decide +kernel
theorem dL_law_210 : decode cL_law 210 = .ok (.iadd, 1) := by decide +kernel
theorem dL_law_211 : decode cL_law 211 = .ok (.iaload, 1) := by decide +kernel
theorem dL_law_212 : decode cL_law 212 = .ok (.aload_n 0, 1) := by decide +kernel
theorem dL_law_213 : decode cL_law 213 = .ok (.iload_n 3, 1) := by decide +kernel
theorem dL_law_214 : decode cL_law 214 = .ok (.iconst 2, 1) := by decide +kernel
theorem dL_law_215 : decode cL_law 215 = .ok (.iadd, 1) := by decide +kernel
theorem dL_law_216 : decode cL_law 216 = .ok (.iaload, 1) := by decide +kernel
theorem dL_law_217 : decode cL_law 217 = .ok (.invokevirtual 23, 3) := by decide +kernel
theorem dL_law_220 : decode cL_law 220 = .ok (.aload_n 2, 1) := by decide +kernel
theorem dL_law_221 : decode cL_law 221 = .ok (.aload_n 0, 1) := by decide +kernel
theorem dL_law_222 : decode cL_law 222 = .ok (.iload_n 3, 1) := by decide +kernel
theorem dL_law_223 : decode cL_law 223 = .ok (.iconst 1, 1) := by decide +kernel
theorem dL_law_224 : decode cL_law 224 = .ok (.iadd, 1) := by decide +kernel
theorem dL_law_225 : decode cL_law 225 = .ok (.iaload, 1) := by decide +kernel
theorem dL_law_226 : decode cL_law 226 = .ok (.aload_n 0, 1) := by decide +kernel
theorem dL_law_227 : decode cL_law 227 = .ok (.iload_n 3, 1) := by decide +kernel
theorem dL_law_228 : decode cL_law 228 = .ok (.iconst 2, 1) := by decide +kernel
theorem dL_law_229 : decode cL_law 229 = .ok (.iadd, 1) := by decide +kernel
theorem dL_law_230 : decode cL_law 230 = .ok (.iaload, 1) := by decide +kernel
theorem dL_law_231 : decode cL_law 231 = .ok (.invokevirtual 26, 3) := by decide +kernel
theorem dL_law_234 : decode cL_law 234 = .ok (.if_icmp .eq 594, 3) := by decide +kernel
theorem dL_law_237 : decode cL_law 237 = .ok (.iconst 0, 1) := by decide +kernel
theorem dL_law_238 : decode cL_law 238 = .ok (.ireturn, 1) := by decide +kernel
theorem dL_law_239 : decode cL_law 239 = .ok (.aload_n 1, 1) := by decide +kernel
theorem dL_law_240 : decode cL_law 240 = .ok (.aload_n 0, 1) := by decide +kernel
theorem dL_law_241 : decode cL_law 241 = .ok (.iload_n 3, 1) := by decide +kernel
theorem dL_law_242 : decode cL_law 242 = .ok (.iconst 1, 1) := by decide +kernel
theorem dL_law_243 : decode cL_law 243 = .ok (.iadd, 1) := by decide +kernel
theorem dL_law_244 : decode cL_law 244 = .ok (.iaload, 1) := by decide +kernel
theorem dL_law_245 : decode cL_law 245 = .ok (.aload_n 0, 1) := by decide +kernel
theorem dL_law_246 : decode cL_law 246 = .ok (.iload_n 3, 1) := by decide +kernel
theorem dL_law_247 : decode cL_law 247 = .ok (.iconst 2, 1) := by decide +kernel
theorem dL_law_248 : decode cL_law 248 = .ok (.iadd, 1) := by decide +kernel
theorem dL_law_249 : decode cL_law 249 = .ok (.iaload, 1) := by decide +kernel
theorem dL_law_250 : decode cL_law 250 = .ok (.aload_n 0, 1) := by decide +kernel
theorem dL_law_251 : decode cL_law 251 = .ok (.iload_n 3, 1) := by decide +kernel
theorem dL_law_252 : decode cL_law 252 = .ok (.iconst 3, 1) := by decide +kernel
theorem dL_law_253 : decode cL_law 253 = .ok (.iadd, 1) := by decide +kernel
theorem dL_law_254 : decode cL_law 254 = .ok (.iaload, 1) := by decide +kernel
theorem dL_law_255 : decode cL_law 255 = .ok (.aload_n 0, 1) := by decide +kernel
theorem dL_law_256 : decode cL_law 256 = .ok (.iload_n 3, 1) := by decide +kernel
theorem dL_law_257 : decode cL_law 257 = .ok (.iconst 4, 1) := by decide +kernel
theorem dL_law_258 : decode cL_law 258 = .ok (.iadd, 1) := by decide +kernel
theorem dL_law_259 : decode cL_law 259 = .ok (.iaload, 1) := by decide +kernel
theorem dL_law_260 : decode cL_law 260 = .ok (.invokevirtual 27, 3) := by decide +kernel
theorem dL_law_263 : decode cL_law 263 = .ok (.aload_n 2, 1) := by decide +kernel
theorem dL_law_264 : decode cL_law 264 = .ok (.aload_n 0, 1) := by decide +kernel
theorem dL_law_265 : decode cL_law 265 = .ok (.iload_n 3, 1) := by decide +kernel
theorem dL_law_266 : decode cL_law 266 = .ok (.iconst 1, 1) := by decide +kernel
theorem dL_law_267 : decode cL_law 267 = .ok (.iadd, 1) := by decide +kernel
theorem dL_law_268 : decode cL_law 268 = .ok (.iaload, 1) := by decide +kernel
theorem dL_law_269 : decode cL_law 269 = .ok (.aload_n 0, 1) := by decide +kernel
theorem dL_law_270 : decode cL_law 270 = .ok (.iload_n 3, 1) := by decide +kernel
theorem dL_law_271 : decode cL_law 271 = .ok (.iconst 2, 1) := by decide +kernel
theorem dL_law_272 : decode cL_law 272 = .ok (.iadd, 1) := by decide +kernel
theorem dL_law_273 : decode cL_law 273 = .ok (.iaload, 1) := by decide +kernel
theorem dL_law_274 : decode cL_law 274 = .ok (.aload_n 0, 1) := by decide +kernel
theorem dL_law_275 : decode cL_law 275 = .ok (.iload_n 3, 1) := by decide +kernel
theorem dL_law_276 : decode cL_law 276 = .ok (.iconst 3, 1) := by decide +kernel
theorem dL_law_277 : decode cL_law 277 = .ok (.iadd, 1) := by decide +kernel
theorem dL_law_278 : decode cL_law 278 = .ok (.iaload, 1) := by decide +kernel
theorem dL_law_279 : decode cL_law 279 = .ok (.aload_n 0, 1) := by decide +kernel
theorem dL_law_280 : decode cL_law 280 = .ok (.iload_n 3, 1) := by decide +kernel
theorem dL_law_281 : decode cL_law 281 = .ok (.iconst 4, 1) := by decide +kernel
theorem dL_law_282 : decode cL_law 282 = .ok (.iadd, 1) := by decide +kernel
theorem dL_law_283 : decode cL_law 283 = .ok (.iaload, 1) := by decide +kernel
theorem dL_law_284 : decode cL_law 284 = .ok (.invokevirtual 31, 3) := by decide +kernel
theorem dL_law_287 : decode cL_law 287 = .ok (.if_icmp .eq 541, 3) := by decide +kernel
theorem dL_law_290 : decode cL_law 290 = .ok (.iconst 0, 1) := by decide +kernel
theorem dL_law_291 : decode cL_law 291 = .ok (.ireturn, 1) := by decide +kernel
theorem dL_law_292 : decode cL_law 292 = .ok (.aload_n 1, 1) := by decide +kernel
theorem dL_law_293 : decode cL_law 293 = .ok (.invokevirtual 32, 3) := by decide +kernel
theorem dL_law_296 : decode cL_law 296 = .ok (.aload_n 2, 1) := by decide +kernel
theorem dL_law_297 : decode cL_law 297 = .ok (.invokevirtual 35, 3) := by decide +kernel
theorem dL_law_300 : decode cL_law 300 = .ok (.if_icmp .eq 528, 3) := by decide +kernel
theorem dL_law_303 : decode cL_law 303 = .ok (.iconst 0, 1) := by decide +kernel
theorem dL_law_304 : decode cL_law 304 = .ok (.ireturn, 1) := by decide +kernel
theorem dL_law_305 : decode cL_law 305 = .ok (.aload_n 1, 1) := by decide +kernel
theorem dL_law_306 : decode cL_law 306 = .ok (.aload_n 0, 1) := by decide +kernel
theorem dL_law_307 : decode cL_law 307 = .ok (.iload_n 3, 1) := by decide +kernel
theorem dL_law_308 : decode cL_law 308 = .ok (.iconst 1, 1) := by decide +kernel
theorem dL_law_309 : decode cL_law 309 = .ok (.iadd, 1) := by decide +kernel
theorem dL_law_310 : decode cL_law 310 = .ok (.iaload, 1) := by decide +kernel
theorem dL_law_311 : decode cL_law 311 = .ok (.i2l, 1) := by decide +kernel
theorem dL_law_312 : decode cL_law 312 = .ok (.bipush 32, 2) := by decide +kernel
theorem dL_law_314 : decode cL_law 314 = .ok (.lshl, 1) := by decide +kernel
theorem dL_law_315 : decode cL_law 315 = .ok (.aload_n 0, 1) := by decide +kernel
theorem dL_law_316 : decode cL_law 316 = .ok (.iload_n 3, 1) := by decide +kernel
theorem dL_law_317 : decode cL_law 317 = .ok (.iconst 2, 1) := by decide +kernel
theorem dL_law_318 : decode cL_law 318 = .ok (.iadd, 1) := by decide +kernel
theorem dL_law_319 : decode cL_law 319 = .ok (.iaload, 1) := by decide +kernel
theorem dL_law_320 : decode cL_law 320 = .ok (.i2l, 1) := by decide +kernel
theorem dL_law_321 : decode cL_law 321 = .ok (.ldc2_w 36, 3) := by decide +kernel
theorem dL_law_324 : decode cL_law 324 = .ok (.land, 1) := by decide +kernel
theorem dL_law_325 : decode cL_law 325 = .ok (.lor, 1) := by decide +kernel
theorem dL_law_326 : decode cL_law 326 = .ok (.aload_n 0, 1) := by decide +kernel
theorem dL_law_327 : decode cL_law 327 = .ok (.iload_n 3, 1) := by decide +kernel
theorem dL_law_328 : decode cL_law 328 = .ok (.iconst 3, 1) := by decide +kernel
theorem dL_law_329 : decode cL_law 329 = .ok (.iadd, 1) := by decide +kernel
theorem dL_law_330 : decode cL_law 330 = .ok (.iaload, 1) := by decide +kernel
theorem dL_law_331 : decode cL_law 331 = .ok (.invokevirtual 38, 3) := by decide +kernel
theorem dL_law_334 : decode cL_law 334 = .ok (.aload_n 2, 1) := by decide +kernel
theorem dL_law_335 : decode cL_law 335 = .ok (.aload_n 0, 1) := by decide +kernel
theorem dL_law_336 : decode cL_law 336 = .ok (.iload_n 3, 1) := by decide +kernel
theorem dL_law_337 : decode cL_law 337 = .ok (.iconst 1, 1) := by decide +kernel
theorem dL_law_338 : decode cL_law 338 = .ok (.iadd, 1) := by decide +kernel
theorem dL_law_339 : decode cL_law 339 = .ok (.iaload, 1) := by decide +kernel
theorem dL_law_340 : decode cL_law 340 = .ok (.i2l, 1) := by decide +kernel
theorem dL_law_341 : decode cL_law 341 = .ok (.bipush 32, 2) := by decide +kernel
theorem dL_law_343 : decode cL_law 343 = .ok (.lshl, 1) := by decide +kernel
theorem dL_law_344 : decode cL_law 344 = .ok (.aload_n 0, 1) := by decide +kernel
theorem dL_law_345 : decode cL_law 345 = .ok (.iload_n 3, 1) := by decide +kernel
theorem dL_law_346 : decode cL_law 346 = .ok (.iconst 2, 1) := by decide +kernel
theorem dL_law_347 : decode cL_law 347 = .ok (.iadd, 1) := by decide +kernel
theorem dL_law_348 : decode cL_law 348 = .ok (.iaload, 1) := by decide +kernel
theorem dL_law_349 : decode cL_law 349 = .ok (.i2l, 1) := by decide +kernel
theorem dL_law_350 : decode cL_law 350 = .ok (.ldc2_w 36, 3) := by decide +kernel
theorem dL_law_353 : decode cL_law 353 = .ok (.land, 1) := by decide +kernel
theorem dL_law_354 : decode cL_law 354 = .ok (.lor, 1) := by decide +kernel
theorem dL_law_355 : decode cL_law 355 = .ok (.aload_n 0, 1) := by decide +kernel
theorem dL_law_356 : decode cL_law 356 = .ok (.iload_n 3, 1) := by decide +kernel
theorem dL_law_357 : decode cL_law 357 = .ok (.iconst 3, 1) := by decide +kernel
theorem dL_law_358 : decode cL_law 358 = .ok (.iadd, 1) := by decide +kernel
theorem dL_law_359 : decode cL_law 359 = .ok (.iaload, 1) := by decide +kernel
theorem dL_law_360 : decode cL_law 360 = .ok (.invokevirtual 42, 3) := by decide +kernel
theorem dL_law_363 : decode cL_law 363 = .ok (.if_icmp .eq 465, 3) := by decide +kernel
theorem dL_law_366 : decode cL_law 366 = .ok (.iconst 0, 1) := by decide +kernel
theorem dL_law_367 : decode cL_law 367 = .ok (.ireturn, 1) := by decide +kernel
theorem dL_law_368 : decode cL_law 368 = .ok (.aload_n 1, 1) := by decide +kernel
theorem dL_law_369 : decode cL_law 369 = .ok (.invokevirtual 43, 3) := by decide +kernel
theorem dL_law_372 : decode cL_law 372 = .ok (.aload_n 2, 1) := by decide +kernel
theorem dL_law_373 : decode cL_law 373 = .ok (.invokevirtual 46, 3) := by decide +kernel
theorem dL_law_376 : decode cL_law 376 = .ok (.if_icmp .eq 452, 3) := by decide +kernel
theorem dL_law_379 : decode cL_law 379 = .ok (.iconst 0, 1) := by decide +kernel
theorem dL_law_380 : decode cL_law 380 = .ok (.ireturn, 1) := by decide +kernel
theorem dL_law_381 : decode cL_law 381 = .ok (.aload_n 1, 1) := by decide +kernel
theorem dL_law_382 : decode cL_law 382 = .ok (.invokevirtual 47, 3) := by decide +kernel
theorem dL_law_385 : decode cL_law 385 = .ok (.aload_n 2, 1) := by decide +kernel
theorem dL_law_386 : decode cL_law 386 = .ok (.invokevirtual 50, 3) := by decide +kernel
theorem dL_law_389 : decode cL_law 389 = .ok (.if_icmp .eq 439, 3) := by decide +kernel
theorem dL_law_392 : decode cL_law 392 = .ok (.iconst 0, 1) := by decide +kernel
theorem dL_law_393 : decode cL_law 393 = .ok (.ireturn, 1) := by decide +kernel
theorem dL_law_394 : decode cL_law 394 = .ok (.aload_n 1, 1) := by decide +kernel
theorem dL_law_395 : decode cL_law 395 = .ok (.invokevirtual 51, 3) := by decide +kernel
theorem dL_law_398 : decode cL_law 398 = .ok (.aload_n 2, 1) := by decide +kernel
theorem dL_law_399 : decode cL_law 399 = .ok (.invokevirtual 55, 3) := by decide +kernel
theorem dL_law_402 : decode cL_law 402 = .ok (.lcmp, 1) := by decide +kernel
theorem dL_law_403 : decode cL_law 403 = .ok (.ifCond .eq 425, 3) := by decide +kernel
theorem dL_law_406 : decode cL_law 406 = .ok (.iconst 0, 1) := by decide +kernel
theorem dL_law_407 : decode cL_law 407 = .ok (.ireturn, 1) := by decide +kernel
theorem dL_law_408 : decode cL_law 408 = .ok (.aload_n 1, 1) := by decide +kernel
theorem dL_law_409 : decode cL_law 409 = .ok (.aload_n 0, 1) := by decide +kernel
theorem dL_law_410 : decode cL_law 410 = .ok (.iload_n 3, 1) := by decide +kernel
theorem dL_law_411 : decode cL_law 411 = .ok (.iconst 1, 1) := by decide +kernel
theorem dL_law_412 : decode cL_law 412 = .ok (.iadd, 1) := by decide +kernel
theorem dL_law_413 : decode cL_law 413 = .ok (.iaload, 1) := by decide +kernel
theorem dL_law_414 : decode cL_law 414 = .ok (.invokevirtual 56, 3) := by decide +kernel
theorem dL_law_417 : decode cL_law 417 = .ok (.aload_n 2, 1) := by decide +kernel
theorem dL_law_418 : decode cL_law 418 = .ok (.aload_n 0, 1) := by decide +kernel
theorem dL_law_419 : decode cL_law 419 = .ok (.iload_n 3, 1) := by decide +kernel
theorem dL_law_420 : decode cL_law 420 = .ok (.iconst 1, 1) := by decide +kernel
theorem dL_law_421 : decode cL_law 421 = .ok (.iadd, 1) := by decide +kernel
theorem dL_law_422 : decode cL_law 422 = .ok (.iaload, 1) := by decide +kernel
theorem dL_law_423 : decode cL_law 423 = .ok (.invokevirtual 60, 3) := by decide +kernel
theorem dL_law_426 : decode cL_law 426 = .ok (.if_icmp .eq 402, 3) := by decide +kernel
theorem dL_law_429 : decode cL_law 429 = .ok (.iconst 0, 1) := by decide +kernel
theorem dL_law_430 : decode cL_law 430 = .ok (.ireturn, 1) := by decide +kernel
theorem dL_law_431 : decode cL_law 431 = .ok (.aload_n 1, 1) := by decide +kernel
theorem dL_law_432 : decode cL_law 432 = .ok (.invokevirtual 61, 3) := by decide +kernel
theorem dL_law_435 : decode cL_law 435 = .ok (.aload_n 2, 1) := by decide +kernel
theorem dL_law_436 : decode cL_law 436 = .ok (.invokevirtual 64, 3) := by decide +kernel
theorem dL_law_439 : decode cL_law 439 = .ok (.if_icmp .eq 389, 3) := by decide +kernel
theorem dL_law_442 : decode cL_law 442 = .ok (.iconst 0, 1) := by decide +kernel
theorem dL_law_443 : decode cL_law 443 = .ok (.ireturn, 1) := by decide +kernel
theorem dL_law_444 : decode cL_law 444 = .ok (.aload_n 1, 1) := by decide +kernel
theorem dL_law_445 : decode cL_law 445 = .ok (.aload_n 0, 1) := by decide +kernel
theorem dL_law_446 : decode cL_law 446 = .ok (.iload_n 3, 1) := by decide +kernel
theorem dL_law_447 : decode cL_law 447 = .ok (.iconst 1, 1) := by decide +kernel
theorem dL_law_448 : decode cL_law 448 = .ok (.iadd, 1) := by decide +kernel
theorem dL_law_449 : decode cL_law 449 = .ok (.iaload, 1) := by decide +kernel
theorem dL_law_450 : decode cL_law 450 = .ok (.invokevirtual 65, 3) := by decide +kernel
theorem dL_law_453 : decode cL_law 453 = .ok (.aload_n 2, 1) := by decide +kernel
theorem dL_law_454 : decode cL_law 454 = .ok (.aload_n 0, 1) := by decide +kernel
theorem dL_law_455 : decode cL_law 455 = .ok (.iload_n 3, 1) := by decide +kernel
theorem dL_law_456 : decode cL_law 456 = .ok (.iconst 1, 1) := by decide +kernel
theorem dL_law_457 : decode cL_law 457 = .ok (.iadd, 1) := by decide +kernel
theorem dL_law_458 : decode cL_law 458 = .ok (.iaload, 1) := by decide +kernel
theorem dL_law_459 : decode cL_law 459 = .ok (.invokevirtual 68, 3) := by decide +kernel
theorem dL_law_462 : decode cL_law 462 = .ok (.if_icmp .eq 366, 3) := by decide +kernel
theorem dL_law_465 : decode cL_law 465 = .ok (.iconst 0, 1) := by decide +kernel
theorem dL_law_466 : decode cL_law 466 = .ok (.ireturn, 1) := by decide +kernel
theorem dL_law_467 : decode cL_law 467 = .ok (.aload_n 1, 1) := by decide +kernel
theorem dL_law_468 : decode cL_law 468 = .ok (.invokevirtual 69, 3) := by decide +kernel
theorem dL_law_471 : decode cL_law 471 = .ok (.aload_n 2, 1) := by decide +kernel
theorem dL_law_472 : decode cL_law 472 = .ok (.invokevirtual 72, 3) := by decide +kernel
theorem dL_law_475 : decode cL_law 475 = .ok (.if_icmp .eq 353, 3) := by decide +kernel
theorem dL_law_478 : decode cL_law 478 = .ok (.iconst 0, 1) := by decide +kernel
theorem dL_law_479 : decode cL_law 479 = .ok (.ireturn, 1) := by decide +kernel
theorem dL_law_480 : decode cL_law 480 = .ok (.aload_n 1, 1) := by decide +kernel
theorem dL_law_481 : decode cL_law 481 = .ok (.invokevirtual 73, 3) := by decide +kernel
theorem dL_law_484 : decode cL_law 484 = .ok (.aload_n 2, 1) := by decide +kernel
theorem dL_law_485 : decode cL_law 485 = .ok (.invokevirtual 76, 3) := by decide +kernel
theorem dL_law_488 : decode cL_law 488 = .ok (.if_icmp .eq 340, 3) := by decide +kernel
theorem dL_law_491 : decode cL_law 491 = .ok (.iconst 0, 1) := by decide +kernel
theorem dL_law_492 : decode cL_law 492 = .ok (.ireturn, 1) := by decide +kernel
theorem dL_law_493 : decode cL_law 493 = .ok (.aload_n 1, 1) := by decide +kernel
theorem dL_law_494 : decode cL_law 494 = .ok (.aload_n 0, 1) := by decide +kernel
theorem dL_law_495 : decode cL_law 495 = .ok (.iload_n 3, 1) := by decide +kernel
theorem dL_law_496 : decode cL_law 496 = .ok (.iconst 1, 1) := by decide +kernel
theorem dL_law_497 : decode cL_law 497 = .ok (.iadd, 1) := by decide +kernel
theorem dL_law_498 : decode cL_law 498 = .ok (.iaload, 1) := by decide +kernel
theorem dL_law_499 : decode cL_law 499 = .ok (.aload_n 0, 1) := by decide +kernel
theorem dL_law_500 : decode cL_law 500 = .ok (.iload_n 3, 1) := by decide +kernel
theorem dL_law_501 : decode cL_law 501 = .ok (.iconst 2, 1) := by decide +kernel
theorem dL_law_502 : decode cL_law 502 = .ok (.iadd, 1) := by decide +kernel
theorem dL_law_503 : decode cL_law 503 = .ok (.iaload, 1) := by decide +kernel
theorem dL_law_504 : decode cL_law 504 = .ok (.invokevirtual 77, 3) := by decide +kernel
theorem dL_law_507 : decode cL_law 507 = .ok (.aload_n 2, 1) := by decide +kernel
theorem dL_law_508 : decode cL_law 508 = .ok (.aload_n 0, 1) := by decide +kernel
theorem dL_law_509 : decode cL_law 509 = .ok (.iload_n 3, 1) := by decide +kernel
theorem dL_law_510 : decode cL_law 510 = .ok (.iconst 1, 1) := by decide +kernel
theorem dL_law_511 : decode cL_law 511 = .ok (.iadd, 1) := by decide +kernel
theorem dL_law_512 : decode cL_law 512 = .ok (.iaload, 1) := by decide +kernel
theorem dL_law_513 : decode cL_law 513 = .ok (.aload_n 0, 1) := by decide +kernel
theorem dL_law_514 : decode cL_law 514 = .ok (.iload_n 3, 1) := by decide +kernel
theorem dL_law_515 : decode cL_law 515 = .ok (.iconst 2, 1) := by decide +kernel
theorem dL_law_516 : decode cL_law 516 = .ok (.iadd, 1) := by decide +kernel
theorem dL_law_517 : decode cL_law 517 = .ok (.iaload, 1) := by decide +kernel
theorem dL_law_518 : decode cL_law 518 = .ok (.invokevirtual 80, 3) := by decide +kernel
theorem dL_law_521 : decode cL_law 521 = .ok (.if_icmp .eq 307, 3) := by decide +kernel
theorem dL_law_524 : decode cL_law 524 = .ok (.iconst 0, 1) := by decide +kernel
theorem dL_law_525 : decode cL_law 525 = .ok (.ireturn, 1) := by decide +kernel
theorem dL_law_526 : decode cL_law 526 = .ok (.aload_n 1, 1) := by decide +kernel
theorem dL_law_527 : decode cL_law 527 = .ok (.invokevirtual 81, 3) := by decide +kernel
theorem dL_law_530 : decode cL_law 530 = .ok (.aload_n 2, 1) := by decide +kernel
theorem dL_law_531 : decode cL_law 531 = .ok (.invokevirtual 84, 3) := by decide +kernel
theorem dL_law_534 : decode cL_law 534 = .ok (.if_icmp .eq 294, 3) := by decide +kernel
theorem dL_law_537 : decode cL_law 537 = .ok (.iconst 0, 1) := by decide +kernel
theorem dL_law_538 : decode cL_law 538 = .ok (.ireturn, 1) := by decide +kernel
theorem dL_law_539 : decode cL_law 539 = .ok (.aload_n 1, 1) := by decide +kernel
theorem dL_law_540 : decode cL_law 540 = .ok (.aload_n 0, 1) := by decide +kernel
theorem dL_law_541 : decode cL_law 541 = .ok (.iload_n 3, 1) := by decide +kernel
theorem dL_law_542 : decode cL_law 542 = .ok (.iconst 1, 1) := by decide +kernel
theorem dL_law_543 : decode cL_law 543 = .ok (.iadd, 1) := by decide +kernel
theorem dL_law_544 : decode cL_law 544 = .ok (.iaload, 1) := by decide +kernel
theorem dL_law_545 : decode cL_law 545 = .ok (.aload_n 0, 1) := by decide +kernel
theorem dL_law_546 : decode cL_law 546 = .ok (.iload_n 3, 1) := by decide +kernel
theorem dL_law_547 : decode cL_law 547 = .ok (.iconst 2, 1) := by decide +kernel
theorem dL_law_548 : decode cL_law 548 = .ok (.iadd, 1) := by decide +kernel
theorem dL_law_549 : decode cL_law 549 = .ok (.iaload, 1) := by decide +kernel
theorem dL_law_550 : decode cL_law 550 = .ok (.invokevirtual 85, 3) := by decide +kernel
theorem dL_law_553 : decode cL_law 553 = .ok (.aload_n 2, 1) := by decide +kernel
theorem dL_law_554 : decode cL_law 554 = .ok (.aload_n 0, 1) := by decide +kernel
theorem dL_law_555 : decode cL_law 555 = .ok (.iload_n 3, 1) := by decide +kernel
theorem dL_law_556 : decode cL_law 556 = .ok (.iconst 1, 1) := by decide +kernel
theorem dL_law_557 : decode cL_law 557 = .ok (.iadd, 1) := by decide +kernel
theorem dL_law_558 : decode cL_law 558 = .ok (.iaload, 1) := by decide +kernel
theorem dL_law_559 : decode cL_law 559 = .ok (.aload_n 0, 1) := by decide +kernel
theorem dL_law_560 : decode cL_law 560 = .ok (.iload_n 3, 1) := by decide +kernel
theorem dL_law_561 : decode cL_law 561 = .ok (.iconst 2, 1) := by decide +kernel
theorem dL_law_562 : decode cL_law 562 = .ok (.iadd, 1) := by decide +kernel
theorem dL_law_563 : decode cL_law 563 = .ok (.iaload, 1) := by decide +kernel
theorem dL_law_564 : decode cL_law 564 = .ok (.invokevirtual 89, 3) := by decide +kernel
theorem dL_law_567 : decode cL_law 567 = .ok (.lcmp, 1) := by decide +kernel
theorem dL_law_568 : decode cL_law 568 = .ok (.ifCond .eq 260, 3) := by decide +kernel
theorem dL_law_571 : decode cL_law 571 = .ok (.iconst 0, 1) := by decide +kernel
theorem dL_law_572 : decode cL_law 572 = .ok (.ireturn, 1) := by decide +kernel
theorem dL_law_573 : decode cL_law 573 = .ok (.aload_n 1, 1) := by decide +kernel
theorem dL_law_574 : decode cL_law 574 = .ok (.aload_n 0, 1) := by decide +kernel
theorem dL_law_575 : decode cL_law 575 = .ok (.iload_n 3, 1) := by decide +kernel
theorem dL_law_576 : decode cL_law 576 = .ok (.iconst 1, 1) := by decide +kernel
theorem dL_law_577 : decode cL_law 577 = .ok (.iadd, 1) := by decide +kernel
theorem dL_law_578 : decode cL_law 578 = .ok (.iaload, 1) := by decide +kernel
theorem dL_law_579 : decode cL_law 579 = .ok (.invokevirtual 90, 3) := by decide +kernel
theorem dL_law_582 : decode cL_law 582 = .ok (.aload_n 2, 1) := by decide +kernel
theorem dL_law_583 : decode cL_law 583 = .ok (.aload_n 0, 1) := by decide +kernel
theorem dL_law_584 : decode cL_law 584 = .ok (.iload_n 3, 1) := by decide +kernel
theorem dL_law_585 : decode cL_law 585 = .ok (.iconst 1, 1) := by decide +kernel
theorem dL_law_586 : decode cL_law 586 = .ok (.iadd, 1) := by decide +kernel
theorem dL_law_587 : decode cL_law 587 = .ok (.iaload, 1) := by decide +kernel
theorem dL_law_588 : decode cL_law 588 = .ok (.invokevirtual 94, 3) := by decide +kernel
theorem dL_law_591 : decode cL_law 591 = .ok (.lcmp, 1) := by decide +kernel
theorem dL_law_592 : decode cL_law 592 = .ok (.ifCond .eq 236, 3) := by decide +kernel
theorem dL_law_595 : decode cL_law 595 = .ok (.iconst 0, 1) := by decide +kernel
theorem dL_law_596 : decode cL_law 596 = .ok (.ireturn, 1) := by decide +kernel
theorem dL_law_597 : decode cL_law 597 = .ok (.aload_n 1, 1) := by decide +kernel
theorem dL_law_598 : decode cL_law 598 = .ok (.aload_n 0, 1) := by decide +kernel
theorem dL_law_599 : decode cL_law 599 = .ok (.iload_n 3, 1) := by decide +kernel
theorem dL_law_600 : decode cL_law 600 = .ok (.iconst 1, 1) := by decide +kernel
theorem dL_law_601 : decode cL_law 601 = .ok (.iadd, 1) := by decide +kernel
theorem dL_law_602 : decode cL_law 602 = .ok (.iaload, 1) := by decide +kernel
theorem dL_law_603 : decode cL_law 603 = .ok (.invokevirtual 95, 3) := by decide +kernel
theorem dL_law_606 : decode cL_law 606 = .ok (.aload_n 2, 1) := by decide +kernel
theorem dL_law_607 : decode cL_law 607 = .ok (.aload_n 0, 1) := by decide +kernel
theorem dL_law_608 : decode cL_law 608 = .ok (.iload_n 3, 1) := by decide +kernel
theorem dL_law_609 : decode cL_law 609 = .ok (.iconst 1, 1) := by decide +kernel
theorem dL_law_610 : decode cL_law 610 = .ok (.iadd, 1) := by decide +kernel
theorem dL_law_611 : decode cL_law 611 = .ok (.iaload, 1) := by decide +kernel
theorem dL_law_612 : decode cL_law 612 = .ok (.invokevirtual 98, 3) := by decide +kernel
theorem dL_law_615 : decode cL_law 615 = .ok (.if_icmp .eq 213, 3) := by decide +kernel
theorem dL_law_618 : decode cL_law 618 = .ok (.iconst 0, 1) := by decide +kernel
theorem dL_law_619 : decode cL_law 619 = .ok (.ireturn, 1) := by decide +kernel
theorem dL_law_620 : decode cL_law 620 = .ok (.aload_n 1, 1) := by decide +kernel
theorem dL_law_621 : decode cL_law 621 = .ok (.aload_n 0, 1) := by decide +kernel
theorem dL_law_622 : decode cL_law 622 = .ok (.iload_n 3, 1) := by decide +kernel
theorem dL_law_623 : decode cL_law 623 = .ok (.iconst 1, 1) := by decide +kernel
theorem dL_law_624 : decode cL_law 624 = .ok (.iadd, 1) := by decide +kernel
theorem dL_law_625 : decode cL_law 625 = .ok (.iaload, 1) := by decide +kernel
theorem dL_law_626 : decode cL_law 626 = .ok (.invokevirtual 99, 3) := by decide +kernel
theorem dL_law_629 : decode cL_law 629 = .ok (.aload_n 2, 1) := by decide +kernel
theorem dL_law_630 : decode cL_law 630 = .ok (.aload_n 0, 1) := by decide +kernel
theorem dL_law_631 : decode cL_law 631 = .ok (.iload_n 3, 1) := by decide +kernel
theorem dL_law_632 : decode cL_law 632 = .ok (.iconst 1, 1) := by decide +kernel
theorem dL_law_633 : decode cL_law 633 = .ok (.iadd, 1) := by decide +kernel
theorem dL_law_634 : decode cL_law 634 = .ok (.iaload, 1) := by decide +kernel
theorem dL_law_635 : decode cL_law 635 = .ok (.invokevirtual 102, 3) := by decide +kernel
theorem dL_law_638 : decode cL_law 638 = .ok (.if_icmp .eq 190, 3) := by decide +kernel
theorem dL_law_641 : decode cL_law 641 = .ok (.iconst 0, 1) := by decide +kernel
theorem dL_law_642 : decode cL_law 642 = .ok (.ireturn, 1) := by decide +kernel
theorem dL_law_643 : decode cL_law 643 = .ok (.aload_n 1, 1) := by decide +kernel
theorem dL_law_644 : decode cL_law 644 = .ok (.invokevirtual 103, 3) := by decide +kernel
theorem dL_law_647 : decode cL_law 647 = .ok (.aload_n 2, 1) := by decide +kernel
