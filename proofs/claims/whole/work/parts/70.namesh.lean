theorem dX11_watch_44 : decode cX11_watch 44 = .ok (.iload_n 2, 1) := by decide +kernel
theorem dX11_watch_45 : decode cX11_watch 45 = .ok (.iastore, 1) := by decide +kernel
theorem dX11_watch_46 : decode cX11_watch 46 = .ok (.iload_n 3, 1) := by decide +kernel
theorem dX11_watch_47 : decode cX11_watch 47 = .ok (.ireturn, 1) := by decide +kernel
theorem dX11_told_0 : decode cX11_told 0 = .ok (.iconst (-1), 1) := by decide +kernel
theorem dX11_told_1 : decode cX11_told 1 = .ok (.istore_n 2, 1) := by decide +kernel
theorem dX11_told_2 : decode cX11_told 2 = .ok (.iconst 0, 1) := by decide +kernel
theorem dX11_told_3 : decode cX11_told 3 = .ok (.istore_n 3, 1) := by decide +kernel
theorem dX11_told_4 : decode cX11_told 4 = .ok (.iload_n 3, 1) := by decide +kernel
theorem dX11_told_5 : decode cX11_told 5 = .ok (.iconst 2, 1) := by decide +kernel
theorem dX11_told_6 : decode cX11_told 6 = .ok (.aload_n 0, 1) := by decide +kernel
theorem dX11_told_7 : decode cX11_told 7 = .ok (.getfield 7, 3) := by decide +kernel
theorem dX11_told_10 : decode cX11_told 10 = .ok (.iconst 0, 1) := by decide +kernel
theorem dX11_told_11 : decode cX11_told 11 = .ok (.iaload, 1) := by decide +kernel
theorem dX11_told_12 : decode cX11_told 12 = .ok (.imul, 1) := by decide +kernel
theorem dX11_told_13 : decode cX11_told 13 = .ok (.if_icmp .ge 68, 3) := by decide +kernel
theorem dX11_told_16 : decode cX11_told 16 = .ok (.iload_n 1, 1) := by decide +kernel
theorem dX11_told_17 : decode cX11_told 17 = .ok (.iload_n 3, 1) := by decide +kernel
theorem dX11_told_18 : decode cX11_told 18 = .ok (.ishr, 1) := by decide +kernel
theorem dX11_told_19 : decode cX11_told 19 = .ok (.iconst 1, 1) := by decide +kernel
theorem dX11_told_20 : decode cX11_told 20 = .ok (.iand, 1) := by decide +kernel
theorem dX11_told_21 : decode cX11_told 21 = .ok (.iconst 1, 1) := by decide +kernel
theorem dX11_told_22 : decode cX11_told 22 = .ok (.if_icmp .ne 15, 3) := by decide +kernel
theorem dX11_told_25 : decode cX11_told 25 = .ok (.aload_n 0, 1) := by decide +kernel
theorem dX11_told_26 : decode cX11_told 26 = .ok (.getfield 7, 3) := by decide +kernel
theorem dX11_told_29 : decode cX11_told 29 = .ok (.bipush 46, 2) := by decide +kernel
theorem dX11_told_31 : decode cX11_told 31 = .ok (.iload_n 3, 1) := by decide +kernel
theorem dX11_told_32 : decode cX11_told 32 = .ok (.iadd, 1) := by decide +kernel
theorem dX11_told_33 : decode cX11_told 33 = .ok (.iaload, 1) := by decide +kernel
theorem dX11_told_34 : decode cX11_told 34 = .ok (.goto 4, 3) := by decide +kernel
theorem dX11_told_37 : decode cX11_told 37 = .ok (.iconst (-1), 1) := by decide +kernel
theorem dX11_told_38 : decode cX11_told 38 = .ok (.istore 4, 2) := by decide +kernel
theorem dX11_told_40 : decode cX11_told 40 = .ok (.iload 4, 2) := by decide +kernel
theorem dX11_told_42 : decode cX11_told 42 = .ok (.iconst (-1), 1) := by decide +kernel
theorem dX11_told_43 : decode cX11_told 43 = .ok (.if_icmp .eq 9, 3) := by decide +kernel
theorem dX11_told_46 : decode cX11_told 46 = .ok (.iload_n 2, 1) := by decide +kernel
theorem dX11_told_47 : decode cX11_told 47 = .ok (.bipush (-2), 2) := by decide +kernel
theorem dX11_told_49 : decode cX11_told 49 = .ok (.if_icmp .ne 7, 3) := by decide +kernel
theorem dX11_told_52 : decode cX11_told 52 = .ok (.iload_n 2, 1) := by decide +kernel
theorem dX11_told_53 : decode cX11_told 53 = .ok (.goto 21, 3) := by decide +kernel
theorem dX11_told_56 : decode cX11_told 56 = .ok (.iload_n 2, 1) := by decide +kernel
theorem dX11_told_57 : decode cX11_told 57 = .ok (.iconst (-1), 1) := by decide +kernel
theorem dX11_told_58 : decode cX11_told 58 = .ok (.if_icmp .eq 9, 3) := by decide +kernel
theorem dX11_told_61 : decode cX11_told 61 = .ok (.iload_n 2, 1) := by decide +kernel
theorem dX11_told_62 : decode cX11_told 62 = .ok (.iload 4, 2) := by decide +kernel
theorem dX11_told_64 : decode cX11_told 64 = .ok (.if_icmp .ne 8, 3) := by decide +kernel
theorem dX11_told_67 : decode cX11_told 67 = .ok (.iload 4, 2) := by decide +kernel
theorem dX11_told_69 : decode cX11_told 69 = .ok (.goto 5, 3) := by decide +kernel
theorem dX11_told_72 : decode cX11_told 72 = .ok (.bipush (-2), 2) := by decide +kernel
theorem dX11_told_74 : decode cX11_told 74 = .ok (.istore_n 2, 1) := by decide +kernel
theorem dX11_told_75 : decode cX11_told 75 = .ok (.iinc 3 1, 3) := by decide +kernel
theorem dX11_told_78 : decode cX11_told 78 = .ok (.goto (-74), 3) := by decide +kernel
theorem dX11_told_81 : decode cX11_told 81 = .ok (.iload_n 2, 1) := by decide +kernel
theorem dX11_told_82 : decode cX11_told 82 = .ok (.ireturn, 1) := by decide +kernel
set_option maxRecDepth 20000 in
theorem ggX11_earliest_X11_told : GoodIn wsX11_earliest wsX11_told := goodIn_r _ [6, 7, 8, 9, 10, 11, 12, 13, 14, 15, 16, 17, 18, 19, 20, 21, 22, 23, 24, 25, 26, 27, 28, 29, 30, 31, 32, 33, 34, 35] (by decide +kernel) (by decide +kernel)
set_option maxRecDepth 20000 in
theorem gX11_earliest_X11_told : GoodIn wsX11_earliest (wsV RX11 256 RX11 yX11_told wsX11_told) := goodIn_app (goodIn_of _ (by decide +kernel)) ggX11_earliest_X11_told
theorem dX11_earliest_0 : decode cX11_earliest 0 = .ok (.aload_n 0, 1) := by decide +kernel
theorem dX11_earliest_1 : decode cX11_earliest 1 = .ok (.iload_n 2, 1) := by decide +kernel
theorem dX11_earliest_2 : decode cX11_earliest 2 = .ok (.invokevirtual 256, 3) := by decide +kernel
theorem dX11_earliest_5 : decode cX11_earliest 5 = .ok (.istore_n 3, 1) := by decide +kernel
theorem dX11_earliest_6 : decode cX11_earliest 6 = .ok (.iload_n 3, 1) := by decide +kernel
theorem dX11_earliest_7 : decode cX11_earliest 7 = .ok (.iconst (-1), 1) := by decide +kernel
theorem dX11_earliest_8 : decode cX11_earliest 8 = .ok (.if_icmp .ne 14, 3) := by decide +kernel
theorem dX11_earliest_11 : decode cX11_earliest 11 = .ok (.aload_n 0, 1) := by decide +kernel
theorem dX11_earliest_12 : decode cX11_earliest 12 = .ok (.getfield 57, 3) := by decide +kernel
theorem dX11_earliest_15 : decode cX11_earliest 15 = .ok (.iload_n 1, 1) := by decide +kernel
theorem dX11_earliest_16 : decode cX11_earliest 16 = .ok (.iaload, 1) := by decide +kernel
theorem dX11_earliest_17 : decode cX11_earliest 17 = .ok (.iconst 1, 1) := by decide +kernel
theorem dX11_earliest_18 : decode cX11_earliest 18 = .ok (.iadd, 1) := by decide +kernel
theorem dX11_earliest_19 : decode cX11_earliest 19 = .ok (.goto 4, 3) := by decide +kernel
theorem dX11_earliest_22 : decode cX11_earliest 22 = .ok (.iload_n 3, 1) := by decide +kernel
theorem dX11_earliest_23 : decode cX11_earliest 23 = .ok (.istore 4, 2) := by decide +kernel
theorem dX11_earliest_25 : decode cX11_earliest 25 = .ok (.iload_n 3, 1) := by decide +kernel
theorem dX11_earliest_26 : decode cX11_earliest 26 = .ok (.bipush (-2), 2) := by decide +kernel
theorem dX11_earliest_28 : decode cX11_earliest 28 = .ok (.if_icmp .eq 21, 3) := by decide +kernel
theorem dX11_earliest_31 : decode cX11_earliest 31 = .ok (.iload 4, 2) := by decide +kernel
theorem dX11_earliest_33 : decode cX11_earliest 33 = .ok (.aload_n 0, 1) := by decide +kernel
theorem dX11_earliest_34 : decode cX11_earliest 34 = .ok (.getfield 57, 3) := by decide +kernel
theorem dX11_earliest_37 : decode cX11_earliest 37 = .ok (.iload_n 1, 1) := by decide +kernel
theorem dX11_earliest_38 : decode cX11_earliest 38 = .ok (.iaload, 1) := by decide +kernel
theorem dX11_earliest_39 : decode cX11_earliest 39 = .ok (.if_icmp .le 10, 3) := by decide +kernel
theorem dX11_earliest_42 : decode cX11_earliest 42 = .ok (.iload 4, 2) := by decide +kernel
theorem dX11_earliest_44 : decode cX11_earliest 44 = .ok (.bipush 99, 2) := by decide +kernel
theorem dX11_earliest_46 : decode cX11_earliest 46 = .ok (.if_icmp .le 8, 3) := by decide +kernel
theorem dX11_earliest_49 : decode cX11_earliest 49 = .ok (.bipush 100, 2) := by decide +kernel
theorem dX11_earliest_51 : decode cX11_earliest 51 = .ok (.goto 5, 3) := by decide +kernel
theorem dX11_earliest_54 : decode cX11_earliest 54 = .ok (.iload 4, 2) := by decide +kernel
theorem dX11_earliest_56 : decode cX11_earliest 56 = .ok (.ireturn, 1) := by decide +kernel
set_option maxRecDepth 20000 in
theorem ggX11_latest_X11_told : GoodIn wsX11_latest wsX11_told := goodIn_r _ [6, 7, 8, 9, 10, 11, 12, 13, 14, 15, 16, 17, 18, 19, 20, 21, 22, 23, 24, 25, 26, 27, 28, 29, 30, 31, 32, 33, 34, 35] (by decide +kernel) (by decide +kernel)
set_option maxRecDepth 20000 in
theorem gX11_latest_X11_told : GoodIn wsX11_latest (wsV RX11 256 RX11 yX11_told wsX11_told) := goodIn_app (goodIn_of _ (by decide +kernel)) ggX11_latest_X11_told
theorem dX11_latest_0 : decode cX11_latest 0 = .ok (.aload_n 0, 1) := by decide +kernel
theorem dX11_latest_1 : decode cX11_latest 1 = .ok (.iload_n 2, 1) := by decide +kernel
theorem dX11_latest_2 : decode cX11_latest 2 = .ok (.invokevirtual 256, 3) := by decide +kernel
theorem dX11_latest_5 : decode cX11_latest 5 = .ok (.istore_n 3, 1) := by decide +kernel
theorem dX11_latest_6 : decode cX11_latest 6 = .ok (.iload_n 3, 1) := by decide +kernel
theorem dX11_latest_7 : decode cX11_latest 7 = .ok (.iconst (-1), 1) := by decide +kernel
theorem dX11_latest_8 : decode cX11_latest 8 = .ok (.if_icmp .ne 12, 3) := by decide +kernel
theorem dX11_latest_11 : decode cX11_latest 11 = .ok (.aload_n 0, 1) := by decide +kernel
theorem dX11_latest_12 : decode cX11_latest 12 = .ok (.getfield 60, 3) := by decide +kernel
theorem dX11_latest_15 : decode cX11_latest 15 = .ok (.iload_n 1, 1) := by decide +kernel
theorem dX11_latest_16 : decode cX11_latest 16 = .ok (.iaload, 1) := by decide +kernel
theorem dX11_latest_17 : decode cX11_latest 17 = .ok (.goto 19, 3) := by decide +kernel
theorem dX11_latest_20 : decode cX11_latest 20 = .ok (.iload_n 3, 1) := by decide +kernel
theorem dX11_latest_21 : decode cX11_latest 21 = .ok (.aload_n 0, 1) := by decide +kernel
theorem dX11_latest_22 : decode cX11_latest 22 = .ok (.getfield 60, 3) := by decide +kernel
theorem dX11_latest_25 : decode cX11_latest 25 = .ok (.iload_n 1, 1) := by decide +kernel
theorem dX11_latest_26 : decode cX11_latest 26 = .ok (.iaload, 1) := by decide +kernel
theorem dX11_latest_27 : decode cX11_latest 27 = .ok (.if_icmp .le 8, 3) := by decide +kernel
theorem dX11_latest_30 : decode cX11_latest 30 = .ok (.bipush (-2), 2) := by decide +kernel
theorem dX11_latest_32 : decode cX11_latest 32 = .ok (.goto 4, 3) := by decide +kernel
theorem dX11_latest_35 : decode cX11_latest 35 = .ok (.iload_n 3, 1) := by decide +kernel
theorem dX11_latest_36 : decode cX11_latest 36 = .ok (.ireturn, 1) := by decide +kernel
set_option maxRecDepth 20000 in
theorem ggX11_minutes_X11_plain : GoodIn wsX11_minutes wsX11_plain := goodIn_r _ [7, 8, 9, 10, 63, 64, 65, 66, 67, 68, 69, 70, 71, 72, 73, 74, 75, 76, 77, 78, 79, 80, 81, 82, 83, 84, 85, 86, 87, 88, 89, 90] (by decide +kernel) (by decide +kernel)
set_option maxRecDepth 20000 in
theorem gX11_minutes_X11_plain : GoodIn wsX11_minutes (wsV RX11 205 RX11 yX11_plain wsX11_plain) := goodIn_app (goodIn_of _ (by decide +kernel)) ggX11_minutes_X11_plain
set_option maxRecDepth 20000 in
theorem ggX11_minutes_X11_full : GoodIn wsX11_minutes wsX11_full := goodIn_r _ [14, 15, 63, 64, 65, 66, 67, 68, 69, 70, 71, 72, 73, 74, 75, 76, 77, 78, 79, 80, 81, 82, 83, 84, 85, 86, 87, 88, 89, 90] (by decide +kernel) (by decide +kernel)
set_option maxRecDepth 20000 in
theorem gX11_minutes_X11_full : GoodIn wsX11_minutes (wsV RX11 193 RX11 yX11_full wsX11_full) := goodIn_app (goodIn_of _ (by decide +kernel)) ggX11_minutes_X11_full
set_option maxRecDepth 20000 in
theorem ggX11_minutes_X11_next : GoodIn wsX11_minutes wsX11_next := goodIn_r _ [19, 15, 63, 64, 65, 66, 67, 68, 69, 70, 71, 72, 73, 74, 75, 76, 77, 78, 79, 80, 81, 82, 83, 84, 85, 86, 87, 88, 89, 90] (by decide +kernel) (by decide +kernel)
set_option maxRecDepth 20000 in
theorem gX11_minutes_X11_next : GoodIn wsX11_minutes (wsV RX11 199 RX11 yX11_next wsX11_next) := goodIn_app (goodIn_of _ (by decide +kernel)) ggX11_minutes_X11_next
set_option maxRecDepth 20000 in
theorem ggX11_minutes_X11_moves : GoodIn wsX11_minutes wsX11_moves := goodIn_r _ [23, 24, 25, 26, 27, 28, 6, 29, 15, 9, 30, 8, 10, 31, 32, 33, 34, 35, 36, 37, 38, 39, 40, 41, 42, 43, 44, 45, 46, 47, 48, 49, 50, 63, 64, 65, 66, 67, 68, 69, 70, 71, 72, 73, 74, 75, 76, 77, 78, 79, 80, 81, 82, 83, 84, 85, 86, 87, 88, 89, 90] (by decide +kernel) (by decide +kernel)
set_option maxRecDepth 20000 in
theorem gX11_minutes_X11_moves : GoodIn wsX11_minutes (wsV RX11 202 RX11 yX11_moves wsX11_moves) := goodIn_app (goodIn_of _ (by decide +kernel)) ggX11_minutes_X11_moves
set_option maxRecDepth 20000 in
theorem ggX11_minutes_X11_earliest : GoodIn wsX11_minutes wsX11_earliest := goodIn_r _ [54, 1, 55, 56, 57, 6, 58, 15, 63, 64, 65, 66, 67, 68, 69, 70, 71, 72, 73, 74, 75, 76, 77, 78, 79, 80, 81, 82, 83, 84, 85, 86, 87, 88, 89, 90] (by decide +kernel) (by decide +kernel)
set_option maxRecDepth 20000 in
theorem gX11_minutes_X11_earliest : GoodIn wsX11_minutes (wsV RX11 259 RX11 yX11_earliest wsX11_earliest) := goodIn_app (goodIn_of _ (by decide +kernel)) ggX11_minutes_X11_earliest
set_option maxRecDepth 20000 in
theorem ggX11_minutes_X11_latest : GoodIn wsX11_minutes wsX11_latest := goodIn_r _ [62, 2, 55, 56, 57, 6, 58, 15, 63, 64, 65, 66, 67, 68, 69, 70, 71, 72, 73, 74, 75, 76, 77, 78, 79, 80, 81, 82, 83, 84, 85, 86, 87, 88, 89, 90] (by decide +kernel) (by decide +kernel)
set_option maxRecDepth 20000 in
theorem gX11_minutes_X11_latest : GoodIn wsX11_minutes (wsV RX11 262 RX11 yX11_latest wsX11_latest) := goodIn_app (goodIn_of _ (by decide +kernel)) ggX11_minutes_X11_latest
theorem dX11_minutes_0 : decode cX11_minutes 0 = .ok (.aload_n 0, 1) := by decide +kernel
theorem dX11_minutes_1 : decode cX11_minutes 1 = .ok (.invokevirtual 205, 3) := by decide +kernel
theorem dX11_minutes_4 : decode cX11_minutes 4 = .ok (.iconst 0, 1) := by decide +kernel
theorem dX11_minutes_5 : decode cX11_minutes 5 = .ok (.istore_n 1, 1) := by decide +kernel
theorem dX11_minutes_6 : decode cX11_minutes 6 = .ok (.iload_n 1, 1) := by decide +kernel
theorem dX11_minutes_7 : decode cX11_minutes 7 = .ok (.aload_n 0, 1) := by decide +kernel
theorem dX11_minutes_8 : decode cX11_minutes 8 = .ok (.invokevirtual 193, 3) := by decide +kernel
theorem dX11_minutes_11 : decode cX11_minutes 11 = .ok (.if_icmp .gt 46, 3) := by decide +kernel
theorem dX11_minutes_14 : decode cX11_minutes 14 = .ok (.aload_n 0, 1) := by decide +kernel
theorem dX11_minutes_15 : decode cX11_minutes 15 = .ok (.getfield 57, 3) := by decide +kernel
theorem dX11_minutes_18 : decode cX11_minutes 18 = .ok (.iload_n 1, 1) := by decide +kernel
theorem dX11_minutes_19 : decode cX11_minutes 19 = .ok (.iload_n 1, 1) := by decide +kernel
theorem dX11_minutes_20 : decode cX11_minutes 20 = .ok (.ifCond .ne 7, 3) := by decide +kernel
theorem dX11_minutes_23 : decode cX11_minutes 23 = .ok (.iconst (-1), 1) := by decide +kernel
theorem dX11_minutes_24 : decode cX11_minutes 24 = .ok (.goto 5, 3) := by decide +kernel
theorem dX11_minutes_27 : decode cX11_minutes 27 = .ok (.bipush 100, 2) := by decide +kernel
theorem dX11_minutes_29 : decode cX11_minutes 29 = .ok (.iastore, 1) := by decide +kernel
theorem dX11_minutes_30 : decode cX11_minutes 30 = .ok (.aload_n 0, 1) := by decide +kernel
theorem dX11_minutes_31 : decode cX11_minutes 31 = .ok (.getfield 60, 3) := by decide +kernel
theorem dX11_minutes_34 : decode cX11_minutes 34 = .ok (.iload_n 1, 1) := by decide +kernel
theorem dX11_minutes_35 : decode cX11_minutes 35 = .ok (.iload_n 1, 1) := by decide +kernel
theorem dX11_minutes_36 : decode cX11_minutes 36 = .ok (.aload_n 0, 1) := by decide +kernel
theorem dX11_minutes_37 : decode cX11_minutes 37 = .ok (.invokevirtual 193, 3) := by decide +kernel
theorem dX11_minutes_40 : decode cX11_minutes 40 = .ok (.if_icmp .ne 8, 3) := by decide +kernel
theorem dX11_minutes_43 : decode cX11_minutes 43 = .ok (.bipush 99, 2) := by decide +kernel
theorem dX11_minutes_45 : decode cX11_minutes 45 = .ok (.goto 5, 3) := by decide +kernel
theorem dX11_minutes_48 : decode cX11_minutes 48 = .ok (.bipush (-2), 2) := by decide +kernel
theorem dX11_minutes_50 : decode cX11_minutes 50 = .ok (.iastore, 1) := by decide +kernel
theorem dX11_minutes_51 : decode cX11_minutes 51 = .ok (.iinc 1 1, 3) := by decide +kernel
theorem dX11_minutes_54 : decode cX11_minutes 54 = .ok (.goto (-48), 3) := by decide +kernel
theorem dX11_minutes_57 : decode cX11_minutes 57 = .ok (.iconst 0, 1) := by decide +kernel
theorem dX11_minutes_58 : decode cX11_minutes 58 = .ok (.istore_n 1, 1) := by decide +kernel
theorem dX11_minutes_59 : decode cX11_minutes 59 = .ok (.iload_n 1, 1) := by decide +kernel
theorem dX11_minutes_60 : decode cX11_minutes 60 = .ok (.aload_n 0, 1) := by decide +kernel
theorem dX11_minutes_61 : decode cX11_minutes 61 = .ok (.invokevirtual 193, 3) := by decide +kernel
theorem dX11_minutes_64 : decode cX11_minutes 64 = .ok (.if_icmp .ge 96, 3) := by decide +kernel
theorem dX11_minutes_67 : decode cX11_minutes 67 = .ok (.aload_n 0, 1) := by decide +kernel
theorem dX11_minutes_68 : decode cX11_minutes 68 = .ok (.getfield 57, 3) := by decide +kernel
theorem dX11_minutes_71 : decode cX11_minutes 71 = .ok (.iload_n 1, 1) := by decide +kernel
theorem dX11_minutes_72 : decode cX11_minutes 72 = .ok (.iaload, 1) := by decide +kernel
theorem dX11_minutes_73 : decode cX11_minutes 73 = .ok (.bipush 100, 2) := by decide +kernel
theorem dX11_minutes_75 : decode cX11_minutes 75 = .ok (.if_icmp .ge 11, 3) := by decide +kernel
theorem dX11_minutes_78 : decode cX11_minutes 78 = .ok (.aload_n 0, 1) := by decide +kernel
theorem dX11_minutes_79 : decode cX11_minutes 79 = .ok (.iload_n 1, 1) := by decide +kernel
theorem dX11_minutes_80 : decode cX11_minutes 80 = .ok (.invokevirtual 199, 3) := by decide +kernel
theorem dX11_minutes_83 : decode cX11_minutes 83 = .ok (.goto 4, 3) := by decide +kernel
theorem dX11_minutes_86 : decode cX11_minutes 86 = .ok (.iconst 0, 1) := by decide +kernel
theorem dX11_minutes_87 : decode cX11_minutes 87 = .ok (.istore_n 2, 1) := by decide +kernel
theorem dX11_minutes_88 : decode cX11_minutes 88 = .ok (.iload_n 2, 1) := by decide +kernel
theorem dX11_minutes_89 : decode cX11_minutes 89 = .ok (.istore_n 3, 1) := by decide +kernel
theorem dX11_minutes_90 : decode cX11_minutes 90 = .ok (.iload_n 3, 1) := by decide +kernel
theorem dX11_minutes_91 : decode cX11_minutes 91 = .ok (.ifCond .le 63, 3) := by decide +kernel
theorem dX11_minutes_94 : decode cX11_minutes 94 = .ok (.aload_n 0, 1) := by decide +kernel
theorem dX11_minutes_95 : decode cX11_minutes 95 = .ok (.iload_n 1, 1) := by decide +kernel
theorem dX11_minutes_96 : decode cX11_minutes 96 = .ok (.iload_n 3, 1) := by decide +kernel
theorem dX11_minutes_97 : decode cX11_minutes 97 = .ok (.invokevirtual 202, 3) := by decide +kernel
theorem dX11_minutes_100 : decode cX11_minutes 100 = .ok (.ifCond .eq 45, 3) := by decide +kernel
theorem dX11_minutes_103 : decode cX11_minutes 103 = .ok (.aload_n 0, 1) := by decide +kernel
theorem dX11_minutes_104 : decode cX11_minutes 104 = .ok (.iload_n 1, 1) := by decide +kernel
theorem dX11_minutes_105 : decode cX11_minutes 105 = .ok (.iload_n 3, 1) := by decide +kernel
theorem dX11_minutes_106 : decode cX11_minutes 106 = .ok (.invokevirtual 259, 3) := by decide +kernel
theorem dX11_minutes_109 : decode cX11_minutes 109 = .ok (.istore 4, 2) := by decide +kernel
theorem dX11_minutes_111 : decode cX11_minutes 111 = .ok (.aload_n 0, 1) := by decide +kernel
theorem dX11_minutes_112 : decode cX11_minutes 112 = .ok (.getfield 57, 3) := by decide +kernel
theorem dX11_minutes_115 : decode cX11_minutes 115 = .ok (.iload_n 1, 1) := by decide +kernel
theorem dX11_minutes_116 : decode cX11_minutes 116 = .ok (.iload_n 3, 1) := by decide +kernel
theorem dX11_minutes_117 : decode cX11_minutes 117 = .ok (.ior, 1) := by decide +kernel
theorem dX11_minutes_118 : decode cX11_minutes 118 = .ok (.iload 4, 2) := by decide +kernel
theorem dX11_minutes_120 : decode cX11_minutes 120 = .ok (.aload_n 0, 1) := by decide +kernel
theorem dX11_minutes_121 : decode cX11_minutes 121 = .ok (.getfield 57, 3) := by decide +kernel
theorem dX11_minutes_124 : decode cX11_minutes 124 = .ok (.iload_n 1, 1) := by decide +kernel
theorem dX11_minutes_125 : decode cX11_minutes 125 = .ok (.iload_n 3, 1) := by decide +kernel
theorem dX11_minutes_126 : decode cX11_minutes 126 = .ok (.ior, 1) := by decide +kernel
theorem dX11_minutes_127 : decode cX11_minutes 127 = .ok (.iaload, 1) := by decide +kernel
theorem dX11_minutes_128 : decode cX11_minutes 128 = .ok (.if_icmp .ge 8, 3) := by decide +kernel
theorem dX11_minutes_131 : decode cX11_minutes 131 = .ok (.iload 4, 2) := by decide +kernel
theorem dX11_minutes_133 : decode cX11_minutes 133 = .ok (.goto 11, 3) := by decide +kernel
theorem dX11_minutes_136 : decode cX11_minutes 136 = .ok (.aload_n 0, 1) := by decide +kernel
theorem dX11_minutes_137 : decode cX11_minutes 137 = .ok (.getfield 57, 3) := by decide +kernel
theorem dX11_minutes_140 : decode cX11_minutes 140 = .ok (.iload_n 1, 1) := by decide +kernel
theorem dX11_minutes_141 : decode cX11_minutes 141 = .ok (.iload_n 3, 1) := by decide +kernel
theorem dX11_minutes_142 : decode cX11_minutes 142 = .ok (.ior, 1) := by decide +kernel
theorem dX11_minutes_143 : decode cX11_minutes 143 = .ok (.iaload, 1) := by decide +kernel
theorem dX11_minutes_144 : decode cX11_minutes 144 = .ok (.iastore, 1) := by decide +kernel
theorem dX11_minutes_145 : decode cX11_minutes 145 = .ok (.iload_n 3, 1) := by decide +kernel
theorem dX11_minutes_146 : decode cX11_minutes 146 = .ok (.iconst 1, 1) := by decide +kernel
theorem dX11_minutes_147 : decode cX11_minutes 147 = .ok (.isub, 1) := by decide +kernel
theorem dX11_minutes_148 : decode cX11_minutes 148 = .ok (.iload_n 2, 1) := by decide +kernel
theorem dX11_minutes_149 : decode cX11_minutes 149 = .ok (.iand, 1) := by decide +kernel
theorem dX11_minutes_150 : decode cX11_minutes 150 = .ok (.istore_n 3, 1) := by decide +kernel
theorem dX11_minutes_151 : decode cX11_minutes 151 = .ok (.goto (-61), 3) := by decide +kernel
theorem dX11_minutes_154 : decode cX11_minutes 154 = .ok (.iinc 1 1, 3) := by decide +kernel
theorem dX11_minutes_157 : decode cX11_minutes 157 = .ok (.goto (-98), 3) := by decide +kernel
theorem dX11_minutes_160 : decode cX11_minutes 160 = .ok (.aload_n 0, 1) := by decide +kernel
theorem dX11_minutes_161 : decode cX11_minutes 161 = .ok (.invokevirtual 193, 3) := by decide +kernel
theorem dX11_minutes_164 : decode cX11_minutes 164 = .ok (.iconst 1, 1) := by decide +kernel
theorem dX11_minutes_165 : decode cX11_minutes 165 = .ok (.isub, 1) := by decide +kernel
theorem dX11_minutes_166 : decode cX11_minutes 166 = .ok (.istore_n 1, 1) := by decide +kernel
theorem dX11_minutes_167 : decode cX11_minutes 167 = .ok (.iload_n 1, 1) := by decide +kernel
theorem dX11_minutes_168 : decode cX11_minutes 168 = .ok (.ifCond .lt 94, 3) := by decide +kernel
theorem dX11_minutes_171 : decode cX11_minutes 171 = .ok (.aload_n 0, 1) := by decide +kernel
theorem dX11_minutes_172 : decode cX11_minutes 172 = .ok (.getfield 57, 3) := by decide +kernel
theorem dX11_minutes_175 : decode cX11_minutes 175 = .ok (.iload_n 1, 1) := by decide +kernel
theorem dX11_minutes_176 : decode cX11_minutes 176 = .ok (.iaload, 1) := by decide +kernel
theorem dX11_minutes_177 : decode cX11_minutes 177 = .ok (.bipush 100, 2) := by decide +kernel
theorem dX11_minutes_179 : decode cX11_minutes 179 = .ok (.if_icmp .ge 11, 3) := by decide +kernel
theorem dX11_minutes_182 : decode cX11_minutes 182 = .ok (.aload_n 0, 1) := by decide +kernel
theorem dX11_minutes_183 : decode cX11_minutes 183 = .ok (.iload_n 1, 1) := by decide +kernel
theorem dX11_minutes_184 : decode cX11_minutes 184 = .ok (.invokevirtual 199, 3) := by decide +kernel
theorem dX11_minutes_187 : decode cX11_minutes 187 = .ok (.goto 4, 3) := by decide +kernel
theorem dX11_minutes_190 : decode cX11_minutes 190 = .ok (.iconst 0, 1) := by decide +kernel
theorem dX11_minutes_191 : decode cX11_minutes 191 = .ok (.istore_n 2, 1) := by decide +kernel
theorem dX11_minutes_192 : decode cX11_minutes 192 = .ok (.iload_n 2, 1) := by decide +kernel
theorem dX11_minutes_193 : decode cX11_minutes 193 = .ok (.istore_n 3, 1) := by decide +kernel
theorem dX11_minutes_194 : decode cX11_minutes 194 = .ok (.iload_n 3, 1) := by decide +kernel
theorem dX11_minutes_195 : decode cX11_minutes 195 = .ok (.ifCond .le 61, 3) := by decide +kernel
theorem dX11_minutes_198 : decode cX11_minutes 198 = .ok (.aload_n 0, 1) := by decide +kernel
theorem dX11_minutes_199 : decode cX11_minutes 199 = .ok (.iload_n 1, 1) := by decide +kernel
theorem dX11_minutes_200 : decode cX11_minutes 200 = .ok (.iload_n 3, 1) := by decide +kernel
theorem dX11_minutes_201 : decode cX11_minutes 201 = .ok (.invokevirtual 202, 3) := by decide +kernel
theorem dX11_minutes_204 : decode cX11_minutes 204 = .ok (.ifCond .eq 43, 3) := by decide +kernel
theorem dX11_minutes_207 : decode cX11_minutes 207 = .ok (.aload_n 0, 1) := by decide +kernel
theorem dX11_minutes_208 : decode cX11_minutes 208 = .ok (.iload_n 1, 1) := by decide +kernel
theorem dX11_minutes_209 : decode cX11_minutes 209 = .ok (.iload_n 3, 1) := by decide +kernel
theorem dX11_minutes_210 : decode cX11_minutes 210 = .ok (.ior, 1) := by decide +kernel
theorem dX11_minutes_211 : decode cX11_minutes 211 = .ok (.iload_n 3, 1) := by decide +kernel
theorem dX11_minutes_212 : decode cX11_minutes 212 = .ok (.invokevirtual 262, 3) := by decide +kernel
theorem dX11_minutes_215 : decode cX11_minutes 215 = .ok (.iconst 1, 1) := by decide +kernel
theorem dX11_minutes_216 : decode cX11_minutes 216 = .ok (.isub, 1) := by decide +kernel
theorem dX11_minutes_217 : decode cX11_minutes 217 = .ok (.istore 4, 2) := by decide +kernel
theorem dX11_minutes_219 : decode cX11_minutes 219 = .ok (.aload_n 0, 1) := by decide +kernel
theorem dX11_minutes_220 : decode cX11_minutes 220 = .ok (.getfield 60, 3) := by decide +kernel
theorem dX11_minutes_223 : decode cX11_minutes 223 = .ok (.iload_n 1, 1) := by decide +kernel
theorem dX11_minutes_224 : decode cX11_minutes 224 = .ok (.iload 4, 2) := by decide +kernel
theorem dX11_minutes_226 : decode cX11_minutes 226 = .ok (.aload_n 0, 1) := by decide +kernel
theorem dX11_minutes_227 : decode cX11_minutes 227 = .ok (.getfield 60, 3) := by decide +kernel
theorem dX11_minutes_230 : decode cX11_minutes 230 = .ok (.iload_n 1, 1) := by decide +kernel
theorem dX11_minutes_231 : decode cX11_minutes 231 = .ok (.iaload, 1) := by decide +kernel
theorem dX11_minutes_232 : decode cX11_minutes 232 = .ok (.if_icmp .le 8, 3) := by decide +kernel
theorem dX11_minutes_235 : decode cX11_minutes 235 = .ok (.iload 4, 2) := by decide +kernel
theorem dX11_minutes_237 : decode cX11_minutes 237 = .ok (.goto 9, 3) := by decide +kernel
theorem dX11_minutes_240 : decode cX11_minutes 240 = .ok (.aload_n 0, 1) := by decide +kernel
theorem dX11_minutes_241 : decode cX11_minutes 241 = .ok (.getfield 60, 3) := by decide +kernel
theorem dX11_minutes_244 : decode cX11_minutes 244 = .ok (.iload_n 1, 1) := by decide +kernel
theorem dX11_minutes_245 : decode cX11_minutes 245 = .ok (.iaload, 1) := by decide +kernel
theorem dX11_minutes_246 : decode cX11_minutes 246 = .ok (.iastore, 1) := by decide +kernel
theorem dX11_minutes_247 : decode cX11_minutes 247 = .ok (.iload_n 3, 1) := by decide +kernel
theorem dX11_minutes_248 : decode cX11_minutes 248 = .ok (.iconst 1, 1) := by decide +kernel
theorem dX11_minutes_249 : decode cX11_minutes 249 = .ok (.isub, 1) := by decide +kernel
theorem dX11_minutes_250 : decode cX11_minutes 250 = .ok (.iload_n 2, 1) := by decide +kernel
theorem dX11_minutes_251 : decode cX11_minutes 251 = .ok (.iand, 1) := by decide +kernel
theorem dX11_minutes_252 : decode cX11_minutes 252 = .ok (.istore_n 3, 1) := by decide +kernel
theorem dX11_minutes_253 : decode cX11_minutes 253 = .ok (.goto (-59), 3) := by decide +kernel
theorem dX11_minutes_256 : decode cX11_minutes 256 = .ok (.iinc 1 (-1), 3) := by decide +kernel
theorem dX11_minutes_259 : decode cX11_minutes 259 = .ok (.goto (-92), 3) := by decide +kernel
theorem dX11_minutes_262 : decode cX11_minutes 262 = .ok (.return_, 1) := by decide +kernel
set_option maxRecDepth 20000 in
theorem ggX11_minute_X11_isEnd : GoodIn wsX11_minute wsX11_isEnd := goodIn_r _ [6, 7, 8, 9, 5, 10, 83, 84, 85, 86, 87, 88, 89, 90, 91, 92, 93, 94, 95, 96, 97, 98, 99, 100, 101, 102, 103, 104, 105, 106, 107, 108, 109, 110] (by decide +kernel) (by decide +kernel)
set_option maxRecDepth 20000 in
theorem gX11_minute_X11_isEnd : GoodIn wsX11_minute (wsV RX11 217 RX11 yX11_isEnd wsX11_isEnd) := goodIn_app (goodIn_of _ (by decide +kernel)) ggX11_minute_X11_isEnd
set_option maxRecDepth 20000 in
theorem ggX11_minute_X11_in : GoodIn wsX11_minute wsX11_in := goodIn_r _ [10] (by decide +kernel) (by decide +kernel)
set_option maxRecDepth 20000 in
theorem gX11_minute_X11_in : GoodIn wsX11_minute (va_wsS RX11 70 yX11_in wsX11_in) := goodIn_app (goodIn_of _ (by decide +kernel)) ggX11_minute_X11_in
set_option maxRecDepth 20000 in
theorem ggX11_minute_X11_bad : GoodIn wsX11_minute wsX11_bad := goodIn_r _ [14, 15, 16, 17, 5, 18, 19, 83, 84, 85, 86, 87, 88, 89, 90, 91, 92, 93, 94, 95, 96, 97, 98, 99, 100, 101, 102, 103, 104, 105, 106, 107, 108, 109, 110] (by decide +kernel) (by decide +kernel)
set_option maxRecDepth 20000 in
theorem gX11_minute_X11_bad : GoodIn wsX11_minute (wsV RX11 78 RX11 yX11_bad wsX11_bad) := goodIn_app (goodIn_of _ (by decide +kernel)) ggX11_minute_X11_bad
set_option maxRecDepth 20000 in
theorem ggX11_minute_X11_minutes : GoodIn wsX11_minute wsX11_minutes := goodIn_r _ [23, 1, 24, 25, 26, 27, 5, 28, 29, 30, 31, 32, 33, 34, 35, 7, 36, 37, 38, 39, 40, 41, 42, 43, 44, 45, 46, 47, 48, 49, 50, 51, 52, 53, 54, 55, 56, 57, 58, 59, 60, 61, 62, 63, 64, 65, 66, 67, 68, 69, 70, 71, 72, 73, 74, 75, 76, 77, 78, 79, 80, 81, 82, 83, 84, 85, 86, 87, 88, 89, 90, 91, 92, 93, 94, 95, 96, 97, 98, 99, 100, 101, 102, 103, 104, 105, 106, 107, 108, 109, 110] (by decide +kernel) (by decide +kernel)
set_option maxRecDepth 20000 in
theorem gX11_minute_X11_minutes : GoodIn wsX11_minute (wsV RX11 265 RX11 yX11_minutes wsX11_minutes) := goodIn_app (goodIn_of _ (by decide +kernel)) ggX11_minute_X11_minutes
set_option maxRecDepth 20000 in
theorem ggX11_minute_X11_full : GoodIn wsX11_minute wsX11_full := goodIn_r _ [35, 7, 83, 84, 85, 86, 87, 88, 89, 90, 91, 92, 93, 94, 95, 96, 97, 98, 99, 100, 101, 102, 103, 104, 105, 106, 107, 108, 109, 110] (by decide +kernel) (by decide +kernel)
set_option maxRecDepth 20000 in
theorem gX11_minute_X11_full : GoodIn wsX11_minute (wsV RX11 193 RX11 yX11_full wsX11_full) := goodIn_app (goodIn_of _ (by decide +kernel)) ggX11_minute_X11_full
set_option maxRecDepth 20000 in
theorem ggX11_minute_X11_next : GoodIn wsX11_minute wsX11_next := goodIn_r _ [39, 7, 83, 84, 85, 86, 87, 88, 89, 90, 91, 92, 93, 94, 95, 96, 97, 98, 99, 100, 101, 102, 103, 104, 105, 106, 107, 108, 109, 110] (by decide +kernel) (by decide +kernel)
set_option maxRecDepth 20000 in
theorem gX11_minute_X11_next : GoodIn wsX11_minute (wsV RX11 199 RX11 yX11_next wsX11_next) := goodIn_app (goodIn_of _ (by decide +kernel)) ggX11_minute_X11_next
set_option maxRecDepth 20000 in
theorem ggX11_minute_X11_moves : GoodIn wsX11_minute wsX11_moves := goodIn_r _ [43, 44, 45, 46, 47, 48, 5, 49, 7, 30, 50, 29, 31, 51, 52, 53, 54, 55, 56, 57, 58, 59, 60, 61, 62, 63, 64, 65, 66, 67, 68, 69, 70, 83, 84, 85, 86, 87, 88, 89, 90, 91, 92, 93, 94, 95, 96, 97, 98, 99, 100, 101, 102, 103, 104, 105, 106, 107, 108, 109, 110] (by decide +kernel) (by decide +kernel)
set_option maxRecDepth 20000 in
theorem gX11_minute_X11_moves : GoodIn wsX11_minute (wsV RX11 202 RX11 yX11_moves wsX11_moves) := goodIn_app (goodIn_of _ (by decide +kernel)) ggX11_minute_X11_moves
set_option maxRecDepth 20000 in
theorem ggX11_minute_X11_earliest : GoodIn wsX11_minute wsX11_earliest := goodIn_r _ [74, 1, 75, 76, 77, 5, 78, 7, 83, 84, 85, 86, 87, 88, 89, 90, 91, 92, 93, 94, 95, 96, 97, 98, 99, 100, 101, 102, 103, 104, 105, 106, 107, 108, 109, 110] (by decide +kernel) (by decide +kernel)
set_option maxRecDepth 20000 in
theorem gX11_minute_X11_earliest : GoodIn wsX11_minute (wsV RX11 259 RX11 yX11_earliest wsX11_earliest) := goodIn_app (goodIn_of _ (by decide +kernel)) ggX11_minute_X11_earliest
set_option maxRecDepth 20000 in
theorem ggX11_minute_X11_latest : GoodIn wsX11_minute wsX11_latest := goodIn_r _ [82, 24, 75, 76, 77, 5, 78, 7, 83, 84, 85, 86, 87, 88, 89, 90, 91, 92, 93, 94, 95, 96, 97, 98, 99, 100, 101, 102, 103, 104, 105, 106, 107, 108, 109, 110] (by decide +kernel) (by decide +kernel)
set_option maxRecDepth 20000 in
theorem gX11_minute_X11_latest : GoodIn wsX11_minute (wsV RX11 262 RX11 yX11_latest wsX11_latest) := goodIn_app (goodIn_of _ (by decide +kernel)) ggX11_minute_X11_latest
theorem dX11_minute_0 : decode cX11_minute 0 = .ok (.aload_n 0, 1) := by decide +kernel
theorem dX11_minute_1 : decode cX11_minute 1 = .ok (.iload_n 1, 1) := by decide +kernel
theorem dX11_minute_2 : decode cX11_minute 2 = .ok (.invokevirtual 217, 3) := by decide +kernel
theorem dX11_minute_5 : decode cX11_minute 5 = .ok (.ifCond .eq 12, 3) := by decide +kernel
theorem dX11_minute_8 : decode cX11_minute 8 = .ok (.iload_n 2, 1) := by decide +kernel
theorem dX11_minute_9 : decode cX11_minute 9 = .ok (.iconst 0, 1) := by decide +kernel
theorem dX11_minute_10 : decode cX11_minute 10 = .ok (.iconst 1, 1) := by decide +kernel
theorem dX11_minute_11 : decode cX11_minute 11 = .ok (.invokestatic 70, 3) := by decide +kernel
theorem dX11_minute_14 : decode cX11_minute 14 = .ok (.ifCond .ne 8, 3) := by decide +kernel
theorem dX11_minute_17 : decode cX11_minute 17 = .ok (.aload_n 0, 1) := by decide +kernel
theorem dX11_minute_18 : decode cX11_minute 18 = .ok (.invokevirtual 78, 3) := by decide +kernel
theorem dX11_minute_21 : decode cX11_minute 21 = .ok (.ireturn, 1) := by decide +kernel
theorem dX11_minute_22 : decode cX11_minute 22 = .ok (.aload_n 0, 1) := by decide +kernel
theorem dX11_minute_23 : decode cX11_minute 23 = .ok (.invokevirtual 265, 3) := by decide +kernel
theorem dX11_minute_26 : decode cX11_minute 26 = .ok (.iconst (-1), 1) := by decide +kernel
theorem dX11_minute_27 : decode cX11_minute 27 = .ok (.istore_n 3, 1) := by decide +kernel
theorem dX11_minute_28 : decode cX11_minute 28 = .ok (.iconst 0, 1) := by decide +kernel
theorem dX11_minute_29 : decode cX11_minute 29 = .ok (.istore 4, 2) := by decide +kernel
theorem dX11_minute_31 : decode cX11_minute 31 = .ok (.iload 4, 2) := by decide +kernel
theorem dX11_minute_33 : decode cX11_minute 33 = .ok (.aload_n 0, 1) := by decide +kernel
theorem dX11_minute_34 : decode cX11_minute 34 = .ok (.invokevirtual 193, 3) := by decide +kernel
theorem dX11_minute_37 : decode cX11_minute 37 = .ok (.if_icmp .ge 171, 3) := by decide +kernel
theorem dX11_minute_40 : decode cX11_minute 40 = .ok (.aload_n 0, 1) := by decide +kernel
theorem dX11_minute_41 : decode cX11_minute 41 = .ok (.getfield 57, 3) := by decide +kernel
theorem dX11_minute_44 : decode cX11_minute 44 = .ok (.iload 4, 2) := by decide +kernel
theorem dX11_minute_46 : decode cX11_minute 46 = .ok (.iaload, 1) := by decide +kernel
theorem dX11_minute_47 : decode cX11_minute 47 = .ok (.bipush 100, 2) := by decide +kernel
theorem dX11_minute_49 : decode cX11_minute 49 = .ok (.if_icmp .ge 12, 3) := by decide +kernel
theorem dX11_minute_52 : decode cX11_minute 52 = .ok (.aload_n 0, 1) := by decide +kernel
theorem dX11_minute_53 : decode cX11_minute 53 = .ok (.iload 4, 2) := by decide +kernel
theorem dX11_minute_55 : decode cX11_minute 55 = .ok (.invokevirtual 199, 3) := by decide +kernel
theorem dX11_minute_58 : decode cX11_minute 58 = .ok (.goto 4, 3) := by decide +kernel
theorem dX11_minute_61 : decode cX11_minute 61 = .ok (.iconst 0, 1) := by decide +kernel
theorem dX11_minute_62 : decode cX11_minute 62 = .ok (.istore 5, 2) := by decide +kernel
theorem dX11_minute_64 : decode cX11_minute 64 = .ok (.iload 5, 2) := by decide +kernel
theorem dX11_minute_66 : decode cX11_minute 66 = .ok (.istore 6, 2) := by decide +kernel
theorem dX11_minute_68 : decode cX11_minute 68 = .ok (.iload 6, 2) := by decide +kernel
theorem dX11_minute_70 : decode cX11_minute 70 = .ok (.ifCond .le 132, 3) := by decide +kernel
theorem dX11_minute_73 : decode cX11_minute 73 = .ok (.iload 6, 2) := by decide +kernel
theorem dX11_minute_75 : decode cX11_minute 75 = .ok (.iload_n 1, 1) := by decide +kernel
theorem dX11_minute_76 : decode cX11_minute 76 = .ok (.ishr, 1) := by decide +kernel
theorem dX11_minute_77 : decode cX11_minute 77 = .ok (.iconst 1, 1) := by decide +kernel
theorem dX11_minute_78 : decode cX11_minute 78 = .ok (.iand, 1) := by decide +kernel
theorem dX11_minute_79 : decode cX11_minute 79 = .ok (.iconst 1, 1) := by decide +kernel
theorem dX11_minute_80 : decode cX11_minute 80 = .ok (.if_icmp .ne 110, 3) := by decide +kernel
theorem dX11_minute_83 : decode cX11_minute 83 = .ok (.aload_n 0, 1) := by decide +kernel
theorem dX11_minute_84 : decode cX11_minute 84 = .ok (.iload 4, 2) := by decide +kernel
theorem dX11_minute_86 : decode cX11_minute 86 = .ok (.iload 6, 2) := by decide +kernel
theorem dX11_minute_88 : decode cX11_minute 88 = .ok (.invokevirtual 202, 3) := by decide +kernel
theorem dX11_minute_91 : decode cX11_minute 91 = .ok (.ifCond .eq 99, 3) := by decide +kernel
theorem dX11_minute_94 : decode cX11_minute 94 = .ok (.aload_n 0, 1) := by decide +kernel
theorem dX11_minute_95 : decode cX11_minute 95 = .ok (.iload 4, 2) := by decide +kernel
theorem dX11_minute_97 : decode cX11_minute 97 = .ok (.iload 6, 2) := by decide +kernel
theorem dX11_minute_99 : decode cX11_minute 99 = .ok (.invokevirtual 259, 3) := by decide +kernel
theorem dX11_minute_102 : decode cX11_minute 102 = .ok (.istore 7, 2) := by decide +kernel
theorem dX11_minute_104 : decode cX11_minute 104 = .ok (.aload_n 0, 1) := by decide +kernel
theorem dX11_minute_105 : decode cX11_minute 105 = .ok (.iload 4, 2) := by decide +kernel
theorem dX11_minute_107 : decode cX11_minute 107 = .ok (.iload 6, 2) := by decide +kernel
theorem dX11_minute_109 : decode cX11_minute 109 = .ok (.ior, 1) := by decide +kernel
theorem dX11_minute_110 : decode cX11_minute 110 = .ok (.iload 6, 2) := by decide +kernel
theorem dX11_minute_112 : decode cX11_minute 112 = .ok (.invokevirtual 262, 3) := by decide +kernel
theorem dX11_minute_115 : decode cX11_minute 115 = .ok (.istore 8, 2) := by decide +kernel
theorem dX11_minute_117 : decode cX11_minute 117 = .ok (.iload_n 2, 1) := by decide +kernel
theorem dX11_minute_118 : decode cX11_minute 118 = .ok (.ifCond .ne 8, 3) := by decide +kernel
theorem dX11_minute_121 : decode cX11_minute 121 = .ok (.iload 7, 2) := by decide +kernel
theorem dX11_minute_123 : decode cX11_minute 123 = .ok (.goto 5, 3) := by decide +kernel
theorem dX11_minute_126 : decode cX11_minute 126 = .ok (.iload 8, 2) := by decide +kernel
theorem dX11_minute_128 : decode cX11_minute 128 = .ok (.istore 9, 2) := by decide +kernel
theorem dX11_minute_130 : decode cX11_minute 130 = .ok (.iload 7, 2) := by decide +kernel
theorem dX11_minute_132 : decode cX11_minute 132 = .ok (.iload 8, 2) := by decide +kernel
theorem dX11_minute_134 : decode cX11_minute 134 = .ok (.if_icmp .gt 41, 3) := by decide +kernel
theorem dX11_minute_137 : decode cX11_minute 137 = .ok (.iload_n 3, 1) := by decide +kernel
theorem dX11_minute_138 : decode cX11_minute 138 = .ok (.iconst (-1), 1) := by decide +kernel
theorem dX11_minute_139 : decode cX11_minute 139 = .ok (.if_icmp .eq 32, 3) := by decide +kernel
theorem dX11_minute_142 : decode cX11_minute 142 = .ok (.iload_n 2, 1) := by decide +kernel
theorem dX11_minute_143 : decode cX11_minute 143 = .ok (.ifCond .ne 7, 3) := by decide +kernel
theorem dX11_minute_146 : decode cX11_minute 146 = .ok (.iconst 1, 1) := by decide +kernel
theorem dX11_minute_147 : decode cX11_minute 147 = .ok (.goto 4, 3) := by decide +kernel
theorem dX11_minute_150 : decode cX11_minute 150 = .ok (.iconst 0, 1) := by decide +kernel
theorem dX11_minute_151 : decode cX11_minute 151 = .ok (.iload 9, 2) := by decide +kernel
theorem dX11_minute_153 : decode cX11_minute 153 = .ok (.iload_n 3, 1) := by decide +kernel
theorem dX11_minute_154 : decode cX11_minute 154 = .ok (.if_icmp .ge 7, 3) := by decide +kernel
theorem dX11_minute_157 : decode cX11_minute 157 = .ok (.iconst 1, 1) := by decide +kernel
theorem dX11_minute_158 : decode cX11_minute 158 = .ok (.goto 4, 3) := by decide +kernel
theorem dX11_minute_161 : decode cX11_minute 161 = .ok (.iconst 0, 1) := by decide +kernel
theorem dX11_minute_162 : decode cX11_minute 162 = .ok (.if_icmp .ne 13, 3) := by decide +kernel
theorem dX11_minute_165 : decode cX11_minute 165 = .ok (.iload 9, 2) := by decide +kernel
theorem dX11_minute_167 : decode cX11_minute 167 = .ok (.iload_n 3, 1) := by decide +kernel
theorem dX11_minute_168 : decode cX11_minute 168 = .ok (.if_icmp .eq 7, 3) := by decide +kernel
theorem dX11_minute_171 : decode cX11_minute 171 = .ok (.iconst 1, 1) := by decide +kernel
theorem dX11_minute_172 : decode cX11_minute 172 = .ok (.goto 4, 3) := by decide +kernel
theorem dX11_minute_175 : decode cX11_minute 175 = .ok (.iconst 0, 1) := by decide +kernel
theorem dX11_minute_176 : decode cX11_minute 176 = .ok (.istore 10, 2) := by decide +kernel
theorem dX11_minute_178 : decode cX11_minute 178 = .ok (.iload 10, 2) := by decide +kernel
theorem dX11_minute_180 : decode cX11_minute 180 = .ok (.ifCond .eq 8, 3) := by decide +kernel
theorem dX11_minute_183 : decode cX11_minute 183 = .ok (.iload 9, 2) := by decide +kernel
theorem dX11_minute_185 : decode cX11_minute 185 = .ok (.goto 4, 3) := by decide +kernel
theorem dX11_minute_188 : decode cX11_minute 188 = .ok (.iload_n 3, 1) := by decide +kernel
theorem dX11_minute_189 : decode cX11_minute 189 = .ok (.istore_n 3, 1) := by decide +kernel
theorem dX11_minute_190 : decode cX11_minute 190 = .ok (.iload 6, 2) := by decide +kernel
theorem dX11_minute_192 : decode cX11_minute 192 = .ok (.iconst 1, 1) := by decide +kernel
theorem dX11_minute_193 : decode cX11_minute 193 = .ok (.isub, 1) := by decide +kernel
theorem dX11_minute_194 : decode cX11_minute 194 = .ok (.iload 5, 2) := by decide +kernel
theorem dX11_minute_196 : decode cX11_minute 196 = .ok (.iand, 1) := by decide +kernel
theorem dX11_minute_197 : decode cX11_minute 197 = .ok (.istore 6, 2) := by decide +kernel
theorem dX11_minute_199 : decode cX11_minute 199 = .ok (.goto (-131), 3) := by decide +kernel
theorem dX11_minute_202 : decode cX11_minute 202 = .ok (.iinc 4 1, 3) := by decide +kernel
theorem dX11_minute_205 : decode cX11_minute 205 = .ok (.goto (-174), 3) := by decide +kernel
theorem dX11_minute_208 : decode cX11_minute 208 = .ok (.iload_n 3, 1) := by decide +kernel
theorem dX11_minute_209 : decode cX11_minute 209 = .ok (.ireturn, 1) := by decide +kernel
set_option maxRecDepth 20000 in
theorem ggX11_image_X11_in : GoodIn wsX11_image wsX11_in := goodIn_r _ [7] (by decide +kernel) (by decide +kernel)
set_option maxRecDepth 20000 in
theorem gX11_image_X11_in : GoodIn wsX11_image (va_wsS RX11 70 yX11_in wsX11_in) := goodIn_app (goodIn_of _ (by decide +kernel)) ggX11_image_X11_in
set_option maxRecDepth 20000 in
theorem ggX11_image_X11_bad : GoodIn wsX11_image wsX11_bad := goodIn_r _ [11, 12, 13, 14, 6, 15, 16, 17, 18, 19, 20, 21, 22, 23, 24, 25, 26, 27, 28, 29, 30, 31, 32, 33, 34, 35, 36, 37, 38, 39, 40, 41, 42, 43, 44] (by decide +kernel) (by decide +kernel)
set_option maxRecDepth 20000 in
theorem gX11_image_X11_bad : GoodIn wsX11_image (wsV RX11 78 RX11 yX11_bad wsX11_bad) := goodIn_app (goodIn_of _ (by decide +kernel)) ggX11_image_X11_bad
theorem dX11_image_0 : decode cX11_image 0 = .ok (.iload_n 1, 1) := by decide +kernel
theorem dX11_image_1 : decode cX11_image 1 = .ok (.iconst 0, 1) := by decide +kernel
theorem dX11_image_2 : decode cX11_image 2 = .ok (.iconst 1, 1) := by decide +kernel
theorem dX11_image_3 : decode cX11_image 3 = .ok (.invokestatic 70, 3) := by decide +kernel
theorem dX11_image_6 : decode cX11_image 6 = .ok (.ifCond .ne 8, 3) := by decide +kernel
theorem dX11_image_9 : decode cX11_image 9 = .ok (.aload_n 0, 1) := by decide +kernel
theorem dX11_image_10 : decode cX11_image 10 = .ok (.invokevirtual 78, 3) := by decide +kernel
theorem dX11_image_13 : decode cX11_image 13 = .ok (.ireturn, 1) := by decide +kernel
theorem dX11_image_14 : decode cX11_image 14 = .ok (.iconst 0, 1) := by decide +kernel
theorem dX11_image_15 : decode cX11_image 15 = .ok (.istore_n 2, 1) := by decide +kernel
theorem dX11_image_16 : decode cX11_image 16 = .ok (.iload_n 2, 1) := by decide +kernel
theorem dX11_image_17 : decode cX11_image 17 = .ok (.bipush 58, 2) := by decide +kernel
theorem dX11_image_19 : decode cX11_image 19 = .ok (.if_icmp .ge 26, 3) := by decide +kernel
theorem dX11_image_22 : decode cX11_image 22 = .ok (.aload_n 0, 1) := by decide +kernel
theorem dX11_image_23 : decode cX11_image 23 = .ok (.getfield 16, 3) := by decide +kernel
theorem dX11_image_26 : decode cX11_image 26 = .ok (.bipush 58, 2) := by decide +kernel
theorem dX11_image_28 : decode cX11_image 28 = .ok (.iload_n 1, 1) := by decide +kernel
theorem dX11_image_29 : decode cX11_image 29 = .ok (.imul, 1) := by decide +kernel
theorem dX11_image_30 : decode cX11_image 30 = .ok (.iload_n 2, 1) := by decide +kernel
theorem dX11_image_31 : decode cX11_image 31 = .ok (.iadd, 1) := by decide +kernel
theorem dX11_image_32 : decode cX11_image 32 = .ok (.aload_n 0, 1) := by decide +kernel
theorem dX11_image_33 : decode cX11_image 33 = .ok (.getfield 7, 3) := by decide +kernel
theorem dX11_image_36 : decode cX11_image 36 = .ok (.iload_n 2, 1) := by decide +kernel
theorem dX11_image_37 : decode cX11_image 37 = .ok (.iaload, 1) := by decide +kernel
theorem dX11_image_38 : decode cX11_image 38 = .ok (.iastore, 1) := by decide +kernel
theorem dX11_image_39 : decode cX11_image 39 = .ok (.iinc 2 1, 3) := by decide +kernel
theorem dX11_image_42 : decode cX11_image 42 = .ok (.goto (-26), 3) := by decide +kernel
theorem dX11_image_45 : decode cX11_image 45 = .ok (.aload_n 0, 1) := by decide +kernel
theorem dX11_image_46 : decode cX11_image 46 = .ok (.getfield 19, 3) := by decide +kernel
theorem dX11_image_49 : decode cX11_image 49 = .ok (.iload_n 1, 1) := by decide +kernel
theorem dX11_image_50 : decode cX11_image 50 = .ok (.iconst 1, 1) := by decide +kernel
theorem dX11_image_51 : decode cX11_image 51 = .ok (.bastore, 1) := by decide +kernel
theorem dX11_image_52 : decode cX11_image 52 = .ok (.iconst 1, 1) := by decide +kernel
theorem dX11_image_53 : decode cX11_image 53 = .ok (.ireturn, 1) := by decide +kernel
set_option maxRecDepth 20000 in
theorem ggX11_from_X11_in : GoodIn wsX11_from wsX11_in := goodIn_r _ [7] (by decide +kernel) (by decide +kernel)
set_option maxRecDepth 20000 in
theorem gX11_from_X11_in : GoodIn wsX11_from (va_wsS RX11 70 yX11_in wsX11_in) := goodIn_app (goodIn_of _ (by decide +kernel)) ggX11_from_X11_in
set_option maxRecDepth 20000 in
theorem ggX11_from_X11_bad : GoodIn wsX11_from wsX11_bad := goodIn_r _ [11, 12, 13, 14, 6, 15, 16, 17, 18, 19, 20, 21, 22, 23, 24, 25, 26, 27, 28, 29, 30, 31, 32, 33, 34, 35, 36, 37, 38, 39, 40, 41, 42, 43, 44] (by decide +kernel) (by decide +kernel)
set_option maxRecDepth 20000 in
theorem gX11_from_X11_bad : GoodIn wsX11_from (wsV RX11 78 RX11 yX11_bad wsX11_bad) := goodIn_app (goodIn_of _ (by decide +kernel)) ggX11_from_X11_bad
set_option maxRecDepth 20000 in
theorem ggX11_from_X11_refuses : GoodIn wsX11_from wsX11_refuses := goodIn_r _ [15, 16, 17, 18, 19, 20, 21, 22, 23, 24, 25, 26, 27, 28, 29, 30, 31, 32, 33, 34, 35, 36, 37, 38, 39, 40, 41, 42, 43, 44] (by decide +kernel) (by decide +kernel)
set_option maxRecDepth 20000 in
theorem gX11_from_X11_refuses : GoodIn wsX11_from (wsV RX11 66 RX11 yX11_refuses wsX11_refuses) := goodIn_app (goodIn_of _ (by decide +kernel)) ggX11_from_X11_refuses
theorem dX11_from_0 : decode cX11_from 0 = .ok (.iload_n 1, 1) := by decide +kernel
theorem dX11_from_1 : decode cX11_from 1 = .ok (.iconst 0, 1) := by decide +kernel
theorem dX11_from_2 : decode cX11_from 2 = .ok (.iconst 1, 1) := by decide +kernel
theorem dX11_from_3 : decode cX11_from 3 = .ok (.invokestatic 70, 3) := by decide +kernel
theorem dX11_from_6 : decode cX11_from 6 = .ok (.ifCond .ne 8, 3) := by decide +kernel
theorem dX11_from_9 : decode cX11_from 9 = .ok (.aload_n 0, 1) := by decide +kernel
theorem dX11_from_10 : decode cX11_from 10 = .ok (.invokevirtual 78, 3) := by decide +kernel
theorem dX11_from_13 : decode cX11_from 13 = .ok (.ireturn, 1) := by decide +kernel
theorem dX11_from_14 : decode cX11_from 14 = .ok (.aload_n 0, 1) := by decide +kernel
theorem dX11_from_15 : decode cX11_from 15 = .ok (.getfield 19, 3) := by decide +kernel
theorem dX11_from_18 : decode cX11_from 18 = .ok (.iload_n 1, 1) := by decide +kernel
theorem dX11_from_19 : decode cX11_from 19 = .ok (.baload, 1) := by decide +kernel
theorem dX11_from_20 : decode cX11_from 20 = .ok (.ifCond .ne 11, 3) := by decide +kernel
theorem dX11_from_23 : decode cX11_from 23 = .ok (.aload_n 0, 1) := by decide +kernel
theorem dX11_from_24 : decode cX11_from 24 = .ok (.iconst 1, 1) := by decide +kernel
theorem dX11_from_25 : decode cX11_from 25 = .ok (.bipush (-3), 2) := by decide +kernel
theorem dX11_from_27 : decode cX11_from 27 = .ok (.invokevirtual 66, 3) := by decide +kernel
theorem dX11_from_30 : decode cX11_from 30 = .ok (.ireturn, 1) := by decide +kernel
theorem dX11_from_31 : decode cX11_from 31 = .ok (.iconst 0, 1) := by decide +kernel
theorem dX11_from_32 : decode cX11_from 32 = .ok (.istore_n 2, 1) := by decide +kernel
theorem dX11_from_33 : decode cX11_from 33 = .ok (.iload_n 2, 1) := by decide +kernel
theorem dX11_from_34 : decode cX11_from 34 = .ok (.bipush 58, 2) := by decide +kernel
theorem dX11_from_36 : decode cX11_from 36 = .ok (.if_icmp .ge 26, 3) := by decide +kernel
theorem dX11_from_39 : decode cX11_from 39 = .ok (.aload_n 0, 1) := by decide +kernel
theorem dX11_from_40 : decode cX11_from 40 = .ok (.getfield 7, 3) := by decide +kernel
theorem dX11_from_43 : decode cX11_from 43 = .ok (.iload_n 2, 1) := by decide +kernel
theorem dX11_from_44 : decode cX11_from 44 = .ok (.aload_n 0, 1) := by decide +kernel
theorem dX11_from_45 : decode cX11_from 45 = .ok (.getfield 16, 3) := by decide +kernel
theorem dX11_from_48 : decode cX11_from 48 = .ok (.bipush 58, 2) := by decide +kernel
theorem dX11_from_50 : decode cX11_from 50 = .ok (.iload_n 1, 1) := by decide +kernel
theorem dX11_from_51 : decode cX11_from 51 = .ok (.imul, 1) := by decide +kernel
theorem dX11_from_52 : decode cX11_from 52 = .ok (.iload_n 2, 1) := by decide +kernel
theorem dX11_from_53 : decode cX11_from 53 = .ok (.iadd, 1) := by decide +kernel
theorem dX11_from_54 : decode cX11_from 54 = .ok (.iaload, 1) := by decide +kernel
theorem dX11_from_55 : decode cX11_from 55 = .ok (.iastore, 1) := by decide +kernel
theorem dX11_from_56 : decode cX11_from 56 = .ok (.iinc 2 1, 3) := by decide +kernel
theorem dX11_from_59 : decode cX11_from 59 = .ok (.goto (-26), 3) := by decide +kernel
theorem dX11_from_62 : decode cX11_from 62 = .ok (.iconst 1, 1) := by decide +kernel
theorem dX11_from_63 : decode cX11_from 63 = .ok (.ireturn, 1) := by decide +kernel
set_option maxRecDepth 20000 in
theorem ggX11_status_X11_in : GoodIn wsX11_status wsX11_in := goodIn_r _ [5] (by decide +kernel) (by decide +kernel)
set_option maxRecDepth 20000 in
theorem gX11_status_X11_in : GoodIn wsX11_status (va_wsS RX11 70 yX11_in wsX11_in) := goodIn_app (goodIn_of _ (by decide +kernel)) ggX11_status_X11_in
set_option maxRecDepth 20000 in
theorem ggX11_status_X11_refuses : GoodIn wsX11_status wsX11_refuses := goodIn_r _ [9, 1, 10, 11, 12, 13, 14, 15, 16, 17, 18, 19, 20, 21, 22, 23, 24, 25, 26, 27, 28, 29, 30, 31, 32, 33, 34, 35, 36, 37] (by decide +kernel) (by decide +kernel)
set_option maxRecDepth 20000 in
theorem gX11_status_X11_refuses : GoodIn wsX11_status (wsV RX11 66 RX11 yX11_refuses wsX11_refuses) := goodIn_app (goodIn_of _ (by decide +kernel)) ggX11_status_X11_refuses
theorem dX11_status_0 : decode cX11_status 0 = .ok (.iload_n 1, 1) := by decide +kernel
theorem dX11_status_1 : decode cX11_status 1 = .ok (.iconst 0, 1) := by decide +kernel
theorem dX11_status_2 : decode cX11_status 2 = .ok (.iconst 2, 1) := by decide +kernel
theorem dX11_status_3 : decode cX11_status 3 = .ok (.invokestatic 70, 3) := by decide +kernel
theorem dX11_status_6 : decode cX11_status 6 = .ok (.ifCond .eq 12, 3) := by decide +kernel
theorem dX11_status_9 : decode cX11_status 9 = .ok (.aload_n 0, 1) := by decide +kernel
theorem dX11_status_10 : decode cX11_status 10 = .ok (.getfield 26, 3) := by decide +kernel
theorem dX11_status_13 : decode cX11_status 13 = .ok (.iload_n 1, 1) := by decide +kernel
theorem dX11_status_14 : decode cX11_status 14 = .ok (.iaload, 1) := by decide +kernel
theorem dX11_status_15 : decode cX11_status 15 = .ok (.goto 9, 3) := by decide +kernel
theorem dX11_status_18 : decode cX11_status 18 = .ok (.aload_n 0, 1) := by decide +kernel
theorem dX11_status_19 : decode cX11_status 19 = .ok (.iconst 0, 1) := by decide +kernel
theorem dX11_status_20 : decode cX11_status 20 = .ok (.iconst (-1), 1) := by decide +kernel
theorem dX11_status_21 : decode cX11_status 21 = .ok (.invokevirtual 66, 3) := by decide +kernel
theorem dX11_status_24 : decode cX11_status 24 = .ok (.ireturn, 1) := by decide +kernel
theorem dX11_counted_0 : decode cX11_counted 0 = .ok (.iconst 0, 1) := by decide +kernel
theorem dX11_counted_1 : decode cX11_counted 1 = .ok (.istore_n 2, 1) := by decide +kernel
theorem dX11_counted_2 : decode cX11_counted 2 = .ok (.iconst 0, 1) := by decide +kernel
theorem dX11_counted_3 : decode cX11_counted 3 = .ok (.istore_n 3, 1) := by decide +kernel
theorem dX11_counted_4 : decode cX11_counted 4 = .ok (.iload_n 3, 1) := by decide +kernel
theorem dX11_counted_5 : decode cX11_counted 5 = .ok (.bipush 12, 2) := by decide +kernel
theorem dX11_counted_7 : decode cX11_counted 7 = .ok (.if_icmp .ge 30, 3) := by decide +kernel
theorem dX11_counted_10 : decode cX11_counted 10 = .ok (.iload_n 2, 1) := by decide +kernel
theorem dX11_counted_11 : decode cX11_counted 11 = .ok (.aload_n 0, 1) := by decide +kernel
theorem dX11_counted_12 : decode cX11_counted 12 = .ok (.getfield 7, 3) := by decide +kernel
theorem dX11_counted_15 : decode cX11_counted 15 = .ok (.bipush 46, 2) := by decide +kernel
theorem dX11_counted_17 : decode cX11_counted 17 = .ok (.iload_n 3, 1) := by decide +kernel
theorem dX11_counted_18 : decode cX11_counted 18 = .ok (.iadd, 1) := by decide +kernel
theorem dX11_counted_19 : decode cX11_counted 19 = .ok (.iaload, 1) := by decide +kernel
theorem dX11_counted_20 : decode cX11_counted 20 = .ok (.iconst (-1), 1) := by decide +kernel
theorem dX11_counted_21 : decode cX11_counted 21 = .ok (.if_icmp .eq 7, 3) := by decide +kernel
theorem dX11_counted_24 : decode cX11_counted 24 = .ok (.iconst 1, 1) := by decide +kernel
theorem dX11_counted_25 : decode cX11_counted 25 = .ok (.goto 4, 3) := by decide +kernel
theorem dX11_counted_28 : decode cX11_counted 28 = .ok (.iconst 0, 1) := by decide +kernel
theorem dX11_counted_29 : decode cX11_counted 29 = .ok (.iadd, 1) := by decide +kernel
theorem dX11_counted_30 : decode cX11_counted 30 = .ok (.istore_n 2, 1) := by decide +kernel
theorem dX11_counted_31 : decode cX11_counted 31 = .ok (.iinc 3 1, 3) := by decide +kernel
theorem dX11_counted_34 : decode cX11_counted 34 = .ok (.goto (-30), 3) := by decide +kernel
theorem dX11_counted_37 : decode cX11_counted 37 = .ok (.iload_n 1, 1) := by decide +kernel
theorem dX11_counted_38 : decode cX11_counted 38 = .ok (.ifCond .ne 12, 3) := by decide +kernel
theorem dX11_counted_41 : decode cX11_counted 41 = .ok (.aload_n 0, 1) := by decide +kernel
theorem dX11_counted_42 : decode cX11_counted 42 = .ok (.getfield 7, 3) := by decide +kernel
theorem dX11_counted_45 : decode cX11_counted 45 = .ok (.iconst 0, 1) := by decide +kernel
theorem dX11_counted_46 : decode cX11_counted 46 = .ok (.iaload, 1) := by decide +kernel
theorem dX11_counted_47 : decode cX11_counted 47 = .ok (.goto 30, 3) := by decide +kernel
theorem dX11_counted_50 : decode cX11_counted 50 = .ok (.iload_n 1, 1) := by decide +kernel
theorem dX11_counted_51 : decode cX11_counted 51 = .ok (.iconst 1, 1) := by decide +kernel
theorem dX11_counted_52 : decode cX11_counted 52 = .ok (.if_icmp .ne 12, 3) := by decide +kernel
theorem dX11_counted_55 : decode cX11_counted 55 = .ok (.aload_n 0, 1) := by decide +kernel
theorem dX11_counted_56 : decode cX11_counted 56 = .ok (.getfield 7, 3) := by decide +kernel
theorem dX11_counted_59 : decode cX11_counted 59 = .ok (.iconst 1, 1) := by decide +kernel
theorem dX11_counted_60 : decode cX11_counted 60 = .ok (.iaload, 1) := by decide +kernel
theorem dX11_counted_61 : decode cX11_counted 61 = .ok (.goto 16, 3) := by decide +kernel
theorem dX11_counted_64 : decode cX11_counted 64 = .ok (.iload_n 1, 1) := by decide +kernel
theorem dX11_counted_65 : decode cX11_counted 65 = .ok (.iconst 2, 1) := by decide +kernel
theorem dX11_counted_66 : decode cX11_counted 66 = .ok (.if_icmp .ne 7, 3) := by decide +kernel
theorem dX11_counted_69 : decode cX11_counted 69 = .ok (.iload_n 2, 1) := by decide +kernel
theorem dX11_counted_70 : decode cX11_counted 70 = .ok (.goto 7, 3) := by decide +kernel
theorem dX11_counted_73 : decode cX11_counted 73 = .ok (.aload_n 0, 1) := by decide +kernel
theorem dX11_counted_74 : decode cX11_counted 74 = .ok (.getfield 82, 3) := by decide +kernel
theorem dX11_counted_77 : decode cX11_counted 77 = .ok (.ireturn, 1) := by decide +kernel
set_option maxRecDepth 20000 in
theorem ggX11_count_X11_in : GoodIn wsX11_count wsX11_in := goodIn_r _ [4] (by decide +kernel) (by decide +kernel)
set_option maxRecDepth 20000 in
theorem gX11_count_X11_in : GoodIn wsX11_count (va_wsS RX11 70 yX11_in wsX11_in) := goodIn_app (goodIn_of _ (by decide +kernel)) ggX11_count_X11_in
set_option maxRecDepth 20000 in
theorem ggX11_count_X11_counted : GoodIn wsX11_count wsX11_counted := goodIn_r _ [8, 9, 10, 20, 21, 22, 23, 24, 25, 26, 27, 28, 29, 30, 31, 32, 33, 34, 35, 36, 37, 38, 39, 40, 41, 42, 43, 44, 45, 46, 47] (by decide +kernel) (by decide +kernel)
set_option maxRecDepth 20000 in
theorem gX11_count_X11_counted : GoodIn wsX11_count (wsV RX11 268 RX11 yX11_counted wsX11_counted) := goodIn_app (goodIn_of _ (by decide +kernel)) ggX11_count_X11_counted
set_option maxRecDepth 20000 in
theorem ggX11_count_X11_bad : GoodIn wsX11_count wsX11_bad := goodIn_r _ [14, 15, 16, 17, 3, 18, 19, 20, 21, 22, 23, 24, 25, 26, 27, 28, 29, 30, 31, 32, 33, 34, 35, 36, 37, 38, 39, 40, 41, 42, 43, 44, 45, 46, 47] (by decide +kernel) (by decide +kernel)
set_option maxRecDepth 20000 in
theorem gX11_count_X11_bad : GoodIn wsX11_count (wsV RX11 78 RX11 yX11_bad wsX11_bad) := goodIn_app (goodIn_of _ (by decide +kernel)) ggX11_count_X11_bad
theorem dX11_count_0 : decode cX11_count 0 = .ok (.iload_n 1, 1) := by decide +kernel
theorem dX11_count_1 : decode cX11_count 1 = .ok (.iconst 0, 1) := by decide +kernel
theorem dX11_count_2 : decode cX11_count 2 = .ok (.iconst 3, 1) := by decide +kernel
theorem dX11_count_3 : decode cX11_count 3 = .ok (.invokestatic 70, 3) := by decide +kernel
theorem dX11_count_6 : decode cX11_count 6 = .ok (.ifCond .eq 11, 3) := by decide +kernel
theorem dX11_count_9 : decode cX11_count 9 = .ok (.aload_n 0, 1) := by decide +kernel
theorem dX11_count_10 : decode cX11_count 10 = .ok (.iload_n 1, 1) := by decide +kernel
theorem dX11_count_11 : decode cX11_count 11 = .ok (.invokevirtual 268, 3) := by decide +kernel
theorem dX11_count_14 : decode cX11_count 14 = .ok (.goto 7, 3) := by decide +kernel
theorem dX11_count_17 : decode cX11_count 17 = .ok (.aload_n 0, 1) := by decide +kernel
theorem dX11_count_18 : decode cX11_count 18 = .ok (.invokevirtual 78, 3) := by decide +kernel
theorem dX11_count_21 : decode cX11_count 21 = .ok (.ireturn, 1) := by decide +kernel
set_option maxRecDepth 20000 in
theorem ggX11_digest_X11_counted : GoodIn wsX11_digest wsX11_counted := goodIn_r _ [8, 3, 9, 10, 11, 12, 13, 14, 15, 16, 17, 18, 19, 20, 21, 22, 23, 24, 25, 26, 27, 28, 29, 30, 31, 32, 33, 34, 35, 36, 37] (by decide +kernel) (by decide +kernel)
set_option maxRecDepth 20000 in
theorem gX11_digest_X11_counted : GoodIn wsX11_digest (wsV RX11 268 RX11 yX11_counted wsX11_counted) := goodIn_app (goodIn_of _ (by decide +kernel)) ggX11_digest_X11_counted
theorem dX11_digest_0 : decode cX11_digest 0 = .ok (.ldc2_w 270, 3) := by decide +kernel
theorem dX11_digest_3 : decode cX11_digest 3 = .ok (.lstore_n 1, 1) := by decide +kernel
theorem dX11_digest_4 : decode cX11_digest 4 = .ok (.iconst 0, 1) := by decide +kernel
theorem dX11_digest_5 : decode cX11_digest 5 = .ok (.istore_n 3, 1) := by decide +kernel
theorem dX11_digest_6 : decode cX11_digest 6 = .ok (.iload_n 3, 1) := by decide +kernel
theorem dX11_digest_7 : decode cX11_digest 7 = .ok (.iconst 4, 1) := by decide +kernel
theorem dX11_digest_8 : decode cX11_digest 8 = .ok (.if_icmp .ge 22, 3) := by decide +kernel
theorem dX11_digest_11 : decode cX11_digest 11 = .ok (.ldc2_w 272, 3) := by decide +kernel
theorem dX11_digest_14 : decode cX11_digest 14 = .ok (.lload_n 1, 1) := by decide +kernel
theorem dX11_digest_15 : decode cX11_digest 15 = .ok (.lmul, 1) := by decide +kernel
theorem dX11_digest_16 : decode cX11_digest 16 = .ok (.aload_n 0, 1) := by decide +kernel
theorem dX11_digest_17 : decode cX11_digest 17 = .ok (.iload_n 3, 1) := by decide +kernel
theorem dX11_digest_18 : decode cX11_digest 18 = .ok (.invokevirtual 268, 3) := by decide +kernel
theorem dX11_digest_21 : decode cX11_digest 21 = .ok (.i2l, 1) := by decide +kernel
theorem dX11_digest_22 : decode cX11_digest 22 = .ok (.ladd, 1) := by decide +kernel
theorem dX11_digest_23 : decode cX11_digest 23 = .ok (.lstore_n 1, 1) := by decide +kernel
theorem dX11_digest_24 : decode cX11_digest 24 = .ok (.iinc 3 1, 3) := by decide +kernel
theorem dX11_digest_27 : decode cX11_digest 27 = .ok (.goto (-21), 3) := by decide +kernel
theorem dX11_digest_30 : decode cX11_digest 30 = .ok (.iconst 0, 1) := by decide +kernel
theorem dX11_digest_31 : decode cX11_digest 31 = .ok (.istore_n 3, 1) := by decide +kernel
theorem dX11_digest_32 : decode cX11_digest 32 = .ok (.iload_n 3, 1) := by decide +kernel
theorem dX11_digest_33 : decode cX11_digest 33 = .ok (.aload_n 0, 1) := by decide +kernel
theorem dX11_digest_34 : decode cX11_digest 34 = .ok (.getfield 7, 3) := by decide +kernel
theorem dX11_digest_37 : decode cX11_digest 37 = .ok (.iconst 0, 1) := by decide +kernel
theorem dX11_digest_38 : decode cX11_digest 38 = .ok (.iaload, 1) := by decide +kernel
theorem dX11_digest_39 : decode cX11_digest 39 = .ok (.if_icmp .ge 40, 3) := by decide +kernel
theorem dX11_digest_42 : decode cX11_digest 42 = .ok (.ldc2_w 272, 3) := by decide +kernel
theorem dX11_digest_45 : decode cX11_digest 45 = .ok (.ldc2_w 272, 3) := by decide +kernel
theorem dX11_digest_48 : decode cX11_digest 48 = .ok (.lload_n 1, 1) := by decide +kernel
theorem dX11_digest_49 : decode cX11_digest 49 = .ok (.lmul, 1) := by decide +kernel
theorem dX11_digest_50 : decode cX11_digest 50 = .ok (.aload_n 0, 1) := by decide +kernel
theorem dX11_digest_51 : decode cX11_digest 51 = .ok (.getfield 7, 3) := by decide +kernel
theorem dX11_digest_54 : decode cX11_digest 54 = .ok (.iconst 2, 1) := by decide +kernel
theorem dX11_digest_55 : decode cX11_digest 55 = .ok (.iload_n 3, 1) := by decide +kernel
theorem dX11_digest_56 : decode cX11_digest 56 = .ok (.iadd, 1) := by decide +kernel
theorem dX11_digest_57 : decode cX11_digest 57 = .ok (.iaload, 1) := by decide +kernel
theorem dX11_digest_58 : decode cX11_digest 58 = .ok (.i2l, 1) := by decide +kernel
theorem dX11_digest_59 : decode cX11_digest 59 = .ok (.ladd, 1) := by decide +kernel
theorem dX11_digest_60 : decode cX11_digest 60 = .ok (.lmul, 1) := by decide +kernel
theorem dX11_digest_61 : decode cX11_digest 61 = .ok (.aload_n 0, 1) := by decide +kernel
theorem dX11_digest_62 : decode cX11_digest 62 = .ok (.getfield 7, 3) := by decide +kernel
theorem dX11_digest_65 : decode cX11_digest 65 = .ok (.bipush 8, 2) := by decide +kernel
theorem dX11_digest_67 : decode cX11_digest 67 = .ok (.iload_n 3, 1) := by decide +kernel
theorem dX11_digest_68 : decode cX11_digest 68 = .ok (.iadd, 1) := by decide +kernel
theorem dX11_digest_69 : decode cX11_digest 69 = .ok (.iaload, 1) := by decide +kernel
theorem dX11_digest_70 : decode cX11_digest 70 = .ok (.i2l, 1) := by decide +kernel
theorem dX11_digest_71 : decode cX11_digest 71 = .ok (.ladd, 1) := by decide +kernel
theorem dX11_digest_72 : decode cX11_digest 72 = .ok (.lstore_n 1, 1) := by decide +kernel
theorem dX11_digest_73 : decode cX11_digest 73 = .ok (.iinc 3 1, 3) := by decide +kernel
theorem dX11_digest_76 : decode cX11_digest 76 = .ok (.goto (-44), 3) := by decide +kernel
theorem dX11_digest_79 : decode cX11_digest 79 = .ok (.iconst 0, 1) := by decide +kernel
theorem dX11_digest_80 : decode cX11_digest 80 = .ok (.istore_n 3, 1) := by decide +kernel
theorem dX11_digest_81 : decode cX11_digest 81 = .ok (.iload_n 3, 1) := by decide +kernel
theorem dX11_digest_82 : decode cX11_digest 82 = .ok (.aload_n 0, 1) := by decide +kernel
theorem dX11_digest_83 : decode cX11_digest 83 = .ok (.getfield 7, 3) := by decide +kernel
theorem dX11_digest_86 : decode cX11_digest 86 = .ok (.iconst 1, 1) := by decide +kernel
theorem dX11_digest_87 : decode cX11_digest 87 = .ok (.iaload, 1) := by decide +kernel
theorem dX11_digest_88 : decode cX11_digest 88 = .ok (.if_icmp .ge 73, 3) := by decide +kernel
theorem dX11_digest_91 : decode cX11_digest 91 = .ok (.ldc2_w 272, 3) := by decide +kernel
theorem dX11_digest_94 : decode cX11_digest 94 = .ok (.ldc2_w 272, 3) := by decide +kernel
theorem dX11_digest_97 : decode cX11_digest 97 = .ok (.lload_n 1, 1) := by decide +kernel
theorem dX11_digest_98 : decode cX11_digest 98 = .ok (.lmul, 1) := by decide +kernel
theorem dX11_digest_99 : decode cX11_digest 99 = .ok (.aload_n 0, 1) := by decide +kernel
theorem dX11_digest_100 : decode cX11_digest 100 = .ok (.getfield 7, 3) := by decide +kernel
theorem dX11_digest_103 : decode cX11_digest 103 = .ok (.bipush 14, 2) := by decide +kernel
theorem dX11_digest_105 : decode cX11_digest 105 = .ok (.iload_n 3, 1) := by decide +kernel
theorem dX11_digest_106 : decode cX11_digest 106 = .ok (.iadd, 1) := by decide +kernel
theorem dX11_digest_107 : decode cX11_digest 107 = .ok (.iaload, 1) := by decide +kernel
theorem dX11_digest_108 : decode cX11_digest 108 = .ok (.i2l, 1) := by decide +kernel
theorem dX11_digest_109 : decode cX11_digest 109 = .ok (.ladd, 1) := by decide +kernel
theorem dX11_digest_110 : decode cX11_digest 110 = .ok (.lmul, 1) := by decide +kernel
theorem dX11_digest_111 : decode cX11_digest 111 = .ok (.aload_n 0, 1) := by decide +kernel
theorem dX11_digest_112 : decode cX11_digest 112 = .ok (.getfield 7, 3) := by decide +kernel
theorem dX11_digest_115 : decode cX11_digest 115 = .ok (.bipush 22, 2) := by decide +kernel
theorem dX11_digest_117 : decode cX11_digest 117 = .ok (.iload_n 3, 1) := by decide +kernel
theorem dX11_digest_118 : decode cX11_digest 118 = .ok (.iadd, 1) := by decide +kernel
theorem dX11_digest_119 : decode cX11_digest 119 = .ok (.iaload, 1) := by decide +kernel
theorem dX11_digest_120 : decode cX11_digest 120 = .ok (.i2l, 1) := by decide +kernel
theorem dX11_digest_121 : decode cX11_digest 121 = .ok (.ladd, 1) := by decide +kernel
theorem dX11_digest_122 : decode cX11_digest 122 = .ok (.lstore_n 1, 1) := by decide +kernel
theorem dX11_digest_123 : decode cX11_digest 123 = .ok (.ldc2_w 272, 3) := by decide +kernel
theorem dX11_digest_126 : decode cX11_digest 126 = .ok (.ldc2_w 272, 3) := by decide +kernel
theorem dX11_digest_129 : decode cX11_digest 129 = .ok (.lload_n 1, 1) := by decide +kernel
theorem dX11_digest_130 : decode cX11_digest 130 = .ok (.lmul, 1) := by decide +kernel
theorem dX11_digest_131 : decode cX11_digest 131 = .ok (.aload_n 0, 1) := by decide +kernel
theorem dX11_digest_132 : decode cX11_digest 132 = .ok (.getfield 7, 3) := by decide +kernel
theorem dX11_digest_135 : decode cX11_digest 135 = .ok (.bipush 30, 2) := by decide +kernel
theorem dX11_digest_137 : decode cX11_digest 137 = .ok (.iload_n 3, 1) := by decide +kernel
theorem dX11_digest_138 : decode cX11_digest 138 = .ok (.iadd, 1) := by decide +kernel
theorem dX11_digest_139 : decode cX11_digest 139 = .ok (.iaload, 1) := by decide +kernel
theorem dX11_digest_140 : decode cX11_digest 140 = .ok (.i2l, 1) := by decide +kernel
theorem dX11_digest_141 : decode cX11_digest 141 = .ok (.ladd, 1) := by decide +kernel
theorem dX11_digest_142 : decode cX11_digest 142 = .ok (.lmul, 1) := by decide +kernel
theorem dX11_digest_143 : decode cX11_digest 143 = .ok (.aload_n 0, 1) := by decide +kernel
theorem dX11_digest_144 : decode cX11_digest 144 = .ok (.getfield 7, 3) := by decide +kernel
theorem dX11_digest_147 : decode cX11_digest 147 = .ok (.bipush 38, 2) := by decide +kernel
theorem dX11_digest_149 : decode cX11_digest 149 = .ok (.iload_n 3, 1) := by decide +kernel
theorem dX11_digest_150 : decode cX11_digest 150 = .ok (.iadd, 1) := by decide +kernel
theorem dX11_digest_151 : decode cX11_digest 151 = .ok (.iaload, 1) := by decide +kernel
theorem dX11_digest_152 : decode cX11_digest 152 = .ok (.i2l, 1) := by decide +kernel
theorem dX11_digest_153 : decode cX11_digest 153 = .ok (.ladd, 1) := by decide +kernel
theorem dX11_digest_154 : decode cX11_digest 154 = .ok (.lstore_n 1, 1) := by decide +kernel
theorem dX11_digest_155 : decode cX11_digest 155 = .ok (.iinc 3 1, 3) := by decide +kernel
theorem dX11_digest_158 : decode cX11_digest 158 = .ok (.goto (-77), 3) := by decide +kernel
theorem dX11_digest_161 : decode cX11_digest 161 = .ok (.iconst 0, 1) := by decide +kernel
theorem dX11_digest_162 : decode cX11_digest 162 = .ok (.istore_n 3, 1) := by decide +kernel
theorem dX11_digest_163 : decode cX11_digest 163 = .ok (.iload_n 3, 1) := by decide +kernel
theorem dX11_digest_164 : decode cX11_digest 164 = .ok (.iconst 2, 1) := by decide +kernel
theorem dX11_digest_165 : decode cX11_digest 165 = .ok (.aload_n 0, 1) := by decide +kernel
theorem dX11_digest_166 : decode cX11_digest 166 = .ok (.getfield 7, 3) := by decide +kernel
theorem dX11_digest_169 : decode cX11_digest 169 = .ok (.iconst 0, 1) := by decide +kernel
theorem dX11_digest_170 : decode cX11_digest 170 = .ok (.iaload, 1) := by decide +kernel
theorem dX11_digest_171 : decode cX11_digest 171 = .ok (.imul, 1) := by decide +kernel
theorem dX11_digest_172 : decode cX11_digest 172 = .ok (.if_icmp .ge 26, 3) := by decide +kernel
theorem dX11_digest_175 : decode cX11_digest 175 = .ok (.ldc2_w 272, 3) := by decide +kernel
theorem dX11_digest_178 : decode cX11_digest 178 = .ok (.lload_n 1, 1) := by decide +kernel
theorem dX11_digest_179 : decode cX11_digest 179 = .ok (.lmul, 1) := by decide +kernel
theorem dX11_digest_180 : decode cX11_digest 180 = .ok (.aload_n 0, 1) := by decide +kernel
theorem dX11_digest_181 : decode cX11_digest 181 = .ok (.getfield 7, 3) := by decide +kernel
theorem dX11_digest_184 : decode cX11_digest 184 = .ok (.bipush 46, 2) := by decide +kernel
theorem dX11_digest_186 : decode cX11_digest 186 = .ok (.iload_n 3, 1) := by decide +kernel
theorem dX11_digest_187 : decode cX11_digest 187 = .ok (.iadd, 1) := by decide +kernel
theorem dX11_digest_188 : decode cX11_digest 188 = .ok (.iaload, 1) := by decide +kernel
theorem dX11_digest_189 : decode cX11_digest 189 = .ok (.i2l, 1) := by decide +kernel
theorem dX11_digest_190 : decode cX11_digest 190 = .ok (.ladd, 1) := by decide +kernel
theorem dX11_digest_191 : decode cX11_digest 191 = .ok (.lstore_n 1, 1) := by decide +kernel
theorem dX11_digest_192 : decode cX11_digest 192 = .ok (.iinc 3 1, 3) := by decide +kernel
theorem dX11_digest_195 : decode cX11_digest 195 = .ok (.goto (-32), 3) := by decide +kernel
theorem dX11_digest_198 : decode cX11_digest 198 = .ok (.lload_n 1, 1) := by decide +kernel
theorem dX11_digest_199 : decode cX11_digest 199 = .ok (.lreturn, 1) := by decide +kernel
theorem dJ6_bitCount_0f7a4_0 : decode cJ6_bitCount_0f7a4 0 = .ok (.iload_n 0, 1) := by decide +kernel
theorem dJ6_bitCount_0f7a4_1 : decode cJ6_bitCount_0f7a4 1 = .ok (.iload_n 0, 1) := by decide +kernel
theorem dJ6_bitCount_0f7a4_2 : decode cJ6_bitCount_0f7a4 2 = .ok (.iconst 1, 1) := by decide +kernel
theorem dJ6_bitCount_0f7a4_3 : decode cJ6_bitCount_0f7a4 3 = .ok (.iushr, 1) := by decide +kernel
theorem dJ6_bitCount_0f7a4_4 : decode cJ6_bitCount_0f7a4 4 = .ok (.ldc_w 265, 3) := by decide +kernel
theorem dJ6_bitCount_0f7a4_7 : decode cJ6_bitCount_0f7a4 7 = .ok (.iand, 1) := by decide +kernel
theorem dJ6_bitCount_0f7a4_8 : decode cJ6_bitCount_0f7a4 8 = .ok (.isub, 1) := by decide +kernel
theorem dJ6_bitCount_0f7a4_9 : decode cJ6_bitCount_0f7a4 9 = .ok (.istore_n 0, 1) := by decide +kernel
theorem dJ6_bitCount_0f7a4_10 : decode cJ6_bitCount_0f7a4 10 = .ok (.iload_n 0, 1) := by decide +kernel
theorem dJ6_bitCount_0f7a4_11 : decode cJ6_bitCount_0f7a4 11 = .ok (.ldc_w 266, 3) := by decide +kernel
theorem dJ6_bitCount_0f7a4_14 : decode cJ6_bitCount_0f7a4 14 = .ok (.iand, 1) := by decide +kernel
theorem dJ6_bitCount_0f7a4_15 : decode cJ6_bitCount_0f7a4 15 = .ok (.iload_n 0, 1) := by decide +kernel
theorem dJ6_bitCount_0f7a4_16 : decode cJ6_bitCount_0f7a4 16 = .ok (.iconst 2, 1) := by decide +kernel
theorem dJ6_bitCount_0f7a4_17 : decode cJ6_bitCount_0f7a4 17 = .ok (.iushr, 1) := by decide +kernel
theorem dJ6_bitCount_0f7a4_18 : decode cJ6_bitCount_0f7a4 18 = .ok (.ldc_w 266, 3) := by decide +kernel
theorem dJ6_bitCount_0f7a4_21 : decode cJ6_bitCount_0f7a4 21 = .ok (.iand, 1) := by decide +kernel
theorem dJ6_bitCount_0f7a4_22 : decode cJ6_bitCount_0f7a4 22 = .ok (.iadd, 1) := by decide +kernel
theorem dJ6_bitCount_0f7a4_23 : decode cJ6_bitCount_0f7a4 23 = .ok (.istore_n 0, 1) := by decide +kernel
theorem dJ6_bitCount_0f7a4_24 : decode cJ6_bitCount_0f7a4 24 = .ok (.iload_n 0, 1) := by decide +kernel
theorem dJ6_bitCount_0f7a4_25 : decode cJ6_bitCount_0f7a4 25 = .ok (.iload_n 0, 1) := by decide +kernel
theorem dJ6_bitCount_0f7a4_26 : decode cJ6_bitCount_0f7a4 26 = .ok (.iconst 4, 1) := by decide +kernel
theorem dJ6_bitCount_0f7a4_27 : decode cJ6_bitCount_0f7a4 27 = .ok (.iushr, 1) := by decide +kernel
theorem dJ6_bitCount_0f7a4_28 : decode cJ6_bitCount_0f7a4 28 = .ok (.iadd, 1) := by decide +kernel
theorem dJ6_bitCount_0f7a4_29 : decode cJ6_bitCount_0f7a4 29 = .ok (.ldc_w 267, 3) := by decide +kernel
theorem dJ6_bitCount_0f7a4_32 : decode cJ6_bitCount_0f7a4 32 = .ok (.iand, 1) := by decide +kernel
theorem dJ6_bitCount_0f7a4_33 : decode cJ6_bitCount_0f7a4 33 = .ok (.istore_n 0, 1) := by decide +kernel
theorem dJ6_bitCount_0f7a4_34 : decode cJ6_bitCount_0f7a4 34 = .ok (.iload_n 0, 1) := by decide +kernel
theorem dJ6_bitCount_0f7a4_35 : decode cJ6_bitCount_0f7a4 35 = .ok (.iload_n 0, 1) := by decide +kernel
theorem dJ6_bitCount_0f7a4_36 : decode cJ6_bitCount_0f7a4 36 = .ok (.bipush 8, 2) := by decide +kernel
theorem dJ6_bitCount_0f7a4_38 : decode cJ6_bitCount_0f7a4 38 = .ok (.iushr, 1) := by decide +kernel
theorem dJ6_bitCount_0f7a4_39 : decode cJ6_bitCount_0f7a4 39 = .ok (.iadd, 1) := by decide +kernel
theorem dJ6_bitCount_0f7a4_40 : decode cJ6_bitCount_0f7a4 40 = .ok (.istore_n 0, 1) := by decide +kernel
theorem dJ6_bitCount_0f7a4_41 : decode cJ6_bitCount_0f7a4 41 = .ok (.iload_n 0, 1) := by decide +kernel
theorem dJ6_bitCount_0f7a4_42 : decode cJ6_bitCount_0f7a4 42 = .ok (.iload_n 0, 1) := by decide +kernel
theorem dJ6_bitCount_0f7a4_43 : decode cJ6_bitCount_0f7a4 43 = .ok (.bipush 16, 2) := by decide +kernel
theorem dJ6_bitCount_0f7a4_45 : decode cJ6_bitCount_0f7a4 45 = .ok (.iushr, 1) := by decide +kernel
theorem dJ6_bitCount_0f7a4_46 : decode cJ6_bitCount_0f7a4 46 = .ok (.iadd, 1) := by decide +kernel
theorem dJ6_bitCount_0f7a4_47 : decode cJ6_bitCount_0f7a4 47 = .ok (.istore_n 0, 1) := by decide +kernel
theorem dJ6_bitCount_0f7a4_48 : decode cJ6_bitCount_0f7a4 48 = .ok (.iload_n 0, 1) := by decide +kernel
theorem dJ6_bitCount_0f7a4_49 : decode cJ6_bitCount_0f7a4 49 = .ok (.bipush 63, 2) := by decide +kernel
theorem dJ6_bitCount_0f7a4_51 : decode cJ6_bitCount_0f7a4 51 = .ok (.iand, 1) := by decide +kernel
theorem dJ6_bitCount_0f7a4_52 : decode cJ6_bitCount_0f7a4 52 = .ok (.ireturn, 1) := by decide +kernel
theorem dJ9_max_7cf53_0 : decode cJ9_max_7cf53 0 = .ok (.iload_n 0, 1) := by decide +kernel
theorem dJ9_max_7cf53_1 : decode cJ9_max_7cf53 1 = .ok (.iload_n 1, 1) := by decide +kernel
theorem dJ9_max_7cf53_2 : decode cJ9_max_7cf53 2 = .ok (.if_icmp .lt 7, 3) := by decide +kernel
theorem dJ9_max_7cf53_5 : decode cJ9_max_7cf53 5 = .ok (.iload_n 0, 1) := by decide +kernel
theorem dJ9_max_7cf53_6 : decode cJ9_max_7cf53 6 = .ok (.goto 4, 3) := by decide +kernel
theorem dJ9_max_7cf53_9 : decode cJ9_max_7cf53 9 = .ok (.iload_n 1, 1) := by decide +kernel
theorem dJ9_max_7cf53_10 : decode cJ9_max_7cf53 10 = .ok (.ireturn, 1) := by decide +kernel
theorem dJ9_max_f86c9_0 : decode cJ9_max_f86c9 0 = .ok (.lload_n 0, 1) := by decide +kernel
theorem dJ9_max_f86c9_1 : decode cJ9_max_f86c9 1 = .ok (.lload_n 2, 1) := by decide +kernel
theorem dJ9_max_f86c9_2 : decode cJ9_max_f86c9 2 = .ok (.lcmp, 1) := by decide +kernel
theorem dJ9_max_f86c9_3 : decode cJ9_max_f86c9 3 = .ok (.ifCond .lt 7, 3) := by decide +kernel
theorem dJ9_max_f86c9_6 : decode cJ9_max_f86c9 6 = .ok (.lload_n 0, 1) := by decide +kernel
theorem dJ9_max_f86c9_7 : decode cJ9_max_f86c9 7 = .ok (.goto 4, 3) := by decide +kernel
theorem dJ9_max_f86c9_10 : decode cJ9_max_f86c9 10 = .ok (.lload_n 2, 1) := by decide +kernel
theorem dJ9_max_f86c9_11 : decode cJ9_max_f86c9 11 = .ok (.lreturn, 1) := by decide +kernel
theorem dJ9_min_7cf53_0 : decode cJ9_min_7cf53 0 = .ok (.iload_n 0, 1) := by decide +kernel
theorem dJ9_min_7cf53_1 : decode cJ9_min_7cf53 1 = .ok (.iload_n 1, 1) := by decide +kernel
theorem dJ9_min_7cf53_2 : decode cJ9_min_7cf53 2 = .ok (.if_icmp .gt 7, 3) := by decide +kernel
theorem dJ9_min_7cf53_5 : decode cJ9_min_7cf53 5 = .ok (.iload_n 0, 1) := by decide +kernel
theorem dJ9_min_7cf53_6 : decode cJ9_min_7cf53 6 = .ok (.goto 4, 3) := by decide +kernel
theorem dJ9_min_7cf53_9 : decode cJ9_min_7cf53 9 = .ok (.iload_n 1, 1) := by decide +kernel
theorem dJ9_min_7cf53_10 : decode cJ9_min_7cf53 10 = .ok (.ireturn, 1) := by decide +kernel
set_option maxRecDepth 20000 in
theorem ggJ0_length_8abf5_J0_coder_7d493 : GoodIn wsJ0_length_8abf5 wsJ0_coder_7d493 := goodIn_r _ [6, 7, 8] (by decide +kernel) (by decide +kernel)
set_option maxRecDepth 20000 in
theorem gJ0_length_8abf5_J0_coder_7d493 : GoodIn wsJ0_length_8abf5 (wsV RJ0 335 RJ0 yJ0_coder_7d493 wsJ0_coder_7d493) := goodIn_app (goodIn_of _ (by decide +kernel)) ggJ0_length_8abf5_J0_coder_7d493
theorem dJ0_length_8abf5_0 : decode cJ0_length_8abf5 0 = .ok (.aload_n 0, 1) := by decide +kernel
theorem dJ0_length_8abf5_1 : decode cJ0_length_8abf5 1 = .ok (.getfield 9, 3) := by decide +kernel
theorem dJ0_length_8abf5_4 : decode cJ0_length_8abf5 4 = .ok (.arraylength, 1) := by decide +kernel
theorem dJ0_length_8abf5_5 : decode cJ0_length_8abf5 5 = .ok (.aload_n 0, 1) := by decide +kernel
theorem dJ0_length_8abf5_6 : decode cJ0_length_8abf5 6 = .ok (.invokevirtual 335, 3) := by decide +kernel
theorem dJ0_length_8abf5_9 : decode cJ0_length_8abf5 9 = .ok (.ishr, 1) := by decide +kernel
theorem dJ0_length_8abf5_10 : decode cJ0_length_8abf5 10 = .ok (.ireturn, 1) := by decide +kernel
set_option maxRecDepth 20000 in
theorem ggJ0_charAt_5068e_J0_isLatin1_aae02 : GoodIn wsJ0_charAt_5068e wsJ0_isLatin1_aae02 := goodIn_r _ [6, 7, 8] (by decide +kernel) (by decide +kernel)
set_option maxRecDepth 20000 in
theorem gJ0_charAt_5068e_J0_isLatin1_aae02 : GoodIn wsJ0_charAt_5068e (wsV RJ0 492 RJ0 yJ0_isLatin1_aae02 wsJ0_isLatin1_aae02) := goodIn_app (goodIn_of _ (by decide +kernel)) ggJ0_charAt_5068e_J0_isLatin1_aae02
set_option maxRecDepth 20000 in
theorem ggJ0_charAt_5068e_J1_charAt_3b067 : GoodIn wsJ0_charAt_5068e wsJ1_charAt_3b067 := goodIn_r _ [12, 13, 14, 5, 15, 16, 17, 18, 19, 20] (by decide +kernel) (by decide +kernel)
set_option maxRecDepth 20000 in
theorem gJ0_charAt_5068e_J1_charAt_3b067 : GoodIn wsJ0_charAt_5068e (va_wsS RJ0 495 yJ1_charAt_3b067 wsJ1_charAt_3b067) := goodIn_app (goodIn_of _ (by decide +kernel)) ggJ0_charAt_5068e_J1_charAt_3b067
set_option maxRecDepth 20000 in
theorem ggJ0_charAt_5068e_J2_charAt_3b067 : GoodIn wsJ0_charAt_5068e wsJ2_charAt_3b067 := goodIn_r _ [24, 25, 26, 23, 27, 28, 29, 30, 31, 14, 5, 15, 16, 17, 18, 19, 20, 32, 33, 34, 35, 36, 37] (by decide +kernel) (by decide +kernel)
set_option maxRecDepth 20000 in
theorem gJ0_charAt_5068e_J2_charAt_3b067 : GoodIn wsJ0_charAt_5068e (va_wsS RJ0 498 yJ2_charAt_3b067 wsJ2_charAt_3b067) := goodIn_app (goodIn_of _ (by decide +kernel)) ggJ0_charAt_5068e_J2_charAt_3b067
theorem dJ0_charAt_5068e_0 : decode cJ0_charAt_5068e 0 = .ok (.aload_n 0, 1) := by decide +kernel
theorem dJ0_charAt_5068e_1 : decode cJ0_charAt_5068e 1 = .ok (.invokevirtual 492, 3) := by decide +kernel
theorem dJ0_charAt_5068e_4 : decode cJ0_charAt_5068e 4 = .ok (.ifCond .eq 12, 3) := by decide +kernel
theorem dJ0_charAt_5068e_7 : decode cJ0_charAt_5068e 7 = .ok (.aload_n 0, 1) := by decide +kernel
theorem dJ0_charAt_5068e_8 : decode cJ0_charAt_5068e 8 = .ok (.getfield 9, 3) := by decide +kernel
theorem dJ0_charAt_5068e_11 : decode cJ0_charAt_5068e 11 = .ok (.iload_n 1, 1) := by decide +kernel
theorem dJ0_charAt_5068e_12 : decode cJ0_charAt_5068e 12 = .ok (.invokestatic 495, 3) := by decide +kernel
theorem dJ0_charAt_5068e_15 : decode cJ0_charAt_5068e 15 = .ok (.ireturn, 1) := by decide +kernel
theorem dJ0_charAt_5068e_16 : decode cJ0_charAt_5068e 16 = .ok (.aload_n 0, 1) := by decide +kernel
theorem dJ0_charAt_5068e_17 : decode cJ0_charAt_5068e 17 = .ok (.getfield 9, 3) := by decide +kernel
theorem dJ0_charAt_5068e_20 : decode cJ0_charAt_5068e 20 = .ok (.iload_n 1, 1) := by decide +kernel
theorem dJ0_charAt_5068e_21 : decode cJ0_charAt_5068e 21 = .ok (.invokestatic 498, 3) := by decide +kernel
theorem dJ0_charAt_5068e_24 : decode cJ0_charAt_5068e 24 = .ok (.ireturn, 1) := by decide +kernel
theorem dJ0_coder_7d493_0 : decode cJ0_coder_7d493 0 = .ok (.getstatic 38, 3) := by decide +kernel
theorem dJ0_coder_7d493_3 : decode cJ0_coder_7d493 3 = .ok (.ifCond .eq 10, 3) := by decide +kernel
theorem dJ0_coder_7d493_6 : decode cJ0_coder_7d493 6 = .ok (.aload_n 0, 1) := by decide +kernel
theorem dJ0_coder_7d493_7 : decode cJ0_coder_7d493 7 = .ok (.getfield 15, 3) := by decide +kernel
theorem dJ0_coder_7d493_10 : decode cJ0_coder_7d493 10 = .ok (.goto 4, 3) := by decide +kernel
theorem dJ0_coder_7d493_13 : decode cJ0_coder_7d493 13 = .ok (.iconst 1, 1) := by decide +kernel
theorem dJ0_coder_7d493_14 : decode cJ0_coder_7d493 14 = .ok (.ireturn, 1) := by decide +kernel
theorem dJ0_isLatin1_aae02_0 : decode cJ0_isLatin1_aae02 0 = .ok (.getstatic 38, 3) := by decide +kernel
theorem dJ0_isLatin1_aae02_3 : decode cJ0_isLatin1_aae02 3 = .ok (.ifCond .eq 14, 3) := by decide +kernel
theorem dJ0_isLatin1_aae02_6 : decode cJ0_isLatin1_aae02 6 = .ok (.aload_n 0, 1) := by decide +kernel
theorem dJ0_isLatin1_aae02_7 : decode cJ0_isLatin1_aae02 7 = .ok (.getfield 15, 3) := by decide +kernel
theorem dJ0_isLatin1_aae02_10 : decode cJ0_isLatin1_aae02 10 = .ok (.ifCond .ne 7, 3) := by decide +kernel
theorem dJ0_isLatin1_aae02_13 : decode cJ0_isLatin1_aae02 13 = .ok (.iconst 1, 1) := by decide +kernel
theorem dJ0_isLatin1_aae02_14 : decode cJ0_isLatin1_aae02 14 = .ok (.goto 4, 3) := by decide +kernel
theorem dJ0_isLatin1_aae02_17 : decode cJ0_isLatin1_aae02 17 = .ok (.iconst 0, 1) := by decide +kernel
theorem dJ0_isLatin1_aae02_18 : decode cJ0_isLatin1_aae02 18 = .ok (.ireturn, 1) := by decide +kernel
set_option maxRecDepth 20000 in
theorem ggJ0_checkIndex_df160_J3_checkIndex_8e157 : GoodIn wsJ0_checkIndex_df160 wsJ3_checkIndex_8e157 := goodIn_r _ [5] (by decide +kernel) (by decide +kernel)
set_option maxRecDepth 20000 in
theorem gJ0_checkIndex_df160_J3_checkIndex_8e157 : GoodIn wsJ0_checkIndex_df160 (va_wsS RJ0 1059 yJ3_checkIndex_8e157 wsJ3_checkIndex_8e157) := goodIn_app (goodIn_of _ (by decide +kernel)) ggJ0_checkIndex_df160_J3_checkIndex_8e157
theorem dJ0_checkIndex_df160_0 : decode cJ0_checkIndex_df160 0 = .ok (.iload_n 0, 1) := by decide +kernel
theorem dJ0_checkIndex_df160_1 : decode cJ0_checkIndex_df160 1 = .ok (.iload_n 1, 1) := by decide +kernel
theorem dJ0_checkIndex_df160_2 : decode cJ0_checkIndex_df160 2 = .ok (.getstatic 1053, 3) := by decide +kernel
theorem dJ0_checkIndex_df160_5 : decode cJ0_checkIndex_df160 5 = .ok (.invokestatic 1059, 3) := by decide +kernel
theorem dJ0_checkIndex_df160_8 : decode cJ0_checkIndex_df160 8 = .ok (.pop, 1) := by decide +kernel
theorem dJ0_checkIndex_df160_9 : decode cJ0_checkIndex_df160 9 = .ok (.return_, 1) := by decide +kernel
set_option maxRecDepth 20000 in
theorem ggJ1_charAt_3b067_J0_checkIndex_df160 : GoodIn wsJ1_charAt_3b067 wsJ0_checkIndex_df160 := goodIn_r _ [4, 5, 6, 7, 8, 9] (by decide +kernel) (by decide +kernel)
set_option maxRecDepth 20000 in
theorem gJ1_charAt_3b067_J0_checkIndex_df160 : GoodIn wsJ1_charAt_3b067 (va_wsS RJ1 9 yJ0_checkIndex_df160 wsJ0_checkIndex_df160) := goodIn_app (goodIn_of _ (by decide +kernel)) ggJ1_charAt_3b067_J0_checkIndex_df160
theorem dJ1_charAt_3b067_0 : decode cJ1_charAt_3b067 0 = .ok (.iload_n 1, 1) := by decide +kernel
theorem dJ1_charAt_3b067_1 : decode cJ1_charAt_3b067 1 = .ok (.aload_n 0, 1) := by decide +kernel
theorem dJ1_charAt_3b067_2 : decode cJ1_charAt_3b067 2 = .ok (.arraylength, 1) := by decide +kernel
theorem dJ1_charAt_3b067_3 : decode cJ1_charAt_3b067 3 = .ok (.invokestatic 9, 3) := by decide +kernel
theorem dJ1_charAt_3b067_6 : decode cJ1_charAt_3b067 6 = .ok (.aload_n 0, 1) := by decide +kernel
theorem dJ1_charAt_3b067_7 : decode cJ1_charAt_3b067 7 = .ok (.iload_n 1, 1) := by decide +kernel
theorem dJ1_charAt_3b067_8 : decode cJ1_charAt_3b067 8 = .ok (.baload, 1) := by decide +kernel
theorem dJ1_charAt_3b067_9 : decode cJ1_charAt_3b067 9 = .ok (.sipush 255, 3) := by decide +kernel
theorem dJ1_charAt_3b067_12 : decode cJ1_charAt_3b067 12 = .ok (.iand, 1) := by decide +kernel
theorem dJ1_charAt_3b067_13 : decode cJ1_charAt_3b067 13 = .ok (.i2c, 1) := by decide +kernel
theorem dJ1_charAt_3b067_14 : decode cJ1_charAt_3b067 14 = .ok (.ireturn, 1) := by decide +kernel
set_option maxRecDepth 20000 in
theorem ggJ2_getChar_3b067_J2_length_9d52b : GoodIn wsJ2_getChar_3b067 wsJ2_length_9d52b := goodIn_r _ [7] (by decide +kernel) (by decide +kernel)
set_option maxRecDepth 20000 in
theorem gJ2_getChar_3b067_J2_length_9d52b : GoodIn wsJ2_getChar_3b067 (va_wsS RJ2 48 yJ2_length_9d52b wsJ2_length_9d52b) := goodIn_app (goodIn_of _ (by decide +kernel)) ggJ2_getChar_3b067_J2_length_9d52b
theorem dJ2_getChar_3b067_0 : decode cJ2_getChar_3b067 0 = .ok (.getstatic 44, 3) := by decide +kernel
theorem dJ2_getChar_3b067_3 : decode cJ2_getChar_3b067 3 = .ok (.ifCond .ne 25, 3) := by decide +kernel
theorem dJ2_getChar_3b067_6 : decode cJ2_getChar_3b067 6 = .ok (.iload_n 1, 1) := by decide +kernel
theorem dJ2_getChar_3b067_7 : decode cJ2_getChar_3b067 7 = .ok (.ifCond .lt 11, 3) := by decide +kernel
theorem dJ2_getChar_3b067_10 : decode cJ2_getChar_3b067 10 = .ok (.iload_n 1, 1) := by decide +kernel
theorem dJ2_getChar_3b067_11 : decode cJ2_getChar_3b067 11 = .ok (.aload_n 0, 1) := by decide +kernel
theorem dJ2_getChar_3b067_12 : decode cJ2_getChar_3b067 12 = .ok (.invokestatic 48, 3) := by decide +kernel
theorem dJ2_getChar_3b067_15 : decode cJ2_getChar_3b067 15 = .ok (.if_icmp .lt 13, 3) := by decide +kernel
theorem dJ2_getChar_3b067_18 : decode cJ2_getChar_3b067 18 = .ok (.new 52, 3) := by decide +kernel
theorem dJ2_getChar_3b067_21 : decode cJ2_getChar_3b067 21 = .ok (.dup, 1) := by decide +kernel
theorem dJ2_getChar_3b067_22 : decode cJ2_getChar_3b067 22 = .ok (.ldc 54, 2) := by decide +kernel
theorem dJ2_getChar_3b067_24 : decode cJ2_getChar_3b067 24 = .ok (.invokespecial 56, 3) := by decide +kernel
theorem dJ2_getChar_3b067_27 : decode cJ2_getChar_3b067 27 = .ok (.athrow, 1) := by decide +kernel
theorem dJ2_getChar_3b067_28 : decode cJ2_getChar_3b067 28 = .ok (.iload_n 1, 1) := by decide +kernel
theorem dJ2_getChar_3b067_29 : decode cJ2_getChar_3b067 29 = .ok (.iconst 1, 1) := by decide +kernel
theorem dJ2_getChar_3b067_30 : decode cJ2_getChar_3b067 30 = .ok (.ishl, 1) := by decide +kernel
theorem dJ2_getChar_3b067_31 : decode cJ2_getChar_3b067 31 = .ok (.istore_n 1, 1) := by decide +kernel
theorem dJ2_getChar_3b067_32 : decode cJ2_getChar_3b067 32 = .ok (.aload_n 0, 1) := by decide +kernel
theorem dJ2_getChar_3b067_33 : decode cJ2_getChar_3b067 33 = .ok (.iload_n 1, 1) := by decide +kernel
theorem dJ2_getChar_3b067_34 : decode cJ2_getChar_3b067 34 = .ok (.iinc 1 1, 3) := by decide +kernel
theorem dJ2_getChar_3b067_37 : decode cJ2_getChar_3b067 37 = .ok (.baload, 1) := by decide +kernel
theorem dJ2_getChar_3b067_38 : decode cJ2_getChar_3b067 38 = .ok (.sipush 255, 3) := by decide +kernel
theorem dJ2_getChar_3b067_41 : decode cJ2_getChar_3b067 41 = .ok (.iand, 1) := by decide +kernel
theorem dJ2_getChar_3b067_42 : decode cJ2_getChar_3b067 42 = .ok (.getstatic 59, 3) := by decide +kernel
theorem dJ2_getChar_3b067_45 : decode cJ2_getChar_3b067 45 = .ok (.ishl, 1) := by decide +kernel
theorem dJ2_getChar_3b067_46 : decode cJ2_getChar_3b067 46 = .ok (.aload_n 0, 1) := by decide +kernel
theorem dJ2_getChar_3b067_47 : decode cJ2_getChar_3b067 47 = .ok (.iload_n 1, 1) := by decide +kernel
theorem dJ2_getChar_3b067_48 : decode cJ2_getChar_3b067 48 = .ok (.baload, 1) := by decide +kernel
theorem dJ2_getChar_3b067_49 : decode cJ2_getChar_3b067 49 = .ok (.sipush 255, 3) := by decide +kernel
theorem dJ2_getChar_3b067_52 : decode cJ2_getChar_3b067 52 = .ok (.iand, 1) := by decide +kernel
theorem dJ2_getChar_3b067_53 : decode cJ2_getChar_3b067 53 = .ok (.getstatic 63, 3) := by decide +kernel
theorem dJ2_getChar_3b067_56 : decode cJ2_getChar_3b067 56 = .ok (.ishl, 1) := by decide +kernel
theorem dJ2_getChar_3b067_57 : decode cJ2_getChar_3b067 57 = .ok (.ior, 1) := by decide +kernel
theorem dJ2_getChar_3b067_58 : decode cJ2_getChar_3b067 58 = .ok (.i2c, 1) := by decide +kernel
theorem dJ2_getChar_3b067_59 : decode cJ2_getChar_3b067 59 = .ok (.ireturn, 1) := by decide +kernel
theorem dJ2_length_9d52b_0 : decode cJ2_length_9d52b 0 = .ok (.aload_n 0, 1) := by decide +kernel
theorem dJ2_length_9d52b_1 : decode cJ2_length_9d52b 1 = .ok (.arraylength, 1) := by decide +kernel
theorem dJ2_length_9d52b_2 : decode cJ2_length_9d52b 2 = .ok (.iconst 1, 1) := by decide +kernel
theorem dJ2_length_9d52b_3 : decode cJ2_length_9d52b 3 = .ok (.ishr, 1) := by decide +kernel
theorem dJ2_length_9d52b_4 : decode cJ2_length_9d52b 4 = .ok (.ireturn, 1) := by decide +kernel
set_option maxRecDepth 20000 in
theorem ggJ2_charAt_3b067_J2_checkIndex_2214a : GoodIn wsJ2_charAt_3b067 wsJ2_checkIndex_2214a := goodIn_r _ [4, 5, 6, 3, 7, 8, 9, 10, 11, 12, 13, 14, 15, 16] (by decide +kernel) (by decide +kernel)
set_option maxRecDepth 20000 in
theorem gJ2_charAt_3b067_J2_checkIndex_2214a : GoodIn wsJ2_charAt_3b067 (va_wsS RJ2 67 yJ2_checkIndex_2214a wsJ2_checkIndex_2214a) := goodIn_app (goodIn_of _ (by decide +kernel)) ggJ2_charAt_3b067_J2_checkIndex_2214a
set_option maxRecDepth 20000 in
theorem ggJ2_charAt_3b067_J2_getChar_3b067 : GoodIn wsJ2_charAt_3b067 wsJ2_getChar_3b067 := goodIn_r _ [19, 20, 21, 22, 5, 6, 3, 7] (by decide +kernel) (by decide +kernel)
set_option maxRecDepth 20000 in
theorem gJ2_charAt_3b067_J2_getChar_3b067 : GoodIn wsJ2_charAt_3b067 (va_wsS RJ2 71 yJ2_getChar_3b067 wsJ2_getChar_3b067) := goodIn_app (goodIn_of _ (by decide +kernel)) ggJ2_charAt_3b067_J2_getChar_3b067
theorem dJ2_charAt_3b067_0 : decode cJ2_charAt_3b067 0 = .ok (.iload_n 1, 1) := by decide +kernel
theorem dJ2_charAt_3b067_1 : decode cJ2_charAt_3b067 1 = .ok (.aload_n 0, 1) := by decide +kernel
theorem dJ2_charAt_3b067_2 : decode cJ2_charAt_3b067 2 = .ok (.invokestatic 67, 3) := by decide +kernel
theorem dJ2_charAt_3b067_5 : decode cJ2_charAt_3b067 5 = .ok (.aload_n 0, 1) := by decide +kernel
theorem dJ2_charAt_3b067_6 : decode cJ2_charAt_3b067 6 = .ok (.iload_n 1, 1) := by decide +kernel
theorem dJ2_charAt_3b067_7 : decode cJ2_charAt_3b067 7 = .ok (.invokestatic 71, 3) := by decide +kernel
theorem dJ2_charAt_3b067_10 : decode cJ2_charAt_3b067 10 = .ok (.ireturn, 1) := by decide +kernel
set_option maxRecDepth 20000 in
theorem ggJ2_checkIndex_2214a_J2_length_9d52b : GoodIn wsJ2_checkIndex_2214a wsJ2_length_9d52b := goodIn_r _ [4] (by decide +kernel) (by decide +kernel)
set_option maxRecDepth 20000 in
theorem gJ2_checkIndex_2214a_J2_length_9d52b : GoodIn wsJ2_checkIndex_2214a (va_wsS RJ2 48 yJ2_length_9d52b wsJ2_length_9d52b) := goodIn_app (goodIn_of _ (by decide +kernel)) ggJ2_checkIndex_2214a_J2_length_9d52b
set_option maxRecDepth 20000 in
theorem ggJ2_checkIndex_2214a_J0_checkIndex_df160 : GoodIn wsJ2_checkIndex_2214a wsJ0_checkIndex_df160 := goodIn_r _ [8, 9, 10, 11, 12, 13] (by decide +kernel) (by decide +kernel)
set_option maxRecDepth 20000 in
theorem gJ2_checkIndex_2214a_J0_checkIndex_df160 : GoodIn wsJ2_checkIndex_2214a (va_wsS RJ2 414 yJ0_checkIndex_df160 wsJ0_checkIndex_df160) := goodIn_app (goodIn_of _ (by decide +kernel)) ggJ2_checkIndex_2214a_J0_checkIndex_df160
theorem dJ2_checkIndex_2214a_0 : decode cJ2_checkIndex_2214a 0 = .ok (.iload_n 0, 1) := by decide +kernel
theorem dJ2_checkIndex_2214a_1 : decode cJ2_checkIndex_2214a 1 = .ok (.aload_n 1, 1) := by decide +kernel
theorem dJ2_checkIndex_2214a_2 : decode cJ2_checkIndex_2214a 2 = .ok (.invokestatic 48, 3) := by decide +kernel
theorem dJ2_checkIndex_2214a_5 : decode cJ2_checkIndex_2214a 5 = .ok (.invokestatic 414, 3) := by decide +kernel
theorem dJ2_checkIndex_2214a_8 : decode cJ2_checkIndex_2214a 8 = .ok (.return_, 1) := by decide +kernel
theorem dJ3_checkIndex_8e157_0 : decode cJ3_checkIndex_8e157 0 = .ok (.iload_n 0, 1) := by decide +kernel
theorem dJ3_checkIndex_8e157_1 : decode cJ3_checkIndex_8e157 1 = .ok (.ifCond .lt 8, 3) := by decide +kernel
theorem dJ3_checkIndex_8e157_4 : decode cJ3_checkIndex_8e157 4 = .ok (.iload_n 0, 1) := by decide +kernel
theorem dJ3_checkIndex_8e157_5 : decode cJ3_checkIndex_8e157 5 = .ok (.iload_n 1, 1) := by decide +kernel
theorem dJ3_checkIndex_8e157_6 : decode cJ3_checkIndex_8e157 6 = .ok (.if_icmp .lt 10, 3) := by decide +kernel
theorem dJ3_checkIndex_8e157_9 : decode cJ3_checkIndex_8e157 9 = .ok (.aload_n 2, 1) := by decide +kernel
theorem dJ3_checkIndex_8e157_10 : decode cJ3_checkIndex_8e157 10 = .ok (.iload_n 0, 1) := by decide +kernel
theorem dJ3_checkIndex_8e157_11 : decode cJ3_checkIndex_8e157 11 = .ok (.iload_n 1, 1) := by decide +kernel
theorem dJ3_checkIndex_8e157_12 : decode cJ3_checkIndex_8e157 12 = .ok (.invokestatic 95, 3) := by decide +kernel
theorem dJ3_checkIndex_8e157_15 : decode cJ3_checkIndex_8e157 15 = .ok (.athrow, 1) := by decide +kernel
theorem dJ3_checkIndex_8e157_16 : decode cJ3_checkIndex_8e157 16 = .ok (.iload_n 0, 1) := by decide +kernel
theorem dJ3_checkIndex_8e157_17 : decode cJ3_checkIndex_8e157 17 = .ok (.ireturn, 1) := by decide +kernel
