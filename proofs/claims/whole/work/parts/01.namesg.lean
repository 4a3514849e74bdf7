theorem dX11_token_15 : decode cX11_token 15 = .ok (.getfield 88, 3) := by decide +kernel
theorem dX11_token_18 : decode cX11_token 18 = .ok (.iconst 1, 1) := by decide +kernel
theorem dX11_token_19 : decode cX11_token 19 = .ok (.iadd, 1) := by decide +kernel
theorem dX11_token_20 : decode cX11_token 20 = .ok (.putfield 88, 3) := by decide +kernel
theorem dX11_token_23 : decode cX11_token 23 = .ok (.goto (-23), 3) := by decide +kernel
theorem dX11_token_26 : decode cX11_token 26 = .ok (.aload_n 0, 1) := by decide +kernel
theorem dX11_token_27 : decode cX11_token 27 = .ok (.aload_n 0, 1) := by decide +kernel
theorem dX11_token_28 : decode cX11_token 28 = .ok (.getfield 88, 3) := by decide +kernel
theorem dX11_token_31 : decode cX11_token 31 = .ok (.putfield 95, 3) := by decide +kernel
theorem dX11_token_34 : decode cX11_token 34 = .ok (.aload_n 0, 1) := by decide +kernel
theorem dX11_token_35 : decode cX11_token 35 = .ok (.aload_n 0, 1) := by decide +kernel
theorem dX11_token_36 : decode cX11_token 36 = .ok (.aload_n 0, 1) := by decide +kernel
theorem dX11_token_37 : decode cX11_token 37 = .ok (.getfield 88, 3) := by decide +kernel
theorem dX11_token_40 : decode cX11_token 40 = .ok (.invokevirtual 91, 3) := by decide +kernel
theorem dX11_token_43 : decode cX11_token 43 = .ok (.invokestatic 98, 3) := by decide +kernel
theorem dX11_token_46 : decode cX11_token 46 = .ok (.putfield 101, 3) := by decide +kernel
theorem dX11_token_49 : decode cX11_token 49 = .ok (.aload_n 0, 1) := by decide +kernel
theorem dX11_token_50 : decode cX11_token 50 = .ok (.iconst 0, 1) := by decide +kernel
theorem dX11_token_51 : decode cX11_token 51 = .ok (.putfield 104, 3) := by decide +kernel
theorem dX11_token_54 : decode cX11_token 54 = .ok (.aload_n 0, 1) := by decide +kernel
theorem dX11_token_55 : decode cX11_token 55 = .ok (.getfield 104, 3) := by decide +kernel
theorem dX11_token_58 : decode cX11_token 58 = .ok (.ifCond .ne 10, 3) := by decide +kernel
theorem dX11_token_61 : decode cX11_token 61 = .ok (.aload_n 0, 1) := by decide +kernel
theorem dX11_token_62 : decode cX11_token 62 = .ok (.getfield 101, 3) := by decide +kernel
theorem dX11_token_65 : decode cX11_token 65 = .ok (.ifCond .ne 37, 3) := by decide +kernel
theorem dX11_token_68 : decode cX11_token 68 = .ok (.aload_n 0, 1) := by decide +kernel
theorem dX11_token_69 : decode cX11_token 69 = .ok (.getfield 101, 3) := by decide +kernel
theorem dX11_token_72 : decode cX11_token 72 = .ok (.iconst 1, 1) := by decide +kernel
theorem dX11_token_73 : decode cX11_token 73 = .ok (.if_icmp .eq 11, 3) := by decide +kernel
theorem dX11_token_76 : decode cX11_token 76 = .ok (.aload_n 0, 1) := by decide +kernel
theorem dX11_token_77 : decode cX11_token 77 = .ok (.getfield 101, 3) := by decide +kernel
theorem dX11_token_80 : decode cX11_token 80 = .ok (.iconst 2, 1) := by decide +kernel
theorem dX11_token_81 : decode cX11_token 81 = .ok (.if_icmp .ne 44, 3) := by decide +kernel
theorem dX11_token_84 : decode cX11_token 84 = .ok (.aload_n 0, 1) := by decide +kernel
theorem dX11_token_85 : decode cX11_token 85 = .ok (.aload_n 0, 1) := by decide +kernel
theorem dX11_token_86 : decode cX11_token 86 = .ok (.getfield 88, 3) := by decide +kernel
theorem dX11_token_89 : decode cX11_token 89 = .ok (.invokevirtual 91, 3) := by decide +kernel
theorem dX11_token_92 : decode cX11_token 92 = .ok (.invokestatic 98, 3) := by decide +kernel
theorem dX11_token_95 : decode cX11_token 95 = .ok (.aload_n 0, 1) := by decide +kernel
theorem dX11_token_96 : decode cX11_token 96 = .ok (.getfield 101, 3) := by decide +kernel
theorem dX11_token_99 : decode cX11_token 99 = .ok (.if_icmp .ne 26, 3) := by decide +kernel
theorem dX11_token_102 : decode cX11_token 102 = .ok (.aload_n 0, 1) := by decide +kernel
theorem dX11_token_103 : decode cX11_token 103 = .ok (.dup, 1) := by decide +kernel
theorem dX11_token_104 : decode cX11_token 104 = .ok (.getfield 88, 3) := by decide +kernel
theorem dX11_token_107 : decode cX11_token 107 = .ok (.iconst 1, 1) := by decide +kernel
theorem dX11_token_108 : decode cX11_token 108 = .ok (.iadd, 1) := by decide +kernel
theorem dX11_token_109 : decode cX11_token 109 = .ok (.putfield 88, 3) := by decide +kernel
theorem dX11_token_112 : decode cX11_token 112 = .ok (.aload_n 0, 1) := by decide +kernel
theorem dX11_token_113 : decode cX11_token 113 = .ok (.dup, 1) := by decide +kernel
theorem dX11_token_114 : decode cX11_token 114 = .ok (.getfield 104, 3) := by decide +kernel
theorem dX11_token_117 : decode cX11_token 117 = .ok (.iconst 1, 1) := by decide +kernel
theorem dX11_token_118 : decode cX11_token 118 = .ok (.iadd, 1) := by decide +kernel
theorem dX11_token_119 : decode cX11_token 119 = .ok (.putfield 104, 3) := by decide +kernel
theorem dX11_token_122 : decode cX11_token 122 = .ok (.goto (-68), 3) := by decide +kernel
theorem dX11_token_125 : decode cX11_token 125 = .ok (.return_, 1) := by decide +kernel
set_option maxRecDepth 20000 in
theorem ggX11_letters_X11_byteAt : GoodIn wsX11_letters wsX11_byteAt := goodIn_r _ [9, 10, 11, 12, 13, 14, 15, 16, 17, 18, 19, 20, 21, 22, 23, 24, 25, 26, 27, 28, 29, 30, 31, 32, 33, 34, 35, 36, 37, 38, 39] (by decide +kernel) (by decide +kernel)
set_option maxRecDepth 20000 in
theorem gX11_letters_X11_byteAt : GoodIn wsX11_letters (wsV RX11 91 RX11 yX11_byteAt wsX11_byteAt) := goodIn_app (goodIn_of _ (by decide +kernel)) ggX11_letters_X11_byteAt
theorem dX11_letters_0 : decode cX11_letters 0 = .ok (.lconst 0, 1) := by decide +kernel
theorem dX11_letters_1 : decode cX11_letters 1 = .ok (.lstore_n 1, 1) := by decide +kernel
theorem dX11_letters_2 : decode cX11_letters 2 = .ok (.iconst 0, 1) := by decide +kernel
theorem dX11_letters_3 : decode cX11_letters 3 = .ok (.istore_n 3, 1) := by decide +kernel
theorem dX11_letters_4 : decode cX11_letters 4 = .ok (.iload_n 3, 1) := by decide +kernel
theorem dX11_letters_5 : decode cX11_letters 5 = .ok (.aload_n 0, 1) := by decide +kernel
theorem dX11_letters_6 : decode cX11_letters 6 = .ok (.getfield 104, 3) := by decide +kernel
theorem dX11_letters_9 : decode cX11_letters 9 = .ok (.if_icmp .ge 37, 3) := by decide +kernel
theorem dX11_letters_12 : decode cX11_letters 12 = .ok (.iload_n 3, 1) := by decide +kernel
theorem dX11_letters_13 : decode cX11_letters 13 = .ok (.bipush 7, 2) := by decide +kernel
theorem dX11_letters_15 : decode cX11_letters 15 = .ok (.if_icmp .ge 23, 3) := by decide +kernel
theorem dX11_letters_18 : decode cX11_letters 18 = .ok (.ldc2_w 107, 3) := by decide +kernel
theorem dX11_letters_21 : decode cX11_letters 21 = .ok (.lload_n 1, 1) := by decide +kernel
theorem dX11_letters_22 : decode cX11_letters 22 = .ok (.lmul, 1) := by decide +kernel
theorem dX11_letters_23 : decode cX11_letters 23 = .ok (.aload_n 0, 1) := by decide +kernel
theorem dX11_letters_24 : decode cX11_letters 24 = .ok (.aload_n 0, 1) := by decide +kernel
theorem dX11_letters_25 : decode cX11_letters 25 = .ok (.getfield 95, 3) := by decide +kernel
theorem dX11_letters_28 : decode cX11_letters 28 = .ok (.iload_n 3, 1) := by decide +kernel
theorem dX11_letters_29 : decode cX11_letters 29 = .ok (.iadd, 1) := by decide +kernel
theorem dX11_letters_30 : decode cX11_letters 30 = .ok (.invokevirtual 91, 3) := by decide +kernel
theorem dX11_letters_33 : decode cX11_letters 33 = .ok (.i2l, 1) := by decide +kernel
theorem dX11_letters_34 : decode cX11_letters 34 = .ok (.ladd, 1) := by decide +kernel
theorem dX11_letters_35 : decode cX11_letters 35 = .ok (.goto 4, 3) := by decide +kernel
theorem dX11_letters_38 : decode cX11_letters 38 = .ok (.lconst 0, 1) := by decide +kernel
theorem dX11_letters_39 : decode cX11_letters 39 = .ok (.lstore_n 1, 1) := by decide +kernel
theorem dX11_letters_40 : decode cX11_letters 40 = .ok (.iinc 3 1, 3) := by decide +kernel
theorem dX11_letters_43 : decode cX11_letters 43 = .ok (.goto (-39), 3) := by decide +kernel
theorem dX11_letters_46 : decode cX11_letters 46 = .ok (.aload_n 0, 1) := by decide +kernel
theorem dX11_letters_47 : decode cX11_letters 47 = .ok (.getfield 101, 3) := by decide +kernel
theorem dX11_letters_50 : decode cX11_letters 50 = .ok (.iconst 1, 1) := by decide +kernel
theorem dX11_letters_51 : decode cX11_letters 51 = .ok (.if_icmp .ne 16, 3) := by decide +kernel
theorem dX11_letters_54 : decode cX11_letters 54 = .ok (.aload_n 0, 1) := by decide +kernel
theorem dX11_letters_55 : decode cX11_letters 55 = .ok (.getfield 104, 3) := by decide +kernel
theorem dX11_letters_58 : decode cX11_letters 58 = .ok (.bipush 8, 2) := by decide +kernel
theorem dX11_letters_60 : decode cX11_letters 60 = .ok (.if_icmp .ge 7, 3) := by decide +kernel
theorem dX11_letters_63 : decode cX11_letters 63 = .ok (.lload_n 1, 1) := by decide +kernel
theorem dX11_letters_64 : decode cX11_letters 64 = .ok (.goto 4, 3) := by decide +kernel
theorem dX11_letters_67 : decode cX11_letters 67 = .ok (.lconst 0, 1) := by decide +kernel
theorem dX11_letters_68 : decode cX11_letters 68 = .ok (.lreturn, 1) := by decide +kernel
set_option maxRecDepth 20000 in
theorem ggX11_kind_X11_letters : GoodIn wsX11_kind wsX11_letters := goodIn_r _ [13, 14, 15, 16, 17, 18, 19, 20, 12, 21, 22, 23, 24, 25, 26, 27, 28, 29, 30, 31, 32, 33, 34, 35, 36, 37, 38, 39, 40, 41, 42, 43, 44, 45, 46, 47, 48, 49, 50, 51] (by decide +kernel) (by decide +kernel)
set_option maxRecDepth 20000 in
theorem gX11_kind_X11_letters : GoodIn wsX11_kind (wsV RX11 109 RX11 yX11_letters wsX11_letters) := goodIn_app (goodIn_of _ (by decide +kernel)) ggX11_kind_X11_letters
theorem dX11_kind_0 : decode cX11_kind 0 = .ok (.aload_n 0, 1) := by decide +kernel
theorem dX11_kind_1 : decode cX11_kind 1 = .ok (.invokevirtual 109, 3) := by decide +kernel
theorem dX11_kind_4 : decode cX11_kind 4 = .ok (.lstore_n 1, 1) := by decide +kernel
theorem dX11_kind_5 : decode cX11_kind 5 = .ok (.lload_n 1, 1) := by decide +kernel
theorem dX11_kind_6 : decode cX11_kind 6 = .ok (.ldc2_w 113, 3) := by decide +kernel
theorem dX11_kind_9 : decode cX11_kind 9 = .ok (.lcmp, 1) := by decide +kernel
theorem dX11_kind_10 : decode cX11_kind 10 = .ok (.ifCond .ne 7, 3) := by decide +kernel
theorem dX11_kind_13 : decode cX11_kind 13 = .ok (.iconst 0, 1) := by decide +kernel
theorem dX11_kind_14 : decode cX11_kind 14 = .ok (.goto 40, 3) := by decide +kernel
theorem dX11_kind_17 : decode cX11_kind 17 = .ok (.lload_n 1, 1) := by decide +kernel
theorem dX11_kind_18 : decode cX11_kind 18 = .ok (.ldc2_w 115, 3) := by decide +kernel
theorem dX11_kind_21 : decode cX11_kind 21 = .ok (.lcmp, 1) := by decide +kernel
theorem dX11_kind_22 : decode cX11_kind 22 = .ok (.ifCond .ne 7, 3) := by decide +kernel
theorem dX11_kind_25 : decode cX11_kind 25 = .ok (.iconst 1, 1) := by decide +kernel
theorem dX11_kind_26 : decode cX11_kind 26 = .ok (.goto 28, 3) := by decide +kernel
theorem dX11_kind_29 : decode cX11_kind 29 = .ok (.lload_n 1, 1) := by decide +kernel
theorem dX11_kind_30 : decode cX11_kind 30 = .ok (.ldc2_w 117, 3) := by decide +kernel
theorem dX11_kind_33 : decode cX11_kind 33 = .ok (.lcmp, 1) := by decide +kernel
theorem dX11_kind_34 : decode cX11_kind 34 = .ok (.ifCond .ne 7, 3) := by decide +kernel
theorem dX11_kind_37 : decode cX11_kind 37 = .ok (.iconst 2, 1) := by decide +kernel
theorem dX11_kind_38 : decode cX11_kind 38 = .ok (.goto 16, 3) := by decide +kernel
theorem dX11_kind_41 : decode cX11_kind 41 = .ok (.lload_n 1, 1) := by decide +kernel
theorem dX11_kind_42 : decode cX11_kind 42 = .ok (.ldc2_w 119, 3) := by decide +kernel
theorem dX11_kind_45 : decode cX11_kind 45 = .ok (.lcmp, 1) := by decide +kernel
theorem dX11_kind_46 : decode cX11_kind 46 = .ok (.ifCond .ne 7, 3) := by decide +kernel
theorem dX11_kind_49 : decode cX11_kind 49 = .ok (.iconst 3, 1) := by decide +kernel
theorem dX11_kind_50 : decode cX11_kind 50 = .ok (.goto 4, 3) := by decide +kernel
theorem dX11_kind_53 : decode cX11_kind 53 = .ok (.iconst (-1), 1) := by decide +kernel
theorem dX11_kind_54 : decode cX11_kind 54 = .ok (.istore_n 3, 1) := by decide +kernel
theorem dX11_kind_55 : decode cX11_kind 55 = .ok (.iload_n 3, 1) := by decide +kernel
theorem dX11_kind_56 : decode cX11_kind 56 = .ok (.iconst (-1), 1) := by decide +kernel
theorem dX11_kind_57 : decode cX11_kind 57 = .ok (.if_icmp .eq 7, 3) := by decide +kernel
theorem dX11_kind_60 : decode cX11_kind 60 = .ok (.iload_n 3, 1) := by decide +kernel
theorem dX11_kind_61 : decode cX11_kind 61 = .ok (.goto 54, 3) := by decide +kernel
theorem dX11_kind_64 : decode cX11_kind 64 = .ok (.lload_n 1, 1) := by decide +kernel
theorem dX11_kind_65 : decode cX11_kind 65 = .ok (.ldc2_w 121, 3) := by decide +kernel
theorem dX11_kind_68 : decode cX11_kind 68 = .ok (.lcmp, 1) := by decide +kernel
theorem dX11_kind_69 : decode cX11_kind 69 = .ok (.ifCond .ne 7, 3) := by decide +kernel
theorem dX11_kind_72 : decode cX11_kind 72 = .ok (.iconst 4, 1) := by decide +kernel
theorem dX11_kind_73 : decode cX11_kind 73 = .ok (.goto 42, 3) := by decide +kernel
theorem dX11_kind_76 : decode cX11_kind 76 = .ok (.lload_n 1, 1) := by decide +kernel
theorem dX11_kind_77 : decode cX11_kind 77 = .ok (.ldc2_w 123, 3) := by decide +kernel
theorem dX11_kind_80 : decode cX11_kind 80 = .ok (.lcmp, 1) := by decide +kernel
theorem dX11_kind_81 : decode cX11_kind 81 = .ok (.ifCond .ne 7, 3) := by decide +kernel
theorem dX11_kind_84 : decode cX11_kind 84 = .ok (.iconst 5, 1) := by decide +kernel
theorem dX11_kind_85 : decode cX11_kind 85 = .ok (.goto 30, 3) := by decide +kernel
theorem dX11_kind_88 : decode cX11_kind 88 = .ok (.lload_n 1, 1) := by decide +kernel
theorem dX11_kind_89 : decode cX11_kind 89 = .ok (.ldc2_w 125, 3) := by decide +kernel
theorem dX11_kind_92 : decode cX11_kind 92 = .ok (.lcmp, 1) := by decide +kernel
theorem dX11_kind_93 : decode cX11_kind 93 = .ok (.ifCond .ne 8, 3) := by decide +kernel
theorem dX11_kind_96 : decode cX11_kind 96 = .ok (.bipush 6, 2) := by decide +kernel
theorem dX11_kind_98 : decode cX11_kind 98 = .ok (.goto 17, 3) := by decide +kernel
theorem dX11_kind_101 : decode cX11_kind 101 = .ok (.lload_n 1, 1) := by decide +kernel
theorem dX11_kind_102 : decode cX11_kind 102 = .ok (.ldc2_w 127, 3) := by decide +kernel
theorem dX11_kind_105 : decode cX11_kind 105 = .ok (.lcmp, 1) := by decide +kernel
theorem dX11_kind_106 : decode cX11_kind 106 = .ok (.ifCond .ne 8, 3) := by decide +kernel
theorem dX11_kind_109 : decode cX11_kind 109 = .ok (.bipush 7, 2) := by decide +kernel
theorem dX11_kind_111 : decode cX11_kind 111 = .ok (.goto 4, 3) := by decide +kernel
theorem dX11_kind_114 : decode cX11_kind 114 = .ok (.iconst (-1), 1) := by decide +kernel
theorem dX11_kind_115 : decode cX11_kind 115 = .ok (.ireturn, 1) := by decide +kernel
set_option maxRecDepth 20000 in
theorem ggX11_figure_X11_byteAt : GoodIn wsX11_figure wsX11_byteAt := goodIn_r _ [8, 9, 10, 14, 15, 16, 17, 18, 19, 20, 21, 22, 23, 24, 25, 26, 27, 28, 29, 30, 31, 32, 33, 34, 35, 36, 37, 38, 39, 40, 41] (by decide +kernel) (by decide +kernel)
set_option maxRecDepth 20000 in
theorem gX11_figure_X11_byteAt : GoodIn wsX11_figure (wsV RX11 91 RX11 yX11_byteAt wsX11_byteAt) := goodIn_app (goodIn_of _ (by decide +kernel)) ggX11_figure_X11_byteAt
set_option maxRecDepth 20000 in
theorem ggX11_figure_X11_in : GoodIn wsX11_figure wsX11_in := goodIn_r _ [13] (by decide +kernel) (by decide +kernel)
set_option maxRecDepth 20000 in
theorem gX11_figure_X11_in : GoodIn wsX11_figure (va_wsS RX11 70 yX11_in wsX11_in) := goodIn_app (goodIn_of _ (by decide +kernel)) ggX11_figure_X11_in
theorem dX11_figure_0 : decode cX11_figure 0 = .ok (.aload_n 0, 1) := by decide +kernel
theorem dX11_figure_1 : decode cX11_figure 1 = .ok (.aload_n 0, 1) := by decide +kernel
theorem dX11_figure_2 : decode cX11_figure 2 = .ok (.getfield 95, 3) := by decide +kernel
theorem dX11_figure_5 : decode cX11_figure 5 = .ok (.invokevirtual 91, 3) := by decide +kernel
theorem dX11_figure_8 : decode cX11_figure 8 = .ok (.bipush 48, 2) := by decide +kernel
theorem dX11_figure_10 : decode cX11_figure 10 = .ok (.isub, 1) := by decide +kernel
theorem dX11_figure_11 : decode cX11_figure 11 = .ok (.istore_n 3, 1) := by decide +kernel
theorem dX11_figure_12 : decode cX11_figure 12 = .ok (.aload_n 0, 1) := by decide +kernel
theorem dX11_figure_13 : decode cX11_figure 13 = .ok (.getfield 101, 3) := by decide +kernel
theorem dX11_figure_16 : decode cX11_figure 16 = .ok (.iconst 2, 1) := by decide +kernel
theorem dX11_figure_17 : decode cX11_figure 17 = .ok (.if_icmp .ne 24, 3) := by decide +kernel
theorem dX11_figure_20 : decode cX11_figure 20 = .ok (.aload_n 0, 1) := by decide +kernel
theorem dX11_figure_21 : decode cX11_figure 21 = .ok (.getfield 104, 3) := by decide +kernel
theorem dX11_figure_24 : decode cX11_figure 24 = .ok (.iconst 1, 1) := by decide +kernel
theorem dX11_figure_25 : decode cX11_figure 25 = .ok (.if_icmp .ne 16, 3) := by decide +kernel
theorem dX11_figure_28 : decode cX11_figure 28 = .ok (.iload_n 3, 1) := by decide +kernel
theorem dX11_figure_29 : decode cX11_figure 29 = .ok (.iload_n 1, 1) := by decide +kernel
theorem dX11_figure_30 : decode cX11_figure 30 = .ok (.iload_n 2, 1) := by decide +kernel
theorem dX11_figure_31 : decode cX11_figure 31 = .ok (.invokestatic 70, 3) := by decide +kernel
theorem dX11_figure_34 : decode cX11_figure 34 = .ok (.ifCond .eq 7, 3) := by decide +kernel
theorem dX11_figure_37 : decode cX11_figure 37 = .ok (.iload_n 3, 1) := by decide +kernel
theorem dX11_figure_38 : decode cX11_figure 38 = .ok (.goto 4, 3) := by decide +kernel
theorem dX11_figure_41 : decode cX11_figure 41 = .ok (.iconst (-1), 1) := by decide +kernel
theorem dX11_figure_42 : decode cX11_figure 42 = .ok (.ireturn, 1) := by decide +kernel
set_option maxRecDepth 20000 in
theorem ggX11_nextFigure_X11_token : GoodIn wsX11_nextFigure wsX11_token := goodIn_r _ [5, 6, 7, 8, 9, 10, 11, 12, 4, 13, 14, 15, 16, 17, 18, 19, 20, 21, 26, 27, 28, 29, 30, 31, 32, 33, 34, 35, 36, 37, 38, 39, 40, 41, 42, 43, 44, 45, 46, 47, 48, 49, 50, 51, 52, 53] (by decide +kernel) (by decide +kernel)
set_option maxRecDepth 20000 in
theorem gX11_nextFigure_X11_token : GoodIn wsX11_nextFigure (wsV RX11 129 RX11 yX11_token wsX11_token) := goodIn_app (goodIn_of _ (by decide +kernel)) ggX11_nextFigure_X11_token
set_option maxRecDepth 20000 in
theorem ggX11_nextFigure_X11_figure : GoodIn wsX11_nextFigure wsX11_figure := goodIn_r _ [25, 7, 8, 9, 10, 11, 12, 4, 13, 14, 15, 19, 20, 21, 26, 27, 28, 29, 30, 31, 32, 33, 34, 35, 36, 37, 38, 39, 40, 41, 42, 43, 44, 45, 46, 47, 48, 49, 50, 51, 52, 53] (by decide +kernel) (by decide +kernel)
set_option maxRecDepth 20000 in
theorem gX11_nextFigure_X11_figure : GoodIn wsX11_nextFigure (wsV RX11 132 RX11 yX11_figure wsX11_figure) := goodIn_app (goodIn_of _ (by decide +kernel)) ggX11_nextFigure_X11_figure
theorem dX11_nextFigure_0 : decode cX11_nextFigure 0 = .ok (.aload_n 0, 1) := by decide +kernel
theorem dX11_nextFigure_1 : decode cX11_nextFigure 1 = .ok (.invokevirtual 129, 3) := by decide +kernel
theorem dX11_nextFigure_4 : decode cX11_nextFigure 4 = .ok (.aload_n 0, 1) := by decide +kernel
theorem dX11_nextFigure_5 : decode cX11_nextFigure 5 = .ok (.iload_n 1, 1) := by decide +kernel
theorem dX11_nextFigure_6 : decode cX11_nextFigure 6 = .ok (.iload_n 2, 1) := by decide +kernel
theorem dX11_nextFigure_7 : decode cX11_nextFigure 7 = .ok (.invokevirtual 132, 3) := by decide +kernel
theorem dX11_nextFigure_10 : decode cX11_nextFigure 10 = .ok (.ireturn, 1) := by decide +kernel
set_option maxRecDepth 20000 in
theorem ggX11_readsSaying_X11_figure : GoodIn wsX11_readsSaying wsX11_figure := goodIn_r _ [7, 8, 9, 10, 11, 12, 13, 6, 14, 15, 16, 17, 18, 19, 49, 50, 51, 52, 53, 54, 55, 56, 57, 58, 59, 60, 61, 62, 63, 64, 65, 66, 67, 68, 69, 70, 71, 72, 73, 74, 75, 76] (by decide +kernel) (by decide +kernel)
set_option maxRecDepth 20000 in
theorem gX11_readsSaying_X11_figure : GoodIn wsX11_readsSaying (wsV RX11 132 RX11 yX11_figure wsX11_figure) := goodIn_app (goodIn_of _ (by decide +kernel)) ggX11_readsSaying_X11_figure
set_option maxRecDepth 20000 in
theorem ggX11_readsSaying_X11_token : GoodIn wsX11_readsSaying wsX11_token := goodIn_r _ [23, 24, 8, 9, 10, 11, 12, 13, 6, 14, 15, 16, 25, 26, 27, 17, 18, 19, 49, 50, 51, 52, 53, 54, 55, 56, 57, 58, 59, 60, 61, 62, 63, 64, 65, 66, 67, 68, 69, 70, 71, 72, 73, 74, 75, 76] (by decide +kernel) (by decide +kernel)
set_option maxRecDepth 20000 in
theorem gX11_readsSaying_X11_token : GoodIn wsX11_readsSaying (wsV RX11 129 RX11 yX11_token wsX11_token) := goodIn_app (goodIn_of _ (by decide +kernel)) ggX11_readsSaying_X11_token
set_option maxRecDepth 20000 in
theorem ggX11_readsSaying_X11_kind : GoodIn wsX11_readsSaying wsX11_kind := goodIn_r _ [31, 32, 33, 34, 35, 36, 37, 38, 39, 40, 41, 42, 6, 43, 10, 44, 8, 9, 11, 12, 13, 14, 15, 16, 49, 50, 51, 52, 53, 54, 55, 56, 57, 58, 59, 60, 61, 62, 63, 64, 65, 66, 67, 68, 69, 70, 71, 72, 73, 74, 75, 76] (by decide +kernel) (by decide +kernel)
set_option maxRecDepth 20000 in
theorem gX11_readsSaying_X11_kind : GoodIn wsX11_readsSaying (wsV RX11 135 RX11 yX11_kind wsX11_kind) := goodIn_app (goodIn_of _ (by decide +kernel)) ggX11_readsSaying_X11_kind
set_option maxRecDepth 20000 in
theorem ggX11_readsSaying_X11_nextFigure : GoodIn wsX11_readsSaying wsX11_nextFigure := goodIn_r _ [48, 20, 21, 22, 6, 23, 24, 8, 9, 10, 11, 12, 13, 14, 15, 16, 25, 26, 27, 17, 18, 19, 3, 4, 5, 7, 49, 50, 51, 52, 53, 54, 55, 56, 57, 58, 59, 60, 61, 62, 63, 64, 65, 66, 67, 68, 69, 70, 71, 72, 73, 74, 75, 76] (by decide +kernel) (by decide +kernel)
set_option maxRecDepth 20000 in
theorem gX11_readsSaying_X11_nextFigure : GoodIn wsX11_readsSaying (wsV RX11 138 RX11 yX11_nextFigure wsX11_nextFigure) := goodIn_app (goodIn_of _ (by decide +kernel)) ggX11_readsSaying_X11_nextFigure
set_option maxRecDepth 20000 in
theorem ggX11_readsSaying_X11_letters : GoodIn wsX11_readsSaying wsX11_letters := goodIn_r _ [43, 10, 44, 8, 9, 11, 12, 13, 6, 14, 15, 16, 49, 50, 51, 52, 53, 54, 55, 56, 57, 58, 59, 60, 61, 62, 63, 64, 65, 66, 67, 68, 69, 70, 71, 72, 73, 74, 75, 76] (by decide +kernel) (by decide +kernel)
set_option maxRecDepth 20000 in
theorem gX11_readsSaying_X11_letters : GoodIn wsX11_readsSaying (wsV RX11 109 RX11 yX11_letters wsX11_letters) := goodIn_app (goodIn_of _ (by decide +kernel)) ggX11_readsSaying_X11_letters
theorem dX11_readsSaying_0 : decode cX11_readsSaying 0 = .ok (.aload_n 0, 1) := by decide +kernel
theorem dX11_readsSaying_1 : decode cX11_readsSaying 1 = .ok (.getfield 13, 3) := by decide +kernel
theorem dX11_readsSaying_4 : decode cX11_readsSaying 4 = .ok (.iconst 1, 1) := by decide +kernel
theorem dX11_readsSaying_5 : decode cX11_readsSaying 5 = .ok (.iaload, 1) := by decide +kernel
theorem dX11_readsSaying_6 : decode cX11_readsSaying 6 = .ok (.istore_n 1, 1) := by decide +kernel
theorem dX11_readsSaying_7 : decode cX11_readsSaying 7 = .ok (.aload_n 0, 1) := by decide +kernel
theorem dX11_readsSaying_8 : decode cX11_readsSaying 8 = .ok (.iconst 0, 1) := by decide +kernel
theorem dX11_readsSaying_9 : decode cX11_readsSaying 9 = .ok (.aload_n 0, 1) := by decide +kernel
theorem dX11_readsSaying_10 : decode cX11_readsSaying 10 = .ok (.getfield 13, 3) := by decide +kernel
theorem dX11_readsSaying_13 : decode cX11_readsSaying 13 = .ok (.iconst 0, 1) := by decide +kernel
theorem dX11_readsSaying_14 : decode cX11_readsSaying 14 = .ok (.iaload, 1) := by decide +kernel
theorem dX11_readsSaying_15 : decode cX11_readsSaying 15 = .ok (.iconst 1, 1) := by decide +kernel
theorem dX11_readsSaying_16 : decode cX11_readsSaying 16 = .ok (.isub, 1) := by decide +kernel
theorem dX11_readsSaying_17 : decode cX11_readsSaying 17 = .ok (.invokevirtual 132, 3) := by decide +kernel
theorem dX11_readsSaying_20 : decode cX11_readsSaying 20 = .ok (.istore_n 2, 1) := by decide +kernel
theorem dX11_readsSaying_21 : decode cX11_readsSaying 21 = .ok (.iload_n 1, 1) := by decide +kernel
theorem dX11_readsSaying_22 : decode cX11_readsSaying 22 = .ok (.bipush 8, 2) := by decide +kernel
theorem dX11_readsSaying_24 : decode cX11_readsSaying 24 = .ok (.if_icmp .eq 8, 3) := by decide +kernel
theorem dX11_readsSaying_27 : decode cX11_readsSaying 27 = .ok (.iload_n 2, 1) := by decide +kernel
theorem dX11_readsSaying_28 : decode cX11_readsSaying 28 = .ok (.iconst (-1), 1) := by decide +kernel
theorem dX11_readsSaying_29 : decode cX11_readsSaying 29 = .ok (.if_icmp .ne 5, 3) := by decide +kernel
theorem dX11_readsSaying_32 : decode cX11_readsSaying 32 = .ok (.iconst 0, 1) := by decide +kernel
theorem dX11_readsSaying_33 : decode cX11_readsSaying 33 = .ok (.ireturn, 1) := by decide +kernel
theorem dX11_readsSaying_34 : decode cX11_readsSaying 34 = .ok (.aload_n 0, 1) := by decide +kernel
theorem dX11_readsSaying_35 : decode cX11_readsSaying 35 = .ok (.invokevirtual 129, 3) := by decide +kernel
theorem dX11_readsSaying_38 : decode cX11_readsSaying 38 = .ok (.aload_n 0, 1) := by decide +kernel
theorem dX11_readsSaying_39 : decode cX11_readsSaying 39 = .ok (.invokevirtual 135, 3) := by decide +kernel
theorem dX11_readsSaying_42 : decode cX11_readsSaying 42 = .ok (.istore_n 3, 1) := by decide +kernel
theorem dX11_readsSaying_43 : decode cX11_readsSaying 43 = .ok (.iload_n 3, 1) := by decide +kernel
theorem dX11_readsSaying_44 : decode cX11_readsSaying 44 = .ok (.iconst (-1), 1) := by decide +kernel
theorem dX11_readsSaying_45 : decode cX11_readsSaying 45 = .ok (.if_icmp .ne 5, 3) := by decide +kernel
theorem dX11_readsSaying_48 : decode cX11_readsSaying 48 = .ok (.iconst 0, 1) := by decide +kernel
theorem dX11_readsSaying_49 : decode cX11_readsSaying 49 = .ok (.ireturn, 1) := by decide +kernel
theorem dX11_readsSaying_50 : decode cX11_readsSaying 50 = .ok (.aload_n 0, 1) := by decide +kernel
theorem dX11_readsSaying_51 : decode cX11_readsSaying 51 = .ok (.iconst 0, 1) := by decide +kernel
theorem dX11_readsSaying_52 : decode cX11_readsSaying 52 = .ok (.aload_n 0, 1) := by decide +kernel
theorem dX11_readsSaying_53 : decode cX11_readsSaying 53 = .ok (.getfield 13, 3) := by decide +kernel
theorem dX11_readsSaying_56 : decode cX11_readsSaying 56 = .ok (.iconst 0, 1) := by decide +kernel
theorem dX11_readsSaying_57 : decode cX11_readsSaying 57 = .ok (.iaload, 1) := by decide +kernel
theorem dX11_readsSaying_58 : decode cX11_readsSaying 58 = .ok (.iconst 1, 1) := by decide +kernel
theorem dX11_readsSaying_59 : decode cX11_readsSaying 59 = .ok (.isub, 1) := by decide +kernel
theorem dX11_readsSaying_60 : decode cX11_readsSaying 60 = .ok (.invokevirtual 138, 3) := by decide +kernel
theorem dX11_readsSaying_63 : decode cX11_readsSaying 63 = .ok (.istore 4, 2) := by decide +kernel
theorem dX11_readsSaying_65 : decode cX11_readsSaying 65 = .ok (.iload 4, 2) := by decide +kernel
theorem dX11_readsSaying_67 : decode cX11_readsSaying 67 = .ok (.iconst (-1), 1) := by decide +kernel
theorem dX11_readsSaying_68 : decode cX11_readsSaying 68 = .ok (.if_icmp .eq 9, 3) := by decide +kernel
theorem dX11_readsSaying_71 : decode cX11_readsSaying 71 = .ok (.iload_n 2, 1) := by decide +kernel
theorem dX11_readsSaying_72 : decode cX11_readsSaying 72 = .ok (.iload 4, 2) := by decide +kernel
theorem dX11_readsSaying_74 : decode cX11_readsSaying 74 = .ok (.if_icmp .ne 5, 3) := by decide +kernel
theorem dX11_readsSaying_77 : decode cX11_readsSaying 77 = .ok (.iconst 0, 1) := by decide +kernel
theorem dX11_readsSaying_78 : decode cX11_readsSaying 78 = .ok (.ireturn, 1) := by decide +kernel
theorem dX11_readsSaying_79 : decode cX11_readsSaying 79 = .ok (.aload_n 0, 1) := by decide +kernel
theorem dX11_readsSaying_80 : decode cX11_readsSaying 80 = .ok (.invokevirtual 129, 3) := by decide +kernel
theorem dX11_readsSaying_83 : decode cX11_readsSaying 83 = .ok (.iconst 0, 1) := by decide +kernel
theorem dX11_readsSaying_84 : decode cX11_readsSaying 84 = .ok (.istore 5, 2) := by decide +kernel
theorem dX11_readsSaying_86 : decode cX11_readsSaying 86 = .ok (.aload_n 0, 1) := by decide +kernel
theorem dX11_readsSaying_87 : decode cX11_readsSaying 87 = .ok (.invokevirtual 109, 3) := by decide +kernel
theorem dX11_readsSaying_90 : decode cX11_readsSaying 90 = .ok (.ldc2_w 141, 3) := by decide +kernel
theorem dX11_readsSaying_93 : decode cX11_readsSaying 93 = .ok (.lcmp, 1) := by decide +kernel
theorem dX11_readsSaying_94 : decode cX11_readsSaying 94 = .ok (.ifCond .ne 23, 3) := by decide +kernel
theorem dX11_readsSaying_97 : decode cX11_readsSaying 97 = .ok (.aload_n 0, 1) := by decide +kernel
theorem dX11_readsSaying_98 : decode cX11_readsSaying 98 = .ok (.iconst 0, 1) := by decide +kernel
theorem dX11_readsSaying_99 : decode cX11_readsSaying 99 = .ok (.iconst 3, 1) := by decide +kernel
theorem dX11_readsSaying_100 : decode cX11_readsSaying 100 = .ok (.invokevirtual 138, 3) := by decide +kernel
theorem dX11_readsSaying_103 : decode cX11_readsSaying 103 = .ok (.istore 5, 2) := by decide +kernel
theorem dX11_readsSaying_105 : decode cX11_readsSaying 105 = .ok (.iload 5, 2) := by decide +kernel
theorem dX11_readsSaying_107 : decode cX11_readsSaying 107 = .ok (.iconst (-1), 1) := by decide +kernel
theorem dX11_readsSaying_108 : decode cX11_readsSaying 108 = .ok (.if_icmp .ne 5, 3) := by decide +kernel
theorem dX11_readsSaying_111 : decode cX11_readsSaying 111 = .ok (.iconst 0, 1) := by decide +kernel
theorem dX11_readsSaying_112 : decode cX11_readsSaying 112 = .ok (.ireturn, 1) := by decide +kernel
theorem dX11_readsSaying_113 : decode cX11_readsSaying 113 = .ok (.aload_n 0, 1) := by decide +kernel
theorem dX11_readsSaying_114 : decode cX11_readsSaying 114 = .ok (.invokevirtual 129, 3) := by decide +kernel
theorem dX11_readsSaying_117 : decode cX11_readsSaying 117 = .ok (.aload_n 0, 1) := by decide +kernel
theorem dX11_readsSaying_118 : decode cX11_readsSaying 118 = .ok (.getfield 13, 3) := by decide +kernel
theorem dX11_readsSaying_121 : decode cX11_readsSaying 121 = .ok (.bipush 14, 2) := by decide +kernel
theorem dX11_readsSaying_123 : decode cX11_readsSaying 123 = .ok (.iload_n 1, 1) := by decide +kernel
theorem dX11_readsSaying_124 : decode cX11_readsSaying 124 = .ok (.iadd, 1) := by decide +kernel
theorem dX11_readsSaying_125 : decode cX11_readsSaying 125 = .ok (.iload_n 3, 1) := by decide +kernel
theorem dX11_readsSaying_126 : decode cX11_readsSaying 126 = .ok (.iastore, 1) := by decide +kernel
theorem dX11_readsSaying_127 : decode cX11_readsSaying 127 = .ok (.aload_n 0, 1) := by decide +kernel
theorem dX11_readsSaying_128 : decode cX11_readsSaying 128 = .ok (.getfield 13, 3) := by decide +kernel
theorem dX11_readsSaying_131 : decode cX11_readsSaying 131 = .ok (.bipush 22, 2) := by decide +kernel
theorem dX11_readsSaying_133 : decode cX11_readsSaying 133 = .ok (.iload_n 1, 1) := by decide +kernel
theorem dX11_readsSaying_134 : decode cX11_readsSaying 134 = .ok (.iadd, 1) := by decide +kernel
theorem dX11_readsSaying_135 : decode cX11_readsSaying 135 = .ok (.iload_n 2, 1) := by decide +kernel
theorem dX11_readsSaying_136 : decode cX11_readsSaying 136 = .ok (.iastore, 1) := by decide +kernel
theorem dX11_readsSaying_137 : decode cX11_readsSaying 137 = .ok (.aload_n 0, 1) := by decide +kernel
theorem dX11_readsSaying_138 : decode cX11_readsSaying 138 = .ok (.getfield 13, 3) := by decide +kernel
theorem dX11_readsSaying_141 : decode cX11_readsSaying 141 = .ok (.bipush 30, 2) := by decide +kernel
theorem dX11_readsSaying_143 : decode cX11_readsSaying 143 = .ok (.iload_n 1, 1) := by decide +kernel
theorem dX11_readsSaying_144 : decode cX11_readsSaying 144 = .ok (.iadd, 1) := by decide +kernel
theorem dX11_readsSaying_145 : decode cX11_readsSaying 145 = .ok (.iload 4, 2) := by decide +kernel
theorem dX11_readsSaying_147 : decode cX11_readsSaying 147 = .ok (.iastore, 1) := by decide +kernel
theorem dX11_readsSaying_148 : decode cX11_readsSaying 148 = .ok (.aload_n 0, 1) := by decide +kernel
theorem dX11_readsSaying_149 : decode cX11_readsSaying 149 = .ok (.getfield 13, 3) := by decide +kernel
theorem dX11_readsSaying_152 : decode cX11_readsSaying 152 = .ok (.bipush 38, 2) := by decide +kernel
theorem dX11_readsSaying_154 : decode cX11_readsSaying 154 = .ok (.iload_n 1, 1) := by decide +kernel
theorem dX11_readsSaying_155 : decode cX11_readsSaying 155 = .ok (.iadd, 1) := by decide +kernel
theorem dX11_readsSaying_156 : decode cX11_readsSaying 156 = .ok (.iload 5, 2) := by decide +kernel
theorem dX11_readsSaying_158 : decode cX11_readsSaying 158 = .ok (.iastore, 1) := by decide +kernel
theorem dX11_readsSaying_159 : decode cX11_readsSaying 159 = .ok (.aload_n 0, 1) := by decide +kernel
theorem dX11_readsSaying_160 : decode cX11_readsSaying 160 = .ok (.getfield 13, 3) := by decide +kernel
theorem dX11_readsSaying_163 : decode cX11_readsSaying 163 = .ok (.iconst 1, 1) := by decide +kernel
theorem dX11_readsSaying_164 : decode cX11_readsSaying 164 = .ok (.dup2, 1) := by decide +kernel
theorem dX11_readsSaying_165 : decode cX11_readsSaying 165 = .ok (.iaload, 1) := by decide +kernel
theorem dX11_readsSaying_166 : decode cX11_readsSaying 166 = .ok (.iconst 1, 1) := by decide +kernel
theorem dX11_readsSaying_167 : decode cX11_readsSaying 167 = .ok (.iadd, 1) := by decide +kernel
theorem dX11_readsSaying_168 : decode cX11_readsSaying 168 = .ok (.iastore, 1) := by decide +kernel
theorem dX11_readsSaying_169 : decode cX11_readsSaying 169 = .ok (.iconst 1, 1) := by decide +kernel
theorem dX11_readsSaying_170 : decode cX11_readsSaying 170 = .ok (.ireturn, 1) := by decide +kernel
set_option maxRecDepth 20000 in
theorem ggX11_readsItem_X11_readsSaying : GoodIn wsX11_readsItem wsX11_readsSaying := goodIn_r _ [9, 4, 10, 11, 12, 13, 8, 14, 15, 1, 16, 17, 18, 19, 20, 21, 22, 23, 24, 25, 26, 27, 28, 29, 30, 31, 32, 33, 34, 35, 36, 37, 38, 39, 40, 41, 42, 43, 44, 45, 46, 47, 48, 49, 50, 51, 52, 53, 54, 55, 56, 57, 58, 59, 60, 61, 62, 63, 64, 65, 66, 67, 68, 69, 70, 71, 72, 73, 74, 75, 76, 77, 78, 79, 80, 81, 82] (by decide +kernel) (by decide +kernel)
set_option maxRecDepth 20000 in
theorem gX11_readsItem_X11_readsSaying : GoodIn wsX11_readsItem (wsV RX11 143 RX11 yX11_readsSaying wsX11_readsSaying) := goodIn_app (goodIn_of _ (by decide +kernel)) ggX11_readsItem_X11_readsSaying
set_option maxRecDepth 20000 in
theorem ggX11_readsItem_X11_letters : GoodIn wsX11_readsItem wsX11_letters := goodIn_r _ [49, 16, 50, 15, 1, 17, 18, 19, 8, 20, 21, 22, 55, 56, 57, 58, 59, 60, 61, 62, 63, 64, 65, 66, 67, 68, 69, 70, 71, 72, 73, 74, 75, 76, 77, 78, 79, 80, 81, 82] (by decide +kernel) (by decide +kernel)
set_option maxRecDepth 20000 in
theorem gX11_readsItem_X11_letters : GoodIn wsX11_readsItem (wsV RX11 109 RX11 yX11_letters wsX11_letters) := goodIn_app (goodIn_of _ (by decide +kernel)) ggX11_readsItem_X11_letters
set_option maxRecDepth 20000 in
theorem ggX11_readsItem_X11_nextFigure : GoodIn wsX11_readsItem wsX11_nextFigure := goodIn_r _ [54, 26, 27, 28, 8, 29, 30, 15, 1, 16, 17, 18, 19, 20, 21, 22, 31, 32, 33, 23, 24, 25, 11, 12, 13, 14, 55, 56, 57, 58, 59, 60, 61, 62, 63, 64, 65, 66, 67, 68, 69, 70, 71, 72, 73, 74, 75, 76, 77, 78, 79, 80, 81, 82] (by decide +kernel) (by decide +kernel)
set_option maxRecDepth 20000 in
theorem gX11_readsItem_X11_nextFigure : GoodIn wsX11_readsItem (wsV RX11 138 RX11 yX11_nextFigure wsX11_nextFigure) := goodIn_app (goodIn_of _ (by decide +kernel)) ggX11_readsItem_X11_nextFigure
set_option maxRecDepth 20000 in
theorem ggX11_readsItem_X11_token : GoodIn wsX11_readsItem wsX11_token := goodIn_r _ [29, 30, 15, 1, 16, 17, 18, 19, 8, 20, 21, 22, 31, 32, 33, 23, 24, 25, 55, 56, 57, 58, 59, 60, 61, 62, 63, 64, 65, 66, 67, 68, 69, 70, 71, 72, 73, 74, 75, 76, 77, 78, 79, 80, 81, 82] (by decide +kernel) (by decide +kernel)
set_option maxRecDepth 20000 in
theorem gX11_readsItem_X11_token : GoodIn wsX11_readsItem (wsV RX11 129 RX11 yX11_token wsX11_token) := goodIn_app (goodIn_of _ (by decide +kernel)) ggX11_readsItem_X11_token
theorem dX11_readsItem_0 : decode cX11_readsItem 0 = .ok (.aload_n 0, 1) := by decide +kernel
theorem dX11_readsItem_1 : decode cX11_readsItem 1 = .ok (.getfield 101, 3) := by decide +kernel
theorem dX11_readsItem_4 : decode cX11_readsItem 4 = .ok (.iconst 2, 1) := by decide +kernel
theorem dX11_readsItem_5 : decode cX11_readsItem 5 = .ok (.if_icmp .ne 8, 3) := by decide +kernel
theorem dX11_readsItem_8 : decode cX11_readsItem 8 = .ok (.aload_n 0, 1) := by decide +kernel
theorem dX11_readsItem_9 : decode cX11_readsItem 9 = .ok (.invokevirtual 143, 3) := by decide +kernel
theorem dX11_readsItem_12 : decode cX11_readsItem 12 = .ok (.ireturn, 1) := by decide +kernel
theorem dX11_readsItem_13 : decode cX11_readsItem 13 = .ok (.aload_n 0, 1) := by decide +kernel
theorem dX11_readsItem_14 : decode cX11_readsItem 14 = .ok (.invokevirtual 109, 3) := by decide +kernel
theorem dX11_readsItem_17 : decode cX11_readsItem 17 = .ok (.lstore_n 1, 1) := by decide +kernel
theorem dX11_readsItem_18 : decode cX11_readsItem 18 = .ok (.lload_n 1, 1) := by decide +kernel
theorem dX11_readsItem_19 : decode cX11_readsItem 19 = .ok (.ldc2_w 147, 3) := by decide +kernel
theorem dX11_readsItem_22 : decode cX11_readsItem 22 = .ok (.lcmp, 1) := by decide +kernel
theorem dX11_readsItem_23 : decode cX11_readsItem 23 = .ok (.ifCond .eq 13, 3) := by decide +kernel
theorem dX11_readsItem_26 : decode cX11_readsItem 26 = .ok (.lload_n 1, 1) := by decide +kernel
theorem dX11_readsItem_27 : decode cX11_readsItem 27 = .ok (.ldc2_w 149, 3) := by decide +kernel
theorem dX11_readsItem_30 : decode cX11_readsItem 30 = .ok (.lcmp, 1) := by decide +kernel
theorem dX11_readsItem_31 : decode cX11_readsItem 31 = .ok (.ifCond .eq 5, 3) := by decide +kernel
theorem dX11_readsItem_34 : decode cX11_readsItem 34 = .ok (.iconst 0, 1) := by decide +kernel
theorem dX11_readsItem_35 : decode cX11_readsItem 35 = .ok (.ireturn, 1) := by decide +kernel
theorem dX11_readsItem_36 : decode cX11_readsItem 36 = .ok (.aload_n 0, 1) := by decide +kernel
theorem dX11_readsItem_37 : decode cX11_readsItem 37 = .ok (.iconst 0, 1) := by decide +kernel
theorem dX11_readsItem_38 : decode cX11_readsItem 38 = .ok (.aload_n 0, 1) := by decide +kernel
theorem dX11_readsItem_39 : decode cX11_readsItem 39 = .ok (.getfield 13, 3) := by decide +kernel
theorem dX11_readsItem_42 : decode cX11_readsItem 42 = .ok (.iconst 0, 1) := by decide +kernel
theorem dX11_readsItem_43 : decode cX11_readsItem 43 = .ok (.iaload, 1) := by decide +kernel
theorem dX11_readsItem_44 : decode cX11_readsItem 44 = .ok (.iconst 1, 1) := by decide +kernel
theorem dX11_readsItem_45 : decode cX11_readsItem 45 = .ok (.isub, 1) := by decide +kernel
theorem dX11_readsItem_46 : decode cX11_readsItem 46 = .ok (.invokevirtual 138, 3) := by decide +kernel
theorem dX11_readsItem_49 : decode cX11_readsItem 49 = .ok (.istore_n 3, 1) := by decide +kernel
theorem dX11_readsItem_50 : decode cX11_readsItem 50 = .ok (.iload_n 3, 1) := by decide +kernel
theorem dX11_readsItem_51 : decode cX11_readsItem 51 = .ok (.iconst (-1), 1) := by decide +kernel
theorem dX11_readsItem_52 : decode cX11_readsItem 52 = .ok (.if_icmp .ne 5, 3) := by decide +kernel
theorem dX11_readsItem_55 : decode cX11_readsItem 55 = .ok (.iconst 0, 1) := by decide +kernel
theorem dX11_readsItem_56 : decode cX11_readsItem 56 = .ok (.ireturn, 1) := by decide +kernel
theorem dX11_readsItem_57 : decode cX11_readsItem 57 = .ok (.lload_n 1, 1) := by decide +kernel
theorem dX11_readsItem_58 : decode cX11_readsItem 58 = .ok (.ldc2_w 147, 3) := by decide +kernel
theorem dX11_readsItem_61 : decode cX11_readsItem 61 = .ok (.lcmp, 1) := by decide +kernel
theorem dX11_readsItem_62 : decode cX11_readsItem 62 = .ok (.ifCond .ne 32, 3) := by decide +kernel
theorem dX11_readsItem_65 : decode cX11_readsItem 65 = .ok (.aload_n 0, 1) := by decide +kernel
theorem dX11_readsItem_66 : decode cX11_readsItem 66 = .ok (.iconst 0, 1) := by decide +kernel
theorem dX11_readsItem_67 : decode cX11_readsItem 67 = .ok (.iconst 3, 1) := by decide +kernel
theorem dX11_readsItem_68 : decode cX11_readsItem 68 = .ok (.invokevirtual 138, 3) := by decide +kernel
theorem dX11_readsItem_71 : decode cX11_readsItem 71 = .ok (.istore 4, 2) := by decide +kernel
theorem dX11_readsItem_73 : decode cX11_readsItem 73 = .ok (.iload 4, 2) := by decide +kernel
theorem dX11_readsItem_75 : decode cX11_readsItem 75 = .ok (.iconst (-1), 1) := by decide +kernel
theorem dX11_readsItem_76 : decode cX11_readsItem 76 = .ok (.if_icmp .ne 5, 3) := by decide +kernel
theorem dX11_readsItem_79 : decode cX11_readsItem 79 = .ok (.iconst 0, 1) := by decide +kernel
theorem dX11_readsItem_80 : decode cX11_readsItem 80 = .ok (.ireturn, 1) := by decide +kernel
theorem dX11_readsItem_81 : decode cX11_readsItem 81 = .ok (.aload_n 0, 1) := by decide +kernel
theorem dX11_readsItem_82 : decode cX11_readsItem 82 = .ok (.getfield 13, 3) := by decide +kernel
theorem dX11_readsItem_85 : decode cX11_readsItem 85 = .ok (.iconst 2, 1) := by decide +kernel
theorem dX11_readsItem_86 : decode cX11_readsItem 86 = .ok (.iload_n 3, 1) := by decide +kernel
theorem dX11_readsItem_87 : decode cX11_readsItem 87 = .ok (.iadd, 1) := by decide +kernel
theorem dX11_readsItem_88 : decode cX11_readsItem 88 = .ok (.iload 4, 2) := by decide +kernel
theorem dX11_readsItem_90 : decode cX11_readsItem 90 = .ok (.iastore, 1) := by decide +kernel
theorem dX11_readsItem_91 : decode cX11_readsItem 91 = .ok (.goto 13, 3) := by decide +kernel
theorem dX11_readsItem_94 : decode cX11_readsItem 94 = .ok (.aload_n 0, 1) := by decide +kernel
theorem dX11_readsItem_95 : decode cX11_readsItem 95 = .ok (.getfield 13, 3) := by decide +kernel
theorem dX11_readsItem_98 : decode cX11_readsItem 98 = .ok (.bipush 8, 2) := by decide +kernel
theorem dX11_readsItem_100 : decode cX11_readsItem 100 = .ok (.iload_n 3, 1) := by decide +kernel
theorem dX11_readsItem_101 : decode cX11_readsItem 101 = .ok (.iadd, 1) := by decide +kernel
theorem dX11_readsItem_102 : decode cX11_readsItem 102 = .ok (.iconst 1, 1) := by decide +kernel
theorem dX11_readsItem_103 : decode cX11_readsItem 103 = .ok (.iastore, 1) := by decide +kernel
theorem dX11_readsItem_104 : decode cX11_readsItem 104 = .ok (.aload_n 0, 1) := by decide +kernel
theorem dX11_readsItem_105 : decode cX11_readsItem 105 = .ok (.invokevirtual 129, 3) := by decide +kernel
theorem dX11_readsItem_108 : decode cX11_readsItem 108 = .ok (.iconst 1, 1) := by decide +kernel
theorem dX11_readsItem_109 : decode cX11_readsItem 109 = .ok (.ireturn, 1) := by decide +kernel
set_option maxRecDepth 20000 in
theorem ggX11_reads_X11_clean : GoodIn wsX11_reads wsX11_clean := goodIn_r _ [9, 3, 10, 11, 8, 12, 64, 65, 66, 67, 68, 69, 70, 71, 72, 73, 74, 75, 76, 77, 78, 79, 80, 81, 82, 83, 84, 85, 86, 87, 88, 89, 90, 91] (by decide +kernel) (by decide +kernel)
set_option maxRecDepth 20000 in
theorem gX11_reads_X11_clean : GoodIn wsX11_reads (wsV RX11 63 RX11 yX11_clean wsX11_clean) := goodIn_app (goodIn_of _ (by decide +kernel)) ggX11_reads_X11_clean
set_option maxRecDepth 20000 in
theorem ggX11_reads_X11_token : GoodIn wsX11_reads wsX11_token := goodIn_r _ [16, 1, 17, 4, 18, 19, 20, 21, 8, 22, 23, 24, 25, 26, 27, 10, 11, 12, 64, 65, 66, 67, 68, 69, 70, 71, 72, 73, 74, 75, 76, 77, 78, 79, 80, 81, 82, 83, 84, 85, 86, 87, 88, 89, 90, 91] (by decide +kernel) (by decide +kernel)
set_option maxRecDepth 20000 in
theorem gX11_reads_X11_token : GoodIn wsX11_reads (wsV RX11 129 RX11 yX11_token wsX11_token) := goodIn_app (goodIn_of _ (by decide +kernel)) ggX11_reads_X11_token
set_option maxRecDepth 20000 in
theorem ggX11_reads_X11_letters : GoodIn wsX11_reads wsX11_letters := goodIn_r _ [31, 18, 32, 17, 4, 19, 20, 21, 8, 22, 23, 24, 64, 65, 66, 67, 68, 69, 70, 71, 72, 73, 74, 75, 76, 77, 78, 79, 80, 81, 82, 83, 84, 85, 86, 87, 88, 89, 90, 91] (by decide +kernel) (by decide +kernel)
set_option maxRecDepth 20000 in
theorem gX11_reads_X11_letters : GoodIn wsX11_reads (wsV RX11 109 RX11 yX11_letters wsX11_letters) := goodIn_app (goodIn_of _ (by decide +kernel)) ggX11_reads_X11_letters
set_option maxRecDepth 20000 in
theorem ggX11_reads_X11_nextFigure : GoodIn wsX11_reads wsX11_nextFigure := goodIn_r _ [36, 13, 14, 15, 8, 16, 1, 17, 4, 18, 19, 20, 21, 22, 23, 24, 25, 26, 27, 10, 11, 12, 37, 38, 39, 40, 64, 65, 66, 67, 68, 69, 70, 71, 72, 73, 74, 75, 76, 77, 78, 79, 80, 81, 82, 83, 84, 85, 86, 87, 88, 89, 90, 91] (by decide +kernel) (by decide +kernel)
set_option maxRecDepth 20000 in
theorem gX11_reads_X11_nextFigure : GoodIn wsX11_reads (wsV RX11 138 RX11 yX11_nextFigure wsX11_nextFigure) := goodIn_app (goodIn_of _ (by decide +kernel)) ggX11_reads_X11_nextFigure
set_option maxRecDepth 20000 in
theorem ggX11_reads_X11_readsItem : GoodIn wsX11_reads wsX11_readsItem := goodIn_r _ [44, 4, 45, 46, 3, 47, 48, 49, 8, 50, 51, 37, 38, 39, 40, 17, 18, 19, 20, 21, 22, 23, 24, 10, 11, 12, 13, 14, 15, 16, 1, 25, 26, 27, 52, 53, 54, 55, 56, 57, 58, 59, 60, 61, 62, 63, 28, 29, 30, 31, 32, 33, 34, 35, 36, 64, 65, 66, 67, 68, 69, 70, 71, 72, 73, 74, 75, 76, 77, 78, 79, 80, 81, 82, 83, 84, 85, 86, 87, 88, 89, 90, 91] (by decide +kernel) (by decide +kernel)
set_option maxRecDepth 20000 in
theorem gX11_reads_X11_readsItem : GoodIn wsX11_reads (wsV RX11 153 RX11 yX11_readsItem wsX11_readsItem) := goodIn_app (goodIn_of _ (by decide +kernel)) ggX11_reads_X11_readsItem
theorem dX11_reads_0 : decode cX11_reads 0 = .ok (.aload_n 0, 1) := by decide +kernel
theorem dX11_reads_1 : decode cX11_reads 1 = .ok (.invokevirtual 63, 3) := by decide +kernel
theorem dX11_reads_4 : decode cX11_reads 4 = .ok (.aload_n 0, 1) := by decide +kernel
theorem dX11_reads_5 : decode cX11_reads 5 = .ok (.iconst 0, 1) := by decide +kernel
theorem dX11_reads_6 : decode cX11_reads 6 = .ok (.putfield 88, 3) := by decide +kernel
theorem dX11_reads_9 : decode cX11_reads 9 = .ok (.aload_n 0, 1) := by decide +kernel
theorem dX11_reads_10 : decode cX11_reads 10 = .ok (.invokevirtual 129, 3) := by decide +kernel
theorem dX11_reads_13 : decode cX11_reads 13 = .ok (.aload_n 0, 1) := by decide +kernel
theorem dX11_reads_14 : decode cX11_reads 14 = .ok (.invokevirtual 109, 3) := by decide +kernel
theorem dX11_reads_17 : decode cX11_reads 17 = .ok (.ldc2_w 151, 3) := by decide +kernel
theorem dX11_reads_20 : decode cX11_reads 20 = .ok (.lcmp, 1) := by decide +kernel
theorem dX11_reads_21 : decode cX11_reads 21 = .ok (.ifCond .eq 5, 3) := by decide +kernel
theorem dX11_reads_24 : decode cX11_reads 24 = .ok (.iconst 0, 1) := by decide +kernel
theorem dX11_reads_25 : decode cX11_reads 25 = .ok (.ireturn, 1) := by decide +kernel
theorem dX11_reads_26 : decode cX11_reads 26 = .ok (.aload_n 0, 1) := by decide +kernel
theorem dX11_reads_27 : decode cX11_reads 27 = .ok (.iconst 1, 1) := by decide +kernel
theorem dX11_reads_28 : decode cX11_reads 28 = .ok (.bipush 6, 2) := by decide +kernel
theorem dX11_reads_30 : decode cX11_reads 30 = .ok (.invokevirtual 138, 3) := by decide +kernel
theorem dX11_reads_33 : decode cX11_reads 33 = .ok (.istore_n 1, 1) := by decide +kernel
theorem dX11_reads_34 : decode cX11_reads 34 = .ok (.iload_n 1, 1) := by decide +kernel
theorem dX11_reads_35 : decode cX11_reads 35 = .ok (.iconst (-1), 1) := by decide +kernel
theorem dX11_reads_36 : decode cX11_reads 36 = .ok (.if_icmp .ne 5, 3) := by decide +kernel
theorem dX11_reads_39 : decode cX11_reads 39 = .ok (.iconst 0, 1) := by decide +kernel
theorem dX11_reads_40 : decode cX11_reads 40 = .ok (.ireturn, 1) := by decide +kernel
theorem dX11_reads_41 : decode cX11_reads 41 = .ok (.aload_n 0, 1) := by decide +kernel
theorem dX11_reads_42 : decode cX11_reads 42 = .ok (.getfield 13, 3) := by decide +kernel
theorem dX11_reads_45 : decode cX11_reads 45 = .ok (.iconst 0, 1) := by decide +kernel
theorem dX11_reads_46 : decode cX11_reads 46 = .ok (.iload_n 1, 1) := by decide +kernel
theorem dX11_reads_47 : decode cX11_reads 47 = .ok (.iastore, 1) := by decide +kernel
theorem dX11_reads_48 : decode cX11_reads 48 = .ok (.aload_n 0, 1) := by decide +kernel
theorem dX11_reads_49 : decode cX11_reads 49 = .ok (.invokevirtual 129, 3) := by decide +kernel
theorem dX11_reads_52 : decode cX11_reads 52 = .ok (.aload_n 0, 1) := by decide +kernel
theorem dX11_reads_53 : decode cX11_reads 53 = .ok (.getfield 101, 3) := by decide +kernel
theorem dX11_reads_56 : decode cX11_reads 56 = .ok (.iconst 3, 1) := by decide +kernel
theorem dX11_reads_57 : decode cX11_reads 57 = .ok (.if_icmp .ne 25, 3) := by decide +kernel
theorem dX11_reads_60 : decode cX11_reads 60 = .ok (.aload_n 0, 1) := by decide +kernel
theorem dX11_reads_61 : decode cX11_reads 61 = .ok (.invokevirtual 129, 3) := by decide +kernel
theorem dX11_reads_64 : decode cX11_reads 64 = .ok (.aload_n 0, 1) := by decide +kernel
theorem dX11_reads_65 : decode cX11_reads 65 = .ok (.getfield 101, 3) := by decide +kernel
theorem dX11_reads_68 : decode cX11_reads 68 = .ok (.ifCond .ne 5, 3) := by decide +kernel
theorem dX11_reads_71 : decode cX11_reads 71 = .ok (.iconst 1, 1) := by decide +kernel
theorem dX11_reads_72 : decode cX11_reads 72 = .ok (.ireturn, 1) := by decide +kernel
theorem dX11_reads_73 : decode cX11_reads 73 = .ok (.aload_n 0, 1) := by decide +kernel
theorem dX11_reads_74 : decode cX11_reads 74 = .ok (.invokevirtual 153, 3) := by decide +kernel
theorem dX11_reads_77 : decode cX11_reads 77 = .ok (.ifCond .ne (-25), 3) := by decide +kernel
theorem dX11_reads_80 : decode cX11_reads 80 = .ok (.iconst 0, 1) := by decide +kernel
theorem dX11_reads_81 : decode cX11_reads 81 = .ok (.ireturn, 1) := by decide +kernel
theorem dX11_reads_82 : decode cX11_reads 82 = .ok (.iconst 0, 1) := by decide +kernel
theorem dX11_reads_83 : decode cX11_reads 83 = .ok (.ireturn, 1) := by decide +kernel
set_option maxRecDepth 20000 in
theorem ggX11_read_X11_reads : GoodIn wsX11_read wsX11_reads := goodIn_r _ [8, 9, 10, 3, 11, 12, 13, 14, 7, 15, 16, 17, 18, 19, 20, 21, 22, 1, 23, 24, 25, 26, 27, 28, 29, 30, 31, 32, 33, 34, 35, 36, 37, 38, 39, 40, 41, 42, 43, 44, 45, 46, 47, 48, 49, 50, 51, 52, 53, 54, 55, 56, 57, 58, 59, 60, 61, 62, 63, 64, 65, 66, 67, 68, 69, 70, 71, 72, 73, 74, 75, 76, 77, 78, 79, 80, 81, 82, 83, 84, 85, 86, 87, 88, 89, 90, 91, 92, 93, 94, 95, 96] (by decide +kernel) (by decide +kernel)
set_option maxRecDepth 20000 in
theorem gX11_read_X11_reads : GoodIn wsX11_read (wsV RX11 156 RX11 yX11_reads wsX11_reads) := goodIn_app (goodIn_of _ (by decide +kernel)) ggX11_read_X11_reads
theorem dX11_read_0 : decode cX11_read 0 = .ok (.aload_n 0, 1) := by decide +kernel
theorem dX11_read_1 : decode cX11_read 1 = .ok (.invokevirtual 156, 3) := by decide +kernel
theorem dX11_read_4 : decode cX11_read 4 = .ok (.ifCond .ne 11, 3) := by decide +kernel
theorem dX11_read_7 : decode cX11_read 7 = .ok (.bipush (-10), 2) := by decide +kernel
theorem dX11_read_9 : decode cX11_read 9 = .ok (.aload_n 0, 1) := by decide +kernel
theorem dX11_read_10 : decode cX11_read 10 = .ok (.getfield 95, 3) := by decide +kernel
theorem dX11_read_13 : decode cX11_read 13 = .ok (.isub, 1) := by decide +kernel
theorem dX11_read_14 : decode cX11_read 14 = .ok (.ireturn, 1) := by decide +kernel
theorem dX11_read_15 : decode cX11_read 15 = .ok (.iconst 0, 1) := by decide +kernel
theorem dX11_read_16 : decode cX11_read 16 = .ok (.istore_n 1, 1) := by decide +kernel
theorem dX11_read_17 : decode cX11_read 17 = .ok (.iload_n 1, 1) := by decide +kernel
theorem dX11_read_18 : decode cX11_read 18 = .ok (.bipush 58, 2) := by decide +kernel
theorem dX11_read_20 : decode cX11_read 20 = .ok (.if_icmp .ge 21, 3) := by decide +kernel
theorem dX11_read_23 : decode cX11_read 23 = .ok (.aload_n 0, 1) := by decide +kernel
theorem dX11_read_24 : decode cX11_read 24 = .ok (.getfield 7, 3) := by decide +kernel
theorem dX11_read_27 : decode cX11_read 27 = .ok (.iload_n 1, 1) := by decide +kernel
theorem dX11_read_28 : decode cX11_read 28 = .ok (.aload_n 0, 1) := by decide +kernel
theorem dX11_read_29 : decode cX11_read 29 = .ok (.getfield 13, 3) := by decide +kernel
theorem dX11_read_32 : decode cX11_read 32 = .ok (.iload_n 1, 1) := by decide +kernel
theorem dX11_read_33 : decode cX11_read 33 = .ok (.iaload, 1) := by decide +kernel
theorem dX11_read_34 : decode cX11_read 34 = .ok (.iastore, 1) := by decide +kernel
theorem dX11_read_35 : decode cX11_read 35 = .ok (.iinc 1 1, 3) := by decide +kernel
theorem dX11_read_38 : decode cX11_read 38 = .ok (.goto (-21), 3) := by decide +kernel
theorem dX11_read_41 : decode cX11_read 41 = .ok (.aload_n 0, 1) := by decide +kernel
theorem dX11_read_42 : decode cX11_read 42 = .ok (.getfield 7, 3) := by decide +kernel
theorem dX11_read_45 : decode cX11_read 45 = .ok (.iconst 1, 1) := by decide +kernel
theorem dX11_read_46 : decode cX11_read 46 = .ok (.iaload, 1) := by decide +kernel
theorem dX11_read_47 : decode cX11_read 47 = .ok (.ireturn, 1) := by decide +kernel
theorem dX11_was_0 : decode cX11_was 0 = .ok (.aload_n 0, 1) := by decide +kernel
theorem dX11_was_1 : decode cX11_was 1 = .ok (.getfield 159, 3) := by decide +kernel
theorem dX11_was_4 : decode cX11_was 4 = .ok (.iload_n 1, 1) := by decide +kernel
theorem dX11_was_5 : decode cX11_was 5 = .ok (.ishr, 1) := by decide +kernel
theorem dX11_was_6 : decode cX11_was 6 = .ok (.iconst 1, 1) := by decide +kernel
theorem dX11_was_7 : decode cX11_was 7 = .ok (.iand, 1) := by decide +kernel
theorem dX11_was_8 : decode cX11_was 8 = .ok (.iconst 1, 1) := by decide +kernel
theorem dX11_was_9 : decode cX11_was 9 = .ok (.if_icmp .ne 7, 3) := by decide +kernel
theorem dX11_was_12 : decode cX11_was 12 = .ok (.iconst 1, 1) := by decide +kernel
theorem dX11_was_13 : decode cX11_was 13 = .ok (.goto 4, 3) := by decide +kernel
theorem dX11_was_16 : decode cX11_was 16 = .ok (.iconst 0, 1) := by decide +kernel
theorem dX11_was_17 : decode cX11_was 17 = .ok (.ireturn, 1) := by decide +kernel
theorem dX11_is_0 : decode cX11_is 0 = .ok (.aload_n 0, 1) := by decide +kernel
theorem dX11_is_1 : decode cX11_is 1 = .ok (.getfield 162, 3) := by decide +kernel
theorem dX11_is_4 : decode cX11_is 4 = .ok (.iload_n 1, 1) := by decide +kernel
theorem dX11_is_5 : decode cX11_is 5 = .ok (.ishr, 1) := by decide +kernel
theorem dX11_is_6 : decode cX11_is 6 = .ok (.iconst 1, 1) := by decide +kernel
theorem dX11_is_7 : decode cX11_is 7 = .ok (.iand, 1) := by decide +kernel
theorem dX11_is_8 : decode cX11_is 8 = .ok (.iconst 1, 1) := by decide +kernel
theorem dX11_is_9 : decode cX11_is 9 = .ok (.if_icmp .ne 7, 3) := by decide +kernel
theorem dX11_is_12 : decode cX11_is 12 = .ok (.iconst 1, 1) := by decide +kernel
theorem dX11_is_13 : decode cX11_is 13 = .ok (.goto 4, 3) := by decide +kernel
theorem dX11_is_16 : decode cX11_is 16 = .ok (.iconst 0, 1) := by decide +kernel
theorem dX11_is_17 : decode cX11_is 17 = .ok (.ireturn, 1) := by decide +kernel
set_option maxRecDepth 20000 in
theorem ggX11_been_X11_was : GoodIn wsX11_been wsX11_was := goodIn_r _ [5, 6, 12, 13, 14, 15, 16, 17, 18, 19, 20, 21, 22, 23, 24, 25, 26, 27, 28, 29, 30, 31, 32, 33, 34, 35, 36, 37, 38, 39] (by decide +kernel) (by decide +kernel)
set_option maxRecDepth 20000 in
theorem gX11_been_X11_was : GoodIn wsX11_been (wsV RX11 165 RX11 yX11_was wsX11_was) := goodIn_app (goodIn_of _ (by decide +kernel)) ggX11_been_X11_was
set_option maxRecDepth 20000 in
theorem ggX11_been_X11_is : GoodIn wsX11_been wsX11_is := goodIn_r _ [10, 11, 12, 13, 14, 15, 16, 17, 18, 19, 20, 21, 22, 23, 24, 25, 26, 27, 28, 29, 30, 31, 32, 33, 34, 35, 36, 37, 38, 39] (by decide +kernel) (by decide +kernel)
set_option maxRecDepth 20000 in
theorem gX11_been_X11_is : GoodIn wsX11_been (wsV RX11 168 RX11 yX11_is wsX11_is) := goodIn_app (goodIn_of _ (by decide +kernel)) ggX11_been_X11_is
theorem dX11_been_0 : decode cX11_been 0 = .ok (.aload_n 0, 1) := by decide +kernel
theorem dX11_been_1 : decode cX11_been 1 = .ok (.iload_n 1, 1) := by decide +kernel
theorem dX11_been_2 : decode cX11_been 2 = .ok (.invokevirtual 165, 3) := by decide +kernel
theorem dX11_been_5 : decode cX11_been 5 = .ok (.ifCond .ne 11, 3) := by decide +kernel
theorem dX11_been_8 : decode cX11_been 8 = .ok (.aload_n 0, 1) := by decide +kernel
theorem dX11_been_9 : decode cX11_been 9 = .ok (.iload_n 1, 1) := by decide +kernel
theorem dX11_been_10 : decode cX11_been 10 = .ok (.invokevirtual 168, 3) := by decide +kernel
theorem dX11_been_13 : decode cX11_been 13 = .ok (.ifCond .eq 7, 3) := by decide +kernel
theorem dX11_been_16 : decode cX11_been 16 = .ok (.iconst 1, 1) := by decide +kernel
theorem dX11_been_17 : decode cX11_been 17 = .ok (.goto 4, 3) := by decide +kernel
theorem dX11_been_20 : decode cX11_been 20 = .ok (.iconst 0, 1) := by decide +kernel
theorem dX11_been_21 : decode cX11_been 21 = .ok (.ireturn, 1) := by decide +kernel
set_option maxRecDepth 20000 in
theorem ggX11_apart_X11_is : GoodIn wsX11_apart wsX11_is := goodIn_r _ [5, 6, 16, 17, 18, 19, 20, 21, 22, 23, 24, 25, 26, 27, 28, 29, 30, 31, 32, 33, 34, 35, 36, 37, 38, 39, 40, 41, 42, 43] (by decide +kernel) (by decide +kernel)
set_option maxRecDepth 20000 in
theorem gX11_apart_X11_is : GoodIn wsX11_apart (wsV RX11 168 RX11 yX11_is wsX11_is) := goodIn_app (goodIn_of _ (by decide +kernel)) ggX11_apart_X11_is
set_option maxRecDepth 20000 in
theorem ggX11_apart_X11_been : GoodIn wsX11_apart wsX11_been := goodIn_r _ [10, 11, 12, 13, 4, 14, 15, 1, 2, 3, 5, 6, 16, 17, 18, 19, 20, 21, 22, 23, 24, 25, 26, 27, 28, 29, 30, 31, 32, 33, 34, 35, 36, 37, 38, 39, 40, 41, 42, 43] (by decide +kernel) (by decide +kernel)
set_option maxRecDepth 20000 in
theorem gX11_apart_X11_been : GoodIn wsX11_apart (wsV RX11 171 RX11 yX11_been wsX11_been) := goodIn_app (goodIn_of _ (by decide +kernel)) ggX11_apart_X11_been
theorem dX11_apart_0 : decode cX11_apart 0 = .ok (.aload_n 0, 1) := by decide +kernel
theorem dX11_apart_1 : decode cX11_apart 1 = .ok (.iconst 2, 1) := by decide +kernel
theorem dX11_apart_2 : decode cX11_apart 2 = .ok (.iload_n 2, 1) := by decide +kernel
theorem dX11_apart_3 : decode cX11_apart 3 = .ok (.imul, 1) := by decide +kernel
theorem dX11_apart_4 : decode cX11_apart 4 = .ok (.invokevirtual 168, 3) := by decide +kernel
theorem dX11_apart_7 : decode cX11_apart 7 = .ok (.ifCond .eq 29, 3) := by decide +kernel
theorem dX11_apart_10 : decode cX11_apart 10 = .ok (.aload_n 0, 1) := by decide +kernel
theorem dX11_apart_11 : decode cX11_apart 11 = .ok (.iconst 2, 1) := by decide +kernel
theorem dX11_apart_12 : decode cX11_apart 12 = .ok (.iload_n 1, 1) := by decide +kernel
theorem dX11_apart_13 : decode cX11_apart 13 = .ok (.imul, 1) := by decide +kernel
theorem dX11_apart_14 : decode cX11_apart 14 = .ok (.invokevirtual 171, 3) := by decide +kernel
theorem dX11_apart_17 : decode cX11_apart 17 = .ok (.ifCond .eq 19, 3) := by decide +kernel
theorem dX11_apart_20 : decode cX11_apart 20 = .ok (.aload_n 0, 1) := by decide +kernel
theorem dX11_apart_21 : decode cX11_apart 21 = .ok (.iconst 2, 1) := by decide +kernel
theorem dX11_apart_22 : decode cX11_apart 22 = .ok (.iload_n 1, 1) := by decide +kernel
theorem dX11_apart_23 : decode cX11_apart 23 = .ok (.imul, 1) := by decide +kernel
theorem dX11_apart_24 : decode cX11_apart 24 = .ok (.iconst 1, 1) := by decide +kernel
theorem dX11_apart_25 : decode cX11_apart 25 = .ok (.iadd, 1) := by decide +kernel
theorem dX11_apart_26 : decode cX11_apart 26 = .ok (.invokevirtual 171, 3) := by decide +kernel
theorem dX11_apart_29 : decode cX11_apart 29 = .ok (.ifCond .ne 7, 3) := by decide +kernel
theorem dX11_apart_32 : decode cX11_apart 32 = .ok (.iconst 1, 1) := by decide +kernel
theorem dX11_apart_33 : decode cX11_apart 33 = .ok (.goto 4, 3) := by decide +kernel
theorem dX11_apart_36 : decode cX11_apart 36 = .ok (.iconst 0, 1) := by decide +kernel
theorem dX11_apart_37 : decode cX11_apart 37 = .ok (.istore_n 3, 1) := by decide +kernel
theorem dX11_apart_38 : decode cX11_apart 38 = .ok (.aload_n 0, 1) := by decide +kernel
theorem dX11_apart_39 : decode cX11_apart 39 = .ok (.iconst 2, 1) := by decide +kernel
theorem dX11_apart_40 : decode cX11_apart 40 = .ok (.iload_n 1, 1) := by decide +kernel
theorem dX11_apart_41 : decode cX11_apart 41 = .ok (.imul, 1) := by decide +kernel
theorem dX11_apart_42 : decode cX11_apart 42 = .ok (.invokevirtual 168, 3) := by decide +kernel
theorem dX11_apart_45 : decode cX11_apart 45 = .ok (.ifCond .eq 29, 3) := by decide +kernel
theorem dX11_apart_48 : decode cX11_apart 48 = .ok (.aload_n 0, 1) := by decide +kernel
theorem dX11_apart_49 : decode cX11_apart 49 = .ok (.iconst 2, 1) := by decide +kernel
theorem dX11_apart_50 : decode cX11_apart 50 = .ok (.iload_n 2, 1) := by decide +kernel
theorem dX11_apart_51 : decode cX11_apart 51 = .ok (.imul, 1) := by decide +kernel
theorem dX11_apart_52 : decode cX11_apart 52 = .ok (.invokevirtual 171, 3) := by decide +kernel
theorem dX11_apart_55 : decode cX11_apart 55 = .ok (.ifCond .eq 19, 3) := by decide +kernel
theorem dX11_apart_58 : decode cX11_apart 58 = .ok (.aload_n 0, 1) := by decide +kernel
theorem dX11_apart_59 : decode cX11_apart 59 = .ok (.iconst 2, 1) := by decide +kernel
theorem dX11_apart_60 : decode cX11_apart 60 = .ok (.iload_n 2, 1) := by decide +kernel
theorem dX11_apart_61 : decode cX11_apart 61 = .ok (.imul, 1) := by decide +kernel
theorem dX11_apart_62 : decode cX11_apart 62 = .ok (.iconst 1, 1) := by decide +kernel
theorem dX11_apart_63 : decode cX11_apart 63 = .ok (.iadd, 1) := by decide +kernel
theorem dX11_apart_64 : decode cX11_apart 64 = .ok (.invokevirtual 171, 3) := by decide +kernel
theorem dX11_apart_67 : decode cX11_apart 67 = .ok (.ifCond .ne 7, 3) := by decide +kernel
theorem dX11_apart_70 : decode cX11_apart 70 = .ok (.iconst 1, 1) := by decide +kernel
theorem dX11_apart_71 : decode cX11_apart 71 = .ok (.goto 4, 3) := by decide +kernel
theorem dX11_apart_74 : decode cX11_apart 74 = .ok (.iconst 0, 1) := by decide +kernel
theorem dX11_apart_75 : decode cX11_apart 75 = .ok (.istore 4, 2) := by decide +kernel
theorem dX11_apart_77 : decode cX11_apart 77 = .ok (.iload_n 3, 1) := by decide +kernel
theorem dX11_apart_78 : decode cX11_apart 78 = .ok (.ifCond .ne 12, 3) := by decide +kernel
theorem dX11_apart_81 : decode cX11_apart 81 = .ok (.iload 4, 2) := by decide +kernel
theorem dX11_apart_83 : decode cX11_apart 83 = .ok (.ifCond .ne 7, 3) := by decide +kernel
theorem dX11_apart_86 : decode cX11_apart 86 = .ok (.iconst 1, 1) := by decide +kernel
theorem dX11_apart_87 : decode cX11_apart 87 = .ok (.goto 4, 3) := by decide +kernel
theorem dX11_apart_90 : decode cX11_apart 90 = .ok (.iconst 0, 1) := by decide +kernel
theorem dX11_apart_91 : decode cX11_apart 91 = .ok (.ireturn, 1) := by decide +kernel
set_option maxRecDepth 20000 in
theorem ggX11_keeps_X11_is : GoodIn wsX11_keeps wsX11_is := goodIn_r _ [5, 6, 20, 21, 22, 23, 24, 25, 26, 27, 28, 29, 30, 31, 32, 33, 34, 35, 36, 37, 38, 39, 40, 41, 42, 43, 44, 45, 46, 47] (by decide +kernel) (by decide +kernel)
set_option maxRecDepth 20000 in
theorem gX11_keeps_X11_is : GoodIn wsX11_keeps (wsV RX11 168 RX11 yX11_is wsX11_is) := goodIn_app (goodIn_of _ (by decide +kernel)) ggX11_keeps_X11_is
set_option maxRecDepth 20000 in
theorem ggX11_keeps_X11_was : GoodIn wsX11_keeps wsX11_was := goodIn_r _ [10, 11, 20, 21, 22, 23, 24, 25, 26, 27, 28, 29, 30, 31, 32, 33, 34, 35, 36, 37, 38, 39, 40, 41, 42, 43, 44, 45, 46, 47] (by decide +kernel) (by decide +kernel)
set_option maxRecDepth 20000 in
theorem gX11_keeps_X11_was : GoodIn wsX11_keeps (wsV RX11 165 RX11 yX11_was wsX11_was) := goodIn_app (goodIn_of _ (by decide +kernel)) ggX11_keeps_X11_was
set_option maxRecDepth 20000 in
theorem ggX11_keeps_X11_apart : GoodIn wsX11_keeps wsX11_apart := goodIn_r _ [15, 1, 2, 3, 4, 5, 6, 16, 17, 18, 19, 7, 8, 9, 10, 11, 20, 21, 22, 23, 24, 25, 26, 27, 28, 29, 30, 31, 32, 33, 34, 35, 36, 37, 38, 39, 40, 41, 42, 43, 44, 45, 46, 47] (by decide +kernel) (by decide +kernel)
set_option maxRecDepth 20000 in
theorem gX11_keeps_X11_apart : GoodIn wsX11_keeps (wsV RX11 174 RX11 yX11_apart wsX11_apart) := goodIn_app (goodIn_of _ (by decide +kernel)) ggX11_keeps_X11_apart
set_option maxRecDepth 20000 in
theorem ggX11_keeps_X11_been : GoodIn wsX11_keeps wsX11_been := goodIn_r _ [19, 7, 8, 9, 4, 10, 11, 1, 2, 3, 5, 6, 20, 21, 22, 23, 24, 25, 26, 27, 28, 29, 30, 31, 32, 33, 34, 35, 36, 37, 38, 39, 40, 41, 42, 43, 44, 45, 46, 47] (by decide +kernel) (by decide +kernel)
set_option maxRecDepth 20000 in
theorem gX11_keeps_X11_been : GoodIn wsX11_keeps (wsV RX11 171 RX11 yX11_been wsX11_been) := goodIn_app (goodIn_of _ (by decide +kernel)) ggX11_keeps_X11_been
theorem dX11_keeps_0 : decode cX11_keeps 0 = .ok (.iconst 2, 1) := by decide +kernel
theorem dX11_keeps_1 : decode cX11_keeps 1 = .ok (.iload_n 2, 1) := by decide +kernel
theorem dX11_keeps_2 : decode cX11_keeps 2 = .ok (.imul, 1) := by decide +kernel
theorem dX11_keeps_3 : decode cX11_keeps 3 = .ok (.istore 4, 2) := by decide +kernel
theorem dX11_keeps_5 : decode cX11_keeps 5 = .ok (.iload 4, 2) := by decide +kernel
theorem dX11_keeps_7 : decode cX11_keeps 7 = .ok (.iconst 1, 1) := by decide +kernel
theorem dX11_keeps_8 : decode cX11_keeps 8 = .ok (.iadd, 1) := by decide +kernel
theorem dX11_keeps_9 : decode cX11_keeps 9 = .ok (.istore 5, 2) := by decide +kernel
theorem dX11_keeps_11 : decode cX11_keeps 11 = .ok (.iconst 2, 1) := by decide +kernel
theorem dX11_keeps_12 : decode cX11_keeps 12 = .ok (.iload_n 3, 1) := by decide +kernel
theorem dX11_keeps_13 : decode cX11_keeps 13 = .ok (.imul, 1) := by decide +kernel
theorem dX11_keeps_14 : decode cX11_keeps 14 = .ok (.istore 6, 2) := by decide +kernel
theorem dX11_keeps_16 : decode cX11_keeps 16 = .ok (.iload 6, 2) := by decide +kernel
theorem dX11_keeps_18 : decode cX11_keeps 18 = .ok (.iconst 1, 1) := by decide +kernel
theorem dX11_keeps_19 : decode cX11_keeps 19 = .ok (.iadd, 1) := by decide +kernel
theorem dX11_keeps_20 : decode cX11_keeps 20 = .ok (.istore 7, 2) := by decide +kernel
theorem dX11_keeps_22 : decode cX11_keeps 22 = .ok (.iload_n 1, 1) := by decide +kernel
theorem dX11_keeps_23 : decode cX11_keeps 23 = .ok (.ifCond .ne 27, 3) := by decide +kernel
theorem dX11_keeps_26 : decode cX11_keeps 26 = .ok (.aload_n 0, 1) := by decide +kernel
theorem dX11_keeps_27 : decode cX11_keeps 27 = .ok (.iload 6, 2) := by decide +kernel
theorem dX11_keeps_29 : decode cX11_keeps 29 = .ok (.invokevirtual 168, 3) := by decide +kernel
theorem dX11_keeps_32 : decode cX11_keeps 32 = .ok (.ifCond .eq 12, 3) := by decide +kernel
theorem dX11_keeps_35 : decode cX11_keeps 35 = .ok (.aload_n 0, 1) := by decide +kernel
theorem dX11_keeps_36 : decode cX11_keeps 36 = .ok (.iload 5, 2) := by decide +kernel
theorem dX11_keeps_38 : decode cX11_keeps 38 = .ok (.invokevirtual 165, 3) := by decide +kernel
theorem dX11_keeps_41 : decode cX11_keeps 41 = .ok (.ifCond .eq 7, 3) := by decide +kernel
theorem dX11_keeps_44 : decode cX11_keeps 44 = .ok (.iconst 1, 1) := by decide +kernel
theorem dX11_keeps_45 : decode cX11_keeps 45 = .ok (.goto 4, 3) := by decide +kernel
theorem dX11_keeps_48 : decode cX11_keeps 48 = .ok (.iconst 0, 1) := by decide +kernel
theorem dX11_keeps_49 : decode cX11_keeps 49 = .ok (.ireturn, 1) := by decide +kernel
theorem dX11_keeps_50 : decode cX11_keeps 50 = .ok (.iload_n 1, 1) := by decide +kernel
theorem dX11_keeps_51 : decode cX11_keeps 51 = .ok (.iconst 1, 1) := by decide +kernel
theorem dX11_keeps_52 : decode cX11_keeps 52 = .ok (.if_icmp .ne 24, 3) := by decide +kernel
theorem dX11_keeps_55 : decode cX11_keeps 55 = .ok (.aload_n 0, 1) := by decide +kernel
theorem dX11_keeps_56 : decode cX11_keeps 56 = .ok (.iload 6, 2) := by decide +kernel
theorem dX11_keeps_58 : decode cX11_keeps 58 = .ok (.invokevirtual 168, 3) := by decide +kernel
theorem dX11_keeps_61 : decode cX11_keeps 61 = .ok (.aload_n 0, 1) := by decide +kernel
theorem dX11_keeps_62 : decode cX11_keeps 62 = .ok (.iload 5, 2) := by decide +kernel
theorem dX11_keeps_64 : decode cX11_keeps 64 = .ok (.invokevirtual 168, 3) := by decide +kernel
theorem dX11_keeps_67 : decode cX11_keeps 67 = .ok (.if_icmp .ne 7, 3) := by decide +kernel
theorem dX11_keeps_70 : decode cX11_keeps 70 = .ok (.iconst 1, 1) := by decide +kernel
theorem dX11_keeps_71 : decode cX11_keeps 71 = .ok (.goto 4, 3) := by decide +kernel
theorem dX11_keeps_74 : decode cX11_keeps 74 = .ok (.iconst 0, 1) := by decide +kernel
theorem dX11_keeps_75 : decode cX11_keeps 75 = .ok (.ireturn, 1) := by decide +kernel
theorem dX11_keeps_76 : decode cX11_keeps 76 = .ok (.iload_n 1, 1) := by decide +kernel
theorem dX11_keeps_77 : decode cX11_keeps 77 = .ok (.bipush 6, 2) := by decide +kernel
theorem dX11_keeps_79 : decode cX11_keeps 79 = .ok (.if_icmp .ne 10, 3) := by decide +kernel
theorem dX11_keeps_82 : decode cX11_keeps 82 = .ok (.aload_n 0, 1) := by decide +kernel
theorem dX11_keeps_83 : decode cX11_keeps 83 = .ok (.iload_n 2, 1) := by decide +kernel
theorem dX11_keeps_84 : decode cX11_keeps 84 = .ok (.iload_n 3, 1) := by decide +kernel
theorem dX11_keeps_85 : decode cX11_keeps 85 = .ok (.invokevirtual 174, 3) := by decide +kernel
theorem dX11_keeps_88 : decode cX11_keeps 88 = .ok (.ireturn, 1) := by decide +kernel
theorem dX11_keeps_89 : decode cX11_keeps 89 = .ok (.iload_n 1, 1) := by decide +kernel
theorem dX11_keeps_90 : decode cX11_keeps 90 = .ok (.iconst 3, 1) := by decide +kernel
theorem dX11_keeps_91 : decode cX11_keeps 91 = .ok (.if_icmp .ne 45, 3) := by decide +kernel
theorem dX11_keeps_94 : decode cX11_keeps 94 = .ok (.aload_n 0, 1) := by decide +kernel
theorem dX11_keeps_95 : decode cX11_keeps 95 = .ok (.iload 4, 2) := by decide +kernel
theorem dX11_keeps_97 : decode cX11_keeps 97 = .ok (.invokevirtual 168, 3) := by decide +kernel
theorem dX11_keeps_100 : decode cX11_keeps 100 = .ok (.ifCond .eq 12, 3) := by decide +kernel
theorem dX11_keeps_103 : decode cX11_keeps 103 = .ok (.aload_n 0, 1) := by decide +kernel
theorem dX11_keeps_104 : decode cX11_keeps 104 = .ok (.iload 6, 2) := by decide +kernel
theorem dX11_keeps_106 : decode cX11_keeps 106 = .ok (.invokevirtual 165, 3) := by decide +kernel
theorem dX11_keeps_109 : decode cX11_keeps 109 = .ok (.ifCond .eq 25, 3) := by decide +kernel
theorem dX11_keeps_112 : decode cX11_keeps 112 = .ok (.aload_n 0, 1) := by decide +kernel
theorem dX11_keeps_113 : decode cX11_keeps 113 = .ok (.iload 7, 2) := by decide +kernel
theorem dX11_keeps_115 : decode cX11_keeps 115 = .ok (.invokevirtual 168, 3) := by decide +kernel
theorem dX11_keeps_118 : decode cX11_keeps 118 = .ok (.ifCond .eq 12, 3) := by decide +kernel
theorem dX11_keeps_121 : decode cX11_keeps 121 = .ok (.aload_n 0, 1) := by decide +kernel
theorem dX11_keeps_122 : decode cX11_keeps 122 = .ok (.iload 5, 2) := by decide +kernel
theorem dX11_keeps_124 : decode cX11_keeps 124 = .ok (.invokevirtual 165, 3) := by decide +kernel
theorem dX11_keeps_127 : decode cX11_keeps 127 = .ok (.ifCond .eq 7, 3) := by decide +kernel
theorem dX11_keeps_130 : decode cX11_keeps 130 = .ok (.iconst 1, 1) := by decide +kernel
theorem dX11_keeps_131 : decode cX11_keeps 131 = .ok (.goto 4, 3) := by decide +kernel
theorem dX11_keeps_134 : decode cX11_keeps 134 = .ok (.iconst 0, 1) := by decide +kernel
theorem dX11_keeps_135 : decode cX11_keeps 135 = .ok (.ireturn, 1) := by decide +kernel
theorem dX11_keeps_136 : decode cX11_keeps 136 = .ok (.iload_n 1, 1) := by decide +kernel
theorem dX11_keeps_137 : decode cX11_keeps 137 = .ok (.bipush 6, 2) := by decide +kernel
theorem dX11_keeps_139 : decode cX11_keeps 139 = .ok (.if_icmp .le 63, 3) := by decide +kernel
theorem dX11_keeps_142 : decode cX11_keeps 142 = .ok (.aload_n 0, 1) := by decide +kernel
theorem dX11_keeps_143 : decode cX11_keeps 143 = .ok (.iload 6, 2) := by decide +kernel
theorem dX11_keeps_145 : decode cX11_keeps 145 = .ok (.invokevirtual 168, 3) := by decide +kernel
theorem dX11_keeps_148 : decode cX11_keeps 148 = .ok (.ifCond .eq 12, 3) := by decide +kernel
theorem dX11_keeps_151 : decode cX11_keeps 151 = .ok (.aload_n 0, 1) := by decide +kernel
theorem dX11_keeps_152 : decode cX11_keeps 152 = .ok (.iload 4, 2) := by decide +kernel
theorem dX11_keeps_154 : decode cX11_keeps 154 = .ok (.invokevirtual 165, 3) := by decide +kernel
theorem dX11_keeps_157 : decode cX11_keeps 157 = .ok (.ifCond .eq 43, 3) := by decide +kernel
theorem dX11_keeps_160 : decode cX11_keeps 160 = .ok (.aload_n 0, 1) := by decide +kernel
theorem dX11_keeps_161 : decode cX11_keeps 161 = .ok (.iload 5, 2) := by decide +kernel
theorem dX11_keeps_163 : decode cX11_keeps 163 = .ok (.invokevirtual 168, 3) := by decide +kernel
theorem dX11_keeps_166 : decode cX11_keeps 166 = .ok (.ifCond .eq 12, 3) := by decide +kernel
theorem dX11_keeps_169 : decode cX11_keeps 169 = .ok (.aload_n 0, 1) := by decide +kernel
theorem dX11_keeps_170 : decode cX11_keeps 170 = .ok (.iload 6, 2) := by decide +kernel
theorem dX11_keeps_172 : decode cX11_keeps 172 = .ok (.invokevirtual 165, 3) := by decide +kernel
theorem dX11_keeps_175 : decode cX11_keeps 175 = .ok (.ifCond .eq 25, 3) := by decide +kernel
theorem dX11_keeps_178 : decode cX11_keeps 178 = .ok (.aload_n 0, 1) := by decide +kernel
theorem dX11_keeps_179 : decode cX11_keeps 179 = .ok (.iload 7, 2) := by decide +kernel
theorem dX11_keeps_181 : decode cX11_keeps 181 = .ok (.invokevirtual 168, 3) := by decide +kernel
theorem dX11_keeps_184 : decode cX11_keeps 184 = .ok (.ifCond .eq 12, 3) := by decide +kernel
theorem dX11_keeps_187 : decode cX11_keeps 187 = .ok (.aload_n 0, 1) := by decide +kernel
theorem dX11_keeps_188 : decode cX11_keeps 188 = .ok (.iload 5, 2) := by decide +kernel
theorem dX11_keeps_190 : decode cX11_keeps 190 = .ok (.invokevirtual 165, 3) := by decide +kernel
theorem dX11_keeps_193 : decode cX11_keeps 193 = .ok (.ifCond .eq 7, 3) := by decide +kernel
theorem dX11_keeps_196 : decode cX11_keeps 196 = .ok (.iconst 1, 1) := by decide +kernel
theorem dX11_keeps_197 : decode cX11_keeps 197 = .ok (.goto 4, 3) := by decide +kernel
theorem dX11_keeps_200 : decode cX11_keeps 200 = .ok (.iconst 0, 1) := by decide +kernel
theorem dX11_keeps_201 : decode cX11_keeps 201 = .ok (.ireturn, 1) := by decide +kernel
theorem dX11_keeps_202 : decode cX11_keeps 202 = .ok (.aload_n 0, 1) := by decide +kernel
theorem dX11_keeps_203 : decode cX11_keeps 203 = .ok (.iload 4, 2) := by decide +kernel
theorem dX11_keeps_205 : decode cX11_keeps 205 = .ok (.invokevirtual 168, 3) := by decide +kernel
theorem dX11_keeps_208 : decode cX11_keeps 208 = .ok (.ifCond .eq 12, 3) := by decide +kernel
theorem dX11_keeps_211 : decode cX11_keeps 211 = .ok (.aload_n 0, 1) := by decide +kernel
theorem dX11_keeps_212 : decode cX11_keeps 212 = .ok (.iload 6, 2) := by decide +kernel
theorem dX11_keeps_214 : decode cX11_keeps 214 = .ok (.invokevirtual 171, 3) := by decide +kernel
theorem dX11_keeps_217 : decode cX11_keeps 217 = .ok (.ifCond .eq 25, 3) := by decide +kernel
theorem dX11_keeps_220 : decode cX11_keeps 220 = .ok (.aload_n 0, 1) := by decide +kernel
theorem dX11_keeps_221 : decode cX11_keeps 221 = .ok (.iload 7, 2) := by decide +kernel
theorem dX11_keeps_223 : decode cX11_keeps 223 = .ok (.invokevirtual 168, 3) := by decide +kernel
theorem dX11_keeps_226 : decode cX11_keeps 226 = .ok (.ifCond .eq 12, 3) := by decide +kernel
theorem dX11_keeps_229 : decode cX11_keeps 229 = .ok (.aload_n 0, 1) := by decide +kernel
theorem dX11_keeps_230 : decode cX11_keeps 230 = .ok (.iload 5, 2) := by decide +kernel
theorem dX11_keeps_232 : decode cX11_keeps 232 = .ok (.invokevirtual 171, 3) := by decide +kernel
theorem dX11_keeps_235 : decode cX11_keeps 235 = .ok (.ifCond .eq 7, 3) := by decide +kernel
theorem dX11_keeps_238 : decode cX11_keeps 238 = .ok (.iconst 1, 1) := by decide +kernel
theorem dX11_keeps_239 : decode cX11_keeps 239 = .ok (.goto 4, 3) := by decide +kernel
theorem dX11_keeps_242 : decode cX11_keeps 242 = .ok (.iconst 0, 1) := by decide +kernel
theorem dX11_keeps_243 : decode cX11_keeps 243 = .ok (.istore 8, 2) := by decide +kernel
theorem dX11_keeps_245 : decode cX11_keeps 245 = .ok (.iload 8, 2) := by decide +kernel
theorem dX11_keeps_247 : decode cX11_keeps 247 = .ok (.ifCond .eq 47, 3) := by decide +kernel
theorem dX11_keeps_250 : decode cX11_keeps 250 = .ok (.iload_n 1, 1) := by decide +kernel
theorem dX11_keeps_251 : decode cX11_keeps 251 = .ok (.iconst 4, 1) := by decide +kernel
theorem dX11_keeps_252 : decode cX11_keeps 252 = .ok (.if_icmp .ne 18, 3) := by decide +kernel
theorem dX11_keeps_255 : decode cX11_keeps 255 = .ok (.aload_n 0, 1) := by decide +kernel
theorem dX11_keeps_256 : decode cX11_keeps 256 = .ok (.iload 4, 2) := by decide +kernel
theorem dX11_keeps_258 : decode cX11_keeps 258 = .ok (.invokevirtual 168, 3) := by decide +kernel
theorem dX11_keeps_261 : decode cX11_keeps 261 = .ok (.aload_n 0, 1) := by decide +kernel
theorem dX11_keeps_262 : decode cX11_keeps 262 = .ok (.iload 6, 2) := by decide +kernel
theorem dX11_keeps_264 : decode cX11_keeps 264 = .ok (.invokevirtual 168, 3) := by decide +kernel
theorem dX11_keeps_267 : decode cX11_keeps 267 = .ok (.if_icmp .ne 27, 3) := by decide +kernel
theorem dX11_keeps_270 : decode cX11_keeps 270 = .ok (.iload_n 1, 1) := by decide +kernel
theorem dX11_keeps_271 : decode cX11_keeps 271 = .ok (.iconst 5, 1) := by decide +kernel
theorem dX11_keeps_272 : decode cX11_keeps 272 = .ok (.if_icmp .ne 18, 3) := by decide +kernel
theorem dX11_keeps_275 : decode cX11_keeps 275 = .ok (.aload_n 0, 1) := by decide +kernel
theorem dX11_keeps_276 : decode cX11_keeps 276 = .ok (.iload 5, 2) := by decide +kernel
theorem dX11_keeps_278 : decode cX11_keeps 278 = .ok (.invokevirtual 168, 3) := by decide +kernel
theorem dX11_keeps_281 : decode cX11_keeps 281 = .ok (.aload_n 0, 1) := by decide +kernel
theorem dX11_keeps_282 : decode cX11_keeps 282 = .ok (.iload 7, 2) := by decide +kernel
theorem dX11_keeps_284 : decode cX11_keeps 284 = .ok (.invokevirtual 168, 3) := by decide +kernel
theorem dX11_keeps_287 : decode cX11_keeps 287 = .ok (.if_icmp .ne 7, 3) := by decide +kernel
theorem dX11_keeps_290 : decode cX11_keeps 290 = .ok (.iconst 1, 1) := by decide +kernel
theorem dX11_keeps_291 : decode cX11_keeps 291 = .ok (.goto 4, 3) := by decide +kernel
theorem dX11_keeps_294 : decode cX11_keeps 294 = .ok (.iconst 0, 1) := by decide +kernel
theorem dX11_keeps_295 : decode cX11_keeps 295 = .ok (.ireturn, 1) := by decide +kernel
set_option maxRecDepth 20000 in
theorem ggX11_allKept_X11_apart : GoodIn wsX11_allKept wsX11_apart := goodIn_r _ [10, 11, 12, 13, 9, 14, 15, 16, 17, 18, 19, 20, 21, 22, 23, 24, 29, 30, 31, 32, 33, 34, 35, 36, 37, 38, 39, 40, 41, 42, 43, 44, 45, 46, 47, 48, 49, 50, 51, 52, 53, 54, 55, 56] (by decide +kernel) (by decide +kernel)
set_option maxRecDepth 20000 in
theorem gX11_allKept_X11_apart : GoodIn wsX11_allKept (wsV RX11 174 RX11 yX11_apart wsX11_apart) := goodIn_app (goodIn_of _ (by decide +kernel)) ggX11_allKept_X11_apart
set_option maxRecDepth 20000 in
theorem ggX11_allKept_X11_keeps : GoodIn wsX11_allKept wsX11_keeps := goodIn_r _ [28, 11, 12, 13, 9, 14, 15, 20, 21, 22, 23, 24, 6, 7, 8, 10, 16, 17, 18, 19, 29, 30, 31, 32, 33, 34, 35, 36, 37, 38, 39, 40, 41, 42, 43, 44, 45, 46, 47, 48, 49, 50, 51, 52, 53, 54, 55, 56] (by decide +kernel) (by decide +kernel)
set_option maxRecDepth 20000 in
theorem gX11_allKept_X11_keeps : GoodIn wsX11_allKept (wsV RX11 187 RX11 yX11_keeps wsX11_keeps) := goodIn_app (goodIn_of _ (by decide +kernel)) ggX11_allKept_X11_keeps
set_option maxRecDepth 20000 in
theorem ggX11_allKept_X11_is : GoodIn wsX11_allKept wsX11_is := goodIn_r _ [14, 15, 29, 30, 31, 32, 33, 34, 35, 36, 37, 38, 39, 40, 41, 42, 43, 44, 45, 46, 47, 48, 49, 50, 51, 52, 53, 54, 55, 56] (by decide +kernel) (by decide +kernel)
set_option maxRecDepth 20000 in
theorem gX11_allKept_X11_is : GoodIn wsX11_allKept (wsV RX11 168 RX11 yX11_is wsX11_is) := goodIn_app (goodIn_of _ (by decide +kernel)) ggX11_allKept_X11_is
theorem dX11_allKept_0 : decode cX11_allKept 0 = .ok (.aload_n 0, 1) := by decide +kernel
theorem dX11_allKept_1 : decode cX11_allKept 1 = .ok (.getfield 7, 3) := by decide +kernel
theorem dX11_allKept_4 : decode cX11_allKept 4 = .ok (.iconst 0, 1) := by decide +kernel
theorem dX11_allKept_5 : decode cX11_allKept 5 = .ok (.iaload, 1) := by decide +kernel
theorem dX11_allKept_6 : decode cX11_allKept 6 = .ok (.istore_n 1, 1) := by decide +kernel
theorem dX11_allKept_7 : decode cX11_allKept 7 = .ok (.aload_n 0, 1) := by decide +kernel
theorem dX11_allKept_8 : decode cX11_allKept 8 = .ok (.getfield 178, 3) := by decide +kernel
theorem dX11_allKept_11 : decode cX11_allKept 11 = .ok (.iconst (-1), 1) := by decide +kernel
theorem dX11_allKept_12 : decode cX11_allKept 12 = .ok (.if_icmp .eq 40, 3) := by decide +kernel
theorem dX11_allKept_15 : decode cX11_allKept 15 = .ok (.aload_n 0, 1) := by decide +kernel
theorem dX11_allKept_16 : decode cX11_allKept 16 = .ok (.aload_n 0, 1) := by decide +kernel
theorem dX11_allKept_17 : decode cX11_allKept 17 = .ok (.getfield 178, 3) := by decide +kernel
theorem dX11_allKept_20 : decode cX11_allKept 20 = .ok (.ifCond .ge 7, 3) := by decide +kernel
theorem dX11_allKept_23 : decode cX11_allKept 23 = .ok (.iconst 0, 1) := by decide +kernel
theorem dX11_allKept_24 : decode cX11_allKept 24 = .ok (.goto 7, 3) := by decide +kernel
theorem dX11_allKept_27 : decode cX11_allKept 27 = .ok (.aload_n 0, 1) := by decide +kernel
theorem dX11_allKept_28 : decode cX11_allKept 28 = .ok (.getfield 178, 3) := by decide +kernel
theorem dX11_allKept_31 : decode cX11_allKept 31 = .ok (.aload_n 0, 1) := by decide +kernel
theorem dX11_allKept_32 : decode cX11_allKept 32 = .ok (.getfield 181, 3) := by decide +kernel
theorem dX11_allKept_35 : decode cX11_allKept 35 = .ok (.ifCond .ge 7, 3) := by decide +kernel
theorem dX11_allKept_38 : decode cX11_allKept 38 = .ok (.iconst 0, 1) := by decide +kernel
theorem dX11_allKept_39 : decode cX11_allKept 39 = .ok (.goto 7, 3) := by decide +kernel
theorem dX11_allKept_42 : decode cX11_allKept 42 = .ok (.aload_n 0, 1) := by decide +kernel
theorem dX11_allKept_43 : decode cX11_allKept 43 = .ok (.getfield 181, 3) := by decide +kernel
theorem dX11_allKept_46 : decode cX11_allKept 46 = .ok (.invokevirtual 174, 3) := by decide +kernel
theorem dX11_allKept_49 : decode cX11_allKept 49 = .ok (.ifCond .eq 7, 3) := by decide +kernel
theorem dX11_allKept_52 : decode cX11_allKept 52 = .ok (.iconst 1, 1) := by decide +kernel
theorem dX11_allKept_53 : decode cX11_allKept 53 = .ok (.goto 4, 3) := by decide +kernel
theorem dX11_allKept_56 : decode cX11_allKept 56 = .ok (.iconst 0, 1) := by decide +kernel
theorem dX11_allKept_57 : decode cX11_allKept 57 = .ok (.istore_n 2, 1) := by decide +kernel
theorem dX11_allKept_58 : decode cX11_allKept 58 = .ok (.iconst 0, 1) := by decide +kernel
theorem dX11_allKept_59 : decode cX11_allKept 59 = .ok (.istore_n 3, 1) := by decide +kernel
theorem dX11_allKept_60 : decode cX11_allKept 60 = .ok (.iload_n 3, 1) := by decide +kernel
theorem dX11_allKept_61 : decode cX11_allKept 61 = .ok (.aload_n 0, 1) := by decide +kernel
theorem dX11_allKept_62 : decode cX11_allKept 62 = .ok (.getfield 7, 3) := by decide +kernel
theorem dX11_allKept_65 : decode cX11_allKept 65 = .ok (.iconst 1, 1) := by decide +kernel
theorem dX11_allKept_66 : decode cX11_allKept 66 = .ok (.iaload, 1) := by decide +kernel
theorem dX11_allKept_67 : decode cX11_allKept 67 = .ok (.if_icmp .ge 64, 3) := by decide +kernel
theorem dX11_allKept_70 : decode cX11_allKept 70 = .ok (.iload_n 2, 1) := by decide +kernel
theorem dX11_allKept_71 : decode cX11_allKept 71 = .ok (.ifCond .eq 60, 3) := by decide +kernel
theorem dX11_allKept_74 : decode cX11_allKept 74 = .ok (.aload_n 0, 1) := by decide +kernel
theorem dX11_allKept_75 : decode cX11_allKept 75 = .ok (.getfield 184, 3) := by decide +kernel
theorem dX11_allKept_78 : decode cX11_allKept 78 = .ok (.iload_n 3, 1) := by decide +kernel
theorem dX11_allKept_79 : decode cX11_allKept 79 = .ok (.ishr, 1) := by decide +kernel
theorem dX11_allKept_80 : decode cX11_allKept 80 = .ok (.iconst 1, 1) := by decide +kernel
theorem dX11_allKept_81 : decode cX11_allKept 81 = .ok (.iand, 1) := by decide +kernel
theorem dX11_allKept_82 : decode cX11_allKept 82 = .ok (.ifCond .eq 37, 3) := by decide +kernel
theorem dX11_allKept_85 : decode cX11_allKept 85 = .ok (.aload_n 0, 1) := by decide +kernel
theorem dX11_allKept_86 : decode cX11_allKept 86 = .ok (.aload_n 0, 1) := by decide +kernel
theorem dX11_allKept_87 : decode cX11_allKept 87 = .ok (.getfield 7, 3) := by decide +kernel
theorem dX11_allKept_90 : decode cX11_allKept 90 = .ok (.bipush 14, 2) := by decide +kernel
theorem dX11_allKept_92 : decode cX11_allKept 92 = .ok (.iload_n 3, 1) := by decide +kernel
theorem dX11_allKept_93 : decode cX11_allKept 93 = .ok (.iadd, 1) := by decide +kernel
theorem dX11_allKept_94 : decode cX11_allKept 94 = .ok (.iaload, 1) := by decide +kernel
theorem dX11_allKept_95 : decode cX11_allKept 95 = .ok (.aload_n 0, 1) := by decide +kernel
theorem dX11_allKept_96 : decode cX11_allKept 96 = .ok (.getfield 7, 3) := by decide +kernel
theorem dX11_allKept_99 : decode cX11_allKept 99 = .ok (.bipush 22, 2) := by decide +kernel
theorem dX11_allKept_101 : decode cX11_allKept 101 = .ok (.iload_n 3, 1) := by decide +kernel
theorem dX11_allKept_102 : decode cX11_allKept 102 = .ok (.iadd, 1) := by decide +kernel
theorem dX11_allKept_103 : decode cX11_allKept 103 = .ok (.iaload, 1) := by decide +kernel
theorem dX11_allKept_104 : decode cX11_allKept 104 = .ok (.aload_n 0, 1) := by decide +kernel
theorem dX11_allKept_105 : decode cX11_allKept 105 = .ok (.getfield 7, 3) := by decide +kernel
theorem dX11_allKept_108 : decode cX11_allKept 108 = .ok (.bipush 30, 2) := by decide +kernel
theorem dX11_allKept_110 : decode cX11_allKept 110 = .ok (.iload_n 3, 1) := by decide +kernel
theorem dX11_allKept_111 : decode cX11_allKept 111 = .ok (.iadd, 1) := by decide +kernel
theorem dX11_allKept_112 : decode cX11_allKept 112 = .ok (.iaload, 1) := by decide +kernel
theorem dX11_allKept_113 : decode cX11_allKept 113 = .ok (.invokevirtual 187, 3) := by decide +kernel
theorem dX11_allKept_116 : decode cX11_allKept 116 = .ok (.ifCond .eq 7, 3) := by decide +kernel
theorem dX11_allKept_119 : decode cX11_allKept 119 = .ok (.iconst 1, 1) := by decide +kernel
theorem dX11_allKept_120 : decode cX11_allKept 120 = .ok (.goto 4, 3) := by decide +kernel
theorem dX11_allKept_123 : decode cX11_allKept 123 = .ok (.iconst 0, 1) := by decide +kernel
theorem dX11_allKept_124 : decode cX11_allKept 124 = .ok (.istore_n 2, 1) := by decide +kernel
theorem dX11_allKept_125 : decode cX11_allKept 125 = .ok (.iinc 3 1, 3) := by decide +kernel
theorem dX11_allKept_128 : decode cX11_allKept 128 = .ok (.goto (-68), 3) := by decide +kernel
theorem dX11_allKept_131 : decode cX11_allKept 131 = .ok (.iconst 0, 1) := by decide +kernel
theorem dX11_allKept_132 : decode cX11_allKept 132 = .ok (.istore_n 3, 1) := by decide +kernel
theorem dX11_allKept_133 : decode cX11_allKept 133 = .ok (.iload_n 3, 1) := by decide +kernel
theorem dX11_allKept_134 : decode cX11_allKept 134 = .ok (.iload_n 1, 1) := by decide +kernel
theorem dX11_allKept_135 : decode cX11_allKept 135 = .ok (.if_icmp .ge 162, 3) := by decide +kernel
theorem dX11_allKept_138 : decode cX11_allKept 138 = .ok (.iload_n 2, 1) := by decide +kernel
theorem dX11_allKept_139 : decode cX11_allKept 139 = .ok (.ifCond .eq 158, 3) := by decide +kernel
theorem dX11_allKept_142 : decode cX11_allKept 142 = .ok (.iconst 0, 1) := by decide +kernel
theorem dX11_allKept_143 : decode cX11_allKept 143 = .ok (.istore 4, 2) := by decide +kernel
theorem dX11_allKept_145 : decode cX11_allKept 145 = .ok (.iload 4, 2) := by decide +kernel
theorem dX11_allKept_147 : decode cX11_allKept 147 = .ok (.iload_n 3, 1) := by decide +kernel
theorem dX11_allKept_148 : decode cX11_allKept 148 = .ok (.if_icmp .ge 61, 3) := by decide +kernel
theorem dX11_allKept_151 : decode cX11_allKept 151 = .ok (.iload_n 2, 1) := by decide +kernel
theorem dX11_allKept_152 : decode cX11_allKept 152 = .ok (.ifCond .eq 49, 3) := by decide +kernel
theorem dX11_allKept_155 : decode cX11_allKept 155 = .ok (.aload_n 0, 1) := by decide +kernel
theorem dX11_allKept_156 : decode cX11_allKept 156 = .ok (.getfield 7, 3) := by decide +kernel
theorem dX11_allKept_159 : decode cX11_allKept 159 = .ok (.iconst 2, 1) := by decide +kernel
theorem dX11_allKept_160 : decode cX11_allKept 160 = .ok (.iload_n 3, 1) := by decide +kernel
theorem dX11_allKept_161 : decode cX11_allKept 161 = .ok (.iadd, 1) := by decide +kernel
theorem dX11_allKept_162 : decode cX11_allKept 162 = .ok (.iaload, 1) := by decide +kernel
theorem dX11_allKept_163 : decode cX11_allKept 163 = .ok (.iconst (-1), 1) := by decide +kernel
theorem dX11_allKept_164 : decode cX11_allKept 164 = .ok (.if_icmp .eq 33, 3) := by decide +kernel
theorem dX11_allKept_167 : decode cX11_allKept 167 = .ok (.aload_n 0, 1) := by decide +kernel
theorem dX11_allKept_168 : decode cX11_allKept 168 = .ok (.getfield 7, 3) := by decide +kernel
theorem dX11_allKept_171 : decode cX11_allKept 171 = .ok (.iconst 2, 1) := by decide +kernel
theorem dX11_allKept_172 : decode cX11_allKept 172 = .ok (.iload_n 3, 1) := by decide +kernel
theorem dX11_allKept_173 : decode cX11_allKept 173 = .ok (.iadd, 1) := by decide +kernel
theorem dX11_allKept_174 : decode cX11_allKept 174 = .ok (.iaload, 1) := by decide +kernel
theorem dX11_allKept_175 : decode cX11_allKept 175 = .ok (.aload_n 0, 1) := by decide +kernel
theorem dX11_allKept_176 : decode cX11_allKept 176 = .ok (.getfield 7, 3) := by decide +kernel
theorem dX11_allKept_179 : decode cX11_allKept 179 = .ok (.iconst 2, 1) := by decide +kernel
theorem dX11_allKept_180 : decode cX11_allKept 180 = .ok (.iload 4, 2) := by decide +kernel
theorem dX11_allKept_182 : decode cX11_allKept 182 = .ok (.iadd, 1) := by decide +kernel
theorem dX11_allKept_183 : decode cX11_allKept 183 = .ok (.iaload, 1) := by decide +kernel
theorem dX11_allKept_184 : decode cX11_allKept 184 = .ok (.if_icmp .ne 13, 3) := by decide +kernel
theorem dX11_allKept_187 : decode cX11_allKept 187 = .ok (.aload_n 0, 1) := by decide +kernel
theorem dX11_allKept_188 : decode cX11_allKept 188 = .ok (.iload_n 3, 1) := by decide +kernel
theorem dX11_allKept_189 : decode cX11_allKept 189 = .ok (.iload 4, 2) := by decide +kernel
theorem dX11_allKept_191 : decode cX11_allKept 191 = .ok (.invokevirtual 174, 3) := by decide +kernel
theorem dX11_allKept_194 : decode cX11_allKept 194 = .ok (.ifCond .eq 7, 3) := by decide +kernel
theorem dX11_allKept_197 : decode cX11_allKept 197 = .ok (.iconst 1, 1) := by decide +kernel
theorem dX11_allKept_198 : decode cX11_allKept 198 = .ok (.goto 4, 3) := by decide +kernel
theorem dX11_allKept_201 : decode cX11_allKept 201 = .ok (.iconst 0, 1) := by decide +kernel
theorem dX11_allKept_202 : decode cX11_allKept 202 = .ok (.istore_n 2, 1) := by decide +kernel
theorem dX11_allKept_203 : decode cX11_allKept 203 = .ok (.iinc 4 1, 3) := by decide +kernel
theorem dX11_allKept_206 : decode cX11_allKept 206 = .ok (.goto (-61), 3) := by decide +kernel
theorem dX11_allKept_209 : decode cX11_allKept 209 = .ok (.aload_n 0, 1) := by decide +kernel
theorem dX11_allKept_210 : decode cX11_allKept 210 = .ok (.getfield 29, 3) := by decide +kernel
theorem dX11_allKept_213 : decode cX11_allKept 213 = .ok (.iload_n 3, 1) := by decide +kernel
theorem dX11_allKept_214 : decode cX11_allKept 214 = .ok (.iaload, 1) := by decide +kernel
theorem dX11_allKept_215 : decode cX11_allKept 215 = .ok (.istore 4, 2) := by decide +kernel
theorem dX11_allKept_217 : decode cX11_allKept 217 = .ok (.iload_n 2, 1) := by decide +kernel
theorem dX11_allKept_218 : decode cX11_allKept 218 = .ok (.ifCond .eq 71, 3) := by decide +kernel
theorem dX11_allKept_221 : decode cX11_allKept 221 = .ok (.iload 4, 2) := by decide +kernel
theorem dX11_allKept_223 : decode cX11_allKept 223 = .ok (.iconst (-1), 1) := by decide +kernel
theorem dX11_allKept_224 : decode cX11_allKept 224 = .ok (.if_icmp .eq 61, 3) := by decide +kernel
theorem dX11_allKept_227 : decode cX11_allKept 227 = .ok (.aload_n 0, 1) := by decide +kernel
theorem dX11_allKept_228 : decode cX11_allKept 228 = .ok (.iconst 2, 1) := by decide +kernel
theorem dX11_allKept_229 : decode cX11_allKept 229 = .ok (.iload_n 3, 1) := by decide +kernel
theorem dX11_allKept_230 : decode cX11_allKept 230 = .ok (.imul, 1) := by decide +kernel
theorem dX11_allKept_231 : decode cX11_allKept 231 = .ok (.invokevirtual 168, 3) := by decide +kernel
theorem dX11_allKept_234 : decode cX11_allKept 234 = .ok (.aload_n 0, 1) := by decide +kernel
theorem dX11_allKept_235 : decode cX11_allKept 235 = .ok (.iconst 2, 1) := by decide +kernel
theorem dX11_allKept_236 : decode cX11_allKept 236 = .ok (.iload 4, 2) := by decide +kernel
theorem dX11_allKept_238 : decode cX11_allKept 238 = .ok (.ifCond .ge 7, 3) := by decide +kernel
theorem dX11_allKept_241 : decode cX11_allKept 241 = .ok (.iconst 0, 1) := by decide +kernel
theorem dX11_allKept_242 : decode cX11_allKept 242 = .ok (.goto 5, 3) := by decide +kernel
theorem dX11_allKept_245 : decode cX11_allKept 245 = .ok (.iload 4, 2) := by decide +kernel
theorem dX11_allKept_247 : decode cX11_allKept 247 = .ok (.imul, 1) := by decide +kernel
theorem dX11_allKept_248 : decode cX11_allKept 248 = .ok (.invokevirtual 168, 3) := by decide +kernel
theorem dX11_allKept_251 : decode cX11_allKept 251 = .ok (.if_icmp .ne 38, 3) := by decide +kernel
theorem dX11_allKept_254 : decode cX11_allKept 254 = .ok (.aload_n 0, 1) := by decide +kernel
theorem dX11_allKept_255 : decode cX11_allKept 255 = .ok (.iconst 2, 1) := by decide +kernel
theorem dX11_allKept_256 : decode cX11_allKept 256 = .ok (.iload_n 3, 1) := by decide +kernel
theorem dX11_allKept_257 : decode cX11_allKept 257 = .ok (.imul, 1) := by decide +kernel
theorem dX11_allKept_258 : decode cX11_allKept 258 = .ok (.iconst 1, 1) := by decide +kernel
theorem dX11_allKept_259 : decode cX11_allKept 259 = .ok (.iadd, 1) := by decide +kernel
theorem dX11_allKept_260 : decode cX11_allKept 260 = .ok (.invokevirtual 168, 3) := by decide +kernel
theorem dX11_allKept_263 : decode cX11_allKept 263 = .ok (.aload_n 0, 1) := by decide +kernel
theorem dX11_allKept_264 : decode cX11_allKept 264 = .ok (.iconst 2, 1) := by decide +kernel
theorem dX11_allKept_265 : decode cX11_allKept 265 = .ok (.iload 4, 2) := by decide +kernel
theorem dX11_allKept_267 : decode cX11_allKept 267 = .ok (.ifCond .ge 7, 3) := by decide +kernel
theorem dX11_allKept_270 : decode cX11_allKept 270 = .ok (.iconst 0, 1) := by decide +kernel
theorem dX11_allKept_271 : decode cX11_allKept 271 = .ok (.goto 5, 3) := by decide +kernel
theorem dX11_allKept_274 : decode cX11_allKept 274 = .ok (.iload 4, 2) := by decide +kernel
theorem dX11_allKept_276 : decode cX11_allKept 276 = .ok (.imul, 1) := by decide +kernel
theorem dX11_allKept_277 : decode cX11_allKept 277 = .ok (.iconst 1, 1) := by decide +kernel
theorem dX11_allKept_278 : decode cX11_allKept 278 = .ok (.iadd, 1) := by decide +kernel
theorem dX11_allKept_279 : decode cX11_allKept 279 = .ok (.invokevirtual 168, 3) := by decide +kernel
theorem dX11_allKept_282 : decode cX11_allKept 282 = .ok (.if_icmp .ne 7, 3) := by decide +kernel
theorem dX11_allKept_285 : decode cX11_allKept 285 = .ok (.iconst 1, 1) := by decide +kernel
theorem dX11_allKept_286 : decode cX11_allKept 286 = .ok (.goto 4, 3) := by decide +kernel
theorem dX11_allKept_289 : decode cX11_allKept 289 = .ok (.iconst 0, 1) := by decide +kernel
theorem dX11_allKept_290 : decode cX11_allKept 290 = .ok (.istore_n 2, 1) := by decide +kernel
theorem dX11_allKept_291 : decode cX11_allKept 291 = .ok (.iinc 3 1, 3) := by decide +kernel
theorem dX11_allKept_294 : decode cX11_allKept 294 = .ok (.goto (-161), 3) := by decide +kernel
theorem dX11_allKept_297 : decode cX11_allKept 297 = .ok (.iload_n 2, 1) := by decide +kernel
theorem dX11_allKept_298 : decode cX11_allKept 298 = .ok (.ireturn, 1) := by decide +kernel
theorem dX11_next_0 : decode cX11_next 0 = .ok (.iconst 0, 1) := by decide +kernel
theorem dX11_next_1 : decode cX11_next 1 = .ok (.istore_n 2, 1) := by decide +kernel
theorem dX11_next_2 : decode cX11_next 2 = .ok (.iconst 0, 1) := by decide +kernel
theorem dX11_next_3 : decode cX11_next 3 = .ok (.istore_n 3, 1) := by decide +kernel
theorem dX11_next_4 : decode cX11_next 4 = .ok (.iload_n 3, 1) := by decide +kernel
theorem dX11_next_5 : decode cX11_next 5 = .ok (.aload_n 0, 1) := by decide +kernel
theorem dX11_next_6 : decode cX11_next 6 = .ok (.getfield 7, 3) := by decide +kernel
theorem dX11_next_9 : decode cX11_next 9 = .ok (.iconst 0, 1) := by decide +kernel
theorem dX11_next_10 : decode cX11_next 10 = .ok (.iaload, 1) := by decide +kernel
theorem dX11_next_11 : decode cX11_next 11 = .ok (.if_icmp .ge 49, 3) := by decide +kernel
theorem dX11_next_14 : decode cX11_next 14 = .ok (.iload_n 1, 1) := by decide +kernel
theorem dX11_next_15 : decode cX11_next 15 = .ok (.iconst 2, 1) := by decide +kernel
theorem dX11_next_16 : decode cX11_next 16 = .ok (.iload_n 3, 1) := by decide +kernel
theorem dX11_next_17 : decode cX11_next 17 = .ok (.imul, 1) := by decide +kernel
theorem dX11_next_18 : decode cX11_next 18 = .ok (.ishr, 1) := by decide +kernel
theorem dX11_next_19 : decode cX11_next 19 = .ok (.iconst 3, 1) := by decide +kernel
theorem dX11_next_20 : decode cX11_next 20 = .ok (.iand, 1) := by decide +kernel
theorem dX11_next_21 : decode cX11_next 21 = .ok (.istore 4, 2) := by decide +kernel
theorem dX11_next_23 : decode cX11_next 23 = .ok (.iload_n 2, 1) := by decide +kernel
theorem dX11_next_24 : decode cX11_next 24 = .ok (.iload 4, 2) := by decide +kernel
theorem dX11_next_26 : decode cX11_next 26 = .ok (.ifCond .ne 11, 3) := by decide +kernel
theorem dX11_next_29 : decode cX11_next 29 = .ok (.iconst 1, 1) := by decide +kernel
theorem dX11_next_30 : decode cX11_next 30 = .ok (.iconst 2, 1) := by decide +kernel
theorem dX11_next_31 : decode cX11_next 31 = .ok (.iload_n 3, 1) := by decide +kernel
theorem dX11_next_32 : decode cX11_next 32 = .ok (.imul, 1) := by decide +kernel
theorem dX11_next_33 : decode cX11_next 33 = .ok (.ishl, 1) := by decide +kernel
theorem dX11_next_34 : decode cX11_next 34 = .ok (.goto 18, 3) := by decide +kernel
theorem dX11_next_37 : decode cX11_next 37 = .ok (.iload 4, 2) := by decide +kernel
theorem dX11_next_39 : decode cX11_next 39 = .ok (.iconst 1, 1) := by decide +kernel
theorem dX11_next_40 : decode cX11_next 40 = .ok (.if_icmp .ne 11, 3) := by decide +kernel
theorem dX11_next_43 : decode cX11_next 43 = .ok (.iconst 2, 1) := by decide +kernel
theorem dX11_next_44 : decode cX11_next 44 = .ok (.iconst 2, 1) := by decide +kernel
theorem dX11_next_45 : decode cX11_next 45 = .ok (.iload_n 3, 1) := by decide +kernel
theorem dX11_next_46 : decode cX11_next 46 = .ok (.imul, 1) := by decide +kernel
theorem dX11_next_47 : decode cX11_next 47 = .ok (.ishl, 1) := by decide +kernel
theorem dX11_next_48 : decode cX11_next 48 = .ok (.goto 4, 3) := by decide +kernel
theorem dX11_next_51 : decode cX11_next 51 = .ok (.iconst 0, 1) := by decide +kernel
theorem dX11_next_52 : decode cX11_next 52 = .ok (.ior, 1) := by decide +kernel
theorem dX11_next_53 : decode cX11_next 53 = .ok (.istore_n 2, 1) := by decide +kernel
theorem dX11_next_54 : decode cX11_next 54 = .ok (.iinc 3 1, 3) := by decide +kernel
theorem dX11_next_57 : decode cX11_next 57 = .ok (.goto (-53), 3) := by decide +kernel
theorem dX11_next_60 : decode cX11_next 60 = .ok (.iload_n 2, 1) := by decide +kernel
theorem dX11_next_61 : decode cX11_next 61 = .ok (.ireturn, 1) := by decide +kernel
theorem dX11_full_0 : decode cX11_full 0 = .ok (.iconst 1, 1) := by decide +kernel
theorem dX11_full_1 : decode cX11_full 1 = .ok (.iconst 2, 1) := by decide +kernel
theorem dX11_full_2 : decode cX11_full 2 = .ok (.aload_n 0, 1) := by decide +kernel
theorem dX11_full_3 : decode cX11_full 3 = .ok (.getfield 7, 3) := by decide +kernel
theorem dX11_full_6 : decode cX11_full 6 = .ok (.iconst 0, 1) := by decide +kernel
theorem dX11_full_7 : decode cX11_full 7 = .ok (.iaload, 1) := by decide +kernel
theorem dX11_full_8 : decode cX11_full 8 = .ok (.imul, 1) := by decide +kernel
theorem dX11_full_9 : decode cX11_full 9 = .ok (.ishl, 1) := by decide +kernel
theorem dX11_full_10 : decode cX11_full 10 = .ok (.iconst 1, 1) := by decide +kernel
theorem dX11_full_11 : decode cX11_full 11 = .ok (.isub, 1) := by decide +kernel
theorem dX11_full_12 : decode cX11_full 12 = .ok (.ireturn, 1) := by decide +kernel
theorem dX11_isState_0 : decode cX11_isState 0 = .ok (.iload_n 1, 1) := by decide +kernel
theorem dX11_isState_1 : decode cX11_isState 1 = .ok (.iconst 1, 1) := by decide +kernel
theorem dX11_isState_2 : decode cX11_isState 2 = .ok (.ishr, 1) := by decide +kernel
theorem dX11_isState_3 : decode cX11_isState 3 = .ok (.sipush 1365, 3) := by decide +kernel
theorem dX11_isState_6 : decode cX11_isState 6 = .ok (.iand, 1) := by decide +kernel
theorem dX11_isState_7 : decode cX11_isState 7 = .ok (.iload_n 1, 1) := by decide +kernel
theorem dX11_isState_8 : decode cX11_isState 8 = .ok (.iconst (-1), 1) := by decide +kernel
theorem dX11_isState_9 : decode cX11_isState 9 = .ok (.ixor, 1) := by decide +kernel
theorem dX11_isState_10 : decode cX11_isState 10 = .ok (.iand, 1) := by decide +kernel
theorem dX11_isState_11 : decode cX11_isState 11 = .ok (.ifCond .ne 7, 3) := by decide +kernel
theorem dX11_isState_14 : decode cX11_isState 14 = .ok (.iconst 1, 1) := by decide +kernel
theorem dX11_isState_15 : decode cX11_isState 15 = .ok (.goto 4, 3) := by decide +kernel
theorem dX11_isState_18 : decode cX11_isState 18 = .ok (.iconst 0, 1) := by decide +kernel
theorem dX11_isState_19 : decode cX11_isState 19 = .ok (.ireturn, 1) := by decide +kernel
set_option maxRecDepth 20000 in
theorem ggX11_moves_X11_allKept : GoodIn wsX11_moves wsX11_allKept := goodIn_r _ [7, 8, 9, 10, 11, 12, 13, 14, 15, 6, 16, 17, 18, 19, 20, 2, 21, 22, 23, 24, 25, 26, 27, 28, 1, 29, 30, 31, 32, 33, 34, 35, 36, 37, 38, 39, 40, 41, 42, 43, 44, 45, 46, 47, 48, 49, 50, 51, 52, 53, 54, 55, 56, 57, 58, 59, 60] (by decide +kernel) (by decide +kernel)
set_option maxRecDepth 20000 in
theorem gX11_moves_X11_allKept : GoodIn wsX11_moves (wsV RX11 190 RX11 yX11_allKept wsX11_allKept) := goodIn_app (goodIn_of _ (by decide +kernel)) ggX11_moves_X11_allKept
theorem dX11_moves_0 : decode cX11_moves 0 = .ok (.aload_n 0, 1) := by decide +kernel
theorem dX11_moves_1 : decode cX11_moves 1 = .ok (.iload_n 1, 1) := by decide +kernel
theorem dX11_moves_2 : decode cX11_moves 2 = .ok (.putfield 159, 3) := by decide +kernel
theorem dX11_moves_5 : decode cX11_moves 5 = .ok (.aload_n 0, 1) := by decide +kernel
theorem dX11_moves_6 : decode cX11_moves 6 = .ok (.iload_n 2, 1) := by decide +kernel
theorem dX11_moves_7 : decode cX11_moves 7 = .ok (.putfield 162, 3) := by decide +kernel
theorem dX11_moves_10 : decode cX11_moves 10 = .ok (.aload_n 0, 1) := by decide +kernel
theorem dX11_moves_11 : decode cX11_moves 11 = .ok (.invokevirtual 190, 3) := by decide +kernel
theorem dX11_moves_14 : decode cX11_moves 14 = .ok (.ireturn, 1) := by decide +kernel
set_option maxRecDepth 20000 in
theorem ggX11_counts_X11_full : GoodIn wsX11_counts wsX11_full := goodIn_r _ [6, 7, 50, 51, 52, 53, 54, 55, 56, 57, 58, 59, 60, 61, 62, 63, 64, 65, 66, 67, 68, 69, 70, 71, 72, 73, 74, 75, 76, 77] (by decide +kernel) (by decide +kernel)
set_option maxRecDepth 20000 in
theorem gX11_counts_X11_full : GoodIn wsX11_counts (wsV RX11 193 RX11 yX11_full wsX11_full) := goodIn_app (goodIn_of _ (by decide +kernel)) ggX11_counts_X11_full
set_option maxRecDepth 20000 in
theorem ggX11_counts_X11_isState : GoodIn wsX11_counts wsX11_isState := goodIn_r _ [11] (by decide +kernel) (by decide +kernel)
set_option maxRecDepth 20000 in
theorem gX11_counts_X11_isState : GoodIn wsX11_counts (wsV RX11 196 RX11 yX11_isState wsX11_isState) := goodIn_app (goodIn_of _ (by decide +kernel)) ggX11_counts_X11_isState
set_option maxRecDepth 20000 in
theorem ggX11_counts_X11_next : GoodIn wsX11_counts wsX11_next := goodIn_r _ [15, 7, 50, 51, 52, 53, 54, 55, 56, 57, 58, 59, 60, 61, 62, 63, 64, 65, 66, 67, 68, 69, 70, 71, 72, 73, 74, 75, 76, 77] (by decide +kernel) (by decide +kernel)
set_option maxRecDepth 20000 in
theorem gX11_counts_X11_next : GoodIn wsX11_counts (wsV RX11 199 RX11 yX11_next wsX11_next) := goodIn_app (goodIn_of _ (by decide +kernel)) ggX11_counts_X11_next
set_option maxRecDepth 20000 in
theorem ggX11_counts_X11_moves : GoodIn wsX11_counts wsX11_moves := goodIn_r _ [19, 20, 21, 22, 23, 24, 5, 25, 7, 26, 27, 28, 29, 30, 31, 32, 33, 34, 35, 36, 37, 38, 39, 40, 41, 42, 43, 44, 45, 46, 47, 48, 49, 50, 51, 52, 53, 54, 55, 56, 57, 58, 59, 60, 61, 62, 63, 64, 65, 66, 67, 68, 69, 70, 71, 72, 73, 74, 75, 76, 77] (by decide +kernel) (by decide +kernel)
set_option maxRecDepth 20000 in
theorem gX11_counts_X11_moves : GoodIn wsX11_counts (wsV RX11 202 RX11 yX11_moves wsX11_moves) := goodIn_app (goodIn_of _ (by decide +kernel)) ggX11_counts_X11_moves
theorem dX11_counts_0 : decode cX11_counts 0 = .ok (.aload_n 0, 1) := by decide +kernel
theorem dX11_counts_1 : decode cX11_counts 1 = .ok (.invokevirtual 193, 3) := by decide +kernel
theorem dX11_counts_4 : decode cX11_counts 4 = .ok (.istore_n 1, 1) := by decide +kernel
theorem dX11_counts_5 : decode cX11_counts 5 = .ok (.iload_n 1, 1) := by decide +kernel
theorem dX11_counts_6 : decode cX11_counts 6 = .ok (.ifCond .lt 100, 3) := by decide +kernel
theorem dX11_counts_9 : decode cX11_counts 9 = .ok (.aload_n 0, 1) := by decide +kernel
theorem dX11_counts_10 : decode cX11_counts 10 = .ok (.getfield 32, 3) := by decide +kernel
theorem dX11_counts_13 : decode cX11_counts 13 = .ok (.iload_n 1, 1) := by decide +kernel
theorem dX11_counts_14 : decode cX11_counts 14 = .ok (.iload_n 1, 1) := by decide +kernel
theorem dX11_counts_15 : decode cX11_counts 15 = .ok (.aload_n 0, 1) := by decide +kernel
theorem dX11_counts_16 : decode cX11_counts 16 = .ok (.invokevirtual 193, 3) := by decide +kernel
theorem dX11_counts_19 : decode cX11_counts 19 = .ok (.if_icmp .ne 7, 3) := by decide +kernel
theorem dX11_counts_22 : decode cX11_counts 22 = .ok (.lconst 1, 1) := by decide +kernel
theorem dX11_counts_23 : decode cX11_counts 23 = .ok (.goto 4, 3) := by decide +kernel
theorem dX11_counts_26 : decode cX11_counts 26 = .ok (.lconst 0, 1) := by decide +kernel
theorem dX11_counts_27 : decode cX11_counts 27 = .ok (.lastore, 1) := by decide +kernel
theorem dX11_counts_28 : decode cX11_counts 28 = .ok (.aload_n 0, 1) := by decide +kernel
theorem dX11_counts_29 : decode cX11_counts 29 = .ok (.iload_n 1, 1) := by decide +kernel
theorem dX11_counts_30 : decode cX11_counts 30 = .ok (.invokevirtual 196, 3) := by decide +kernel
theorem dX11_counts_33 : decode cX11_counts 33 = .ok (.ifCond .eq 11, 3) := by decide +kernel
