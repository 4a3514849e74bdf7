set_option maxRecDepth 20000 in
theorem gL_X11_minute_c5 : GoodIn wsL_law wsX110 := goodIn_r _ [1100, 1101, 1102, 1103, 1104, 1105, 1106, 1107, 1108, 1109, 1110, 1111, 1112, 1113, 1114, 1115, 1116, 1117, 1118, 1119, 1120, 1121, 1122, 1123, 1124, 1125, 1126, 1127] (by decide +kernel) (by decide +kernel)
