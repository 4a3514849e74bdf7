set_option maxRecDepth 20000 in
theorem gL_X10_minute_c12 : GoodIn wsL_law wsX40 := goodIn_r _ [1128, 1129, 1130, 1131, 1132, 1133, 1134, 1135, 1136] (by decide +kernel) (by decide +kernel)
set_option maxRecDepth 20000 in
theorem gL_X10_minute_c13 : GoodIn wsL_law wsX20 := goodIn_r _ [1145, 1146, 1147, 1148, 1149, 1150, 1151, 1152, 1153, 1154, 1155, 1156] (by decide +kernel) (by decide +kernel)
set_option maxRecDepth 20000 in
theorem gL_X10_minute_c14 : GoodIn wsL_law wsX90 := goodIn_r _ [1161, 1162, 1163] (by decide +kernel) (by decide +kernel)
set_option maxRecDepth 20000 in
theorem gL_X10_minute_c15 : GoodIn wsL_law wsX70 := goodIn_r _ [1157, 1158, 1159, 1160] (by decide +kernel) (by decide +kernel)
set_option maxRecDepth 20000 in
theorem gL_X10_minute_c16 : GoodIn wsL_law wsX30 := goodIn_r _ [1164, 1165, 1166, 1167, 1168, 1169, 1170] (by decide +kernel) (by decide +kernel)
