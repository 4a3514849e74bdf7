set_option maxRecDepth 20000 in
theorem gL_X10_minute_c7 : GoodIn wsL_law wsX10_minute_r7 := goodIn_r _ [572, 573, 574, 575, 576, 577, 578, 579, 580, 581, 582, 104, 583, 584, 585, 586, 973, 974, 975, 52, 976, 117, 118, 119] (by decide +kernel) (by decide +kernel)
set_option maxRecDepth 20000 in
theorem gL_X10_minute_c8 : GoodIn wsL_law wsX10_minute_r8 := goodIn_r _ [977, 978, 120, 979, 980, 981, 982, 983, 984, 121, 985, 790, 791, 792, 986, 987, 988, 989, 990, 991, 992, 993, 994, 995] (by decide +kernel) (by decide +kernel)
set_option maxRecDepth 20000 in
theorem gL_X10_minute_c9 : GoodIn wsL_law wsX10_minute_r9 := goodIn_r _ [996, 997, 998, 999, 1000, 1001, 794, 795, 1002, 1003, 1004, 1005] (by decide +kernel) (by decide +kernel)
set_option maxRecDepth 20000 in
theorem gL_X10_minute_c10 : GoodIn wsL_law wsX100 := goodIn_r _ [1083, 1084, 1085, 1086, 1087, 1088, 1089, 1090, 1091, 1092, 1093, 1094, 1095, 1096, 1097, 1098, 1099] (by decide +kernel) (by decide +kernel)
set_option maxRecDepth 20000 in
theorem gL_X10_minute_c11 : GoodIn wsL_law wsX10 := goodIn_r _ [1174, 1175, 1176, 1177, 1178] (by decide +kernel) (by decide +kernel)
