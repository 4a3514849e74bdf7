set_option maxRecDepth 20000 in
theorem ggL_law_X10_story : GoodIn wsL_law wsX10_story := goodIn_r _ [212, 16, 213, 194, 195, 196, 2, 197, 163, 214, 215, 216, 164, 165, 166, 167, 29, 168, 169, 170, 171, 172, 173, 174, 175, 1083, 1084, 1085, 1086, 1087, 1088, 1089, 1090, 1091, 1092, 1093, 1094, 1095, 1096, 1097, 1098, 1099, 1128, 1129, 1130, 1131, 1132, 1133, 1134, 1135, 1136] (by decide +kernel) (by decide +kernel)
set_option maxRecDepth 20000 in
theorem gL_law_X10_story : GoodIn wsL_law (wsV RL 23 RX10 yX10_story wsX10_story) := goodIn_app (goodIn_of _ (by decide +kernel)) ggL_law_X10_story
set_option maxRecDepth 20000 in
theorem ggL_law_X11_story : GoodIn wsL_law wsX11_story := goodIn_r _ [220, 135, 205, 206, 207, 5, 208, 156, 157, 158, 221, 222, 223, 224, 185, 186, 187, 188, 140, 1100, 1101, 1102, 1103, 1104, 1105, 1106, 1107, 1108, 1109, 1110, 1111, 1112, 1113, 1114, 1115, 1116, 1117, 1118, 1119, 1120, 1121, 1122, 1123, 1124, 1125, 1126, 1127] (by decide +kernel) (by decide +kernel)
set_option maxRecDepth 20000 in
theorem gL_law_X11_story : GoodIn wsL_law (wsV RL 26 RX11 yX11_story wsX11_story) := goodIn_app (goodIn_of _ (by decide +kernel)) ggL_law_X11_story
set_option maxRecDepth 20000 in
theorem ggL_law_X10_say : GoodIn wsL_law wsX10_say := goodIn_r _ [228, 16, 229, 230, 231, 232, 2, 233, 194, 195, 196, 197, 163, 198, 199, 200, 164, 165, 166, 167, 29, 168, 169, 170, 171, 172, 173, 174, 175, 234, 235, 236, 15, 237, 238, 65, 64, 66, 67, 1083, 1084, 1085, 1086, 1087, 1088, 1089, 1090, 1091, 1092, 1093, 1094, 1095, 1096, 1097, 1098, 1099, 1128, 1129, 1130, 1131, 1132, 1133, 1134, 1135, 1136] (by decide +kernel) (by decide +kernel)
set_option maxRecDepth 20000 in
theorem gL_law_X10_say : GoodIn wsL_law (wsV RL 27 RX10 yX10_say wsX10_say) := goodIn_app (goodIn_of _ (by decide +kernel)) ggL_law_X10_say
set_option maxRecDepth 20000 in
theorem ggL_law_X11_say : GoodIn wsL_law wsX11_say := goodIn_r _ [242, 135, 205, 206, 207, 5, 208, 156, 157, 158, 221, 222, 223, 224, 185, 186, 187, 188, 140, 1100, 1101, 1102, 1103, 1104, 1105, 1106, 1107, 1108, 1109, 1110, 1111, 1112, 1113, 1114, 1115, 1116, 1117, 1118, 1119, 1120, 1121, 1122, 1123, 1124, 1125, 1126, 1127] (by decide +kernel) (by decide +kernel)
set_option maxRecDepth 20000 in
theorem gL_law_X11_say : GoodIn wsL_law (wsV RL 31 RX11 yX11_say wsX11_say) := goodIn_app (goodIn_of _ (by decide +kernel)) ggL_law_X11_say
set_option maxRecDepth 20000 in
theorem ggL_law_X10_unsay : GoodIn wsL_law wsX10_unsay := goodIn_r _ [246, 16, 229, 164, 165, 166, 2, 167, 29, 168, 169, 170, 171, 172, 173, 174, 175, 1083, 1084, 1085, 1086, 1087, 1088, 1089, 1090, 1091, 1092, 1093, 1094, 1095, 1096, 1097, 1098, 1099, 1128, 1129, 1130, 1131, 1132, 1133, 1134, 1135, 1136] (by decide +kernel) (by decide +kernel)
set_option maxRecDepth 20000 in
theorem gL_law_X10_unsay : GoodIn wsL_law (wsV RL 32 RX10 yX10_unsay wsX10_unsay) := goodIn_app (goodIn_of _ (by decide +kernel)) ggL_law_X10_unsay
set_option maxRecDepth 20000 in
theorem ggL_law_X11_unsay : GoodIn wsL_law wsX11_unsay := goodIn_r _ [250, 135, 185, 186, 187, 5, 188, 140, 1100, 1101, 1102, 1103, 1104, 1105, 1106, 1107, 1108, 1109, 1110, 1111, 1112, 1113, 1114, 1115, 1116, 1117, 1118, 1119, 1120, 1121, 1122, 1123, 1124, 1125, 1126, 1127] (by decide +kernel) (by decide +kernel)
set_option maxRecDepth 20000 in
theorem gL_law_X11_unsay : GoodIn wsL_law (wsV RL 35 RX11 yX11_unsay wsX11_unsay) := goodIn_app (goodIn_of _ (by decide +kernel)) ggL_law_X11_unsay
