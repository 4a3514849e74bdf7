set_option maxRecDepth 20000 in
theorem ggL_law_X10_against : GoodIn wsL_law wsX10_against := goodIn_r _ [949, 49, 16, 699, 700, 701, 2, 702, 173, 33, 37, 163, 480, 481, 482, 32, 483, 484, 485, 486, 487, 488, 489, 490, 491, 492, 493, 494, 495, 496, 497, 498, 499, 500, 82, 83, 84, 85, 501, 502, 503, 504, 86, 87, 88, 505, 506, 507, 508, 509, 510, 511, 512, 513, 514, 515, 516, 703, 704, 705, 48, 706, 112, 707, 708, 709, 523, 524, 525, 710, 527, 528, 529, 530, 89, 531, 532, 533, 711, 712, 713, 714, 715, 716, 113, 717, 535, 536, 537, 718, 545, 546, 36, 547, 548, 549, 94, 93, 719, 720, 721, 722, 723, 724, 725, 550, 551, 552, 726, 727, 728, 729, 730, 731, 732, 733, 734, 933, 934, 935, 15, 936, 238, 67, 937, 740, 741, 742, 1083, 1084, 1085, 1086, 1087, 1088, 1089, 1090, 1091, 1092, 1093, 1094, 1095, 1096, 1097, 1098, 1099, 1128, 1129, 1130, 1131, 1132, 1133, 1134, 1135, 1136, 1145, 1146, 1147, 1148, 1149, 1150, 1151, 1152, 1153, 1154, 1155, 1156, 1171, 1172, 1173, 1157, 1158, 1159, 1160] (by decide +kernel) (by decide +kernel)
set_option maxRecDepth 20000 in
theorem gL_law_X10_against : GoodIn wsL_law (wsV RL 103 RX10 yX10_against wsX10_against) := goodIn_app (goodIn_of _ (by decide +kernel)) ggL_law_X10_against
set_option maxRecDepth 20000 in
theorem ggL_law_X11_against : GoodIn wsL_law wsX11_against := goodIn_r _ [953, 942, 943, 944, 5, 945, 135, 754, 755, 756, 757, 599, 595, 596, 597, 598, 600, 141, 601, 602, 603, 604, 142, 605, 606, 607, 608, 609, 610, 611, 612, 613, 614, 615, 616, 617, 618, 619, 620, 621, 622, 623, 624, 625, 626, 627, 628, 629, 630, 631, 632, 633, 634, 635, 636, 637, 638, 639, 640, 641, 642, 643, 644, 645, 646, 647, 1100, 1101, 1102, 1103, 1104, 1105, 1106, 1107, 1108, 1109, 1110, 1111, 1112, 1113, 1114, 1115, 1116, 1117, 1118, 1119, 1120, 1121, 1122, 1123, 1124, 1125, 1126, 1127] (by decide +kernel) (by decide +kernel)
set_option maxRecDepth 20000 in
theorem gL_law_X11_against : GoodIn wsL_law (wsV RL 106 RX11 yX11_against wsX11_against) := goodIn_app (goodIn_of _ (by decide +kernel)) ggL_law_X11_against
set_option maxRecDepth 20000 in
theorem ggL_law_X10_watch : GoodIn wsL_law wsX10_watch := goodIn_r _ [957, 16, 958, 174, 653, 654, 655, 2, 656, 163, 164, 165, 166, 167, 29, 1083, 1084, 1085, 1086, 1087, 1088, 1089, 1090, 1091, 1092, 1093, 1094, 1095, 1096, 1097, 1098, 1099, 1128, 1129, 1130, 1131, 1132, 1133, 1134, 1135, 1136] (by decide +kernel) (by decide +kernel)
set_option maxRecDepth 20000 in
theorem gL_law_X10_watch : GoodIn wsL_law (wsV RL 107 RX10 yX10_watch wsX10_watch) := goodIn_app (goodIn_of _ (by decide +kernel)) ggL_law_X10_watch
set_option maxRecDepth 20000 in
theorem ggL_law_X11_watch : GoodIn wsL_law wsX11_watch := goodIn_r _ [962, 135, 665, 666, 667, 5, 668, 156, 157, 158, 185, 186, 187, 188, 140, 1100, 1101, 1102, 1103, 1104, 1105, 1106, 1107, 1108, 1109, 1110, 1111, 1112, 1113, 1114, 1115, 1116, 1117, 1118, 1119, 1120, 1121, 1122, 1123, 1124, 1125, 1126, 1127] (by decide +kernel) (by decide +kernel)
set_option maxRecDepth 20000 in
theorem gL_law_X11_watch : GoodIn wsL_law (wsV RL 110 RX11 yX11_watch wsX11_watch) := goodIn_app (goodIn_of _ (by decide +kernel)) ggL_law_X11_watch
