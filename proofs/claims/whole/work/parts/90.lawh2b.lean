set_option maxRecDepth 20000 in
theorem gL_X10_minute_c4 : GoodIn wsL_law wsX10_minute_r4 := goodIn_r _ [512, 513, 514, 515, 516, 517, 518, 519, 40, 520, 521, 98, 522, 100, 523, 524, 525, 526, 527, 528, 529, 530, 89, 531] (by decide +kernel) (by decide +kernel)
set_option maxRecDepth 20000 in
theorem gL_X10_minute_c5 : GoodIn wsL_law wsX10_minute_r5 := goodIn_r _ [532, 533, 534, 535, 536, 537, 538, 539, 540, 541, 542, 543, 544, 545, 546, 36, 547, 548, 549, 94, 93, 550, 551, 552] (by decide +kernel) (by decide +kernel)
set_option maxRecDepth 20000 in
theorem gL_X10_minute_c6 : GoodIn wsL_law wsX10_minute_r6 := goodIn_r _ [553, 554, 555, 44, 556, 557, 105, 106, 558, 107, 559, 560, 561, 562, 563, 564, 565, 566, 567, 108, 568, 569, 570, 571] (by decide +kernel) (by decide +kernel)
