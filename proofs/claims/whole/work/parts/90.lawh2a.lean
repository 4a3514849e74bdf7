set_option maxRecDepth 20000 in
theorem gL_X10_minute_c0 : GoodIn wsL_law [Cond.code yX10_minute cX10_minute 3 (some .int)] := goodIn_r _ [966] (by decide +kernel) (by decide +kernel)
set_option maxRecDepth 20000 in
theorem gL_X10_minute_c1 : GoodIn wsL_law wsX10_minute_r1 := goodIn_r _ [53, 967, 968, 653, 654, 655, 2, 656, 16, 163, 214, 215, 216, 164, 165, 166, 167, 29, 969, 970, 971, 972, 174, 41] (by decide +kernel) (by decide +kernel)
set_option maxRecDepth 20000 in
theorem gL_X10_minute_c2 : GoodIn wsL_law wsX10_minute_r2 := goodIn_r _ [37, 476, 477, 478, 479, 172, 33, 45, 480, 481, 482, 32, 483, 484, 485, 486, 487, 488, 489, 490, 491, 492, 493, 494] (by decide +kernel) (by decide +kernel)
set_option maxRecDepth 20000 in
theorem gL_X10_minute_c3 : GoodIn wsL_law wsX10_minute_r3 := goodIn_r _ [495, 496, 497, 498, 499, 500, 82, 83, 84, 85, 501, 502, 503, 504, 86, 87, 88, 505, 506, 507, 508, 509, 510, 511] (by decide +kernel) (by decide +kernel)
