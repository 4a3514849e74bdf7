set_option maxRecDepth 20000 in
theorem gL_X11_minute_c0 : GoodIn wsL_law [Cond.code yX11_minute cX11_minute 11 (some .int)] := goodIn_r _ [1009] (by decide +kernel) (by decide +kernel)
set_option maxRecDepth 20000 in
theorem gL_X11_minute_c1 : GoodIn wsL_law wsX11_minute_r1 := goodIn_r _ [150, 665, 666, 667, 5, 668, 135, 156, 157, 158, 221, 222, 223, 224, 185, 186, 187, 188, 140, 1010, 1011, 1012, 1013, 151] (by decide +kernel) (by decide +kernel)
set_option maxRecDepth 20000 in
theorem gL_X11_minute_c2 : GoodIn wsL_law wsX11_minute_r2 := goodIn_r _ [595, 596, 597, 598, 599, 600, 141, 605, 606, 607, 608, 613, 614, 615, 616, 617, 618, 619, 620, 621, 622, 623, 624, 625] (by decide +kernel) (by decide +kernel)
set_option maxRecDepth 20000 in
theorem gL_X11_minute_c3 : GoodIn wsL_law wsX11_minute_r3 := goodIn_r _ [626, 627, 628, 629, 630, 631, 632, 633, 634, 635, 636, 637, 638, 639, 640, 641, 642, 643, 644, 645, 646, 647, 1014, 1015] (by decide +kernel) (by decide +kernel)
set_option maxRecDepth 20000 in
theorem gL_X11_minute_c4 : GoodIn wsL_law wsX11_minute_r4 := goodIn_r _ [1016, 1017, 1018, 1019, 1020, 1021, 1022, 1023, 1024, 1025] (by decide +kernel) (by decide +kernel)
