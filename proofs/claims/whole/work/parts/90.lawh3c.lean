theorem ggL_law_X11_minute : GoodIn wsL_law wsX11_minute := (goodIn_app gL_X11_minute_c0 (goodIn_app (goodIn_app gL_X11_minute_c1 (goodIn_app gL_X11_minute_c2 (goodIn_app gL_X11_minute_c3 gL_X11_minute_c4))) gL_X11_minute_c5) : GoodIn wsL_law ([Cond.code yX11_minute cX11_minute 11 (some .int)] ++ ((wsX11_minute_r1 ++ (wsX11_minute_r2 ++ (wsX11_minute_r3 ++ wsX11_minute_r4))) ++ wsX110)))
set_option maxRecDepth 20000 in
theorem gL_law_X11_minute : GoodIn wsL_law (wsV RL 114 RX11 yX11_minute wsX11_minute) := goodIn_app (goodIn_of _ (by decide +kernel)) ggL_law_X11_minute
