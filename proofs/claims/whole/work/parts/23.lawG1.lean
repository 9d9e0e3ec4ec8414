set_option maxRecDepth 20000 in
theorem glL_at : GoodIn lw_tbl (va_wsS RL 94 yL_at wsL_at) := goodIn_sub (by decide +kernel) (by decide +kernel)
set_option maxRecDepth 20000 in
theorem glL_change : GoodIn lw_tbl (va_wsS RL 110 yL_change wsL_change) := goodIn_sub (by decide +kernel) (by decide +kernel)
set_option maxRecDepth 20000 in
theorem glL_lateness : GoodIn lw_tbl (va_wsS RL 98 yL_lateness wsL_lateness) := goodIn_sub (by decide +kernel) (by decide +kernel)
set_option maxRecDepth 20000 in
theorem glL_lies : GoodIn lw_tbl (va_wsS RL 113 yL_lies wsL_lies) := goodIn_sub (by decide +kernel) (by decide +kernel)
set_option maxRecDepth 20000 in
theorem glL_share : GoodIn lw_tbl (va_wsS RL 116 yL_share wsL_share) := goodIn_sub (by decide +kernel) (by decide +kernel)
set_option maxRecDepth 20000 in
theorem glL_ship : GoodIn lw_tbl (va_wsS RL 55 yL_ship wsL_ship) := goodIn_sub (by decide +kernel) (by decide +kernel)
set_option maxRecDepth 20000 in
theorem glL_why : GoodIn lw_tbl (va_wsS RL 106 yL_why wsL_why) := goodIn_sub (by decide +kernel) (by decide +kernel)
set_option maxRecDepth 20000 in
theorem glX3_bound : GoodIn lw_tbl (wsV RL 102 RX3 yX3_bound wsX3_bound) := goodIn_sub (by decide +kernel) (by decide +kernel)
set_option maxRecDepth 20000 in
theorem glX3_count : GoodIn lw_tbl (wsV RL 120 RX3 yX3_count wsX3_count) := goodIn_sub (by decide +kernel) (by decide +kernel)
set_option maxRecDepth 20000 in
theorem glX3_depth : GoodIn lw_tbl (wsV RL 62 RX3 yX3_depth wsX3_depth) := goodIn_sub (by decide +kernel) (by decide +kernel)
set_option maxRecDepth 20000 in
theorem glX3_fix : GoodIn lw_tbl (wsV RL 81 RX3 yX3_fix wsX3_fix) := goodIn_sub (by decide +kernel) (by decide +kernel)
