set_option maxRecDepth 20000 in
theorem glX3_free : GoodIn lw_tbl (wsV RL 85 RX3 yX3_free wsX3_free) := goodIn_sub (by decide +kernel) (by decide +kernel)
set_option maxRecDepth 20000 in
theorem glX3_gear : GoodIn lw_tbl (wsV RL 67 RX3 yX3_gear wsX3_gear) := goodIn_sub (by decide +kernel) (by decide +kernel)
set_option maxRecDepth 20000 in
theorem glX3_solve : GoodIn lw_tbl (wsV RL 90 RX3 yX3_solve wsX3_solve) := goodIn_sub (by decide +kernel) (by decide +kernel)
set_option maxRecDepth 20000 in
theorem glX3_tide : GoodIn lw_tbl (wsV RL 76 RX3 yX3_tide wsX3_tide) := goodIn_sub (by decide +kernel) (by decide +kernel)
set_option maxRecDepth 20000 in
theorem glX3_wants : GoodIn lw_tbl (wsV RL 72 RX3 yX3_wants wsX3_wants) := goodIn_sub (by decide +kernel) (by decide +kernel)
set_option maxRecDepth 20000 in
theorem glX4_at : GoodIn lw_tbl (wsV RL 97 RX4 yX4_at wsX4_at) := goodIn_sub (by decide +kernel) (by decide +kernel)
set_option maxRecDepth 20000 in
theorem glX4_bound : GoodIn lw_tbl (wsV RL 105 RX4 yX4_bound wsX4_bound) := goodIn_sub (by decide +kernel) (by decide +kernel)
set_option maxRecDepth 20000 in
theorem glX4_change : GoodIn lw_tbl (wsV RL 112 RX4 yX4_change wsX4_change) := goodIn_sub (by decide +kernel) (by decide +kernel)
set_option maxRecDepth 20000 in
theorem glX4_count : GoodIn lw_tbl (wsV RL 123 RX4 yX4_count wsX4_count) := goodIn_sub (by decide +kernel) (by decide +kernel)
set_option maxRecDepth 20000 in
theorem glX4_depth : GoodIn lw_tbl (wsV RL 66 RX4 yX4_depth wsX4_depth) := goodIn_sub (by decide +kernel) (by decide +kernel)
set_option maxRecDepth 20000 in
theorem glX4_fix : GoodIn lw_tbl (wsV RL 84 RX4 yX4_fix wsX4_fix) := goodIn_sub (by decide +kernel) (by decide +kernel)
