set_option maxRecDepth 20000 in
theorem glX4_free : GoodIn lw_tbl (wsV RL 89 RX4 yX4_free wsX4_free) := goodIn_sub (by decide +kernel) (by decide +kernel)
set_option maxRecDepth 20000 in
theorem glX4_gear : GoodIn lw_tbl (wsV RL 71 RX4 yX4_gear wsX4_gear) := goodIn_sub (by decide +kernel) (by decide +kernel)
set_option maxRecDepth 20000 in
theorem glX4_lateness : GoodIn lw_tbl (wsV RL 101 RX4 yX4_lateness wsX4_lateness) := goodIn_sub (by decide +kernel) (by decide +kernel)
set_option maxRecDepth 20000 in
theorem glX4_lies : GoodIn lw_tbl (wsV RL 115 RX4 yX4_lies wsX4_lies) := goodIn_sub (by decide +kernel) (by decide +kernel)
set_option maxRecDepth 20000 in
theorem glX4_share : GoodIn lw_tbl (wsV RL 119 RX4 yX4_share wsX4_share) := goodIn_sub (by decide +kernel) (by decide +kernel)
set_option maxRecDepth 20000 in
theorem glX4_ship : GoodIn lw_tbl (wsV RL 58 RX4 yX4_ship wsX4_ship) := goodIn_sub (by decide +kernel) (by decide +kernel)
set_option maxRecDepth 20000 in
theorem glX4_solve : GoodIn lw_tbl (wsV RL 93 RX4 yX4_solve wsX4_solve) := goodIn_sub (by decide +kernel) (by decide +kernel)
set_option maxRecDepth 20000 in
theorem glX4_thrown : GoodIn lw_tbl (wsV RL 59 RX4 yX4_thrown wsX4_thrown) := goodIn_sub (by decide +kernel) (by decide +kernel)
set_option maxRecDepth 20000 in
theorem glX4_tide : GoodIn lw_tbl (wsV RL 80 RX4 yX4_tide wsX4_tide) := goodIn_sub (by decide +kernel) (by decide +kernel)
set_option maxRecDepth 20000 in
theorem glX4_wants : GoodIn lw_tbl (wsV RL 75 RX4 yX4_wants wsX4_wants) := goodIn_sub (by decide +kernel) (by decide +kernel)
set_option maxRecDepth 20000 in
theorem glX4_why : GoodIn lw_tbl (wsV RL 109 RX4 yX4_why wsX4_why) := goodIn_sub (by decide +kernel) (by decide +kernel)
