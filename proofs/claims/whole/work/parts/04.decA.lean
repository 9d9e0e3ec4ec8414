theorem dX0_init_0 : decode cX0_init 0 = .ok (.aload_n 0, 1) := by decide +kernel
theorem dX0_init_1 : decode cX0_init 1 = .ok (.invokespecial 3, 3) := by decide +kernel
theorem dX0_init_4 : decode cX0_init 4 = .ok (.aload_n 0, 1) := by decide +kernel
theorem dX0_init_5 : decode cX0_init 5 = .ok (.iload_n 1, 1) := by decide +kernel
theorem dX0_init_6 : decode cX0_init 6 = .ok (.putfield 9, 3) := by decide +kernel
theorem dX0_init_9 : decode cX0_init 9 = .ok (.aload_n 0, 1) := by decide +kernel
theorem dX0_init_10 : decode cX0_init 10 = .ok (.bipush 6, 2) := by decide +kernel
theorem dX0_init_12 : decode cX0_init 12 = .ok (.newarray .int, 2) := by decide +kernel
theorem dX0_init_14 : decode cX0_init 14 = .ok (.putfield 15, 3) := by decide +kernel
theorem dX0_init_17 : decode cX0_init 17 = .ok (.aload_n 0, 1) := by decide +kernel
theorem dX0_init_18 : decode cX0_init 18 = .ok (.bipush 6, 2) := by decide +kernel
theorem dX0_init_20 : decode cX0_init 20 = .ok (.newarray .int, 2) := by decide +kernel
theorem dX0_init_22 : decode cX0_init 22 = .ok (.putfield 19, 3) := by decide +kernel
theorem dX0_init_25 : decode cX0_init 25 = .ok (.iconst 0, 1) := by decide +kernel
theorem dX0_init_26 : decode cX0_init 26 = .ok (.istore_n 2, 1) := by decide +kernel
theorem dX0_init_27 : decode cX0_init 27 = .ok (.iload_n 2, 1) := by decide +kernel
theorem dX0_init_28 : decode cX0_init 28 = .ok (.bipush 6, 2) := by decide +kernel
theorem dX0_init_30 : decode cX0_init 30 = .ok (.if_icmp .ge 17, 3) := by decide +kernel
theorem dX0_init_33 : decode cX0_init 33 = .ok (.aload_n 0, 1) := by decide +kernel
theorem dX0_init_34 : decode cX0_init 34 = .ok (.getfield 15, 3) := by decide +kernel
theorem dX0_init_37 : decode cX0_init 37 = .ok (.iload_n 2, 1) := by decide +kernel
theorem dX0_init_38 : decode cX0_init 38 = .ok (.bipush 20, 2) := by decide +kernel
theorem dX0_init_40 : decode cX0_init 40 = .ok (.iastore, 1) := by decide +kernel
theorem dX0_init_41 : decode cX0_init 41 = .ok (.iinc 2 1, 3) := by decide +kernel
theorem dX0_init_44 : decode cX0_init 44 = .ok (.goto (-17), 3) := by decide +kernel
theorem dX0_init_47 : decode cX0_init 47 = .ok (.return_, 1) := by decide +kernel
theorem dX0_isPlace_0 : decode cX0_isPlace 0 = .ok (.iload_n 1, 1) := by decide +kernel
theorem dX0_isPlace_1 : decode cX0_isPlace 1 = .ok (.ifCond .lt 15, 3) := by decide +kernel
theorem dX0_isPlace_4 : decode cX0_isPlace 4 = .ok (.iload_n 1, 1) := by decide +kernel
theorem dX0_isPlace_5 : decode cX0_isPlace 5 = .ok (.aload_n 0, 1) := by decide +kernel
theorem dX0_isPlace_6 : decode cX0_isPlace 6 = .ok (.getfield 9, 3) := by decide +kernel
theorem dX0_isPlace_9 : decode cX0_isPlace 9 = .ok (.if_icmp .ge 7, 3) := by decide +kernel
theorem dX0_isPlace_12 : decode cX0_isPlace 12 = .ok (.iconst 1, 1) := by decide +kernel
theorem dX0_isPlace_13 : decode cX0_isPlace 13 = .ok (.goto 4, 3) := by decide +kernel
theorem dX0_isPlace_16 : decode cX0_isPlace 16 = .ok (.iconst 0, 1) := by decide +kernel
theorem dX0_isPlace_17 : decode cX0_isPlace 17 = .ok (.ireturn, 1) := by decide +kernel
theorem dX0_isRow_0 : decode cX0_isRow 0 = .ok (.iload_n 1, 1) := by decide +kernel
theorem dX0_isRow_1 : decode cX0_isRow 1 = .ok (.ifCond .lt 17, 3) := by decide +kernel
theorem dX0_isRow_4 : decode cX0_isRow 4 = .ok (.iload_n 1, 1) := by decide +kernel
theorem dX0_isRow_5 : decode cX0_isRow 5 = .ok (.aload_n 0, 1) := by decide +kernel
theorem dX0_isRow_6 : decode cX0_isRow 6 = .ok (.getfield 9, 3) := by decide +kernel
theorem dX0_isRow_9 : decode cX0_isRow 9 = .ok (.iload_n 2, 1) := by decide +kernel
theorem dX0_isRow_10 : decode cX0_isRow 10 = .ok (.isub, 1) := by decide +kernel
theorem dX0_isRow_11 : decode cX0_isRow 11 = .ok (.if_icmp .gt 7, 3) := by decide +kernel
theorem dX0_isRow_14 : decode cX0_isRow 14 = .ok (.iconst 1, 1) := by decide +kernel
theorem dX0_isRow_15 : decode cX0_isRow 15 = .ok (.goto 4, 3) := by decide +kernel
theorem dX0_isRow_18 : decode cX0_isRow 18 = .ok (.iconst 0, 1) := by decide +kernel
theorem dX0_isRow_19 : decode cX0_isRow 19 = .ok (.ireturn, 1) := by decide +kernel
theorem dX0_placesOf_0 : decode cX0_placesOf 0 = .ok (.iconst 0, 1) := by decide +kernel
theorem dX0_placesOf_1 : decode cX0_placesOf 1 = .ok (.istore_n 2, 1) := by decide +kernel
theorem dX0_placesOf_2 : decode cX0_placesOf 2 = .ok (.iconst 0, 1) := by decide +kernel
theorem dX0_placesOf_3 : decode cX0_placesOf 3 = .ok (.istore_n 3, 1) := by decide +kernel
theorem dX0_placesOf_4 : decode cX0_placesOf 4 = .ok (.iload_n 3, 1) := by decide +kernel
theorem dX0_placesOf_5 : decode cX0_placesOf 5 = .ok (.aload_n 0, 1) := by decide +kernel
theorem dX0_placesOf_6 : decode cX0_placesOf 6 = .ok (.getfield 9, 3) := by decide +kernel
theorem dX0_placesOf_9 : decode cX0_placesOf 9 = .ok (.if_icmp .ge 22, 3) := by decide +kernel
theorem dX0_placesOf_12 : decode cX0_placesOf 12 = .ok (.aload_n 0, 1) := by decide +kernel
theorem dX0_placesOf_13 : decode cX0_placesOf 13 = .ok (.getfield 15, 3) := by decide +kernel
theorem dX0_placesOf_16 : decode cX0_placesOf 16 = .ok (.iload_n 3, 1) := by decide +kernel
theorem dX0_placesOf_17 : decode cX0_placesOf 17 = .ok (.iaload, 1) := by decide +kernel
theorem dX0_placesOf_18 : decode cX0_placesOf 18 = .ok (.iload_n 1, 1) := by decide +kernel
theorem dX0_placesOf_19 : decode cX0_placesOf 19 = .ok (.if_icmp .lt 6, 3) := by decide +kernel
theorem dX0_placesOf_22 : decode cX0_placesOf 22 = .ok (.iinc 2 1, 3) := by decide +kernel
theorem dX0_placesOf_25 : decode cX0_placesOf 25 = .ok (.iinc 3 1, 3) := by decide +kernel
theorem dX0_placesOf_28 : decode cX0_placesOf 28 = .ok (.goto (-24), 3) := by decide +kernel
theorem dX0_placesOf_31 : decode cX0_placesOf 31 = .ok (.iload_n 2, 1) := by decide +kernel
theorem dX0_placesOf_32 : decode cX0_placesOf 32 = .ok (.ireturn, 1) := by decide +kernel
set_option maxRecDepth 20000 in
theorem ggX0_suits_X0_isRow : GoodIn wsX0_suits wsX0_isRow := goodIn_r _ [7, 8, 9, 10, 11, 12, 13] (by decide +kernel) (by decide +kernel)
set_option maxRecDepth 20000 in
theorem gX0_suits_X0_isRow : GoodIn wsX0_suits (wsV RX0 22 RX0 yX0_isRow wsX0_isRow) := goodIn_app (goodIn_of _ (by decide +kernel)) ggX0_suits_X0_isRow
theorem dX0_suits_0 : decode cX0_suits 0 = .ok (.aload_n 0, 1) := by decide +kernel
theorem dX0_suits_1 : decode cX0_suits 1 = .ok (.iload_n 1, 1) := by decide +kernel
theorem dX0_suits_2 : decode cX0_suits 2 = .ok (.iload_n 2, 1) := by decide +kernel
theorem dX0_suits_3 : decode cX0_suits 3 = .ok (.invokevirtual 22, 3) := by decide +kernel
theorem dX0_suits_6 : decode cX0_suits 6 = .ok (.ifCond .ne 5, 3) := by decide +kernel
theorem dX0_suits_9 : decode cX0_suits 9 = .ok (.iconst 0, 1) := by decide +kernel
theorem dX0_suits_10 : decode cX0_suits 10 = .ok (.ireturn, 1) := by decide +kernel
theorem dX0_suits_11 : decode cX0_suits 11 = .ok (.iload 4, 2) := by decide +kernel
theorem dX0_suits_13 : decode cX0_suits 13 = .ok (.istore 5, 2) := by decide +kernel
theorem dX0_suits_15 : decode cX0_suits 15 = .ok (.iload_n 1, 1) := by decide +kernel
theorem dX0_suits_16 : decode cX0_suits 16 = .ok (.istore 6, 2) := by decide +kernel
theorem dX0_suits_18 : decode cX0_suits 18 = .ok (.iload 6, 2) := by decide +kernel
theorem dX0_suits_20 : decode cX0_suits 20 = .ok (.iload_n 1, 1) := by decide +kernel
theorem dX0_suits_21 : decode cX0_suits 21 = .ok (.iload_n 2, 1) := by decide +kernel
theorem dX0_suits_22 : decode cX0_suits 22 = .ok (.iadd, 1) := by decide +kernel
theorem dX0_suits_23 : decode cX0_suits 23 = .ok (.if_icmp .ge 36, 3) := by decide +kernel
theorem dX0_suits_26 : decode cX0_suits 26 = .ok (.aload_n 0, 1) := by decide +kernel
theorem dX0_suits_27 : decode cX0_suits 27 = .ok (.getfield 15, 3) := by decide +kernel
theorem dX0_suits_30 : decode cX0_suits 30 = .ok (.iload 6, 2) := by decide +kernel
theorem dX0_suits_32 : decode cX0_suits 32 = .ok (.iaload, 1) := by decide +kernel
theorem dX0_suits_33 : decode cX0_suits 33 = .ok (.iload_n 3, 1) := by decide +kernel
theorem dX0_suits_34 : decode cX0_suits 34 = .ok (.if_icmp .ge 5, 3) := by decide +kernel
theorem dX0_suits_37 : decode cX0_suits 37 = .ok (.iconst 0, 1) := by decide +kernel
theorem dX0_suits_38 : decode cX0_suits 38 = .ok (.ireturn, 1) := by decide +kernel
theorem dX0_suits_39 : decode cX0_suits 39 = .ok (.iload 5, 2) := by decide +kernel
theorem dX0_suits_41 : decode cX0_suits 41 = .ok (.aload_n 0, 1) := by decide +kernel
theorem dX0_suits_42 : decode cX0_suits 42 = .ok (.getfield 19, 3) := by decide +kernel
theorem dX0_suits_45 : decode cX0_suits 45 = .ok (.iload 6, 2) := by decide +kernel
theorem dX0_suits_47 : decode cX0_suits 47 = .ok (.iaload, 1) := by decide +kernel
theorem dX0_suits_48 : decode cX0_suits 48 = .ok (.iconst (-1), 1) := by decide +kernel
theorem dX0_suits_49 : decode cX0_suits 49 = .ok (.ixor, 1) := by decide +kernel
theorem dX0_suits_50 : decode cX0_suits 50 = .ok (.iand, 1) := by decide +kernel
theorem dX0_suits_51 : decode cX0_suits 51 = .ok (.istore 5, 2) := by decide +kernel
theorem dX0_suits_53 : decode cX0_suits 53 = .ok (.iinc 6 1, 3) := by decide +kernel
theorem dX0_suits_56 : decode cX0_suits 56 = .ok (.goto (-38), 3) := by decide +kernel
theorem dX0_suits_59 : decode cX0_suits 59 = .ok (.iload 5, 2) := by decide +kernel
theorem dX0_suits_61 : decode cX0_suits 61 = .ok (.ifCond .ne 7, 3) := by decide +kernel
theorem dX0_suits_64 : decode cX0_suits 64 = .ok (.iconst 1, 1) := by decide +kernel
theorem dX0_suits_65 : decode cX0_suits 65 = .ok (.goto 4, 3) := by decide +kernel
theorem dX0_suits_68 : decode cX0_suits 68 = .ok (.iconst 0, 1) := by decide +kernel
theorem dX0_suits_69 : decode cX0_suits 69 = .ok (.ireturn, 1) := by decide +kernel
set_option maxRecDepth 20000 in
theorem ggX0_hasRow_X0_suits : GoodIn wsX0_hasRow wsX0_suits := goodIn_r _ [6, 7, 8, 9, 10, 11, 5, 12, 1, 13, 14, 15, 16, 17] (by decide +kernel) (by decide +kernel)
set_option maxRecDepth 20000 in
theorem gX0_hasRow_X0_suits : GoodIn wsX0_hasRow (wsV RX0 26 RX0 yX0_suits wsX0_suits) := goodIn_app (goodIn_of _ (by decide +kernel)) ggX0_hasRow_X0_suits
theorem dX0_hasRow_0 : decode cX0_hasRow 0 = .ok (.iconst 0, 1) := by decide +kernel
theorem dX0_hasRow_1 : decode cX0_hasRow 1 = .ok (.istore 4, 2) := by decide +kernel
theorem dX0_hasRow_3 : decode cX0_hasRow 3 = .ok (.iload 4, 2) := by decide +kernel
theorem dX0_hasRow_5 : decode cX0_hasRow 5 = .ok (.aload_n 0, 1) := by decide +kernel
theorem dX0_hasRow_6 : decode cX0_hasRow 6 = .ok (.getfield 9, 3) := by decide +kernel
theorem dX0_hasRow_9 : decode cX0_hasRow 9 = .ok (.if_icmp .ge 23, 3) := by decide +kernel
theorem dX0_hasRow_12 : decode cX0_hasRow 12 = .ok (.aload_n 0, 1) := by decide +kernel
theorem dX0_hasRow_13 : decode cX0_hasRow 13 = .ok (.iload 4, 2) := by decide +kernel
theorem dX0_hasRow_15 : decode cX0_hasRow 15 = .ok (.iload_n 1, 1) := by decide +kernel
theorem dX0_hasRow_16 : decode cX0_hasRow 16 = .ok (.iload_n 2, 1) := by decide +kernel
theorem dX0_hasRow_17 : decode cX0_hasRow 17 = .ok (.iload_n 3, 1) := by decide +kernel
theorem dX0_hasRow_18 : decode cX0_hasRow 18 = .ok (.invokevirtual 26, 3) := by decide +kernel
theorem dX0_hasRow_21 : decode cX0_hasRow 21 = .ok (.ifCond .eq 5, 3) := by decide +kernel
theorem dX0_hasRow_24 : decode cX0_hasRow 24 = .ok (.iconst 1, 1) := by decide +kernel
theorem dX0_hasRow_25 : decode cX0_hasRow 25 = .ok (.ireturn, 1) := by decide +kernel
theorem dX0_hasRow_26 : decode cX0_hasRow 26 = .ok (.iinc 4 1, 3) := by decide +kernel
theorem dX0_hasRow_29 : decode cX0_hasRow 29 = .ok (.goto (-26), 3) := by decide +kernel
theorem dX0_hasRow_32 : decode cX0_hasRow 32 = .ok (.iconst 0, 1) := by decide +kernel
theorem dX0_hasRow_33 : decode cX0_hasRow 33 = .ok (.ireturn, 1) := by decide +kernel
set_option maxRecDepth 20000 in
theorem ggX0_beginsFrom_X3_beginsBetween : GoodIn wsX0_beginsFrom wsX3_beginsBetween := goodIn_r _ [5] (by decide +kernel) (by decide +kernel)
set_option maxRecDepth 20000 in
theorem gX0_beginsFrom_X3_beginsBetween_n30 : GoodIn wsX0_beginsFrom (wsX3_beginsBetween) := ggX0_beginsFrom_X3_beginsBetween
theorem dX0_beginsFrom_0 : decode cX0_beginsFrom 0 = .ok (.iload_n 1, 1) := by decide +kernel
theorem dX0_beginsFrom_1 : decode cX0_beginsFrom 1 = .ok (.bipush 15, 2) := by decide +kernel
theorem dX0_beginsFrom_3 : decode cX0_beginsFrom 3 = .ok (.invokestatic 30, 3) := by decide +kernel
theorem dX0_beginsFrom_6 : decode cX0_beginsFrom 6 = .ok (.istore_n 2, 1) := by decide +kernel
theorem dX0_beginsFrom_7 : decode cX0_beginsFrom 7 = .ok (.aload_n 0, 1) := by decide +kernel
theorem dX0_beginsFrom_8 : decode cX0_beginsFrom 8 = .ok (.getfield 34, 3) := by decide +kernel
theorem dX0_beginsFrom_11 : decode cX0_beginsFrom 11 = .ok (.ifCond .ne 7, 3) := by decide +kernel
theorem dX0_beginsFrom_14 : decode cX0_beginsFrom 14 = .ok (.iload_n 2, 1) := by decide +kernel
theorem dX0_beginsFrom_15 : decode cX0_beginsFrom 15 = .ok (.goto 9, 3) := by decide +kernel
theorem dX0_beginsFrom_18 : decode cX0_beginsFrom 18 = .ok (.iload_n 2, 1) := by decide +kernel
theorem dX0_beginsFrom_19 : decode cX0_beginsFrom 19 = .ok (.aload_n 0, 1) := by decide +kernel
theorem dX0_beginsFrom_20 : decode cX0_beginsFrom 20 = .ok (.getfield 37, 3) := by decide +kernel
theorem dX0_beginsFrom_23 : decode cX0_beginsFrom 23 = .ok (.iand, 1) := by decide +kernel
theorem dX0_beginsFrom_24 : decode cX0_beginsFrom 24 = .ok (.ireturn, 1) := by decide +kernel
theorem dX1_init_0 : decode cX1_init 0 = .ok (.aload_n 0, 1) := by decide +kernel
theorem dX1_init_1 : decode cX1_init 1 = .ok (.invokespecial 3, 3) := by decide +kernel
theorem dX1_init_4 : decode cX1_init 4 = .ok (.aload_n 0, 1) := by decide +kernel
theorem dX1_init_5 : decode cX1_init 5 = .ok (.bipush 96, 2) := by decide +kernel
theorem dX1_init_7 : decode cX1_init 7 = .ok (.newarray .int, 2) := by decide +kernel
theorem dX1_init_9 : decode cX1_init 9 = .ok (.putfield 9, 3) := by decide +kernel
theorem dX1_init_12 : decode cX1_init 12 = .ok (.aload_n 0, 1) := by decide +kernel
theorem dX1_init_13 : decode cX1_init 13 = .ok (.iconst 4, 1) := by decide +kernel
theorem dX1_init_14 : decode cX1_init 14 = .ok (.newarray .int, 2) := by decide +kernel
theorem dX1_init_16 : decode cX1_init 16 = .ok (.putfield 15, 3) := by decide +kernel
theorem dX1_init_19 : decode cX1_init 19 = .ok (.aload_n 0, 1) := by decide +kernel
theorem dX1_init_20 : decode cX1_init 20 = .ok (.iconst 4, 1) := by decide +kernel
theorem dX1_init_21 : decode cX1_init 21 = .ok (.newarray .int, 2) := by decide +kernel
theorem dX1_init_23 : decode cX1_init 23 = .ok (.putfield 18, 3) := by decide +kernel
theorem dX1_init_26 : decode cX1_init 26 = .ok (.aload_n 0, 1) := by decide +kernel
theorem dX1_init_27 : decode cX1_init 27 = .ok (.iconst 4, 1) := by decide +kernel
theorem dX1_init_28 : decode cX1_init 28 = .ok (.newarray .int, 2) := by decide +kernel
theorem dX1_init_30 : decode cX1_init 30 = .ok (.putfield 21, 3) := by decide +kernel
theorem dX1_init_33 : decode cX1_init 33 = .ok (.aload_n 0, 1) := by decide +kernel
theorem dX1_init_34 : decode cX1_init 34 = .ok (.iconst 4, 1) := by decide +kernel
theorem dX1_init_35 : decode cX1_init 35 = .ok (.newarray .int, 2) := by decide +kernel
theorem dX1_init_37 : decode cX1_init 37 = .ok (.putfield 24, 3) := by decide +kernel
theorem dX1_init_40 : decode cX1_init 40 = .ok (.aload_n 0, 1) := by decide +kernel
theorem dX1_init_41 : decode cX1_init 41 = .ok (.iconst 0, 1) := by decide +kernel
theorem dX1_init_42 : decode cX1_init 42 = .ok (.anewarray 27, 3) := by decide +kernel
theorem dX1_init_45 : decode cX1_init 45 = .ok (.putfield 29, 3) := by decide +kernel
theorem dX1_init_48 : decode cX1_init 48 = .ok (.return_, 1) := by decide +kernel
set_option maxRecDepth 20000 in
theorem ggX1_finds_X1_openAll : GoodIn wsX1_finds wsX1_openAll := goodIn_r _ [8, 9, 10, 11, 12, 13, 14, 15, 16, 17, 18, 19, 7, 20, 21, 22, 23, 24, 25, 26, 27, 28, 29, 30, 31, 32, 33, 34, 35, 36, 37, 38, 39, 40, 41, 42, 43, 44, 45, 46, 47, 48, 49, 50, 51, 52, 53, 115, 116, 117, 118, 119, 120, 121, 122, 123, 124, 125, 126, 127, 128, 129, 130, 131, 132, 133, 134, 135, 136, 137, 138, 139] (by decide +kernel) (by decide +kernel)
set_option maxRecDepth 20000 in
theorem gX1_finds_X1_openAll : GoodIn wsX1_finds (wsV RX1 33 RX1 yX1_openAll wsX1_openAll) := goodIn_app (goodIn_of _ (by decide +kernel)) ggX1_finds_X1_openAll
set_option maxRecDepth 20000 in
theorem ggX1_finds_X1_everyShip : GoodIn wsX1_finds wsX1_everyShip := goodIn_r _ [57, 14, 115, 116, 117, 118, 119, 120, 121, 122, 123] (by decide +kernel) (by decide +kernel)
set_option maxRecDepth 20000 in
theorem gX1_finds_X1_everyShip : GoodIn wsX1_finds (wsV RX1 42 RX1 yX1_everyShip wsX1_everyShip) := goodIn_app (goodIn_of _ (by decide +kernel)) ggX1_finds_X1_everyShip
set_option maxRecDepth 20000 in
theorem ggX1_finds_X1_leastOf : GoodIn wsX1_finds wsX1_leastOf := goodIn_r _ [61, 14, 16, 17, 3, 9, 62, 63, 64, 7, 65, 66, 67, 68, 69, 70, 71, 72, 73, 52, 74, 18, 19, 20, 75, 76, 77, 78, 79, 80, 24, 81, 82, 32, 115, 116, 117, 118, 119, 120, 121, 122, 123, 129, 130, 131, 132, 133, 134, 135, 136, 137, 138, 139] (by decide +kernel) (by decide +kernel)
set_option maxRecDepth 20000 in
theorem gX1_finds_X1_leastOf : GoodIn wsX1_finds (wsV RX1 46 RX1 yX1_leastOf wsX1_leastOf) := goodIn_app (goodIn_of _ (by decide +kernel)) ggX1_finds_X1_leastOf
set_option maxRecDepth 20000 in
theorem ggX1_finds_X1_berthRest : GoodIn wsX1_finds wsX1_berthRest := goodIn_r _ [86, 14, 16, 87, 88, 89, 7, 90, 2, 91, 92, 93, 94, 95, 96, 97, 98, 73, 52, 74, 99, 100, 101, 102, 17, 9, 62, 63, 64, 65, 66, 67, 68, 69, 70, 71, 72, 18, 19, 20, 75, 76, 77, 103, 104, 105, 106, 107, 108, 109, 110, 111, 112, 51, 53, 113, 114, 78, 79, 80, 24, 81, 82, 32, 58, 59, 60, 61, 3, 83, 84, 85, 115, 116, 117, 118, 119, 120, 121, 122, 123, 129, 130, 131, 132, 133, 134, 135, 136, 137, 138, 139] (by decide +kernel) (by decide +kernel)
set_option maxRecDepth 20000 in
theorem gX1_finds_X1_berthRest : GoodIn wsX1_finds (wsV RX1 51 RX1 yX1_berthRest wsX1_berthRest) := goodIn_app (goodIn_of _ (by decide +kernel)) ggX1_finds_X1_berthRest
theorem dX1_finds_0 : decode cX1_finds 0 = .ok (.aload_n 0, 1) := by decide +kernel
theorem dX1_finds_1 : decode cX1_finds 1 = .ok (.aload_n 1, 1) := by decide +kernel
theorem dX1_finds_2 : decode cX1_finds 2 = .ok (.aload_n 2, 1) := by decide +kernel
theorem dX1_finds_3 : decode cX1_finds 3 = .ok (.iload_n 3, 1) := by decide +kernel
theorem dX1_finds_4 : decode cX1_finds 4 = .ok (.invokevirtual 33, 3) := by decide +kernel
theorem dX1_finds_7 : decode cX1_finds 7 = .ok (.aload_n 0, 1) := by decide +kernel
theorem dX1_finds_8 : decode cX1_finds 8 = .ok (.ldc 37, 2) := by decide +kernel
theorem dX1_finds_10 : decode cX1_finds 10 = .ok (.putfield 38, 3) := by decide +kernel
theorem dX1_finds_13 : decode cX1_finds 13 = .ok (.aload_n 0, 1) := by decide +kernel
theorem dX1_finds_14 : decode cX1_finds 14 = .ok (.aload_n 0, 1) := by decide +kernel
theorem dX1_finds_15 : decode cX1_finds 15 = .ok (.invokevirtual 42, 3) := by decide +kernel
theorem dX1_finds_18 : decode cX1_finds 18 = .ok (.invokevirtual 46, 3) := by decide +kernel
theorem dX1_finds_21 : decode cX1_finds 21 = .ok (.ldc 50, 2) := by decide +kernel
theorem dX1_finds_23 : decode cX1_finds 23 = .ok (.if_icmp .ge 13, 3) := by decide +kernel
theorem dX1_finds_26 : decode cX1_finds 26 = .ok (.aload_n 0, 1) := by decide +kernel
theorem dX1_finds_27 : decode cX1_finds 27 = .ok (.aload_n 0, 1) := by decide +kernel
theorem dX1_finds_28 : decode cX1_finds 28 = .ok (.invokevirtual 42, 3) := by decide +kernel
theorem dX1_finds_31 : decode cX1_finds 31 = .ok (.iconst 0, 1) := by decide +kernel
theorem dX1_finds_32 : decode cX1_finds 32 = .ok (.iconst (-1), 1) := by decide +kernel
theorem dX1_finds_33 : decode cX1_finds 33 = .ok (.invokevirtual 51, 3) := by decide +kernel
theorem dX1_finds_36 : decode cX1_finds 36 = .ok (.aload_n 0, 1) := by decide +kernel
theorem dX1_finds_37 : decode cX1_finds 37 = .ok (.getfield 38, 3) := by decide +kernel
theorem dX1_finds_40 : decode cX1_finds 40 = .ok (.ldc 37, 2) := by decide +kernel
theorem dX1_finds_42 : decode cX1_finds 42 = .ok (.if_icmp .ge 7, 3) := by decide +kernel
theorem dX1_finds_45 : decode cX1_finds 45 = .ok (.iconst 1, 1) := by decide +kernel
theorem dX1_finds_46 : decode cX1_finds 46 = .ok (.goto 4, 3) := by decide +kernel
theorem dX1_finds_49 : decode cX1_finds 49 = .ok (.iconst 0, 1) := by decide +kernel
theorem dX1_finds_50 : decode cX1_finds 50 = .ok (.ireturn, 1) := by decide +kernel
set_option maxRecDepth 20000 in
theorem ggX1_leastAlone_X1_openAll : GoodIn wsX1_leastAlone wsX1_openAll := goodIn_r _ [5, 6, 7, 8, 9, 10, 11, 12, 13, 14, 15, 16, 4, 17, 18, 19, 20, 21, 22, 23, 24, 25, 26, 27, 28, 29, 30, 31, 32, 33, 34, 35, 36, 37, 38, 39, 40, 41, 42, 43, 44, 45, 46, 47, 48, 49, 50, 81, 82, 83, 84, 85, 86, 87, 88, 89, 90, 91, 92, 93, 94, 95, 96, 97, 98, 99, 100, 101, 102, 103, 104, 105] (by decide +kernel) (by decide +kernel)
set_option maxRecDepth 20000 in
theorem gX1_leastAlone_X1_openAll : GoodIn wsX1_leastAlone (wsV RX1 33 RX1 yX1_openAll wsX1_openAll) := goodIn_app (goodIn_of _ (by decide +kernel)) ggX1_leastAlone_X1_openAll
set_option maxRecDepth 20000 in
theorem ggX1_leastAlone_X1_everyShip : GoodIn wsX1_leastAlone wsX1_everyShip := goodIn_r _ [54, 11, 81, 82, 83, 84, 85, 86, 87, 88, 89] (by decide +kernel) (by decide +kernel)
set_option maxRecDepth 20000 in
theorem gX1_leastAlone_X1_everyShip : GoodIn wsX1_leastAlone (wsV RX1 42 RX1 yX1_everyShip wsX1_everyShip) := goodIn_app (goodIn_of _ (by decide +kernel)) ggX1_leastAlone_X1_everyShip
set_option maxRecDepth 20000 in
theorem ggX1_leastAlone_X1_leastOf : GoodIn wsX1_leastAlone wsX1_leastOf := goodIn_r _ [58, 11, 13, 14, 59, 6, 60, 61, 62, 4, 63, 64, 65, 66, 67, 68, 69, 70, 71, 49, 72, 15, 16, 17, 73, 74, 75, 76, 77, 78, 21, 79, 80, 29, 81, 82, 83, 84, 85, 86, 87, 88, 89, 95, 96, 97, 98, 99, 100, 101, 102, 103, 104, 105] (by decide +kernel) (by decide +kernel)
set_option maxRecDepth 20000 in
theorem gX1_leastAlone_X1_leastOf : GoodIn wsX1_leastAlone (wsV RX1 46 RX1 yX1_leastOf wsX1_leastOf) := goodIn_app (goodIn_of _ (by decide +kernel)) ggX1_leastAlone_X1_leastOf
theorem dX1_leastAlone_0 : decode cX1_leastAlone 0 = .ok (.aload_n 0, 1) := by decide +kernel
theorem dX1_leastAlone_1 : decode cX1_leastAlone 1 = .ok (.aload_n 1, 1) := by decide +kernel
theorem dX1_leastAlone_2 : decode cX1_leastAlone 2 = .ok (.aload_n 2, 1) := by decide +kernel
theorem dX1_leastAlone_3 : decode cX1_leastAlone 3 = .ok (.iload_n 3, 1) := by decide +kernel
theorem dX1_leastAlone_4 : decode cX1_leastAlone 4 = .ok (.invokevirtual 33, 3) := by decide +kernel
theorem dX1_leastAlone_7 : decode cX1_leastAlone 7 = .ok (.aload_n 0, 1) := by decide +kernel
theorem dX1_leastAlone_8 : decode cX1_leastAlone 8 = .ok (.aload_n 0, 1) := by decide +kernel
theorem dX1_leastAlone_9 : decode cX1_leastAlone 9 = .ok (.invokevirtual 42, 3) := by decide +kernel
theorem dX1_leastAlone_12 : decode cX1_leastAlone 12 = .ok (.invokevirtual 46, 3) := by decide +kernel
theorem dX1_leastAlone_15 : decode cX1_leastAlone 15 = .ok (.ireturn, 1) := by decide +kernel
set_option maxRecDepth 20000 in
theorem ggX1_openAll_X1_index : GoodIn wsX1_openAll wsX1_index := goodIn_r _ [13] (by decide +kernel) (by decide +kernel)
set_option maxRecDepth 20000 in
theorem gX1_openAll_X1_index : GoodIn wsX1_openAll (va_wsS RX1 70 yX1_index wsX1_index) := goodIn_app (goodIn_of _ (by decide +kernel)) ggX1_openAll_X1_index
set_option maxRecDepth 20000 in
theorem ggX1_openAll_X2_beginsAt : GoodIn wsX1_openAll wsX2_beginsAt := goodIn_r _ [18, 19, 20, 21, 22, 23, 24, 25, 26, 27, 28, 29, 30, 31, 32, 33, 34, 35, 36, 37, 38, 39, 40, 41, 42, 43, 44, 45, 46, 61, 62, 63, 64, 65, 66, 67, 68, 69, 70, 71, 56, 57, 58, 59, 60] (by decide +kernel) (by decide +kernel)
set_option maxRecDepth 20000 in
theorem gX1_openAll_X2_beginsAt : GoodIn wsX1_openAll (wsV RX1 74 RX2 yX2_beginsAt wsX2_beginsAt) := goodIn_app (goodIn_of _ (by decide +kernel)) ggX1_openAll_X2_beginsAt
theorem dX1_openAll_0 : decode cX1_openAll 0 = .ok (.aload_n 0, 1) := by decide +kernel
theorem dX1_openAll_1 : decode cX1_openAll 1 = .ok (.aload_n 2, 1) := by decide +kernel
theorem dX1_openAll_2 : decode cX1_openAll 2 = .ok (.putfield 29, 3) := by decide +kernel
theorem dX1_openAll_5 : decode cX1_openAll 5 = .ok (.aload_n 0, 1) := by decide +kernel
theorem dX1_openAll_6 : decode cX1_openAll 6 = .ok (.iload_n 3, 1) := by decide +kernel
theorem dX1_openAll_7 : decode cX1_openAll 7 = .ok (.aload_n 2, 1) := by decide +kernel
theorem dX1_openAll_8 : decode cX1_openAll 8 = .ok (.arraylength, 1) := by decide +kernel
theorem dX1_openAll_9 : decode cX1_openAll 9 = .ok (.invokestatic 55, 3) := by decide +kernel
theorem dX1_openAll_12 : decode cX1_openAll 12 = .ok (.putfield 61, 3) := by decide +kernel
theorem dX1_openAll_15 : decode cX1_openAll 15 = .ok (.aload_n 0, 1) := by decide +kernel
theorem dX1_openAll_16 : decode cX1_openAll 16 = .ok (.aload_n 1, 1) := by decide +kernel
theorem dX1_openAll_17 : decode cX1_openAll 17 = .ok (.getfield 64, 3) := by decide +kernel
theorem dX1_openAll_20 : decode cX1_openAll 20 = .ok (.putfield 69, 3) := by decide +kernel
theorem dX1_openAll_23 : decode cX1_openAll 23 = .ok (.iconst 0, 1) := by decide +kernel
theorem dX1_openAll_24 : decode cX1_openAll 24 = .ok (.istore 4, 2) := by decide +kernel
theorem dX1_openAll_26 : decode cX1_openAll 26 = .ok (.iload 4, 2) := by decide +kernel
theorem dX1_openAll_28 : decode cX1_openAll 28 = .ok (.aload_n 0, 1) := by decide +kernel
theorem dX1_openAll_29 : decode cX1_openAll 29 = .ok (.getfield 61, 3) := by decide +kernel
theorem dX1_openAll_32 : decode cX1_openAll 32 = .ok (.if_icmp .ge 53, 3) := by decide +kernel
theorem dX1_openAll_35 : decode cX1_openAll 35 = .ok (.iconst 0, 1) := by decide +kernel
theorem dX1_openAll_36 : decode cX1_openAll 36 = .ok (.istore 5, 2) := by decide +kernel
theorem dX1_openAll_38 : decode cX1_openAll 38 = .ok (.iload 5, 2) := by decide +kernel
theorem dX1_openAll_40 : decode cX1_openAll 40 = .ok (.aload_n 0, 1) := by decide +kernel
theorem dX1_openAll_41 : decode cX1_openAll 41 = .ok (.getfield 69, 3) := by decide +kernel
theorem dX1_openAll_44 : decode cX1_openAll 44 = .ok (.if_icmp .ge 35, 3) := by decide +kernel
theorem dX1_openAll_47 : decode cX1_openAll 47 = .ok (.aload_n 0, 1) := by decide +kernel
theorem dX1_openAll_48 : decode cX1_openAll 48 = .ok (.getfield 9, 3) := by decide +kernel
theorem dX1_openAll_51 : decode cX1_openAll 51 = .ok (.iconst 0, 1) := by decide +kernel
theorem dX1_openAll_52 : decode cX1_openAll 52 = .ok (.iload 4, 2) := by decide +kernel
theorem dX1_openAll_54 : decode cX1_openAll 54 = .ok (.iload 5, 2) := by decide +kernel
theorem dX1_openAll_56 : decode cX1_openAll 56 = .ok (.invokestatic 70, 3) := by decide +kernel
theorem dX1_openAll_59 : decode cX1_openAll 59 = .ok (.aload_n 0, 1) := by decide +kernel
theorem dX1_openAll_60 : decode cX1_openAll 60 = .ok (.getfield 29, 3) := by decide +kernel
theorem dX1_openAll_63 : decode cX1_openAll 63 = .ok (.iload 4, 2) := by decide +kernel
theorem dX1_openAll_65 : decode cX1_openAll 65 = .ok (.aaload, 1) := by decide +kernel
theorem dX1_openAll_66 : decode cX1_openAll 66 = .ok (.iload 5, 2) := by decide +kernel
theorem dX1_openAll_68 : decode cX1_openAll 68 = .ok (.aload_n 1, 1) := by decide +kernel
theorem dX1_openAll_69 : decode cX1_openAll 69 = .ok (.invokevirtual 74, 3) := by decide +kernel
theorem dX1_openAll_72 : decode cX1_openAll 72 = .ok (.iastore, 1) := by decide +kernel
theorem dX1_openAll_73 : decode cX1_openAll 73 = .ok (.iinc 5 1, 3) := by decide +kernel
theorem dX1_openAll_76 : decode cX1_openAll 76 = .ok (.goto (-38), 3) := by decide +kernel
theorem dX1_openAll_79 : decode cX1_openAll 79 = .ok (.iinc 4 1, 3) := by decide +kernel
theorem dX1_openAll_82 : decode cX1_openAll 82 = .ok (.goto (-56), 3) := by decide +kernel
theorem dX1_openAll_85 : decode cX1_openAll 85 = .ok (.return_, 1) := by decide +kernel
theorem dX1_everyShip_0 : decode cX1_everyShip 0 = .ok (.iconst 1, 1) := by decide +kernel
theorem dX1_everyShip_1 : decode cX1_everyShip 1 = .ok (.aload_n 0, 1) := by decide +kernel
theorem dX1_everyShip_2 : decode cX1_everyShip 2 = .ok (.getfield 61, 3) := by decide +kernel
theorem dX1_everyShip_5 : decode cX1_everyShip 5 = .ok (.ishl, 1) := by decide +kernel
theorem dX1_everyShip_6 : decode cX1_everyShip 6 = .ok (.iconst 1, 1) := by decide +kernel
theorem dX1_everyShip_7 : decode cX1_everyShip 7 = .ok (.isub, 1) := by decide +kernel
theorem dX1_everyShip_8 : decode cX1_everyShip 8 = .ok (.ireturn, 1) := by decide +kernel
set_option maxRecDepth 20000 in
theorem ggX1_levelOf_J6_bitCount_0f7a4 : GoodIn wsX1_levelOf wsJ6_bitCount_0f7a4 := goodIn_r _ [5, 6, 7, 8] (by decide +kernel) (by decide +kernel)
set_option maxRecDepth 20000 in
theorem gX1_levelOf_J6_bitCount_0f7a4 : GoodIn wsX1_levelOf (va_wsS RX1 78 yJ6_bitCount_0f7a4 wsJ6_bitCount_0f7a4) := goodIn_app (goodIn_of _ (by decide +kernel)) ggX1_levelOf_J6_bitCount_0f7a4
theorem dX1_levelOf_0 : decode cX1_levelOf 0 = .ok (.aload_n 0, 1) := by decide +kernel
theorem dX1_levelOf_1 : decode cX1_levelOf 1 = .ok (.getfield 61, 3) := by decide +kernel
theorem dX1_levelOf_4 : decode cX1_levelOf 4 = .ok (.iload_n 1, 1) := by decide +kernel
theorem dX1_levelOf_5 : decode cX1_levelOf 5 = .ok (.invokestatic 78, 3) := by decide +kernel
theorem dX1_levelOf_8 : decode cX1_levelOf 8 = .ok (.isub, 1) := by decide +kernel
theorem dX1_levelOf_9 : decode cX1_levelOf 9 = .ok (.ireturn, 1) := by decide +kernel
set_option maxRecDepth 20000 in
theorem ggX1_leastOf_X1_levelOf : GoodIn wsX1_leastOf wsX1_levelOf := goodIn_r _ [10, 1, 11, 12, 13, 14, 15, 16, 17, 34, 35, 36, 37, 38, 39, 40, 41, 42] (by decide +kernel) (by decide +kernel)
set_option maxRecDepth 20000 in
theorem gX1_leastOf_X1_levelOf : GoodIn wsX1_leastOf (wsV RX1 83 RX1 yX1_levelOf wsX1_levelOf) := goodIn_app (goodIn_of _ (by decide +kernel)) ggX1_leastOf_X1_levelOf
set_option maxRecDepth 20000 in
theorem ggX1_leastOf_X3_hasBit : GoodIn wsX1_leastOf wsX3_hasBit := goodIn_r _ [20] (by decide +kernel) (by decide +kernel)
set_option maxRecDepth 20000 in
theorem gX1_leastOf_X3_hasBit_n86 : GoodIn wsX1_leastOf (wsX3_hasBit) := ggX1_leastOf_X3_hasBit
set_option maxRecDepth 20000 in
theorem ggX1_leastOf_X1_index : GoodIn wsX1_leastOf wsX1_index := goodIn_r _ [23] (by decide +kernel) (by decide +kernel)
set_option maxRecDepth 20000 in
theorem gX1_leastOf_X1_index : GoodIn wsX1_leastOf (va_wsS RX1 70 yX1_index wsX1_index) := goodIn_app (goodIn_of _ (by decide +kernel)) ggX1_leastOf_X1_index
set_option maxRecDepth 20000 in
theorem ggX1_leastOf_X1_firstOf : GoodIn wsX1_leastOf wsX1_firstOf := goodIn_r _ [26, 11, 12, 13, 14, 15, 16, 17] (by decide +kernel) (by decide +kernel)
set_option maxRecDepth 20000 in
theorem gX1_leastOf_X1_firstOf : GoodIn wsX1_leastOf (va_wsS RX1 90 yX1_firstOf wsX1_firstOf) := goodIn_app (goodIn_of _ (by decide +kernel)) ggX1_leastOf_X1_firstOf
set_option maxRecDepth 20000 in
theorem ggX1_leastOf_X2_latenessIf : GoodIn wsX1_leastOf wsX2_latenessIf := goodIn_r _ [31, 32, 33, 43, 44, 45, 46, 47, 48, 49, 50, 51, 52, 53] (by decide +kernel) (by decide +kernel)
set_option maxRecDepth 20000 in
theorem gX1_leastOf_X2_latenessIf : GoodIn wsX1_leastOf (wsV RX1 93 RX2 yX2_latenessIf wsX2_latenessIf) := goodIn_app (goodIn_of _ (by decide +kernel)) ggX1_leastOf_X2_latenessIf
theorem dX1_leastOf_0 : decode cX1_leastOf 0 = .ok (.aload_n 0, 1) := by decide +kernel
theorem dX1_leastOf_1 : decode cX1_leastOf 1 = .ok (.iload_n 1, 1) := by decide +kernel
theorem dX1_leastOf_2 : decode cX1_leastOf 2 = .ok (.invokevirtual 83, 3) := by decide +kernel
theorem dX1_leastOf_5 : decode cX1_leastOf 5 = .ok (.istore_n 2, 1) := by decide +kernel
theorem dX1_leastOf_6 : decode cX1_leastOf 6 = .ok (.iconst 0, 1) := by decide +kernel
theorem dX1_leastOf_7 : decode cX1_leastOf 7 = .ok (.istore_n 3, 1) := by decide +kernel
theorem dX1_leastOf_8 : decode cX1_leastOf 8 = .ok (.iconst 0, 1) := by decide +kernel
theorem dX1_leastOf_9 : decode cX1_leastOf 9 = .ok (.istore 4, 2) := by decide +kernel
theorem dX1_leastOf_11 : decode cX1_leastOf 11 = .ok (.iload 4, 2) := by decide +kernel
theorem dX1_leastOf_13 : decode cX1_leastOf 13 = .ok (.aload_n 0, 1) := by decide +kernel
theorem dX1_leastOf_14 : decode cX1_leastOf 14 = .ok (.getfield 61, 3) := by decide +kernel
theorem dX1_leastOf_17 : decode cX1_leastOf 17 = .ok (.if_icmp .ge 83, 3) := by decide +kernel
theorem dX1_leastOf_20 : decode cX1_leastOf 20 = .ok (.iload_n 1, 1) := by decide +kernel
theorem dX1_leastOf_21 : decode cX1_leastOf 21 = .ok (.iload 4, 2) := by decide +kernel
theorem dX1_leastOf_23 : decode cX1_leastOf 23 = .ok (.invokestatic 86, 3) := by decide +kernel
theorem dX1_leastOf_26 : decode cX1_leastOf 26 = .ok (.ifCond .eq 68, 3) := by decide +kernel
theorem dX1_leastOf_29 : decode cX1_leastOf 29 = .ok (.iconst 0, 1) := by decide +kernel
theorem dX1_leastOf_30 : decode cX1_leastOf 30 = .ok (.istore 5, 2) := by decide +kernel
theorem dX1_leastOf_32 : decode cX1_leastOf 32 = .ok (.iconst 0, 1) := by decide +kernel
theorem dX1_leastOf_33 : decode cX1_leastOf 33 = .ok (.istore 6, 2) := by decide +kernel
theorem dX1_leastOf_35 : decode cX1_leastOf 35 = .ok (.iload 6, 2) := by decide +kernel
theorem dX1_leastOf_37 : decode cX1_leastOf 37 = .ok (.aload_n 0, 1) := by decide +kernel
theorem dX1_leastOf_38 : decode cX1_leastOf 38 = .ok (.getfield 69, 3) := by decide +kernel
theorem dX1_leastOf_41 : decode cX1_leastOf 41 = .ok (.if_icmp .ge 27, 3) := by decide +kernel
theorem dX1_leastOf_44 : decode cX1_leastOf 44 = .ok (.iload 5, 2) := by decide +kernel
theorem dX1_leastOf_46 : decode cX1_leastOf 46 = .ok (.aload_n 0, 1) := by decide +kernel
theorem dX1_leastOf_47 : decode cX1_leastOf 47 = .ok (.getfield 9, 3) := by decide +kernel
theorem dX1_leastOf_50 : decode cX1_leastOf 50 = .ok (.iload_n 2, 1) := by decide +kernel
theorem dX1_leastOf_51 : decode cX1_leastOf 51 = .ok (.iload 4, 2) := by decide +kernel
theorem dX1_leastOf_53 : decode cX1_leastOf 53 = .ok (.iload 6, 2) := by decide +kernel
theorem dX1_leastOf_55 : decode cX1_leastOf 55 = .ok (.invokestatic 70, 3) := by decide +kernel
theorem dX1_leastOf_58 : decode cX1_leastOf 58 = .ok (.iaload, 1) := by decide +kernel
theorem dX1_leastOf_59 : decode cX1_leastOf 59 = .ok (.ior, 1) := by decide +kernel
theorem dX1_leastOf_60 : decode cX1_leastOf 60 = .ok (.istore 5, 2) := by decide +kernel
theorem dX1_leastOf_62 : decode cX1_leastOf 62 = .ok (.iinc 6 1, 3) := by decide +kernel
theorem dX1_leastOf_65 : decode cX1_leastOf 65 = .ok (.goto (-30), 3) := by decide +kernel
theorem dX1_leastOf_68 : decode cX1_leastOf 68 = .ok (.iload 5, 2) := by decide +kernel
theorem dX1_leastOf_70 : decode cX1_leastOf 70 = .ok (.ifCond .ne 6, 3) := by decide +kernel
theorem dX1_leastOf_73 : decode cX1_leastOf 73 = .ok (.ldc 50, 2) := by decide +kernel
theorem dX1_leastOf_75 : decode cX1_leastOf 75 = .ok (.ireturn, 1) := by decide +kernel
theorem dX1_leastOf_76 : decode cX1_leastOf 76 = .ok (.iload_n 3, 1) := by decide +kernel
theorem dX1_leastOf_77 : decode cX1_leastOf 77 = .ok (.aload_n 0, 1) := by decide +kernel
theorem dX1_leastOf_78 : decode cX1_leastOf 78 = .ok (.getfield 29, 3) := by decide +kernel
theorem dX1_leastOf_81 : decode cX1_leastOf 81 = .ok (.iload 4, 2) := by decide +kernel
theorem dX1_leastOf_83 : decode cX1_leastOf 83 = .ok (.aaload, 1) := by decide +kernel
theorem dX1_leastOf_84 : decode cX1_leastOf 84 = .ok (.iload 5, 2) := by decide +kernel
theorem dX1_leastOf_86 : decode cX1_leastOf 86 = .ok (.invokestatic 90, 3) := by decide +kernel
theorem dX1_leastOf_89 : decode cX1_leastOf 89 = .ok (.invokevirtual 93, 3) := by decide +kernel
theorem dX1_leastOf_92 : decode cX1_leastOf 92 = .ok (.iadd, 1) := by decide +kernel
theorem dX1_leastOf_93 : decode cX1_leastOf 93 = .ok (.istore_n 3, 1) := by decide +kernel
theorem dX1_leastOf_94 : decode cX1_leastOf 94 = .ok (.iinc 4 1, 3) := by decide +kernel
theorem dX1_leastOf_97 : decode cX1_leastOf 97 = .ok (.goto (-86), 3) := by decide +kernel
theorem dX1_leastOf_100 : decode cX1_leastOf 100 = .ok (.iload_n 3, 1) := by decide +kernel
theorem dX1_leastOf_101 : decode cX1_leastOf 101 = .ok (.ireturn, 1) := by decide +kernel
set_option maxRecDepth 20000 in
theorem ggX1_berthRest_X1_keepIfAhead : GoodIn wsX1_berthRest wsX1_keepIfAhead := goodIn_r _ [7, 8, 1, 9, 10, 11, 12, 13, 14, 15, 6, 16, 72, 73, 74, 75, 76, 77, 78, 79, 80] (by decide +kernel) (by decide +kernel)
set_option maxRecDepth 20000 in
theorem gX1_berthRest_X1_keepIfAhead : GoodIn wsX1_berthRest (wsV RX1 96 RX1 yX1_keepIfAhead wsX1_keepIfAhead) := goodIn_app (goodIn_of _ (by decide +kernel)) ggX1_berthRest_X1_keepIfAhead
set_option maxRecDepth 20000 in
theorem ggX1_berthRest_X3_hasBit : GoodIn wsX1_berthRest wsX3_hasBit := goodIn_r _ [19] (by decide +kernel) (by decide +kernel)
set_option maxRecDepth 20000 in
theorem gX1_berthRest_X3_hasBit_n86 : GoodIn wsX1_berthRest (wsX3_hasBit) := ggX1_berthRest_X3_hasBit
set_option maxRecDepth 20000 in
theorem ggX1_berthRest_X1_tryBerth : GoodIn wsX1_berthRest wsX1_tryBerth := goodIn_r _ [23, 24, 25, 8, 26, 27, 28, 6, 29, 1, 30, 31, 32, 33, 34, 35, 36, 37, 38, 39, 40, 41, 42, 43, 44, 45, 46, 10, 12, 17, 18, 19, 47, 48, 49, 50, 51, 2, 52, 53, 54, 55, 56, 57, 58, 59, 60, 61, 62, 63, 64, 65, 66, 67, 68, 69, 70, 71, 0, 3, 4, 5, 7, 9, 11, 13, 14, 15, 16, 20, 21, 22, 72, 73, 74, 75, 76, 77, 78, 79, 80, 81, 82, 83, 84, 85, 86, 87, 88, 89, 90, 91] (by decide +kernel) (by decide +kernel)
set_option maxRecDepth 20000 in
theorem gX1_berthRest_X1_tryBerth : GoodIn wsX1_berthRest (wsV RX1 100 RX1 yX1_tryBerth wsX1_tryBerth) := goodIn_app (goodIn_of _ (by decide +kernel)) ggX1_berthRest_X1_tryBerth
theorem dX1_berthRest_0 : decode cX1_berthRest 0 = .ok (.iload_n 1, 1) := by decide +kernel
theorem dX1_berthRest_1 : decode cX1_berthRest 1 = .ok (.ifCond .ne 9, 3) := by decide +kernel
theorem dX1_berthRest_4 : decode cX1_berthRest 4 = .ok (.aload_n 0, 1) := by decide +kernel
theorem dX1_berthRest_5 : decode cX1_berthRest 5 = .ok (.iload_n 2, 1) := by decide +kernel
theorem dX1_berthRest_6 : decode cX1_berthRest 6 = .ok (.invokevirtual 96, 3) := by decide +kernel
theorem dX1_berthRest_9 : decode cX1_berthRest 9 = .ok (.return_, 1) := by decide +kernel
theorem dX1_berthRest_10 : decode cX1_berthRest 10 = .ok (.iconst 0, 1) := by decide +kernel
theorem dX1_berthRest_11 : decode cX1_berthRest 11 = .ok (.istore 4, 2) := by decide +kernel
theorem dX1_berthRest_13 : decode cX1_berthRest 13 = .ok (.iload 4, 2) := by decide +kernel
theorem dX1_berthRest_15 : decode cX1_berthRest 15 = .ok (.aload_n 0, 1) := by decide +kernel
theorem dX1_berthRest_16 : decode cX1_berthRest 16 = .ok (.getfield 61, 3) := by decide +kernel
theorem dX1_berthRest_19 : decode cX1_berthRest 19 = .ok (.if_icmp .ge 47, 3) := by decide +kernel
theorem dX1_berthRest_22 : decode cX1_berthRest 22 = .ok (.iconst 0, 1) := by decide +kernel
theorem dX1_berthRest_23 : decode cX1_berthRest 23 = .ok (.istore 5, 2) := by decide +kernel
theorem dX1_berthRest_25 : decode cX1_berthRest 25 = .ok (.iload 5, 2) := by decide +kernel
theorem dX1_berthRest_27 : decode cX1_berthRest 27 = .ok (.aload_n 0, 1) := by decide +kernel
theorem dX1_berthRest_28 : decode cX1_berthRest 28 = .ok (.getfield 69, 3) := by decide +kernel
theorem dX1_berthRest_31 : decode cX1_berthRest 31 = .ok (.if_icmp .ge 29, 3) := by decide +kernel
theorem dX1_berthRest_34 : decode cX1_berthRest 34 = .ok (.iload_n 1, 1) := by decide +kernel
theorem dX1_berthRest_35 : decode cX1_berthRest 35 = .ok (.iload 4, 2) := by decide +kernel
theorem dX1_berthRest_37 : decode cX1_berthRest 37 = .ok (.invokestatic 86, 3) := by decide +kernel
theorem dX1_berthRest_40 : decode cX1_berthRest 40 = .ok (.ifCond .eq 20, 3) := by decide +kernel
theorem dX1_berthRest_43 : decode cX1_berthRest 43 = .ok (.aload_n 0, 1) := by decide +kernel
theorem dX1_berthRest_44 : decode cX1_berthRest 44 = .ok (.iload_n 1, 1) := by decide +kernel
theorem dX1_berthRest_45 : decode cX1_berthRest 45 = .ok (.iload 4, 2) := by decide +kernel
theorem dX1_berthRest_47 : decode cX1_berthRest 47 = .ok (.iload 5, 2) := by decide +kernel
theorem dX1_berthRest_49 : decode cX1_berthRest 49 = .ok (.iload_n 2, 1) := by decide +kernel
theorem dX1_berthRest_50 : decode cX1_berthRest 50 = .ok (.iload_n 3, 1) := by decide +kernel
theorem dX1_berthRest_51 : decode cX1_berthRest 51 = .ok (.invokevirtual 100, 3) := by decide +kernel
theorem dX1_berthRest_54 : decode cX1_berthRest 54 = .ok (.iinc 5 1, 3) := by decide +kernel
theorem dX1_berthRest_57 : decode cX1_berthRest 57 = .ok (.goto (-32), 3) := by decide +kernel
theorem dX1_berthRest_60 : decode cX1_berthRest 60 = .ok (.iinc 4 1, 3) := by decide +kernel
theorem dX1_berthRest_63 : decode cX1_berthRest 63 = .ok (.goto (-50), 3) := by decide +kernel
theorem dX1_berthRest_66 : decode cX1_berthRest 66 = .ok (.return_, 1) := by decide +kernel
set_option maxRecDepth 20000 in
theorem ggX1_tryBerth_X1_levelOf : GoodIn wsX1_tryBerth wsX1_levelOf := goodIn_r _ [8, 9, 10, 11, 12, 13, 14, 15, 16, 72, 73, 74, 75, 76, 77, 78, 79, 80] (by decide +kernel) (by decide +kernel)
set_option maxRecDepth 20000 in
theorem gX1_tryBerth_X1_levelOf : GoodIn wsX1_tryBerth (wsV RX1 83 RX1 yX1_levelOf wsX1_levelOf) := goodIn_app (goodIn_of _ (by decide +kernel)) ggX1_tryBerth_X1_levelOf
set_option maxRecDepth 20000 in
theorem ggX1_tryBerth_X1_index : GoodIn wsX1_tryBerth wsX1_index := goodIn_r _ [19] (by decide +kernel) (by decide +kernel)
set_option maxRecDepth 20000 in
theorem gX1_tryBerth_X1_index : GoodIn wsX1_tryBerth (va_wsS RX1 70 yX1_index wsX1_index) := goodIn_app (goodIn_of _ (by decide +kernel)) ggX1_tryBerth_X1_index
set_option maxRecDepth 20000 in
theorem ggX1_tryBerth_X1_firstOf : GoodIn wsX1_tryBerth wsX1_firstOf := goodIn_r _ [22, 10, 11, 12, 13, 14, 15, 16] (by decide +kernel) (by decide +kernel)
set_option maxRecDepth 20000 in
theorem gX1_tryBerth_X1_firstOf : GoodIn wsX1_tryBerth (va_wsS RX1 90 yX1_firstOf wsX1_firstOf) := goodIn_app (goodIn_of _ (by decide +kernel)) ggX1_tryBerth_X1_firstOf
set_option maxRecDepth 20000 in
theorem ggX1_tryBerth_X1_lay : GoodIn wsX1_tryBerth wsX1_lay := goodIn_r _ [26, 27, 28, 9, 4, 5, 6, 7, 8, 10, 11, 12, 13, 14, 15, 16, 29, 30, 31, 32, 33, 34, 35, 2, 36, 37, 38, 1, 39, 40, 41, 42, 17, 18, 19, 72, 73, 74, 75, 76, 77, 78, 79, 80, 81, 82, 83, 84, 85, 86, 87, 88, 89, 90, 91] (by decide +kernel) (by decide +kernel)
set_option maxRecDepth 20000 in
theorem gX1_tryBerth_X1_lay : GoodIn wsX1_tryBerth (wsV RX1 104 RX1 yX1_lay wsX1_lay) := goodIn_app (goodIn_of _ (by decide +kernel)) ggX1_tryBerth_X1_lay
set_option maxRecDepth 20000 in
theorem ggX1_tryBerth_X2_latenessIf : GoodIn wsX1_tryBerth wsX2_latenessIf := goodIn_r _ [47, 48, 49, 81, 82, 83, 84, 85, 86, 87, 88, 89, 90, 91] (by decide +kernel) (by decide +kernel)
set_option maxRecDepth 20000 in
theorem gX1_tryBerth_X2_latenessIf : GoodIn wsX1_tryBerth (wsV RX1 93 RX2 yX2_latenessIf wsX2_latenessIf) := goodIn_app (goodIn_of _ (by decide +kernel)) ggX1_tryBerth_X2_latenessIf
set_option maxRecDepth 20000 in
theorem ggX1_tryBerth_X1_leastOf : GoodIn wsX1_tryBerth wsX1_leastOf := goodIn_r _ [53, 9, 37, 1, 54, 2, 4, 5, 6, 7, 8, 10, 11, 12, 13, 14, 15, 16, 29, 30, 31, 17, 18, 19, 20, 21, 22, 43, 44, 45, 46, 47, 48, 49, 72, 73, 74, 75, 76, 77, 78, 79, 80, 81, 82, 83, 84, 85, 86, 87, 88, 89, 90, 91] (by decide +kernel) (by decide +kernel)
set_option maxRecDepth 20000 in
theorem gX1_tryBerth_X1_leastOf : GoodIn wsX1_tryBerth (wsV RX1 46 RX1 yX1_leastOf wsX1_leastOf) := goodIn_app (goodIn_of _ (by decide +kernel)) ggX1_tryBerth_X1_leastOf
set_option maxRecDepth 20000 in
theorem ggX1_tryBerth_X1_berthRest : GoodIn wsX1_tryBerth wsX1_berthRest := goodIn_r _ [58, 9, 37, 59, 60, 61, 7, 62, 3, 63, 27, 64, 28, 65, 66, 67, 68, 29, 30, 31, 69, 70, 71, 0, 1, 2, 4, 5, 6, 8, 10, 11, 12, 13, 14, 15, 16, 17, 18, 19, 20, 21, 22, 23, 24, 25, 26, 32, 33, 34, 35, 36, 38, 39, 40, 41, 42, 43, 44, 45, 46, 47, 48, 49, 50, 51, 52, 53, 54, 55, 56, 57, 72, 73, 74, 75, 76, 77, 78, 79, 80, 81, 82, 83, 84, 85, 86, 87, 88, 89, 90, 91] (by decide +kernel) (by decide +kernel)
set_option maxRecDepth 20000 in
theorem gX1_tryBerth_X1_berthRest : GoodIn wsX1_tryBerth (wsV RX1 51 RX1 yX1_berthRest wsX1_berthRest) := goodIn_app (goodIn_of _ (by decide +kernel)) ggX1_tryBerth_X1_berthRest
theorem dX1_tryBerth_0 : decode cX1_tryBerth 0 = .ok (.aload_n 0, 1) := by decide +kernel
theorem dX1_tryBerth_1 : decode cX1_tryBerth 1 = .ok (.getfield 9, 3) := by decide +kernel
theorem dX1_tryBerth_4 : decode cX1_tryBerth 4 = .ok (.aload_n 0, 1) := by decide +kernel
theorem dX1_tryBerth_5 : decode cX1_tryBerth 5 = .ok (.iload_n 1, 1) := by decide +kernel
theorem dX1_tryBerth_6 : decode cX1_tryBerth 6 = .ok (.invokevirtual 83, 3) := by decide +kernel
theorem dX1_tryBerth_9 : decode cX1_tryBerth 9 = .ok (.iload_n 2, 1) := by decide +kernel
theorem dX1_tryBerth_10 : decode cX1_tryBerth 10 = .ok (.iload_n 3, 1) := by decide +kernel
theorem dX1_tryBerth_11 : decode cX1_tryBerth 11 = .ok (.invokestatic 70, 3) := by decide +kernel
theorem dX1_tryBerth_14 : decode cX1_tryBerth 14 = .ok (.iaload, 1) := by decide +kernel
theorem dX1_tryBerth_15 : decode cX1_tryBerth 15 = .ok (.istore 6, 2) := by decide +kernel
theorem dX1_tryBerth_17 : decode cX1_tryBerth 17 = .ok (.iload 6, 2) := by decide +kernel
theorem dX1_tryBerth_19 : decode cX1_tryBerth 19 = .ok (.ifCond .ne 4, 3) := by decide +kernel
theorem dX1_tryBerth_22 : decode cX1_tryBerth 22 = .ok (.return_, 1) := by decide +kernel
theorem dX1_tryBerth_23 : decode cX1_tryBerth 23 = .ok (.iload 6, 2) := by decide +kernel
theorem dX1_tryBerth_25 : decode cX1_tryBerth 25 = .ok (.invokestatic 90, 3) := by decide +kernel
theorem dX1_tryBerth_28 : decode cX1_tryBerth 28 = .ok (.istore 7, 2) := by decide +kernel
theorem dX1_tryBerth_30 : decode cX1_tryBerth 30 = .ok (.iload 7, 2) := by decide +kernel
theorem dX1_tryBerth_32 : decode cX1_tryBerth 32 = .ok (.iconst 4, 1) := by decide +kernel
theorem dX1_tryBerth_33 : decode cX1_tryBerth 33 = .ok (.imul, 1) := by decide +kernel
theorem dX1_tryBerth_34 : decode cX1_tryBerth 34 = .ok (.iload_n 2, 1) := by decide +kernel
theorem dX1_tryBerth_35 : decode cX1_tryBerth 35 = .ok (.iadd, 1) := by decide +kernel
theorem dX1_tryBerth_36 : decode cX1_tryBerth 36 = .ok (.istore 8, 2) := by decide +kernel
theorem dX1_tryBerth_38 : decode cX1_tryBerth 38 = .ok (.iload 8, 2) := by decide +kernel
theorem dX1_tryBerth_40 : decode cX1_tryBerth 40 = .ok (.iload 5, 2) := by decide +kernel
theorem dX1_tryBerth_42 : decode cX1_tryBerth 42 = .ok (.if_icmp .gt 4, 3) := by decide +kernel
theorem dX1_tryBerth_45 : decode cX1_tryBerth 45 = .ok (.return_, 1) := by decide +kernel
theorem dX1_tryBerth_46 : decode cX1_tryBerth 46 = .ok (.aload_n 0, 1) := by decide +kernel
theorem dX1_tryBerth_47 : decode cX1_tryBerth 47 = .ok (.iload_n 1, 1) := by decide +kernel
theorem dX1_tryBerth_48 : decode cX1_tryBerth 48 = .ok (.iload_n 2, 1) := by decide +kernel
theorem dX1_tryBerth_49 : decode cX1_tryBerth 49 = .ok (.iload_n 3, 1) := by decide +kernel
theorem dX1_tryBerth_50 : decode cX1_tryBerth 50 = .ok (.iload 7, 2) := by decide +kernel
theorem dX1_tryBerth_52 : decode cX1_tryBerth 52 = .ok (.invokevirtual 104, 3) := by decide +kernel
theorem dX1_tryBerth_55 : decode cX1_tryBerth 55 = .ok (.iload_n 1, 1) := by decide +kernel
theorem dX1_tryBerth_56 : decode cX1_tryBerth 56 = .ok (.iconst 1, 1) := by decide +kernel
theorem dX1_tryBerth_57 : decode cX1_tryBerth 57 = .ok (.iload_n 2, 1) := by decide +kernel
theorem dX1_tryBerth_58 : decode cX1_tryBerth 58 = .ok (.ishl, 1) := by decide +kernel
theorem dX1_tryBerth_59 : decode cX1_tryBerth 59 = .ok (.iconst (-1), 1) := by decide +kernel
theorem dX1_tryBerth_60 : decode cX1_tryBerth 60 = .ok (.ixor, 1) := by decide +kernel
theorem dX1_tryBerth_61 : decode cX1_tryBerth 61 = .ok (.iand, 1) := by decide +kernel
theorem dX1_tryBerth_62 : decode cX1_tryBerth 62 = .ok (.istore 9, 2) := by decide +kernel
theorem dX1_tryBerth_64 : decode cX1_tryBerth 64 = .ok (.iload 4, 2) := by decide +kernel
theorem dX1_tryBerth_66 : decode cX1_tryBerth 66 = .ok (.aload_n 0, 1) := by decide +kernel
theorem dX1_tryBerth_67 : decode cX1_tryBerth 67 = .ok (.getfield 29, 3) := by decide +kernel
theorem dX1_tryBerth_70 : decode cX1_tryBerth 70 = .ok (.iload_n 2, 1) := by decide +kernel
theorem dX1_tryBerth_71 : decode cX1_tryBerth 71 = .ok (.aaload, 1) := by decide +kernel
theorem dX1_tryBerth_72 : decode cX1_tryBerth 72 = .ok (.iload 7, 2) := by decide +kernel
theorem dX1_tryBerth_74 : decode cX1_tryBerth 74 = .ok (.invokevirtual 93, 3) := by decide +kernel
theorem dX1_tryBerth_77 : decode cX1_tryBerth 77 = .ok (.iadd, 1) := by decide +kernel
theorem dX1_tryBerth_78 : decode cX1_tryBerth 78 = .ok (.istore 10, 2) := by decide +kernel
theorem dX1_tryBerth_80 : decode cX1_tryBerth 80 = .ok (.iload 10, 2) := by decide +kernel
theorem dX1_tryBerth_82 : decode cX1_tryBerth 82 = .ok (.aload_n 0, 1) := by decide +kernel
theorem dX1_tryBerth_83 : decode cX1_tryBerth 83 = .ok (.iload 9, 2) := by decide +kernel
theorem dX1_tryBerth_85 : decode cX1_tryBerth 85 = .ok (.invokevirtual 46, 3) := by decide +kernel
theorem dX1_tryBerth_88 : decode cX1_tryBerth 88 = .ok (.iadd, 1) := by decide +kernel
theorem dX1_tryBerth_89 : decode cX1_tryBerth 89 = .ok (.aload_n 0, 1) := by decide +kernel
theorem dX1_tryBerth_90 : decode cX1_tryBerth 90 = .ok (.getfield 38, 3) := by decide +kernel
theorem dX1_tryBerth_93 : decode cX1_tryBerth 93 = .ok (.if_icmp .gt 13, 3) := by decide +kernel
theorem dX1_tryBerth_96 : decode cX1_tryBerth 96 = .ok (.aload_n 0, 1) := by decide +kernel
theorem dX1_tryBerth_97 : decode cX1_tryBerth 97 = .ok (.iload 9, 2) := by decide +kernel
theorem dX1_tryBerth_99 : decode cX1_tryBerth 99 = .ok (.iload 10, 2) := by decide +kernel
theorem dX1_tryBerth_101 : decode cX1_tryBerth 101 = .ok (.iload 8, 2) := by decide +kernel
theorem dX1_tryBerth_103 : decode cX1_tryBerth 103 = .ok (.invokevirtual 51, 3) := by decide +kernel
theorem dX1_tryBerth_106 : decode cX1_tryBerth 106 = .ok (.return_, 1) := by decide +kernel
set_option maxRecDepth 20000 in
theorem ggX1_lay_X1_levelOf : GoodIn wsX1_lay wsX1_levelOf := goodIn_r _ [8, 3, 9, 10, 11, 12, 13, 14, 15, 35, 36, 37, 38, 39, 40, 41, 42, 43] (by decide +kernel) (by decide +kernel)
set_option maxRecDepth 20000 in
theorem gX1_lay_X1_levelOf : GoodIn wsX1_lay (wsV RX1 83 RX1 yX1_levelOf wsX1_levelOf) := goodIn_app (goodIn_of _ (by decide +kernel)) ggX1_lay_X1_levelOf
set_option maxRecDepth 20000 in
theorem ggX1_lay_X3_hasBit : GoodIn wsX1_lay wsX3_hasBit := goodIn_r _ [18] (by decide +kernel) (by decide +kernel)
set_option maxRecDepth 20000 in
theorem gX1_lay_X3_hasBit_n86 : GoodIn wsX1_lay (wsX3_hasBit) := ggX1_lay_X3_hasBit
set_option maxRecDepth 20000 in
theorem ggX1_lay_X1_narrow : GoodIn wsX1_lay wsX1_narrow := goodIn_r _ [22, 23, 24, 2, 25, 1, 26, 27, 28, 17, 29, 30, 31, 32, 33, 7, 34, 35, 36, 37, 38, 39, 40, 41, 42, 43, 44, 45, 46, 47, 48, 49, 50, 51, 52, 53, 54] (by decide +kernel) (by decide +kernel)
set_option maxRecDepth 20000 in
theorem gX1_lay_X1_narrow : GoodIn wsX1_lay (wsV RX1 108 RX1 yX1_narrow wsX1_narrow) := goodIn_app (goodIn_of _ (by decide +kernel)) ggX1_lay_X1_narrow
theorem dX1_lay_0 : decode cX1_lay 0 = .ok (.aload_n 0, 1) := by decide +kernel
theorem dX1_lay_1 : decode cX1_lay 1 = .ok (.getfield 15, 3) := by decide +kernel
theorem dX1_lay_4 : decode cX1_lay 4 = .ok (.iload_n 2, 1) := by decide +kernel
theorem dX1_lay_5 : decode cX1_lay 5 = .ok (.iload_n 3, 1) := by decide +kernel
theorem dX1_lay_6 : decode cX1_lay 6 = .ok (.iastore, 1) := by decide +kernel
theorem dX1_lay_7 : decode cX1_lay 7 = .ok (.aload_n 0, 1) := by decide +kernel
theorem dX1_lay_8 : decode cX1_lay 8 = .ok (.getfield 18, 3) := by decide +kernel
theorem dX1_lay_11 : decode cX1_lay 11 = .ok (.iload_n 2, 1) := by decide +kernel
theorem dX1_lay_12 : decode cX1_lay 12 = .ok (.iload 4, 2) := by decide +kernel
theorem dX1_lay_14 : decode cX1_lay 14 = .ok (.iastore, 1) := by decide +kernel
theorem dX1_lay_15 : decode cX1_lay 15 = .ok (.aload_n 0, 1) := by decide +kernel
theorem dX1_lay_16 : decode cX1_lay 16 = .ok (.iload_n 1, 1) := by decide +kernel
theorem dX1_lay_17 : decode cX1_lay 17 = .ok (.invokevirtual 83, 3) := by decide +kernel
theorem dX1_lay_20 : decode cX1_lay 20 = .ok (.istore 5, 2) := by decide +kernel
theorem dX1_lay_22 : decode cX1_lay 22 = .ok (.iconst 0, 1) := by decide +kernel
theorem dX1_lay_23 : decode cX1_lay 23 = .ok (.istore 6, 2) := by decide +kernel
theorem dX1_lay_25 : decode cX1_lay 25 = .ok (.iload 6, 2) := by decide +kernel
theorem dX1_lay_27 : decode cX1_lay 27 = .ok (.aload_n 0, 1) := by decide +kernel
theorem dX1_lay_28 : decode cX1_lay 28 = .ok (.getfield 61, 3) := by decide +kernel
theorem dX1_lay_31 : decode cX1_lay 31 = .ok (.if_icmp .ge 33, 3) := by decide +kernel
theorem dX1_lay_34 : decode cX1_lay 34 = .ok (.iload 6, 2) := by decide +kernel
theorem dX1_lay_36 : decode cX1_lay 36 = .ok (.iload_n 2, 1) := by decide +kernel
theorem dX1_lay_37 : decode cX1_lay 37 = .ok (.if_icmp .eq 21, 3) := by decide +kernel
theorem dX1_lay_40 : decode cX1_lay 40 = .ok (.iload_n 1, 1) := by decide +kernel
theorem dX1_lay_41 : decode cX1_lay 41 = .ok (.iload 6, 2) := by decide +kernel
theorem dX1_lay_43 : decode cX1_lay 43 = .ok (.invokestatic 86, 3) := by decide +kernel
theorem dX1_lay_46 : decode cX1_lay 46 = .ok (.ifCond .eq 12, 3) := by decide +kernel
theorem dX1_lay_49 : decode cX1_lay 49 = .ok (.aload_n 0, 1) := by decide +kernel
theorem dX1_lay_50 : decode cX1_lay 50 = .ok (.iload 5, 2) := by decide +kernel
theorem dX1_lay_52 : decode cX1_lay 52 = .ok (.iload_n 2, 1) := by decide +kernel
theorem dX1_lay_53 : decode cX1_lay 53 = .ok (.iload 6, 2) := by decide +kernel
theorem dX1_lay_55 : decode cX1_lay 55 = .ok (.invokevirtual 108, 3) := by decide +kernel
theorem dX1_lay_58 : decode cX1_lay 58 = .ok (.iinc 6 1, 3) := by decide +kernel
theorem dX1_lay_61 : decode cX1_lay 61 = .ok (.goto (-36), 3) := by decide +kernel
theorem dX1_lay_64 : decode cX1_lay 64 = .ok (.return_, 1) := by decide +kernel
set_option maxRecDepth 20000 in
theorem ggX1_narrow_X3_beginsBetween : GoodIn wsX1_narrow wsX3_beginsBetween := goodIn_r _ [10] (by decide +kernel) (by decide +kernel)
set_option maxRecDepth 20000 in
theorem gX1_narrow_X3_beginsBetween_n114 : GoodIn wsX1_narrow (wsX3_beginsBetween) := ggX1_narrow_X3_beginsBetween
set_option maxRecDepth 20000 in
theorem ggX1_narrow_X3_spansMeet : GoodIn wsX1_narrow wsX3_spansMeet := goodIn_r _ [12] (by decide +kernel) (by decide +kernel)
set_option maxRecDepth 20000 in
theorem gX1_narrow_X3_spansMeet_n120 : GoodIn wsX1_narrow (wsX3_spansMeet) := ggX1_narrow_X3_spansMeet
set_option maxRecDepth 20000 in
theorem ggX1_narrow_X1_index : GoodIn wsX1_narrow wsX1_index := goodIn_r _ [16] (by decide +kernel) (by decide +kernel)
set_option maxRecDepth 20000 in
theorem gX1_narrow_X1_index : GoodIn wsX1_narrow (va_wsS RX1 70 yX1_index wsX1_index) := goodIn_app (goodIn_of _ (by decide +kernel)) ggX1_narrow_X1_index
theorem dX1_narrow_0 : decode cX1_narrow 0 = .ok (.aload_n 0, 1) := by decide +kernel
theorem dX1_narrow_1 : decode cX1_narrow 1 = .ok (.getfield 29, 3) := by decide +kernel
theorem dX1_narrow_4 : decode cX1_narrow 4 = .ok (.iload_n 2, 1) := by decide +kernel
theorem dX1_narrow_5 : decode cX1_narrow 5 = .ok (.aaload, 1) := by decide +kernel
theorem dX1_narrow_6 : decode cX1_narrow 6 = .ok (.getfield 111, 3) := by decide +kernel
theorem dX1_narrow_9 : decode cX1_narrow 9 = .ok (.istore 4, 2) := by decide +kernel
theorem dX1_narrow_11 : decode cX1_narrow 11 = .ok (.aload_n 0, 1) := by decide +kernel
theorem dX1_narrow_12 : decode cX1_narrow 12 = .ok (.getfield 29, 3) := by decide +kernel
theorem dX1_narrow_15 : decode cX1_narrow 15 = .ok (.iload_n 3, 1) := by decide +kernel
theorem dX1_narrow_16 : decode cX1_narrow 16 = .ok (.aaload, 1) := by decide +kernel
theorem dX1_narrow_17 : decode cX1_narrow 17 = .ok (.getfield 111, 3) := by decide +kernel
theorem dX1_narrow_20 : decode cX1_narrow 20 = .ok (.istore 5, 2) := by decide +kernel
theorem dX1_narrow_22 : decode cX1_narrow 22 = .ok (.aload_n 0, 1) := by decide +kernel
theorem dX1_narrow_23 : decode cX1_narrow 23 = .ok (.getfield 18, 3) := by decide +kernel
theorem dX1_narrow_26 : decode cX1_narrow 26 = .ok (.iload_n 2, 1) := by decide +kernel
theorem dX1_narrow_27 : decode cX1_narrow 27 = .ok (.iaload, 1) := by decide +kernel
theorem dX1_narrow_28 : decode cX1_narrow 28 = .ok (.istore 6, 2) := by decide +kernel
theorem dX1_narrow_30 : decode cX1_narrow 30 = .ok (.iload 6, 2) := by decide +kernel
theorem dX1_narrow_32 : decode cX1_narrow 32 = .ok (.iload 5, 2) := by decide +kernel
theorem dX1_narrow_34 : decode cX1_narrow 34 = .ok (.isub, 1) := by decide +kernel
theorem dX1_narrow_35 : decode cX1_narrow 35 = .ok (.iconst 1, 1) := by decide +kernel
theorem dX1_narrow_36 : decode cX1_narrow 36 = .ok (.iadd, 1) := by decide +kernel
theorem dX1_narrow_37 : decode cX1_narrow 37 = .ok (.iload 6, 2) := by decide +kernel
theorem dX1_narrow_39 : decode cX1_narrow 39 = .ok (.iload 4, 2) := by decide +kernel
theorem dX1_narrow_41 : decode cX1_narrow 41 = .ok (.iadd, 1) := by decide +kernel
theorem dX1_narrow_42 : decode cX1_narrow 42 = .ok (.iconst 1, 1) := by decide +kernel
theorem dX1_narrow_43 : decode cX1_narrow 43 = .ok (.isub, 1) := by decide +kernel
theorem dX1_narrow_44 : decode cX1_narrow 44 = .ok (.invokestatic 114, 3) := by decide +kernel
theorem dX1_narrow_47 : decode cX1_narrow 47 = .ok (.istore 7, 2) := by decide +kernel
theorem dX1_narrow_49 : decode cX1_narrow 49 = .ok (.iconst 0, 1) := by decide +kernel
theorem dX1_narrow_50 : decode cX1_narrow 50 = .ok (.istore 8, 2) := by decide +kernel
theorem dX1_narrow_52 : decode cX1_narrow 52 = .ok (.iload 8, 2) := by decide +kernel
theorem dX1_narrow_54 : decode cX1_narrow 54 = .ok (.aload_n 0, 1) := by decide +kernel
theorem dX1_narrow_55 : decode cX1_narrow 55 = .ok (.getfield 69, 3) := by decide +kernel
theorem dX1_narrow_58 : decode cX1_narrow 58 = .ok (.if_icmp .ge 85, 3) := by decide +kernel
theorem dX1_narrow_61 : decode cX1_narrow 61 = .ok (.aload_n 0, 1) := by decide +kernel
theorem dX1_narrow_62 : decode cX1_narrow 62 = .ok (.getfield 15, 3) := by decide +kernel
theorem dX1_narrow_65 : decode cX1_narrow 65 = .ok (.iload_n 2, 1) := by decide +kernel
theorem dX1_narrow_66 : decode cX1_narrow 66 = .ok (.iaload, 1) := by decide +kernel
theorem dX1_narrow_67 : decode cX1_narrow 67 = .ok (.aload_n 0, 1) := by decide +kernel
theorem dX1_narrow_68 : decode cX1_narrow 68 = .ok (.getfield 29, 3) := by decide +kernel
theorem dX1_narrow_71 : decode cX1_narrow 71 = .ok (.iload_n 2, 1) := by decide +kernel
theorem dX1_narrow_72 : decode cX1_narrow 72 = .ok (.aaload, 1) := by decide +kernel
theorem dX1_narrow_73 : decode cX1_narrow 73 = .ok (.getfield 117, 3) := by decide +kernel
theorem dX1_narrow_76 : decode cX1_narrow 76 = .ok (.iload 8, 2) := by decide +kernel
theorem dX1_narrow_78 : decode cX1_narrow 78 = .ok (.aload_n 0, 1) := by decide +kernel
theorem dX1_narrow_79 : decode cX1_narrow 79 = .ok (.getfield 29, 3) := by decide +kernel
theorem dX1_narrow_82 : decode cX1_narrow 82 = .ok (.iload_n 3, 1) := by decide +kernel
theorem dX1_narrow_83 : decode cX1_narrow 83 = .ok (.aaload, 1) := by decide +kernel
theorem dX1_narrow_84 : decode cX1_narrow 84 = .ok (.getfield 117, 3) := by decide +kernel
theorem dX1_narrow_87 : decode cX1_narrow 87 = .ok (.invokestatic 120, 3) := by decide +kernel
theorem dX1_narrow_90 : decode cX1_narrow 90 = .ok (.istore 9, 2) := by decide +kernel
theorem dX1_narrow_92 : decode cX1_narrow 92 = .ok (.aload_n 0, 1) := by decide +kernel
theorem dX1_narrow_93 : decode cX1_narrow 93 = .ok (.getfield 9, 3) := by decide +kernel
theorem dX1_narrow_96 : decode cX1_narrow 96 = .ok (.iload_n 1, 1) := by decide +kernel
theorem dX1_narrow_97 : decode cX1_narrow 97 = .ok (.iload_n 3, 1) := by decide +kernel
theorem dX1_narrow_98 : decode cX1_narrow 98 = .ok (.iload 8, 2) := by decide +kernel
theorem dX1_narrow_100 : decode cX1_narrow 100 = .ok (.invokestatic 70, 3) := by decide +kernel
theorem dX1_narrow_103 : decode cX1_narrow 103 = .ok (.iaload, 1) := by decide +kernel
theorem dX1_narrow_104 : decode cX1_narrow 104 = .ok (.istore 10, 2) := by decide +kernel
theorem dX1_narrow_106 : decode cX1_narrow 106 = .ok (.aload_n 0, 1) := by decide +kernel
theorem dX1_narrow_107 : decode cX1_narrow 107 = .ok (.getfield 9, 3) := by decide +kernel
theorem dX1_narrow_110 : decode cX1_narrow 110 = .ok (.iload_n 1, 1) := by decide +kernel
theorem dX1_narrow_111 : decode cX1_narrow 111 = .ok (.iconst 1, 1) := by decide +kernel
theorem dX1_narrow_112 : decode cX1_narrow 112 = .ok (.iadd, 1) := by decide +kernel
theorem dX1_narrow_113 : decode cX1_narrow 113 = .ok (.iload_n 3, 1) := by decide +kernel
theorem dX1_narrow_114 : decode cX1_narrow 114 = .ok (.iload 8, 2) := by decide +kernel
theorem dX1_narrow_116 : decode cX1_narrow 116 = .ok (.invokestatic 70, 3) := by decide +kernel
theorem dX1_narrow_119 : decode cX1_narrow 119 = .ok (.iload 9, 2) := by decide +kernel
theorem dX1_narrow_121 : decode cX1_narrow 121 = .ok (.ifCond .eq 13, 3) := by decide +kernel
theorem dX1_narrow_124 : decode cX1_narrow 124 = .ok (.iload 10, 2) := by decide +kernel
theorem dX1_narrow_126 : decode cX1_narrow 126 = .ok (.iload 7, 2) := by decide +kernel
theorem dX1_narrow_128 : decode cX1_narrow 128 = .ok (.iconst (-1), 1) := by decide +kernel
theorem dX1_narrow_129 : decode cX1_narrow 129 = .ok (.ixor, 1) := by decide +kernel
theorem dX1_narrow_130 : decode cX1_narrow 130 = .ok (.iand, 1) := by decide +kernel
theorem dX1_narrow_131 : decode cX1_narrow 131 = .ok (.goto 5, 3) := by decide +kernel
theorem dX1_narrow_134 : decode cX1_narrow 134 = .ok (.iload 10, 2) := by decide +kernel
theorem dX1_narrow_136 : decode cX1_narrow 136 = .ok (.iastore, 1) := by decide +kernel
theorem dX1_narrow_137 : decode cX1_narrow 137 = .ok (.iinc 8 1, 3) := by decide +kernel
theorem dX1_narrow_140 : decode cX1_narrow 140 = .ok (.goto (-88), 3) := by decide +kernel
theorem dX1_narrow_143 : decode cX1_narrow 143 = .ok (.return_, 1) := by decide +kernel
set_option maxRecDepth 20000 in
theorem ggX1_keepIfAhead_X1_isTriedAhead : GoodIn wsX1_keepIfAhead wsX1_isTriedAhead := goodIn_r _ [11, 2, 6, 5, 4, 3, 12, 13, 14, 15, 16, 17, 18, 19, 20] (by decide +kernel) (by decide +kernel)
set_option maxRecDepth 20000 in
theorem gX1_keepIfAhead_X1_isTriedAhead : GoodIn wsX1_keepIfAhead (wsV RX1 124 RX1 yX1_isTriedAhead wsX1_isTriedAhead) := goodIn_app (goodIn_of _ (by decide +kernel)) ggX1_keepIfAhead_X1_isTriedAhead
theorem dX1_keepIfAhead_0 : decode cX1_keepIfAhead 0 = .ok (.iload_n 1, 1) := by decide +kernel
theorem dX1_keepIfAhead_1 : decode cX1_keepIfAhead 1 = .ok (.aload_n 0, 1) := by decide +kernel
theorem dX1_keepIfAhead_2 : decode cX1_keepIfAhead 2 = .ok (.getfield 38, 3) := by decide +kernel
theorem dX1_keepIfAhead_5 : decode cX1_keepIfAhead 5 = .ok (.if_icmp .lt 11, 3) := by decide +kernel
theorem dX1_keepIfAhead_8 : decode cX1_keepIfAhead 8 = .ok (.aload_n 0, 1) := by decide +kernel
theorem dX1_keepIfAhead_9 : decode cX1_keepIfAhead 9 = .ok (.invokevirtual 124, 3) := by decide +kernel
theorem dX1_keepIfAhead_12 : decode cX1_keepIfAhead 12 = .ok (.ifCond .ne 4, 3) := by decide +kernel
theorem dX1_keepIfAhead_15 : decode cX1_keepIfAhead 15 = .ok (.return_, 1) := by decide +kernel
theorem dX1_keepIfAhead_16 : decode cX1_keepIfAhead 16 = .ok (.aload_n 0, 1) := by decide +kernel
theorem dX1_keepIfAhead_17 : decode cX1_keepIfAhead 17 = .ok (.iload_n 1, 1) := by decide +kernel
theorem dX1_keepIfAhead_18 : decode cX1_keepIfAhead 18 = .ok (.putfield 38, 3) := by decide +kernel
theorem dX1_keepIfAhead_21 : decode cX1_keepIfAhead 21 = .ok (.iconst 0, 1) := by decide +kernel
theorem dX1_keepIfAhead_22 : decode cX1_keepIfAhead 22 = .ok (.istore_n 2, 1) := by decide +kernel
theorem dX1_keepIfAhead_23 : decode cX1_keepIfAhead 23 = .ok (.iload_n 2, 1) := by decide +kernel
theorem dX1_keepIfAhead_24 : decode cX1_keepIfAhead 24 = .ok (.aload_n 0, 1) := by decide +kernel
theorem dX1_keepIfAhead_25 : decode cX1_keepIfAhead 25 = .ok (.getfield 61, 3) := by decide +kernel
theorem dX1_keepIfAhead_28 : decode cX1_keepIfAhead 28 = .ok (.if_icmp .ge 33, 3) := by decide +kernel
theorem dX1_keepIfAhead_31 : decode cX1_keepIfAhead 31 = .ok (.aload_n 0, 1) := by decide +kernel
theorem dX1_keepIfAhead_32 : decode cX1_keepIfAhead 32 = .ok (.getfield 21, 3) := by decide +kernel
theorem dX1_keepIfAhead_35 : decode cX1_keepIfAhead 35 = .ok (.iload_n 2, 1) := by decide +kernel
theorem dX1_keepIfAhead_36 : decode cX1_keepIfAhead 36 = .ok (.aload_n 0, 1) := by decide +kernel
theorem dX1_keepIfAhead_37 : decode cX1_keepIfAhead 37 = .ok (.getfield 15, 3) := by decide +kernel
theorem dX1_keepIfAhead_40 : decode cX1_keepIfAhead 40 = .ok (.iload_n 2, 1) := by decide +kernel
theorem dX1_keepIfAhead_41 : decode cX1_keepIfAhead 41 = .ok (.iaload, 1) := by decide +kernel
theorem dX1_keepIfAhead_42 : decode cX1_keepIfAhead 42 = .ok (.iastore, 1) := by decide +kernel
theorem dX1_keepIfAhead_43 : decode cX1_keepIfAhead 43 = .ok (.aload_n 0, 1) := by decide +kernel
theorem dX1_keepIfAhead_44 : decode cX1_keepIfAhead 44 = .ok (.getfield 24, 3) := by decide +kernel
theorem dX1_keepIfAhead_47 : decode cX1_keepIfAhead 47 = .ok (.iload_n 2, 1) := by decide +kernel
theorem dX1_keepIfAhead_48 : decode cX1_keepIfAhead 48 = .ok (.aload_n 0, 1) := by decide +kernel
theorem dX1_keepIfAhead_49 : decode cX1_keepIfAhead 49 = .ok (.getfield 18, 3) := by decide +kernel
theorem dX1_keepIfAhead_52 : decode cX1_keepIfAhead 52 = .ok (.iload_n 2, 1) := by decide +kernel
theorem dX1_keepIfAhead_53 : decode cX1_keepIfAhead 53 = .ok (.iaload, 1) := by decide +kernel
theorem dX1_keepIfAhead_54 : decode cX1_keepIfAhead 54 = .ok (.iastore, 1) := by decide +kernel
theorem dX1_keepIfAhead_55 : decode cX1_keepIfAhead 55 = .ok (.iinc 2 1, 3) := by decide +kernel
theorem dX1_keepIfAhead_58 : decode cX1_keepIfAhead 58 = .ok (.goto (-35), 3) := by decide +kernel
theorem dX1_keepIfAhead_61 : decode cX1_keepIfAhead 61 = .ok (.return_, 1) := by decide +kernel
theorem dX1_isTriedAhead_0 : decode cX1_isTriedAhead 0 = .ok (.iconst 0, 1) := by decide +kernel
theorem dX1_isTriedAhead_1 : decode cX1_isTriedAhead 1 = .ok (.istore_n 1, 1) := by decide +kernel
theorem dX1_isTriedAhead_2 : decode cX1_isTriedAhead 2 = .ok (.iload_n 1, 1) := by decide +kernel
theorem dX1_isTriedAhead_3 : decode cX1_isTriedAhead 3 = .ok (.aload_n 0, 1) := by decide +kernel
theorem dX1_isTriedAhead_4 : decode cX1_isTriedAhead 4 = .ok (.getfield 61, 3) := by decide +kernel
theorem dX1_isTriedAhead_7 : decode cX1_isTriedAhead 7 = .ok (.if_icmp .ge 81, 3) := by decide +kernel
theorem dX1_isTriedAhead_10 : decode cX1_isTriedAhead 10 = .ok (.aload_n 0, 1) := by decide +kernel
theorem dX1_isTriedAhead_11 : decode cX1_isTriedAhead 11 = .ok (.getfield 18, 3) := by decide +kernel
theorem dX1_isTriedAhead_14 : decode cX1_isTriedAhead 14 = .ok (.iload_n 1, 1) := by decide +kernel
theorem dX1_isTriedAhead_15 : decode cX1_isTriedAhead 15 = .ok (.iaload, 1) := by decide +kernel
theorem dX1_isTriedAhead_16 : decode cX1_isTriedAhead 16 = .ok (.aload_n 0, 1) := by decide +kernel
theorem dX1_isTriedAhead_17 : decode cX1_isTriedAhead 17 = .ok (.getfield 24, 3) := by decide +kernel
theorem dX1_isTriedAhead_20 : decode cX1_isTriedAhead 20 = .ok (.iload_n 1, 1) := by decide +kernel
theorem dX1_isTriedAhead_21 : decode cX1_isTriedAhead 21 = .ok (.iaload, 1) := by decide +kernel
theorem dX1_isTriedAhead_22 : decode cX1_isTriedAhead 22 = .ok (.if_icmp .eq 24, 3) := by decide +kernel
theorem dX1_isTriedAhead_25 : decode cX1_isTriedAhead 25 = .ok (.aload_n 0, 1) := by decide +kernel
theorem dX1_isTriedAhead_26 : decode cX1_isTriedAhead 26 = .ok (.getfield 18, 3) := by decide +kernel
theorem dX1_isTriedAhead_29 : decode cX1_isTriedAhead 29 = .ok (.iload_n 1, 1) := by decide +kernel
theorem dX1_isTriedAhead_30 : decode cX1_isTriedAhead 30 = .ok (.iaload, 1) := by decide +kernel
theorem dX1_isTriedAhead_31 : decode cX1_isTriedAhead 31 = .ok (.aload_n 0, 1) := by decide +kernel
theorem dX1_isTriedAhead_32 : decode cX1_isTriedAhead 32 = .ok (.getfield 24, 3) := by decide +kernel
theorem dX1_isTriedAhead_35 : decode cX1_isTriedAhead 35 = .ok (.iload_n 1, 1) := by decide +kernel
theorem dX1_isTriedAhead_36 : decode cX1_isTriedAhead 36 = .ok (.iaload, 1) := by decide +kernel
theorem dX1_isTriedAhead_37 : decode cX1_isTriedAhead 37 = .ok (.if_icmp .ge 7, 3) := by decide +kernel
theorem dX1_isTriedAhead_40 : decode cX1_isTriedAhead 40 = .ok (.iconst 1, 1) := by decide +kernel
theorem dX1_isTriedAhead_41 : decode cX1_isTriedAhead 41 = .ok (.goto 4, 3) := by decide +kernel
theorem dX1_isTriedAhead_44 : decode cX1_isTriedAhead 44 = .ok (.iconst 0, 1) := by decide +kernel
theorem dX1_isTriedAhead_45 : decode cX1_isTriedAhead 45 = .ok (.ireturn, 1) := by decide +kernel
theorem dX1_isTriedAhead_46 : decode cX1_isTriedAhead 46 = .ok (.aload_n 0, 1) := by decide +kernel
theorem dX1_isTriedAhead_47 : decode cX1_isTriedAhead 47 = .ok (.getfield 15, 3) := by decide +kernel
theorem dX1_isTriedAhead_50 : decode cX1_isTriedAhead 50 = .ok (.iload_n 1, 1) := by decide +kernel
theorem dX1_isTriedAhead_51 : decode cX1_isTriedAhead 51 = .ok (.iaload, 1) := by decide +kernel
theorem dX1_isTriedAhead_52 : decode cX1_isTriedAhead 52 = .ok (.aload_n 0, 1) := by decide +kernel
theorem dX1_isTriedAhead_53 : decode cX1_isTriedAhead 53 = .ok (.getfield 21, 3) := by decide +kernel
theorem dX1_isTriedAhead_56 : decode cX1_isTriedAhead 56 = .ok (.iload_n 1, 1) := by decide +kernel
theorem dX1_isTriedAhead_57 : decode cX1_isTriedAhead 57 = .ok (.iaload, 1) := by decide +kernel
theorem dX1_isTriedAhead_58 : decode cX1_isTriedAhead 58 = .ok (.if_icmp .eq 24, 3) := by decide +kernel
theorem dX1_isTriedAhead_61 : decode cX1_isTriedAhead 61 = .ok (.aload_n 0, 1) := by decide +kernel
theorem dX1_isTriedAhead_62 : decode cX1_isTriedAhead 62 = .ok (.getfield 15, 3) := by decide +kernel
theorem dX1_isTriedAhead_65 : decode cX1_isTriedAhead 65 = .ok (.iload_n 1, 1) := by decide +kernel
theorem dX1_isTriedAhead_66 : decode cX1_isTriedAhead 66 = .ok (.iaload, 1) := by decide +kernel
theorem dX1_isTriedAhead_67 : decode cX1_isTriedAhead 67 = .ok (.aload_n 0, 1) := by decide +kernel
theorem dX1_isTriedAhead_68 : decode cX1_isTriedAhead 68 = .ok (.getfield 21, 3) := by decide +kernel
theorem dX1_isTriedAhead_71 : decode cX1_isTriedAhead 71 = .ok (.iload_n 1, 1) := by decide +kernel
theorem dX1_isTriedAhead_72 : decode cX1_isTriedAhead 72 = .ok (.iaload, 1) := by decide +kernel
theorem dX1_isTriedAhead_73 : decode cX1_isTriedAhead 73 = .ok (.if_icmp .ge 7, 3) := by decide +kernel
theorem dX1_isTriedAhead_76 : decode cX1_isTriedAhead 76 = .ok (.iconst 1, 1) := by decide +kernel
theorem dX1_isTriedAhead_77 : decode cX1_isTriedAhead 77 = .ok (.goto 4, 3) := by decide +kernel
theorem dX1_isTriedAhead_80 : decode cX1_isTriedAhead 80 = .ok (.iconst 0, 1) := by decide +kernel
theorem dX1_isTriedAhead_81 : decode cX1_isTriedAhead 81 = .ok (.ireturn, 1) := by decide +kernel
theorem dX1_isTriedAhead_82 : decode cX1_isTriedAhead 82 = .ok (.iinc 1 1, 3) := by decide +kernel
theorem dX1_isTriedAhead_85 : decode cX1_isTriedAhead 85 = .ok (.goto (-83), 3) := by decide +kernel
theorem dX1_isTriedAhead_88 : decode cX1_isTriedAhead 88 = .ok (.iconst 0, 1) := by decide +kernel
theorem dX1_isTriedAhead_89 : decode cX1_isTriedAhead 89 = .ok (.ireturn, 1) := by decide +kernel
theorem dX1_index_0 : decode cX1_index 0 = .ok (.iload_n 0, 1) := by decide +kernel
theorem dX1_index_1 : decode cX1_index 1 = .ok (.iconst 4, 1) := by decide +kernel
theorem dX1_index_2 : decode cX1_index 2 = .ok (.imul, 1) := by decide +kernel
theorem dX1_index_3 : decode cX1_index 3 = .ok (.iload_n 1, 1) := by decide +kernel
theorem dX1_index_4 : decode cX1_index 4 = .ok (.iadd, 1) := by decide +kernel
theorem dX1_index_5 : decode cX1_index 5 = .ok (.bipush 6, 2) := by decide +kernel
theorem dX1_index_7 : decode cX1_index 7 = .ok (.imul, 1) := by decide +kernel
theorem dX1_index_8 : decode cX1_index 8 = .ok (.iload_n 2, 1) := by decide +kernel
theorem dX1_index_9 : decode cX1_index 9 = .ok (.iadd, 1) := by decide +kernel
theorem dX1_index_10 : decode cX1_index 10 = .ok (.ireturn, 1) := by decide +kernel
set_option maxRecDepth 20000 in
theorem ggX1_firstOf_J6_bitCount_0f7a4 : GoodIn wsX1_firstOf wsJ6_bitCount_0f7a4 := goodIn_r _ [4, 5, 6, 7] (by decide +kernel) (by decide +kernel)
set_option maxRecDepth 20000 in
theorem gX1_firstOf_J6_bitCount_0f7a4 : GoodIn wsX1_firstOf (va_wsS RX1 78 yJ6_bitCount_0f7a4 wsJ6_bitCount_0f7a4) := goodIn_app (goodIn_of _ (by decide +kernel)) ggX1_firstOf_J6_bitCount_0f7a4
theorem dX1_firstOf_0 : decode cX1_firstOf 0 = .ok (.iload_n 0, 1) := by decide +kernel
theorem dX1_firstOf_1 : decode cX1_firstOf 1 = .ok (.iload_n 0, 1) := by decide +kernel
theorem dX1_firstOf_2 : decode cX1_firstOf 2 = .ok (.ineg, 1) := by decide +kernel
theorem dX1_firstOf_3 : decode cX1_firstOf 3 = .ok (.iand, 1) := by decide +kernel
theorem dX1_firstOf_4 : decode cX1_firstOf 4 = .ok (.iconst 1, 1) := by decide +kernel
theorem dX1_firstOf_5 : decode cX1_firstOf 5 = .ok (.isub, 1) := by decide +kernel
theorem dX1_firstOf_6 : decode cX1_firstOf 6 = .ok (.invokestatic 78, 3) := by decide +kernel
theorem dX1_firstOf_9 : decode cX1_firstOf 9 = .ok (.ireturn, 1) := by decide +kernel
theorem dX2_init_0 : decode cX2_init 0 = .ok (.aload_n 0, 1) := by decide +kernel
theorem dX2_init_1 : decode cX2_init 1 = .ok (.invokespecial 1, 3) := by decide +kernel
theorem dX2_init_4 : decode cX2_init 4 = .ok (.return_, 1) := by decide +kernel
theorem dX2_latenessIf_0 : decode cX2_latenessIf 0 = .ok (.aload_n 0, 1) := by decide +kernel
theorem dX2_latenessIf_1 : decode cX2_latenessIf 1 = .ok (.getfield 7, 3) := by decide +kernel
theorem dX2_latenessIf_4 : decode cX2_latenessIf 4 = .ok (.iload_n 1, 1) := by decide +kernel
theorem dX2_latenessIf_5 : decode cX2_latenessIf 5 = .ok (.aload_n 0, 1) := by decide +kernel
theorem dX2_latenessIf_6 : decode cX2_latenessIf 6 = .ok (.getfield 13, 3) := by decide +kernel
theorem dX2_latenessIf_9 : decode cX2_latenessIf 9 = .ok (.isub, 1) := by decide +kernel
theorem dX2_latenessIf_10 : decode cX2_latenessIf 10 = .ok (.imul, 1) := by decide +kernel
theorem dX2_latenessIf_11 : decode cX2_latenessIf 11 = .ok (.ireturn, 1) := by decide +kernel
set_option maxRecDepth 20000 in
theorem ggX2_beginsAt_X0_suits : GoodIn wsX2_beginsAt wsX0_suits := goodIn_r _ [12, 13, 14, 15, 16, 17, 11, 18, 19, 40, 41, 42, 43, 44] (by decide +kernel) (by decide +kernel)
set_option maxRecDepth 20000 in
theorem gX2_beginsAt_X0_suits : GoodIn wsX2_beginsAt (wsV RX2 35 RX0 yX0_suits wsX0_suits) := goodIn_app (goodIn_of _ (by decide +kernel)) ggX2_beginsAt_X0_suits
set_option maxRecDepth 20000 in
theorem ggX2_beginsAt_X0_beginsFrom : GoodIn wsX2_beginsAt wsX0_beginsFrom := goodIn_r _ [23, 24, 25, 26, 27, 28, 40, 41, 42, 43, 44] (by decide +kernel) (by decide +kernel)
set_option maxRecDepth 20000 in
theorem gX2_beginsAt_X0_beginsFrom : GoodIn wsX2_beginsAt (wsV RX2 41 RX0 yX0_beginsFrom wsX0_beginsFrom) := goodIn_app (goodIn_of _ (by decide +kernel)) ggX2_beginsAt_X0_beginsFrom
theorem dX2_beginsAt_0 : decode cX2_beginsAt 0 = .ok (.aload_n 0, 1) := by decide +kernel
theorem dX2_beginsAt_1 : decode cX2_beginsAt 1 = .ok (.getfield 16, 3) := by decide +kernel
theorem dX2_beginsAt_4 : decode cX2_beginsAt 4 = .ok (.ifCond .eq 22, 3) := by decide +kernel
theorem dX2_beginsAt_7 : decode cX2_beginsAt 7 = .ok (.iload_n 1, 1) := by decide +kernel
theorem dX2_beginsAt_8 : decode cX2_beginsAt 8 = .ok (.aload_n 0, 1) := by decide +kernel
theorem dX2_beginsAt_9 : decode cX2_beginsAt 9 = .ok (.getfield 20, 3) := by decide +kernel
theorem dX2_beginsAt_12 : decode cX2_beginsAt 12 = .ok (.if_icmp .ne 12, 3) := by decide +kernel
theorem dX2_beginsAt_15 : decode cX2_beginsAt 15 = .ok (.iconst 1, 1) := by decide +kernel
theorem dX2_beginsAt_16 : decode cX2_beginsAt 16 = .ok (.aload_n 0, 1) := by decide +kernel
theorem dX2_beginsAt_17 : decode cX2_beginsAt 17 = .ok (.getfield 23, 3) := by decide +kernel
theorem dX2_beginsAt_20 : decode cX2_beginsAt 20 = .ok (.ishl, 1) := by decide +kernel
theorem dX2_beginsAt_21 : decode cX2_beginsAt 21 = .ok (.goto 4, 3) := by decide +kernel
theorem dX2_beginsAt_24 : decode cX2_beginsAt 24 = .ok (.iconst 0, 1) := by decide +kernel
theorem dX2_beginsAt_25 : decode cX2_beginsAt 25 = .ok (.ireturn, 1) := by decide +kernel
theorem dX2_beginsAt_26 : decode cX2_beginsAt 26 = .ok (.aload_n 2, 1) := by decide +kernel
theorem dX2_beginsAt_27 : decode cX2_beginsAt 27 = .ok (.iload_n 1, 1) := by decide +kernel
theorem dX2_beginsAt_28 : decode cX2_beginsAt 28 = .ok (.aload_n 0, 1) := by decide +kernel
theorem dX2_beginsAt_29 : decode cX2_beginsAt 29 = .ok (.getfield 26, 3) := by decide +kernel
theorem dX2_beginsAt_32 : decode cX2_beginsAt 32 = .ok (.aload_n 0, 1) := by decide +kernel
theorem dX2_beginsAt_33 : decode cX2_beginsAt 33 = .ok (.getfield 29, 3) := by decide +kernel
theorem dX2_beginsAt_36 : decode cX2_beginsAt 36 = .ok (.aload_n 0, 1) := by decide +kernel
theorem dX2_beginsAt_37 : decode cX2_beginsAt 37 = .ok (.getfield 32, 3) := by decide +kernel
theorem dX2_beginsAt_40 : decode cX2_beginsAt 40 = .ok (.invokevirtual 35, 3) := by decide +kernel
theorem dX2_beginsAt_43 : decode cX2_beginsAt 43 = .ok (.ifCond .eq 14, 3) := by decide +kernel
theorem dX2_beginsAt_46 : decode cX2_beginsAt 46 = .ok (.aload_n 2, 1) := by decide +kernel
theorem dX2_beginsAt_47 : decode cX2_beginsAt 47 = .ok (.aload_n 0, 1) := by decide +kernel
theorem dX2_beginsAt_48 : decode cX2_beginsAt 48 = .ok (.getfield 13, 3) := by decide +kernel
theorem dX2_beginsAt_51 : decode cX2_beginsAt 51 = .ok (.invokevirtual 41, 3) := by decide +kernel
theorem dX2_beginsAt_54 : decode cX2_beginsAt 54 = .ok (.goto 4, 3) := by decide +kernel
theorem dX2_beginsAt_57 : decode cX2_beginsAt 57 = .ok (.iconst 0, 1) := by decide +kernel
theorem dX2_beginsAt_58 : decode cX2_beginsAt 58 = .ok (.ireturn, 1) := by decide +kernel
theorem dX2_moveTo_0 : decode cX2_moveTo 0 = .ok (.aload_n 0, 1) := by decide +kernel
theorem dX2_moveTo_1 : decode cX2_moveTo 1 = .ok (.getfield 45, 3) := by decide +kernel
theorem dX2_moveTo_4 : decode cX2_moveTo 4 = .ok (.iload_n 1, 1) := by decide +kernel
theorem dX2_moveTo_5 : decode cX2_moveTo 5 = .ok (.if_icmp .ne 11, 3) := by decide +kernel
theorem dX2_moveTo_8 : decode cX2_moveTo 8 = .ok (.aload_n 0, 1) := by decide +kernel
theorem dX2_moveTo_9 : decode cX2_moveTo 9 = .ok (.getfield 48, 3) := by decide +kernel
theorem dX2_moveTo_12 : decode cX2_moveTo 12 = .ok (.iload_n 2, 1) := by decide +kernel
theorem dX2_moveTo_13 : decode cX2_moveTo 13 = .ok (.if_icmp .eq 7, 3) := by decide +kernel
theorem dX2_moveTo_16 : decode cX2_moveTo 16 = .ok (.iconst 1, 1) := by decide +kernel
theorem dX2_moveTo_17 : decode cX2_moveTo 17 = .ok (.goto 4, 3) := by decide +kernel
theorem dX2_moveTo_20 : decode cX2_moveTo 20 = .ok (.iconst 0, 1) := by decide +kernel
theorem dX2_moveTo_21 : decode cX2_moveTo 21 = .ok (.istore_n 3, 1) := by decide +kernel
theorem dX2_moveTo_22 : decode cX2_moveTo 22 = .ok (.aload_n 0, 1) := by decide +kernel
theorem dX2_moveTo_23 : decode cX2_moveTo 23 = .ok (.iload_n 1, 1) := by decide +kernel
theorem dX2_moveTo_24 : decode cX2_moveTo 24 = .ok (.putfield 45, 3) := by decide +kernel
theorem dX2_moveTo_27 : decode cX2_moveTo 27 = .ok (.aload_n 0, 1) := by decide +kernel
theorem dX2_moveTo_28 : decode cX2_moveTo 28 = .ok (.iload_n 2, 1) := by decide +kernel
theorem dX2_moveTo_29 : decode cX2_moveTo 29 = .ok (.putfield 48, 3) := by decide +kernel
theorem dX2_moveTo_32 : decode cX2_moveTo 32 = .ok (.iload_n 3, 1) := by decide +kernel
theorem dX2_moveTo_33 : decode cX2_moveTo 33 = .ok (.ireturn, 1) := by decide +kernel
