set_option maxRecDepth 20000 in
theorem ggX3_init_X0_init : GoodIn wsX3_init wsX0_init := goodIn_r _ [25, 26, 2, 3, 27, 28, 29, 30, 44, 45, 46, 47, 48] (by decide +kernel) (by decide +kernel)
set_option maxRecDepth 20000 in
theorem gX3_init_X0_init : GoodIn wsX3_init (wsX0_init) := ggX3_init_X0_init
set_option maxRecDepth 20000 in
theorem ggX3_init_X2_init : GoodIn wsX3_init wsX2_init := goodIn_r _ [32, 33, 2, 3] (by decide +kernel) (by decide +kernel)
set_option maxRecDepth 20000 in
theorem gX3_init_X2_init_n33 : GoodIn wsX3_init (wsX2_init) := ggX3_init_X2_init
set_option maxRecDepth 20000 in
theorem ggX3_init_X1_init : GoodIn wsX3_init wsX1_init := goodIn_r _ [35, 36, 2, 3, 28, 37, 38, 39, 40, 41, 42, 43, 65, 66, 67, 68, 69, 70, 71, 72, 73] (by decide +kernel) (by decide +kernel)
set_option maxRecDepth 20000 in
theorem gX3_init_X1_init_n36 : GoodIn wsX3_init (wsX1_init) := ggX3_init_X1_init
theorem dX3_init_0 : decode cX3_init 0 = .ok (.aload_n 0, 1) := by decide +kernel
theorem dX3_init_1 : decode cX3_init 1 = .ok (.invokespecial 1, 3) := by decide +kernel
theorem dX3_init_4 : decode cX3_init 4 = .ok (.aload_n 0, 1) := by decide +kernel
theorem dX3_init_5 : decode cX3_init 5 = .ok (.new 7, 3) := by decide +kernel
theorem dX3_init_8 : decode cX3_init 8 = .ok (.dup, 1) := by decide +kernel
theorem dX3_init_9 : decode cX3_init 9 = .ok (.iconst 1, 1) := by decide +kernel
theorem dX3_init_10 : decode cX3_init 10 = .ok (.iload_n 1, 1) := by decide +kernel
theorem dX3_init_11 : decode cX3_init 11 = .ok (.bipush 6, 2) := by decide +kernel
theorem dX3_init_13 : decode cX3_init 13 = .ok (.invokestatic 11, 3) := by decide +kernel
theorem dX3_init_16 : decode cX3_init 16 = .ok (.invokestatic 17, 3) := by decide +kernel
theorem dX3_init_19 : decode cX3_init 19 = .ok (.invokespecial 20, 3) := by decide +kernel
theorem dX3_init_22 : decode cX3_init 22 = .ok (.putfield 23, 3) := by decide +kernel
theorem dX3_init_25 : decode cX3_init 25 = .ok (.aload_n 0, 1) := by decide +kernel
theorem dX3_init_26 : decode cX3_init 26 = .ok (.iconst 4, 1) := by decide +kernel
theorem dX3_init_27 : decode cX3_init 27 = .ok (.anewarray 27, 3) := by decide +kernel
theorem dX3_init_30 : decode cX3_init 30 = .ok (.putfield 29, 3) := by decide +kernel
theorem dX3_init_33 : decode cX3_init 33 = .ok (.iconst 0, 1) := by decide +kernel
theorem dX3_init_34 : decode cX3_init 34 = .ok (.istore_n 2, 1) := by decide +kernel
theorem dX3_init_35 : decode cX3_init 35 = .ok (.iload_n 2, 1) := by decide +kernel
theorem dX3_init_36 : decode cX3_init 36 = .ok (.iconst 4, 1) := by decide +kernel
theorem dX3_init_37 : decode cX3_init 37 = .ok (.if_icmp .ge 22, 3) := by decide +kernel
theorem dX3_init_40 : decode cX3_init 40 = .ok (.aload_n 0, 1) := by decide +kernel
theorem dX3_init_41 : decode cX3_init 41 = .ok (.getfield 29, 3) := by decide +kernel
theorem dX3_init_44 : decode cX3_init 44 = .ok (.iload_n 2, 1) := by decide +kernel
theorem dX3_init_45 : decode cX3_init 45 = .ok (.new 27, 3) := by decide +kernel
theorem dX3_init_48 : decode cX3_init 48 = .ok (.dup, 1) := by decide +kernel
theorem dX3_init_49 : decode cX3_init 49 = .ok (.invokespecial 33, 3) := by decide +kernel
theorem dX3_init_52 : decode cX3_init 52 = .ok (.aastore, 1) := by decide +kernel
theorem dX3_init_53 : decode cX3_init 53 = .ok (.iinc 2 1, 3) := by decide +kernel
theorem dX3_init_56 : decode cX3_init 56 = .ok (.goto (-21), 3) := by decide +kernel
theorem dX3_init_59 : decode cX3_init 59 = .ok (.aload_n 0, 1) := by decide +kernel
theorem dX3_init_60 : decode cX3_init 60 = .ok (.new 34, 3) := by decide +kernel
theorem dX3_init_63 : decode cX3_init 63 = .ok (.dup, 1) := by decide +kernel
theorem dX3_init_64 : decode cX3_init 64 = .ok (.invokespecial 36, 3) := by decide +kernel
theorem dX3_init_67 : decode cX3_init 67 = .ok (.putfield 37, 3) := by decide +kernel
theorem dX3_init_70 : decode cX3_init 70 = .ok (.return_, 1) := by decide +kernel
set_option maxRecDepth 20000 in
theorem ggX3_ship_X3_isWithin : GoodIn wsX3_ship wsX3_isWithin := goodIn_r _ [16] (by decide +kernel) (by decide +kernel)
set_option maxRecDepth 20000 in
theorem gX3_ship_X3_isWithin : GoodIn wsX3_ship (va_wsS RX3 41 yX3_isWithin wsX3_isWithin) := goodIn_app (goodIn_of _ (by decide +kernel)) ggX3_ship_X3_isWithin
theorem dX3_ship_0 : decode cX3_ship 0 = .ok (.iload_n 1, 1) := by decide +kernel
theorem dX3_ship_1 : decode cX3_ship 1 = .ok (.iconst 1, 1) := by decide +kernel
theorem dX3_ship_2 : decode cX3_ship 2 = .ok (.bipush 6, 2) := by decide +kernel
theorem dX3_ship_4 : decode cX3_ship 4 = .ok (.invokestatic 41, 3) := by decide +kernel
theorem dX3_ship_7 : decode cX3_ship 7 = .ok (.ifCond .eq 17, 3) := by decide +kernel
theorem dX3_ship_10 : decode cX3_ship 10 = .ok (.iload_n 2, 1) := by decide +kernel
theorem dX3_ship_11 : decode cX3_ship 11 = .ok (.iconst 0, 1) := by decide +kernel
theorem dX3_ship_12 : decode cX3_ship 12 = .ok (.bipush 100, 2) := by decide +kernel
theorem dX3_ship_14 : decode cX3_ship 14 = .ok (.invokestatic 41, 3) := by decide +kernel
theorem dX3_ship_17 : decode cX3_ship 17 = .ok (.ifCond .eq 7, 3) := by decide +kernel
theorem dX3_ship_20 : decode cX3_ship 20 = .ok (.iconst 1, 1) := by decide +kernel
theorem dX3_ship_21 : decode cX3_ship 21 = .ok (.goto 4, 3) := by decide +kernel
theorem dX3_ship_24 : decode cX3_ship 24 = .ok (.iconst 0, 1) := by decide +kernel
theorem dX3_ship_25 : decode cX3_ship 25 = .ok (.istore 6, 2) := by decide +kernel
theorem dX3_ship_27 : decode cX3_ship 27 = .ok (.iload_n 3, 1) := by decide +kernel
theorem dX3_ship_28 : decode cX3_ship 28 = .ok (.iconst 1, 1) := by decide +kernel
theorem dX3_ship_29 : decode cX3_ship 29 = .ok (.bipush 24, 2) := by decide +kernel
theorem dX3_ship_31 : decode cX3_ship 31 = .ok (.invokestatic 41, 3) := by decide +kernel
theorem dX3_ship_34 : decode cX3_ship 34 = .ok (.ifCond .eq 18, 3) := by decide +kernel
theorem dX3_ship_37 : decode cX3_ship 37 = .ok (.iload 4, 2) := by decide +kernel
theorem dX3_ship_39 : decode cX3_ship 39 = .ok (.iconst 0, 1) := by decide +kernel
theorem dX3_ship_40 : decode cX3_ship 40 = .ok (.bipush 15, 2) := by decide +kernel
theorem dX3_ship_42 : decode cX3_ship 42 = .ok (.invokestatic 41, 3) := by decide +kernel
theorem dX3_ship_45 : decode cX3_ship 45 = .ok (.ifCond .eq 7, 3) := by decide +kernel
theorem dX3_ship_48 : decode cX3_ship 48 = .ok (.iconst 1, 1) := by decide +kernel
theorem dX3_ship_49 : decode cX3_ship 49 = .ok (.goto 4, 3) := by decide +kernel
theorem dX3_ship_52 : decode cX3_ship 52 = .ok (.iconst 0, 1) := by decide +kernel
theorem dX3_ship_53 : decode cX3_ship 53 = .ok (.istore 7, 2) := by decide +kernel
theorem dX3_ship_55 : decode cX3_ship 55 = .ok (.iload 6, 2) := by decide +kernel
theorem dX3_ship_57 : decode cX3_ship 57 = .ok (.ifCond .eq 19, 3) := by decide +kernel
theorem dX3_ship_60 : decode cX3_ship 60 = .ok (.iload 7, 2) := by decide +kernel
theorem dX3_ship_62 : decode cX3_ship 62 = .ok (.ifCond .eq 14, 3) := by decide +kernel
theorem dX3_ship_65 : decode cX3_ship 65 = .ok (.iload 5, 2) := by decide +kernel
theorem dX3_ship_67 : decode cX3_ship 67 = .ok (.iconst 1, 1) := by decide +kernel
theorem dX3_ship_68 : decode cX3_ship 68 = .ok (.bipush 100, 2) := by decide +kernel
theorem dX3_ship_70 : decode cX3_ship 70 = .ok (.invokestatic 41, 3) := by decide +kernel
theorem dX3_ship_73 : decode cX3_ship 73 = .ok (.ifCond .ne 13, 3) := by decide +kernel
theorem dX3_ship_76 : decode cX3_ship 76 = .ok (.new 45, 3) := by decide +kernel
theorem dX3_ship_79 : decode cX3_ship 79 = .ok (.dup, 1) := by decide +kernel
theorem dX3_ship_80 : decode cX3_ship 80 = .ok (.ldc 47, 2) := by decide +kernel
theorem dX3_ship_82 : decode cX3_ship 82 = .ok (.invokespecial 49, 3) := by decide +kernel
theorem dX3_ship_85 : decode cX3_ship 85 = .ok (.athrow, 1) := by decide +kernel
theorem dX3_ship_86 : decode cX3_ship 86 = .ok (.aload_n 0, 1) := by decide +kernel
theorem dX3_ship_87 : decode cX3_ship 87 = .ok (.getfield 52, 3) := by decide +kernel
theorem dX3_ship_90 : decode cX3_ship 90 = .ok (.iconst 4, 1) := by decide +kernel
theorem dX3_ship_91 : decode cX3_ship 91 = .ok (.if_icmp .lt 13, 3) := by decide +kernel
theorem dX3_ship_94 : decode cX3_ship 94 = .ok (.new 56, 3) := by decide +kernel
theorem dX3_ship_97 : decode cX3_ship 97 = .ok (.dup, 1) := by decide +kernel
theorem dX3_ship_98 : decode cX3_ship 98 = .ok (.ldc 58, 2) := by decide +kernel
theorem dX3_ship_100 : decode cX3_ship 100 = .ok (.invokespecial 60, 3) := by decide +kernel
theorem dX3_ship_103 : decode cX3_ship 103 = .ok (.athrow, 1) := by decide +kernel
theorem dX3_ship_104 : decode cX3_ship 104 = .ok (.aload_n 0, 1) := by decide +kernel
theorem dX3_ship_105 : decode cX3_ship 105 = .ok (.getfield 29, 3) := by decide +kernel
theorem dX3_ship_108 : decode cX3_ship 108 = .ok (.aload_n 0, 1) := by decide +kernel
theorem dX3_ship_109 : decode cX3_ship 109 = .ok (.getfield 52, 3) := by decide +kernel
theorem dX3_ship_112 : decode cX3_ship 112 = .ok (.aaload, 1) := by decide +kernel
theorem dX3_ship_113 : decode cX3_ship 113 = .ok (.astore 8, 2) := by decide +kernel
theorem dX3_ship_115 : decode cX3_ship 115 = .ok (.aload 8, 2) := by decide +kernel
theorem dX3_ship_117 : decode cX3_ship 117 = .ok (.iload_n 1, 1) := by decide +kernel
theorem dX3_ship_118 : decode cX3_ship 118 = .ok (.putfield 61, 3) := by decide +kernel
theorem dX3_ship_121 : decode cX3_ship 121 = .ok (.aload 8, 2) := by decide +kernel
theorem dX3_ship_123 : decode cX3_ship 123 = .ok (.iload_n 2, 1) := by decide +kernel
theorem dX3_ship_124 : decode cX3_ship 124 = .ok (.putfield 64, 3) := by decide +kernel
theorem dX3_ship_127 : decode cX3_ship 127 = .ok (.aload 8, 2) := by decide +kernel
theorem dX3_ship_129 : decode cX3_ship 129 = .ok (.iload_n 3, 1) := by decide +kernel
theorem dX3_ship_130 : decode cX3_ship 130 = .ok (.putfield 67, 3) := by decide +kernel
theorem dX3_ship_133 : decode cX3_ship 133 = .ok (.aload 8, 2) := by decide +kernel
theorem dX3_ship_135 : decode cX3_ship 135 = .ok (.iload 4, 2) := by decide +kernel
theorem dX3_ship_137 : decode cX3_ship 137 = .ok (.putfield 70, 3) := by decide +kernel
theorem dX3_ship_140 : decode cX3_ship 140 = .ok (.aload 8, 2) := by decide +kernel
theorem dX3_ship_142 : decode cX3_ship 142 = .ok (.iload 5, 2) := by decide +kernel
theorem dX3_ship_144 : decode cX3_ship 144 = .ok (.putfield 73, 3) := by decide +kernel
theorem dX3_ship_147 : decode cX3_ship 147 = .ok (.aload_n 0, 1) := by decide +kernel
theorem dX3_ship_148 : decode cX3_ship 148 = .ok (.iconst 0, 1) := by decide +kernel
theorem dX3_ship_149 : decode cX3_ship 149 = .ok (.putfield 76, 3) := by decide +kernel
theorem dX3_ship_152 : decode cX3_ship 152 = .ok (.aload_n 0, 1) := by decide +kernel
theorem dX3_ship_153 : decode cX3_ship 153 = .ok (.dup, 1) := by decide +kernel
theorem dX3_ship_154 : decode cX3_ship 154 = .ok (.getfield 52, 3) := by decide +kernel
theorem dX3_ship_157 : decode cX3_ship 157 = .ok (.dup_x1, 1) := by decide +kernel
theorem dX3_ship_158 : decode cX3_ship 158 = .ok (.iconst 1, 1) := by decide +kernel
theorem dX3_ship_159 : decode cX3_ship 159 = .ok (.iadd, 1) := by decide +kernel
theorem dX3_ship_160 : decode cX3_ship 160 = .ok (.putfield 52, 3) := by decide +kernel
theorem dX3_ship_163 : decode cX3_ship 163 = .ok (.ireturn, 1) := by decide +kernel
set_option maxRecDepth 20000 in
theorem ggX3_depth_X0_isPlace : GoodIn wsX3_depth wsX0_isPlace := goodIn_r _ [8, 9, 19, 20, 21, 22, 23] (by decide +kernel) (by decide +kernel)
set_option maxRecDepth 20000 in
theorem gX3_depth_X0_isPlace : GoodIn wsX3_depth (wsV RX3 80 RX0 yX0_isPlace wsX0_isPlace) := goodIn_app (goodIn_of _ (by decide +kernel)) ggX3_depth_X0_isPlace
set_option maxRecDepth 20000 in
theorem ggX3_depth_X3_isWithin : GoodIn wsX3_depth wsX3_isWithin := goodIn_r _ [13] (by decide +kernel) (by decide +kernel)
set_option maxRecDepth 20000 in
theorem gX3_depth_X3_isWithin : GoodIn wsX3_depth (va_wsS RX3 41 yX3_isWithin wsX3_isWithin) := goodIn_app (goodIn_of _ (by decide +kernel)) ggX3_depth_X3_isWithin
theorem dX3_depth_0 : decode cX3_depth 0 = .ok (.aload_n 0, 1) := by decide +kernel
theorem dX3_depth_1 : decode cX3_depth 1 = .ok (.getfield 23, 3) := by decide +kernel
theorem dX3_depth_4 : decode cX3_depth 4 = .ok (.iload_n 1, 1) := by decide +kernel
theorem dX3_depth_5 : decode cX3_depth 5 = .ok (.invokevirtual 80, 3) := by decide +kernel
theorem dX3_depth_8 : decode cX3_depth 8 = .ok (.ifCond .eq 29, 3) := by decide +kernel
theorem dX3_depth_11 : decode cX3_depth 11 = .ok (.aload_n 0, 1) := by decide +kernel
theorem dX3_depth_12 : decode cX3_depth 12 = .ok (.getfield 23, 3) := by decide +kernel
theorem dX3_depth_15 : decode cX3_depth 15 = .ok (.iload_n 2, 1) := by decide +kernel
theorem dX3_depth_16 : decode cX3_depth 16 = .ok (.invokevirtual 80, 3) := by decide +kernel
theorem dX3_depth_19 : decode cX3_depth 19 = .ok (.ifCond .eq 18, 3) := by decide +kernel
theorem dX3_depth_22 : decode cX3_depth 22 = .ok (.iload_n 1, 1) := by decide +kernel
theorem dX3_depth_23 : decode cX3_depth 23 = .ok (.iload_n 2, 1) := by decide +kernel
theorem dX3_depth_24 : decode cX3_depth 24 = .ok (.if_icmp .gt 13, 3) := by decide +kernel
theorem dX3_depth_27 : decode cX3_depth 27 = .ok (.iload_n 3, 1) := by decide +kernel
theorem dX3_depth_28 : decode cX3_depth 28 = .ok (.iconst 0, 1) := by decide +kernel
theorem dX3_depth_29 : decode cX3_depth 29 = .ok (.bipush 100, 2) := by decide +kernel
theorem dX3_depth_31 : decode cX3_depth 31 = .ok (.invokestatic 41, 3) := by decide +kernel
theorem dX3_depth_34 : decode cX3_depth 34 = .ok (.ifCond .ne 5, 3) := by decide +kernel
theorem dX3_depth_37 : decode cX3_depth 37 = .ok (.iconst 0, 1) := by decide +kernel
theorem dX3_depth_38 : decode cX3_depth 38 = .ok (.ireturn, 1) := by decide +kernel
theorem dX3_depth_39 : decode cX3_depth 39 = .ok (.iload_n 1, 1) := by decide +kernel
theorem dX3_depth_40 : decode cX3_depth 40 = .ok (.istore 4, 2) := by decide +kernel
theorem dX3_depth_42 : decode cX3_depth 42 = .ok (.iload 4, 2) := by decide +kernel
theorem dX3_depth_44 : decode cX3_depth 44 = .ok (.iload_n 2, 1) := by decide +kernel
theorem dX3_depth_45 : decode cX3_depth 45 = .ok (.if_icmp .gt 20, 3) := by decide +kernel
theorem dX3_depth_48 : decode cX3_depth 48 = .ok (.aload_n 0, 1) := by decide +kernel
theorem dX3_depth_49 : decode cX3_depth 49 = .ok (.getfield 23, 3) := by decide +kernel
theorem dX3_depth_52 : decode cX3_depth 52 = .ok (.getfield 84, 3) := by decide +kernel
theorem dX3_depth_55 : decode cX3_depth 55 = .ok (.iload 4, 2) := by decide +kernel
theorem dX3_depth_57 : decode cX3_depth 57 = .ok (.iload_n 3, 1) := by decide +kernel
theorem dX3_depth_58 : decode cX3_depth 58 = .ok (.iastore, 1) := by decide +kernel
theorem dX3_depth_59 : decode cX3_depth 59 = .ok (.iinc 4 1, 3) := by decide +kernel
theorem dX3_depth_62 : decode cX3_depth 62 = .ok (.goto (-20), 3) := by decide +kernel
theorem dX3_depth_65 : decode cX3_depth 65 = .ok (.aload_n 0, 1) := by decide +kernel
theorem dX3_depth_66 : decode cX3_depth 66 = .ok (.iconst 0, 1) := by decide +kernel
theorem dX3_depth_67 : decode cX3_depth 67 = .ok (.putfield 76, 3) := by decide +kernel
theorem dX3_depth_70 : decode cX3_depth 70 = .ok (.iconst 1, 1) := by decide +kernel
theorem dX3_depth_71 : decode cX3_depth 71 = .ok (.ireturn, 1) := by decide +kernel
set_option maxRecDepth 20000 in
theorem ggX3_gear_X0_isPlace : GoodIn wsX3_gear wsX0_isPlace := goodIn_r _ [8, 9, 22, 23, 24, 25, 26] (by decide +kernel) (by decide +kernel)
set_option maxRecDepth 20000 in
theorem gX3_gear_X0_isPlace : GoodIn wsX3_gear (wsV RX3 80 RX0 yX0_isPlace wsX0_isPlace) := goodIn_app (goodIn_of _ (by decide +kernel)) ggX3_gear_X0_isPlace
set_option maxRecDepth 20000 in
theorem ggX3_gear_X3_isKind : GoodIn wsX3_gear wsX3_isKind := goodIn_r _ [13] (by decide +kernel) (by decide +kernel)
set_option maxRecDepth 20000 in
theorem gX3_gear_X3_isKind : GoodIn wsX3_gear (va_wsS RX3 88 yX3_isKind wsX3_isKind) := goodIn_app (goodIn_of _ (by decide +kernel)) ggX3_gear_X3_isKind
set_option maxRecDepth 20000 in
theorem ggX3_gear_X3_hasBit : GoodIn wsX3_gear wsX3_hasBit := goodIn_r _ [16] (by decide +kernel) (by decide +kernel)
set_option maxRecDepth 20000 in
theorem gX3_gear_X3_hasBit : GoodIn wsX3_gear (va_wsS RX3 94 yX3_hasBit wsX3_hasBit) := goodIn_app (goodIn_of _ (by decide +kernel)) ggX3_gear_X3_hasBit
theorem dX3_gear_0 : decode cX3_gear 0 = .ok (.aload_n 0, 1) := by decide +kernel
theorem dX3_gear_1 : decode cX3_gear 1 = .ok (.getfield 23, 3) := by decide +kernel
theorem dX3_gear_4 : decode cX3_gear 4 = .ok (.iload_n 1, 1) := by decide +kernel
theorem dX3_gear_5 : decode cX3_gear 5 = .ok (.invokevirtual 80, 3) := by decide +kernel
theorem dX3_gear_8 : decode cX3_gear 8 = .ok (.ifCond .eq 27, 3) := by decide +kernel
theorem dX3_gear_11 : decode cX3_gear 11 = .ok (.iload_n 2, 1) := by decide +kernel
theorem dX3_gear_12 : decode cX3_gear 12 = .ok (.invokestatic 88, 3) := by decide +kernel
theorem dX3_gear_15 : decode cX3_gear 15 = .ok (.ifCond .eq 20, 3) := by decide +kernel
theorem dX3_gear_18 : decode cX3_gear 18 = .ok (.aload_n 0, 1) := by decide +kernel
theorem dX3_gear_19 : decode cX3_gear 19 = .ok (.getfield 23, 3) := by decide +kernel
theorem dX3_gear_22 : decode cX3_gear 22 = .ok (.getfield 91, 3) := by decide +kernel
theorem dX3_gear_25 : decode cX3_gear 25 = .ok (.iload_n 1, 1) := by decide +kernel
theorem dX3_gear_26 : decode cX3_gear 26 = .ok (.iaload, 1) := by decide +kernel
theorem dX3_gear_27 : decode cX3_gear 27 = .ok (.iload_n 2, 1) := by decide +kernel
theorem dX3_gear_28 : decode cX3_gear 28 = .ok (.invokestatic 94, 3) := by decide +kernel
theorem dX3_gear_31 : decode cX3_gear 31 = .ok (.iload_n 3, 1) := by decide +kernel
theorem dX3_gear_32 : decode cX3_gear 32 = .ok (.if_icmp .ne 5, 3) := by decide +kernel
theorem dX3_gear_35 : decode cX3_gear 35 = .ok (.iconst 0, 1) := by decide +kernel
theorem dX3_gear_36 : decode cX3_gear 36 = .ok (.ireturn, 1) := by decide +kernel
theorem dX3_gear_37 : decode cX3_gear 37 = .ok (.aload_n 0, 1) := by decide +kernel
theorem dX3_gear_38 : decode cX3_gear 38 = .ok (.getfield 23, 3) := by decide +kernel
theorem dX3_gear_41 : decode cX3_gear 41 = .ok (.getfield 91, 3) := by decide +kernel
theorem dX3_gear_44 : decode cX3_gear 44 = .ok (.iload_n 1, 1) := by decide +kernel
theorem dX3_gear_45 : decode cX3_gear 45 = .ok (.dup2, 1) := by decide +kernel
theorem dX3_gear_46 : decode cX3_gear 46 = .ok (.iaload, 1) := by decide +kernel
theorem dX3_gear_47 : decode cX3_gear 47 = .ok (.iconst 1, 1) := by decide +kernel
theorem dX3_gear_48 : decode cX3_gear 48 = .ok (.iload_n 2, 1) := by decide +kernel
theorem dX3_gear_49 : decode cX3_gear 49 = .ok (.ishl, 1) := by decide +kernel
theorem dX3_gear_50 : decode cX3_gear 50 = .ok (.ixor, 1) := by decide +kernel
theorem dX3_gear_51 : decode cX3_gear 51 = .ok (.iastore, 1) := by decide +kernel
theorem dX3_gear_52 : decode cX3_gear 52 = .ok (.aload_n 0, 1) := by decide +kernel
theorem dX3_gear_53 : decode cX3_gear 53 = .ok (.iconst 0, 1) := by decide +kernel
theorem dX3_gear_54 : decode cX3_gear 54 = .ok (.putfield 76, 3) := by decide +kernel
theorem dX3_gear_57 : decode cX3_gear 57 = .ok (.iconst 1, 1) := by decide +kernel
theorem dX3_gear_58 : decode cX3_gear 58 = .ok (.ireturn, 1) := by decide +kernel
set_option maxRecDepth 20000 in
theorem ggX3_wants_X3_isShip : GoodIn wsX3_wants wsX3_isShip := goodIn_r _ [8, 9, 16, 17, 18, 19, 20] (by decide +kernel) (by decide +kernel)
set_option maxRecDepth 20000 in
theorem gX3_wants_X3_isShip : GoodIn wsX3_wants (wsV RX3 98 RX3 yX3_isShip wsX3_isShip) := goodIn_app (goodIn_of _ (by decide +kernel)) ggX3_wants_X3_isShip
set_option maxRecDepth 20000 in
theorem ggX3_wants_X3_isKind : GoodIn wsX3_wants wsX3_isKind := goodIn_r _ [12] (by decide +kernel) (by decide +kernel)
set_option maxRecDepth 20000 in
theorem gX3_wants_X3_isKind : GoodIn wsX3_wants (va_wsS RX3 88 yX3_isKind wsX3_isKind) := goodIn_app (goodIn_of _ (by decide +kernel)) ggX3_wants_X3_isKind
set_option maxRecDepth 20000 in
theorem ggX3_wants_X3_hasBit : GoodIn wsX3_wants wsX3_hasBit := goodIn_r _ [15] (by decide +kernel) (by decide +kernel)
set_option maxRecDepth 20000 in
theorem gX3_wants_X3_hasBit : GoodIn wsX3_wants (va_wsS RX3 94 yX3_hasBit wsX3_hasBit) := goodIn_app (goodIn_of _ (by decide +kernel)) ggX3_wants_X3_hasBit
theorem dX3_wants_0 : decode cX3_wants 0 = .ok (.aload_n 0, 1) := by decide +kernel
theorem dX3_wants_1 : decode cX3_wants 1 = .ok (.iload_n 1, 1) := by decide +kernel
theorem dX3_wants_2 : decode cX3_wants 2 = .ok (.invokevirtual 98, 3) := by decide +kernel
theorem dX3_wants_5 : decode cX3_wants 5 = .ok (.ifCond .eq 27, 3) := by decide +kernel
theorem dX3_wants_8 : decode cX3_wants 8 = .ok (.iload_n 2, 1) := by decide +kernel
theorem dX3_wants_9 : decode cX3_wants 9 = .ok (.invokestatic 88, 3) := by decide +kernel
theorem dX3_wants_12 : decode cX3_wants 12 = .ok (.ifCond .eq 20, 3) := by decide +kernel
theorem dX3_wants_15 : decode cX3_wants 15 = .ok (.aload_n 0, 1) := by decide +kernel
theorem dX3_wants_16 : decode cX3_wants 16 = .ok (.getfield 29, 3) := by decide +kernel
theorem dX3_wants_19 : decode cX3_wants 19 = .ok (.iload_n 1, 1) := by decide +kernel
theorem dX3_wants_20 : decode cX3_wants 20 = .ok (.aaload, 1) := by decide +kernel
theorem dX3_wants_21 : decode cX3_wants 21 = .ok (.getfield 101, 3) := by decide +kernel
theorem dX3_wants_24 : decode cX3_wants 24 = .ok (.iload_n 2, 1) := by decide +kernel
theorem dX3_wants_25 : decode cX3_wants 25 = .ok (.invokestatic 94, 3) := by decide +kernel
theorem dX3_wants_28 : decode cX3_wants 28 = .ok (.iload_n 3, 1) := by decide +kernel
theorem dX3_wants_29 : decode cX3_wants 29 = .ok (.if_icmp .ne 5, 3) := by decide +kernel
theorem dX3_wants_32 : decode cX3_wants 32 = .ok (.iconst 0, 1) := by decide +kernel
theorem dX3_wants_33 : decode cX3_wants 33 = .ok (.ireturn, 1) := by decide +kernel
theorem dX3_wants_34 : decode cX3_wants 34 = .ok (.aload_n 0, 1) := by decide +kernel
theorem dX3_wants_35 : decode cX3_wants 35 = .ok (.getfield 29, 3) := by decide +kernel
theorem dX3_wants_38 : decode cX3_wants 38 = .ok (.iload_n 1, 1) := by decide +kernel
theorem dX3_wants_39 : decode cX3_wants 39 = .ok (.aaload, 1) := by decide +kernel
theorem dX3_wants_40 : decode cX3_wants 40 = .ok (.dup, 1) := by decide +kernel
theorem dX3_wants_41 : decode cX3_wants 41 = .ok (.getfield 101, 3) := by decide +kernel
theorem dX3_wants_44 : decode cX3_wants 44 = .ok (.iconst 1, 1) := by decide +kernel
theorem dX3_wants_45 : decode cX3_wants 45 = .ok (.iload_n 2, 1) := by decide +kernel
theorem dX3_wants_46 : decode cX3_wants 46 = .ok (.ishl, 1) := by decide +kernel
theorem dX3_wants_47 : decode cX3_wants 47 = .ok (.ixor, 1) := by decide +kernel
theorem dX3_wants_48 : decode cX3_wants 48 = .ok (.putfield 101, 3) := by decide +kernel
theorem dX3_wants_51 : decode cX3_wants 51 = .ok (.aload_n 0, 1) := by decide +kernel
theorem dX3_wants_52 : decode cX3_wants 52 = .ok (.iconst 0, 1) := by decide +kernel
theorem dX3_wants_53 : decode cX3_wants 53 = .ok (.putfield 76, 3) := by decide +kernel
theorem dX3_wants_56 : decode cX3_wants 56 = .ok (.iconst 1, 1) := by decide +kernel
theorem dX3_wants_57 : decode cX3_wants 57 = .ok (.ireturn, 1) := by decide +kernel
set_option maxRecDepth 20000 in
theorem ggX3_tide_X3_isWithin : GoodIn wsX3_tide wsX3_isWithin := goodIn_r _ [8] (by decide +kernel) (by decide +kernel)
set_option maxRecDepth 20000 in
theorem gX3_tide_X3_isWithin : GoodIn wsX3_tide (va_wsS RX3 41 yX3_isWithin wsX3_isWithin) := goodIn_app (goodIn_of _ (by decide +kernel)) ggX3_tide_X3_isWithin
set_option maxRecDepth 20000 in
theorem ggX3_tide_X3_beginsBetween : GoodIn wsX3_tide wsX3_beginsBetween := goodIn_r _ [11] (by decide +kernel) (by decide +kernel)
set_option maxRecDepth 20000 in
theorem gX3_tide_X3_beginsBetween : GoodIn wsX3_tide (va_wsS RX3 110 yX3_beginsBetween wsX3_beginsBetween) := goodIn_app (goodIn_of _ (by decide +kernel)) ggX3_tide_X3_beginsBetween
theorem dX3_tide_0 : decode cX3_tide 0 = .ok (.iload_n 1, 1) := by decide +kernel
theorem dX3_tide_1 : decode cX3_tide 1 = .ok (.iconst 0, 1) := by decide +kernel
theorem dX3_tide_2 : decode cX3_tide 2 = .ok (.bipush 39, 2) := by decide +kernel
theorem dX3_tide_4 : decode cX3_tide 4 = .ok (.invokestatic 41, 3) := by decide +kernel
theorem dX3_tide_7 : decode cX3_tide 7 = .ok (.ifCond .eq 17, 3) := by decide +kernel
theorem dX3_tide_10 : decode cX3_tide 10 = .ok (.iload_n 2, 1) := by decide +kernel
theorem dX3_tide_11 : decode cX3_tide 11 = .ok (.iconst 0, 1) := by decide +kernel
theorem dX3_tide_12 : decode cX3_tide 12 = .ok (.bipush 39, 2) := by decide +kernel
theorem dX3_tide_14 : decode cX3_tide 14 = .ok (.invokestatic 41, 3) := by decide +kernel
theorem dX3_tide_17 : decode cX3_tide 17 = .ok (.ifCond .eq 7, 3) := by decide +kernel
theorem dX3_tide_20 : decode cX3_tide 20 = .ok (.iconst 1, 1) := by decide +kernel
theorem dX3_tide_21 : decode cX3_tide 21 = .ok (.goto 4, 3) := by decide +kernel
theorem dX3_tide_24 : decode cX3_tide 24 = .ok (.iconst 0, 1) := by decide +kernel
theorem dX3_tide_25 : decode cX3_tide 25 = .ok (.istore_n 3, 1) := by decide +kernel
theorem dX3_tide_26 : decode cX3_tide 26 = .ok (.iload_n 3, 1) := by decide +kernel
theorem dX3_tide_27 : decode cX3_tide 27 = .ok (.ifCond .eq 20, 3) := by decide +kernel
theorem dX3_tide_30 : decode cX3_tide 30 = .ok (.iload_n 1, 1) := by decide +kernel
theorem dX3_tide_31 : decode cX3_tide 31 = .ok (.iload_n 2, 1) := by decide +kernel
theorem dX3_tide_32 : decode cX3_tide 32 = .ok (.if_icmp .gt 15, 3) := by decide +kernel
theorem dX3_tide_35 : decode cX3_tide 35 = .ok (.aload_n 0, 1) := by decide +kernel
theorem dX3_tide_36 : decode cX3_tide 36 = .ok (.getfield 23, 3) := by decide +kernel
theorem dX3_tide_39 : decode cX3_tide 39 = .ok (.getfield 104, 3) := by decide +kernel
theorem dX3_tide_42 : decode cX3_tide 42 = .ok (.bipush 8, 2) := by decide +kernel
theorem dX3_tide_44 : decode cX3_tide 44 = .ok (.if_icmp .lt 5, 3) := by decide +kernel
theorem dX3_tide_47 : decode cX3_tide 47 = .ok (.iconst 0, 1) := by decide +kernel
theorem dX3_tide_48 : decode cX3_tide 48 = .ok (.ireturn, 1) := by decide +kernel
theorem dX3_tide_49 : decode cX3_tide 49 = .ok (.aload_n 0, 1) := by decide +kernel
theorem dX3_tide_50 : decode cX3_tide 50 = .ok (.getfield 23, 3) := by decide +kernel
theorem dX3_tide_53 : decode cX3_tide 53 = .ok (.dup, 1) := by decide +kernel
theorem dX3_tide_54 : decode cX3_tide 54 = .ok (.getfield 107, 3) := by decide +kernel
theorem dX3_tide_57 : decode cX3_tide 57 = .ok (.iload_n 1, 1) := by decide +kernel
theorem dX3_tide_58 : decode cX3_tide 58 = .ok (.iload_n 2, 1) := by decide +kernel
theorem dX3_tide_59 : decode cX3_tide 59 = .ok (.invokestatic 110, 3) := by decide +kernel
theorem dX3_tide_62 : decode cX3_tide 62 = .ok (.ior, 1) := by decide +kernel
theorem dX3_tide_63 : decode cX3_tide 63 = .ok (.putfield 107, 3) := by decide +kernel
theorem dX3_tide_66 : decode cX3_tide 66 = .ok (.aload_n 0, 1) := by decide +kernel
theorem dX3_tide_67 : decode cX3_tide 67 = .ok (.getfield 23, 3) := by decide +kernel
theorem dX3_tide_70 : decode cX3_tide 70 = .ok (.dup, 1) := by decide +kernel
theorem dX3_tide_71 : decode cX3_tide 71 = .ok (.getfield 104, 3) := by decide +kernel
theorem dX3_tide_74 : decode cX3_tide 74 = .ok (.iconst 1, 1) := by decide +kernel
theorem dX3_tide_75 : decode cX3_tide 75 = .ok (.iadd, 1) := by decide +kernel
theorem dX3_tide_76 : decode cX3_tide 76 = .ok (.putfield 104, 3) := by decide +kernel
theorem dX3_tide_79 : decode cX3_tide 79 = .ok (.aload_n 0, 1) := by decide +kernel
theorem dX3_tide_80 : decode cX3_tide 80 = .ok (.iconst 0, 1) := by decide +kernel
theorem dX3_tide_81 : decode cX3_tide 81 = .ok (.putfield 76, 3) := by decide +kernel
theorem dX3_tide_84 : decode cX3_tide 84 = .ok (.iconst 1, 1) := by decide +kernel
theorem dX3_tide_85 : decode cX3_tide 85 = .ok (.ireturn, 1) := by decide +kernel
set_option maxRecDepth 20000 in
theorem ggX3_fix_X3_isShip : GoodIn wsX3_fix wsX3_isShip := goodIn_r _ [12, 13, 31, 32, 33, 34, 35] (by decide +kernel) (by decide +kernel)
set_option maxRecDepth 20000 in
theorem gX3_fix_X3_isShip : GoodIn wsX3_fix (wsV RX3 98 RX3 yX3_isShip wsX3_isShip) := goodIn_app (goodIn_of _ (by decide +kernel)) ggX3_fix_X3_isShip
set_option maxRecDepth 20000 in
theorem ggX3_fix_X3_isWithin : GoodIn wsX3_fix wsX3_isWithin := goodIn_r _ [16] (by decide +kernel) (by decide +kernel)
set_option maxRecDepth 20000 in
theorem gX3_fix_X3_isWithin : GoodIn wsX3_fix (va_wsS RX3 41 yX3_isWithin wsX3_isWithin) := goodIn_app (goodIn_of _ (by decide +kernel)) ggX3_fix_X3_isWithin
set_option maxRecDepth 20000 in
theorem ggX3_fix_X0_isRow : GoodIn wsX3_fix wsX0_isRow := goodIn_r _ [21, 22, 47, 48, 49, 50, 51] (by decide +kernel) (by decide +kernel)
set_option maxRecDepth 20000 in
theorem gX3_fix_X0_isRow : GoodIn wsX3_fix (wsV RX3 113 RX0 yX0_isRow wsX0_isRow) := goodIn_app (goodIn_of _ (by decide +kernel)) ggX3_fix_X0_isRow
set_option maxRecDepth 20000 in
theorem ggX3_fix_X3_meetsFixed : GoodIn wsX3_fix wsX3_meetsFixed := goodIn_r _ [26, 1, 13, 4, 3, 5, 27, 6, 28, 29, 11, 30, 31, 32, 33, 34, 35, 36, 37, 38, 39, 40, 41, 42, 43, 44, 45, 46] (by decide +kernel) (by decide +kernel)
set_option maxRecDepth 20000 in
theorem gX3_fix_X3_meetsFixed : GoodIn wsX3_fix (wsV RX3 116 RX3 yX3_meetsFixed wsX3_meetsFixed) := goodIn_app (goodIn_of _ (by decide +kernel)) ggX3_fix_X3_meetsFixed
theorem dX3_fix_0 : decode cX3_fix 0 = .ok (.aload_n 0, 1) := by decide +kernel
theorem dX3_fix_1 : decode cX3_fix 1 = .ok (.iload_n 1, 1) := by decide +kernel
theorem dX3_fix_2 : decode cX3_fix 2 = .ok (.invokevirtual 98, 3) := by decide +kernel
theorem dX3_fix_5 : decode cX3_fix 5 = .ok (.ifCond .eq 13, 3) := by decide +kernel
theorem dX3_fix_8 : decode cX3_fix 8 = .ok (.iload_n 3, 1) := by decide +kernel
theorem dX3_fix_9 : decode cX3_fix 9 = .ok (.iconst 0, 1) := by decide +kernel
theorem dX3_fix_10 : decode cX3_fix 10 = .ok (.bipush 15, 2) := by decide +kernel
theorem dX3_fix_12 : decode cX3_fix 12 = .ok (.invokestatic 41, 3) := by decide +kernel
theorem dX3_fix_15 : decode cX3_fix 15 = .ok (.ifCond .ne 5, 3) := by decide +kernel
theorem dX3_fix_18 : decode cX3_fix 18 = .ok (.iconst 0, 1) := by decide +kernel
theorem dX3_fix_19 : decode cX3_fix 19 = .ok (.ireturn, 1) := by decide +kernel
theorem dX3_fix_20 : decode cX3_fix 20 = .ok (.aload_n 0, 1) := by decide +kernel
theorem dX3_fix_21 : decode cX3_fix 21 = .ok (.getfield 29, 3) := by decide +kernel
theorem dX3_fix_24 : decode cX3_fix 24 = .ok (.iload_n 1, 1) := by decide +kernel
theorem dX3_fix_25 : decode cX3_fix 25 = .ok (.aaload, 1) := by decide +kernel
theorem dX3_fix_26 : decode cX3_fix 26 = .ok (.astore 4, 2) := by decide +kernel
theorem dX3_fix_28 : decode cX3_fix 28 = .ok (.aload_n 0, 1) := by decide +kernel
theorem dX3_fix_29 : decode cX3_fix 29 = .ok (.getfield 23, 3) := by decide +kernel
theorem dX3_fix_32 : decode cX3_fix 32 = .ok (.iload_n 2, 1) := by decide +kernel
theorem dX3_fix_33 : decode cX3_fix 33 = .ok (.aload 4, 2) := by decide +kernel
theorem dX3_fix_35 : decode cX3_fix 35 = .ok (.getfield 61, 3) := by decide +kernel
theorem dX3_fix_38 : decode cX3_fix 38 = .ok (.invokevirtual 113, 3) := by decide +kernel
theorem dX3_fix_41 : decode cX3_fix 41 = .ok (.ifCond .eq 13, 3) := by decide +kernel
theorem dX3_fix_44 : decode cX3_fix 44 = .ok (.aload_n 0, 1) := by decide +kernel
theorem dX3_fix_45 : decode cX3_fix 45 = .ok (.iload_n 1, 1) := by decide +kernel
theorem dX3_fix_46 : decode cX3_fix 46 = .ok (.iload_n 2, 1) := by decide +kernel
theorem dX3_fix_47 : decode cX3_fix 47 = .ok (.iload_n 3, 1) := by decide +kernel
theorem dX3_fix_48 : decode cX3_fix 48 = .ok (.invokevirtual 116, 3) := by decide +kernel
theorem dX3_fix_51 : decode cX3_fix 51 = .ok (.ifCond .eq 5, 3) := by decide +kernel
theorem dX3_fix_54 : decode cX3_fix 54 = .ok (.iconst 0, 1) := by decide +kernel
theorem dX3_fix_55 : decode cX3_fix 55 = .ok (.ireturn, 1) := by decide +kernel
theorem dX3_fix_56 : decode cX3_fix 56 = .ok (.aload 4, 2) := by decide +kernel
theorem dX3_fix_58 : decode cX3_fix 58 = .ok (.iconst 1, 1) := by decide +kernel
theorem dX3_fix_59 : decode cX3_fix 59 = .ok (.putfield 119, 3) := by decide +kernel
theorem dX3_fix_62 : decode cX3_fix 62 = .ok (.aload 4, 2) := by decide +kernel
theorem dX3_fix_64 : decode cX3_fix 64 = .ok (.iload_n 2, 1) := by decide +kernel
theorem dX3_fix_65 : decode cX3_fix 65 = .ok (.putfield 122, 3) := by decide +kernel
theorem dX3_fix_68 : decode cX3_fix 68 = .ok (.aload 4, 2) := by decide +kernel
theorem dX3_fix_70 : decode cX3_fix 70 = .ok (.iload_n 3, 1) := by decide +kernel
theorem dX3_fix_71 : decode cX3_fix 71 = .ok (.putfield 125, 3) := by decide +kernel
theorem dX3_fix_74 : decode cX3_fix 74 = .ok (.aload_n 0, 1) := by decide +kernel
theorem dX3_fix_75 : decode cX3_fix 75 = .ok (.iconst 0, 1) := by decide +kernel
theorem dX3_fix_76 : decode cX3_fix 76 = .ok (.putfield 76, 3) := by decide +kernel
theorem dX3_fix_79 : decode cX3_fix 79 = .ok (.iconst 1, 1) := by decide +kernel
theorem dX3_fix_80 : decode cX3_fix 80 = .ok (.ireturn, 1) := by decide +kernel
set_option maxRecDepth 20000 in
theorem ggX3_free_X3_isShip : GoodIn wsX3_free wsX3_isShip := goodIn_r _ [8, 9, 10, 11, 12, 13, 14] (by decide +kernel) (by decide +kernel)
set_option maxRecDepth 20000 in
theorem gX3_free_X3_isShip : GoodIn wsX3_free (wsV RX3 98 RX3 yX3_isShip wsX3_isShip) := goodIn_app (goodIn_of _ (by decide +kernel)) ggX3_free_X3_isShip
theorem dX3_free_0 : decode cX3_free 0 = .ok (.aload_n 0, 1) := by decide +kernel
theorem dX3_free_1 : decode cX3_free 1 = .ok (.iload_n 1, 1) := by decide +kernel
theorem dX3_free_2 : decode cX3_free 2 = .ok (.invokevirtual 98, 3) := by decide +kernel
theorem dX3_free_5 : decode cX3_free 5 = .ok (.ifCond .eq 15, 3) := by decide +kernel
theorem dX3_free_8 : decode cX3_free 8 = .ok (.aload_n 0, 1) := by decide +kernel
theorem dX3_free_9 : decode cX3_free 9 = .ok (.getfield 29, 3) := by decide +kernel
theorem dX3_free_12 : decode cX3_free 12 = .ok (.iload_n 1, 1) := by decide +kernel
theorem dX3_free_13 : decode cX3_free 13 = .ok (.aaload, 1) := by decide +kernel
theorem dX3_free_14 : decode cX3_free 14 = .ok (.getfield 119, 3) := by decide +kernel
theorem dX3_free_17 : decode cX3_free 17 = .ok (.ifCond .ne 5, 3) := by decide +kernel
theorem dX3_free_20 : decode cX3_free 20 = .ok (.iconst 0, 1) := by decide +kernel
theorem dX3_free_21 : decode cX3_free 21 = .ok (.ireturn, 1) := by decide +kernel
theorem dX3_free_22 : decode cX3_free 22 = .ok (.aload_n 0, 1) := by decide +kernel
theorem dX3_free_23 : decode cX3_free 23 = .ok (.getfield 29, 3) := by decide +kernel
theorem dX3_free_26 : decode cX3_free 26 = .ok (.iload_n 1, 1) := by decide +kernel
theorem dX3_free_27 : decode cX3_free 27 = .ok (.aaload, 1) := by decide +kernel
theorem dX3_free_28 : decode cX3_free 28 = .ok (.iconst 0, 1) := by decide +kernel
theorem dX3_free_29 : decode cX3_free 29 = .ok (.putfield 119, 3) := by decide +kernel
theorem dX3_free_32 : decode cX3_free 32 = .ok (.aload_n 0, 1) := by decide +kernel
theorem dX3_free_33 : decode cX3_free 33 = .ok (.iconst 0, 1) := by decide +kernel
theorem dX3_free_34 : decode cX3_free 34 = .ok (.putfield 76, 3) := by decide +kernel
theorem dX3_free_37 : decode cX3_free 37 = .ok (.iconst 1, 1) := by decide +kernel
theorem dX3_free_38 : decode cX3_free 38 = .ok (.ireturn, 1) := by decide +kernel
set_option maxRecDepth 20000 in
theorem ggX3_solve_X1_finds : GoodIn wsX3_solve wsX1_finds := goodIn_r _ [10, 11, 12, 13, 14, 15, 16, 9, 17, 18, 19, 20, 21, 22, 23, 24, 25, 26, 27, 28, 29, 30, 31, 32, 33, 34, 35, 36, 37, 38, 39, 40, 41, 42, 43, 44, 45, 46, 47, 48, 49, 50, 51, 52, 53, 54, 55, 56, 57, 58, 59, 60, 61, 62, 63, 64, 65, 66, 67, 68, 69, 70, 71, 72, 73, 74, 75, 76, 77, 78, 79, 80, 81, 82, 83, 84, 85, 86, 87, 88, 89, 90, 91, 92, 93, 94, 95, 96, 97, 98, 99, 100, 101, 102, 103, 104, 105, 106, 107, 108, 109, 110, 111, 112, 113, 114, 115, 116, 117, 118, 119, 120, 121, 122, 123, 141, 142, 143, 144, 145, 146, 147, 148, 149, 150, 151, 152, 153, 154, 155, 156, 157, 158, 159, 160, 161, 162, 163, 164, 165] (by decide +kernel) (by decide +kernel)
set_option maxRecDepth 20000 in
theorem gX3_solve_X1_finds : GoodIn wsX3_solve (wsV RX3 128 RX1 yX1_finds wsX1_finds) := goodIn_app (goodIn_of _ (by decide +kernel)) ggX3_solve_X1_finds
set_option maxRecDepth 20000 in
theorem ggX3_solve_X3_moveShips : GoodIn wsX3_solve wsX3_moveShips := goodIn_r _ [127, 4, 3, 1, 128, 129, 130, 131, 132, 33, 133, 134, 135, 136, 137, 138, 139, 140, 141, 142, 143, 144, 145, 146, 147, 148, 149, 155, 156, 157, 158, 159, 160, 161, 162, 163, 164, 165] (by decide +kernel) (by decide +kernel)
set_option maxRecDepth 20000 in
theorem gX3_solve_X3_moveShips : GoodIn wsX3_solve (wsV RX3 132 RX3 yX3_moveShips wsX3_moveShips) := goodIn_app (goodIn_of _ (by decide +kernel)) ggX3_solve_X3_moveShips
theorem dX3_solve_0 : decode cX3_solve 0 = .ok (.aload_n 0, 1) := by decide +kernel
theorem dX3_solve_1 : decode cX3_solve 1 = .ok (.aload_n 0, 1) := by decide +kernel
theorem dX3_solve_2 : decode cX3_solve 2 = .ok (.getfield 37, 3) := by decide +kernel
theorem dX3_solve_5 : decode cX3_solve 5 = .ok (.aload_n 0, 1) := by decide +kernel
theorem dX3_solve_6 : decode cX3_solve 6 = .ok (.getfield 23, 3) := by decide +kernel
theorem dX3_solve_9 : decode cX3_solve 9 = .ok (.aload_n 0, 1) := by decide +kernel
theorem dX3_solve_10 : decode cX3_solve 10 = .ok (.getfield 29, 3) := by decide +kernel
theorem dX3_solve_13 : decode cX3_solve 13 = .ok (.aload_n 0, 1) := by decide +kernel
theorem dX3_solve_14 : decode cX3_solve 14 = .ok (.getfield 52, 3) := by decide +kernel
theorem dX3_solve_17 : decode cX3_solve 17 = .ok (.invokevirtual 128, 3) := by decide +kernel
theorem dX3_solve_20 : decode cX3_solve 20 = .ok (.putfield 76, 3) := by decide +kernel
theorem dX3_solve_23 : decode cX3_solve 23 = .ok (.aload_n 0, 1) := by decide +kernel
theorem dX3_solve_24 : decode cX3_solve 24 = .ok (.getfield 76, 3) := by decide +kernel
theorem dX3_solve_27 : decode cX3_solve 27 = .ok (.ifCond .ne 5, 3) := by decide +kernel
theorem dX3_solve_30 : decode cX3_solve 30 = .ok (.iconst 0, 1) := by decide +kernel
theorem dX3_solve_31 : decode cX3_solve 31 = .ok (.ireturn, 1) := by decide +kernel
theorem dX3_solve_32 : decode cX3_solve 32 = .ok (.aload_n 0, 1) := by decide +kernel
theorem dX3_solve_33 : decode cX3_solve 33 = .ok (.invokevirtual 132, 3) := by decide +kernel
theorem dX3_solve_36 : decode cX3_solve 36 = .ok (.pop, 1) := by decide +kernel
theorem dX3_solve_37 : decode cX3_solve 37 = .ok (.iconst 1, 1) := by decide +kernel
theorem dX3_solve_38 : decode cX3_solve 38 = .ok (.ireturn, 1) := by decide +kernel
set_option maxRecDepth 20000 in
theorem ggX3_at_X3_isShip : GoodIn wsX3_at wsX3_isShip := goodIn_r _ [14, 15, 19, 20, 21, 22, 23] (by decide +kernel) (by decide +kernel)
set_option maxRecDepth 20000 in
theorem gX3_at_X3_isShip : GoodIn wsX3_at (wsV RX3 98 RX3 yX3_isShip wsX3_isShip) := goodIn_app (goodIn_of _ (by decide +kernel)) ggX3_at_X3_isShip
set_option maxRecDepth 20000 in
theorem ggX3_at_X3_isWithin : GoodIn wsX3_at wsX3_isWithin := goodIn_r _ [18] (by decide +kernel) (by decide +kernel)
set_option maxRecDepth 20000 in
theorem gX3_at_X3_isWithin : GoodIn wsX3_at (va_wsS RX3 41 yX3_isWithin wsX3_isWithin) := goodIn_app (goodIn_of _ (by decide +kernel)) ggX3_at_X3_isWithin
theorem dX3_at_0 : decode cX3_at 0 = .ok (.aload_n 0, 1) := by decide +kernel
theorem dX3_at_1 : decode cX3_at 1 = .ok (.iload_n 1, 1) := by decide +kernel
theorem dX3_at_2 : decode cX3_at 2 = .ok (.invokevirtual 98, 3) := by decide +kernel
theorem dX3_at_5 : decode cX3_at 5 = .ok (.ifCond .eq 12, 3) := by decide +kernel
theorem dX3_at_8 : decode cX3_at 8 = .ok (.iload_n 2, 1) := by decide +kernel
theorem dX3_at_9 : decode cX3_at 9 = .ok (.iconst 0, 1) := by decide +kernel
theorem dX3_at_10 : decode cX3_at 10 = .ok (.iconst 2, 1) := by decide +kernel
theorem dX3_at_11 : decode cX3_at 11 = .ok (.invokestatic 41, 3) := by decide +kernel
theorem dX3_at_14 : decode cX3_at 14 = .ok (.ifCond .ne 13, 3) := by decide +kernel
theorem dX3_at_17 : decode cX3_at 17 = .ok (.new 136, 3) := by decide +kernel
theorem dX3_at_20 : decode cX3_at 20 = .ok (.dup, 1) := by decide +kernel
theorem dX3_at_21 : decode cX3_at 21 = .ok (.ldc 138, 2) := by decide +kernel
theorem dX3_at_23 : decode cX3_at 23 = .ok (.invokespecial 140, 3) := by decide +kernel
theorem dX3_at_26 : decode cX3_at 26 = .ok (.athrow, 1) := by decide +kernel
theorem dX3_at_27 : decode cX3_at 27 = .ok (.aload_n 0, 1) := by decide +kernel
theorem dX3_at_28 : decode cX3_at 28 = .ok (.getfield 76, 3) := by decide +kernel
theorem dX3_at_31 : decode cX3_at 31 = .ok (.ifCond .ne 13, 3) := by decide +kernel
theorem dX3_at_34 : decode cX3_at 34 = .ok (.new 56, 3) := by decide +kernel
theorem dX3_at_37 : decode cX3_at 37 = .ok (.dup, 1) := by decide +kernel
theorem dX3_at_38 : decode cX3_at 38 = .ok (.ldc 141, 2) := by decide +kernel
theorem dX3_at_40 : decode cX3_at 40 = .ok (.invokespecial 60, 3) := by decide +kernel
theorem dX3_at_43 : decode cX3_at 43 = .ok (.athrow, 1) := by decide +kernel
theorem dX3_at_44 : decode cX3_at 44 = .ok (.aload_n 0, 1) := by decide +kernel
theorem dX3_at_45 : decode cX3_at 45 = .ok (.getfield 29, 3) := by decide +kernel
theorem dX3_at_48 : decode cX3_at 48 = .ok (.iload_n 1, 1) := by decide +kernel
theorem dX3_at_49 : decode cX3_at 49 = .ok (.aaload, 1) := by decide +kernel
theorem dX3_at_50 : decode cX3_at 50 = .ok (.astore_n 3, 1) := by decide +kernel
theorem dX3_at_51 : decode cX3_at 51 = .ok (.iload_n 2, 1) := by decide +kernel
theorem dX3_at_52 : decode cX3_at 52 = .ok (.ifCond .ne 8, 3) := by decide +kernel
theorem dX3_at_55 : decode cX3_at 55 = .ok (.aload_n 3, 1) := by decide +kernel
theorem dX3_at_56 : decode cX3_at 56 = .ok (.getfield 143, 3) := by decide +kernel
theorem dX3_at_59 : decode cX3_at 59 = .ok (.ireturn, 1) := by decide +kernel
theorem dX3_at_60 : decode cX3_at 60 = .ok (.iload_n 2, 1) := by decide +kernel
theorem dX3_at_61 : decode cX3_at 61 = .ok (.iconst 1, 1) := by decide +kernel
theorem dX3_at_62 : decode cX3_at 62 = .ok (.if_icmp .ne 10, 3) := by decide +kernel
theorem dX3_at_65 : decode cX3_at 65 = .ok (.aload_n 3, 1) := by decide +kernel
theorem dX3_at_66 : decode cX3_at 66 = .ok (.getfield 146, 3) := by decide +kernel
theorem dX3_at_69 : decode cX3_at 69 = .ok (.goto 12, 3) := by decide +kernel
theorem dX3_at_72 : decode cX3_at 72 = .ok (.aload_n 3, 1) := by decide +kernel
theorem dX3_at_73 : decode cX3_at 73 = .ok (.getfield 146, 3) := by decide +kernel
theorem dX3_at_76 : decode cX3_at 76 = .ok (.aload_n 3, 1) := by decide +kernel
theorem dX3_at_77 : decode cX3_at 77 = .ok (.getfield 70, 3) := by decide +kernel
theorem dX3_at_80 : decode cX3_at 80 = .ok (.isub, 1) := by decide +kernel
theorem dX3_at_81 : decode cX3_at 81 = .ok (.ireturn, 1) := by decide +kernel
set_option maxRecDepth 20000 in
theorem ggX3_lateness_X2_latenessIf : GoodIn wsX3_lateness wsX2_latenessIf := goodIn_r _ [11, 12, 13, 19, 20, 21, 22, 23, 24, 25, 26, 27, 28, 29] (by decide +kernel) (by decide +kernel)
set_option maxRecDepth 20000 in
theorem gX3_lateness_X2_latenessIf : GoodIn wsX3_lateness (wsV RX3 149 RX2 yX2_latenessIf wsX2_latenessIf) := goodIn_app (goodIn_of _ (by decide +kernel)) ggX3_lateness_X2_latenessIf
theorem dX3_lateness_0 : decode cX3_lateness 0 = .ok (.aload_n 0, 1) := by decide +kernel
theorem dX3_lateness_1 : decode cX3_lateness 1 = .ok (.getfield 76, 3) := by decide +kernel
theorem dX3_lateness_4 : decode cX3_lateness 4 = .ok (.ifCond .ne 13, 3) := by decide +kernel
theorem dX3_lateness_7 : decode cX3_lateness 7 = .ok (.new 56, 3) := by decide +kernel
theorem dX3_lateness_10 : decode cX3_lateness 10 = .ok (.dup, 1) := by decide +kernel
theorem dX3_lateness_11 : decode cX3_lateness 11 = .ok (.ldc 141, 2) := by decide +kernel
theorem dX3_lateness_13 : decode cX3_lateness 13 = .ok (.invokespecial 60, 3) := by decide +kernel
theorem dX3_lateness_16 : decode cX3_lateness 16 = .ok (.athrow, 1) := by decide +kernel
theorem dX3_lateness_17 : decode cX3_lateness 17 = .ok (.iconst 0, 1) := by decide +kernel
theorem dX3_lateness_18 : decode cX3_lateness 18 = .ok (.istore_n 1, 1) := by decide +kernel
theorem dX3_lateness_19 : decode cX3_lateness 19 = .ok (.iconst 0, 1) := by decide +kernel
theorem dX3_lateness_20 : decode cX3_lateness 20 = .ok (.istore_n 2, 1) := by decide +kernel
theorem dX3_lateness_21 : decode cX3_lateness 21 = .ok (.iload_n 2, 1) := by decide +kernel
theorem dX3_lateness_22 : decode cX3_lateness 22 = .ok (.aload_n 0, 1) := by decide +kernel
theorem dX3_lateness_23 : decode cX3_lateness 23 = .ok (.getfield 52, 3) := by decide +kernel
theorem dX3_lateness_26 : decode cX3_lateness 26 = .ok (.if_icmp .ge 30, 3) := by decide +kernel
theorem dX3_lateness_29 : decode cX3_lateness 29 = .ok (.iload_n 1, 1) := by decide +kernel
theorem dX3_lateness_30 : decode cX3_lateness 30 = .ok (.aload_n 0, 1) := by decide +kernel
theorem dX3_lateness_31 : decode cX3_lateness 31 = .ok (.getfield 29, 3) := by decide +kernel
theorem dX3_lateness_34 : decode cX3_lateness 34 = .ok (.iload_n 2, 1) := by decide +kernel
theorem dX3_lateness_35 : decode cX3_lateness 35 = .ok (.aaload, 1) := by decide +kernel
theorem dX3_lateness_36 : decode cX3_lateness 36 = .ok (.aload_n 0, 1) := by decide +kernel
theorem dX3_lateness_37 : decode cX3_lateness 37 = .ok (.getfield 29, 3) := by decide +kernel
theorem dX3_lateness_40 : decode cX3_lateness 40 = .ok (.iload_n 2, 1) := by decide +kernel
theorem dX3_lateness_41 : decode cX3_lateness 41 = .ok (.aaload, 1) := by decide +kernel
theorem dX3_lateness_42 : decode cX3_lateness 42 = .ok (.getfield 146, 3) := by decide +kernel
theorem dX3_lateness_45 : decode cX3_lateness 45 = .ok (.invokevirtual 149, 3) := by decide +kernel
theorem dX3_lateness_48 : decode cX3_lateness 48 = .ok (.iadd, 1) := by decide +kernel
theorem dX3_lateness_49 : decode cX3_lateness 49 = .ok (.istore_n 1, 1) := by decide +kernel
theorem dX3_lateness_50 : decode cX3_lateness 50 = .ok (.iinc 2 1, 3) := by decide +kernel
theorem dX3_lateness_53 : decode cX3_lateness 53 = .ok (.goto (-32), 3) := by decide +kernel
theorem dX3_lateness_56 : decode cX3_lateness 56 = .ok (.iload_n 1, 1) := by decide +kernel
theorem dX3_lateness_57 : decode cX3_lateness 57 = .ok (.ireturn, 1) := by decide +kernel
set_option maxRecDepth 20000 in
theorem ggX3_bound_X1_leastAlone : GoodIn wsX3_bound wsX1_leastAlone := goodIn_r _ [10, 11, 12, 13, 9, 14, 15, 16, 17, 18, 19, 20, 21, 22, 23, 24, 25, 26, 27, 28, 29, 30, 31, 32, 33, 34, 35, 36, 37, 38, 39, 40, 41, 42, 43, 44, 45, 46, 47, 48, 49, 50, 51, 52, 53, 54, 55, 56, 57, 58, 59, 60, 61, 62, 63, 64, 65, 66, 67, 68, 69, 70, 71, 72, 73, 74, 75, 76, 77, 78, 79, 80, 81, 82, 83, 84, 85, 86, 87, 88, 89, 95, 96, 97, 98, 99, 100, 101, 102, 103, 104, 105, 106, 107, 108, 109, 110, 111, 112, 113, 114, 115, 116, 117, 118, 119] (by decide +kernel) (by decide +kernel)
set_option maxRecDepth 20000 in
theorem gX3_bound_X1_leastAlone : GoodIn wsX3_bound (wsV RX3 153 RX1 yX1_leastAlone wsX1_leastAlone) := goodIn_app (goodIn_of _ (by decide +kernel)) ggX3_bound_X1_leastAlone
theorem dX3_bound_0 : decode cX3_bound 0 = .ok (.aload_n 0, 1) := by decide +kernel
theorem dX3_bound_1 : decode cX3_bound 1 = .ok (.getfield 37, 3) := by decide +kernel
theorem dX3_bound_4 : decode cX3_bound 4 = .ok (.aload_n 0, 1) := by decide +kernel
theorem dX3_bound_5 : decode cX3_bound 5 = .ok (.getfield 23, 3) := by decide +kernel
theorem dX3_bound_8 : decode cX3_bound 8 = .ok (.aload_n 0, 1) := by decide +kernel
theorem dX3_bound_9 : decode cX3_bound 9 = .ok (.getfield 29, 3) := by decide +kernel
theorem dX3_bound_12 : decode cX3_bound 12 = .ok (.aload_n 0, 1) := by decide +kernel
theorem dX3_bound_13 : decode cX3_bound 13 = .ok (.getfield 52, 3) := by decide +kernel
theorem dX3_bound_16 : decode cX3_bound 16 = .ok (.invokevirtual 153, 3) := by decide +kernel
theorem dX3_bound_19 : decode cX3_bound 19 = .ok (.istore_n 1, 1) := by decide +kernel
theorem dX3_bound_20 : decode cX3_bound 20 = .ok (.iload_n 1, 1) := by decide +kernel
theorem dX3_bound_21 : decode cX3_bound 21 = .ok (.ldc 157, 2) := by decide +kernel
theorem dX3_bound_23 : decode cX3_bound 23 = .ok (.if_icmp .lt 7, 3) := by decide +kernel
theorem dX3_bound_26 : decode cX3_bound 26 = .ok (.iconst (-1), 1) := by decide +kernel
theorem dX3_bound_27 : decode cX3_bound 27 = .ok (.goto 4, 3) := by decide +kernel
theorem dX3_bound_30 : decode cX3_bound 30 = .ok (.iload_n 1, 1) := by decide +kernel
theorem dX3_bound_31 : decode cX3_bound 31 = .ok (.ireturn, 1) := by decide +kernel
set_option maxRecDepth 20000 in
theorem ggX3_why_X3_isShip : GoodIn wsX3_why wsX3_isShip := goodIn_r _ [15, 16, 41, 42, 43, 44, 45] (by decide +kernel) (by decide +kernel)
set_option maxRecDepth 20000 in
theorem gX3_why_X3_isShip : GoodIn wsX3_why (wsV RX3 98 RX3 yX3_isShip wsX3_isShip) := goodIn_app (goodIn_of _ (by decide +kernel)) ggX3_why_X3_isShip
set_option maxRecDepth 20000 in
theorem ggX3_why_X0_hasRow : GoodIn wsX3_why wsX0_hasRow := goodIn_r _ [21, 22, 23, 24, 25, 20, 26, 27, 28, 29, 30, 31, 32, 57, 58, 59, 60, 61] (by decide +kernel) (by decide +kernel)
set_option maxRecDepth 20000 in
theorem gX3_why_X0_hasRow : GoodIn wsX3_why (wsV RX3 163 RX0 yX0_hasRow wsX0_hasRow) := goodIn_app (goodIn_of _ (by decide +kernel)) ggX3_why_X0_hasRow
set_option maxRecDepth 20000 in
theorem ggX3_why_X0_beginsFrom : GoodIn wsX3_why wsX0_beginsFrom := goodIn_r _ [36, 37, 38, 39, 14, 40, 57, 58, 59, 60, 61] (by decide +kernel) (by decide +kernel)
set_option maxRecDepth 20000 in
theorem gX3_why_X0_beginsFrom : GoodIn wsX3_why (wsV RX3 166 RX0 yX0_beginsFrom wsX0_beginsFrom) := goodIn_app (goodIn_of _ (by decide +kernel)) ggX3_why_X0_beginsFrom
theorem dX3_why_0 : decode cX3_why 0 = .ok (.aload_n 0, 1) := by decide +kernel
theorem dX3_why_1 : decode cX3_why 1 = .ok (.iload_n 1, 1) := by decide +kernel
theorem dX3_why_2 : decode cX3_why 2 = .ok (.invokevirtual 98, 3) := by decide +kernel
theorem dX3_why_5 : decode cX3_why 5 = .ok (.ifCond .ne 13, 3) := by decide +kernel
theorem dX3_why_8 : decode cX3_why 8 = .ok (.new 136, 3) := by decide +kernel
theorem dX3_why_11 : decode cX3_why 11 = .ok (.dup, 1) := by decide +kernel
theorem dX3_why_12 : decode cX3_why 12 = .ok (.ldc 158, 2) := by decide +kernel
theorem dX3_why_14 : decode cX3_why 14 = .ok (.invokespecial 140, 3) := by decide +kernel
theorem dX3_why_17 : decode cX3_why 17 = .ok (.athrow, 1) := by decide +kernel
theorem dX3_why_18 : decode cX3_why 18 = .ok (.aload_n 0, 1) := by decide +kernel
theorem dX3_why_19 : decode cX3_why 19 = .ok (.getfield 29, 3) := by decide +kernel
theorem dX3_why_22 : decode cX3_why 22 = .ok (.iload_n 1, 1) := by decide +kernel
theorem dX3_why_23 : decode cX3_why 23 = .ok (.aaload, 1) := by decide +kernel
theorem dX3_why_24 : decode cX3_why 24 = .ok (.astore_n 2, 1) := by decide +kernel
theorem dX3_why_25 : decode cX3_why 25 = .ok (.aload_n 2, 1) := by decide +kernel
theorem dX3_why_26 : decode cX3_why 26 = .ok (.getfield 119, 3) := by decide +kernel
theorem dX3_why_29 : decode cX3_why 29 = .ok (.ifCond .eq 5, 3) := by decide +kernel
theorem dX3_why_32 : decode cX3_why 32 = .ok (.iconst 0, 1) := by decide +kernel
theorem dX3_why_33 : decode cX3_why 33 = .ok (.ireturn, 1) := by decide +kernel
theorem dX3_why_34 : decode cX3_why 34 = .ok (.aload_n 2, 1) := by decide +kernel
theorem dX3_why_35 : decode cX3_why 35 = .ok (.getfield 61, 3) := by decide +kernel
theorem dX3_why_38 : decode cX3_why 38 = .ok (.aload_n 0, 1) := by decide +kernel
theorem dX3_why_39 : decode cX3_why 39 = .ok (.getfield 23, 3) := by decide +kernel
theorem dX3_why_42 : decode cX3_why 42 = .ok (.getfield 160, 3) := by decide +kernel
theorem dX3_why_45 : decode cX3_why 45 = .ok (.if_icmp .le 5, 3) := by decide +kernel
theorem dX3_why_48 : decode cX3_why 48 = .ok (.iconst 1, 1) := by decide +kernel
theorem dX3_why_49 : decode cX3_why 49 = .ok (.ireturn, 1) := by decide +kernel
theorem dX3_why_50 : decode cX3_why 50 = .ok (.aload_n 0, 1) := by decide +kernel
theorem dX3_why_51 : decode cX3_why 51 = .ok (.getfield 23, 3) := by decide +kernel
theorem dX3_why_54 : decode cX3_why 54 = .ok (.aload_n 2, 1) := by decide +kernel
theorem dX3_why_55 : decode cX3_why 55 = .ok (.getfield 61, 3) := by decide +kernel
theorem dX3_why_58 : decode cX3_why 58 = .ok (.aload_n 2, 1) := by decide +kernel
theorem dX3_why_59 : decode cX3_why 59 = .ok (.getfield 64, 3) := by decide +kernel
theorem dX3_why_62 : decode cX3_why 62 = .ok (.iconst 0, 1) := by decide +kernel
theorem dX3_why_63 : decode cX3_why 63 = .ok (.invokevirtual 163, 3) := by decide +kernel
theorem dX3_why_66 : decode cX3_why 66 = .ok (.ifCond .ne 5, 3) := by decide +kernel
theorem dX3_why_69 : decode cX3_why 69 = .ok (.iconst 2, 1) := by decide +kernel
theorem dX3_why_70 : decode cX3_why 70 = .ok (.ireturn, 1) := by decide +kernel
theorem dX3_why_71 : decode cX3_why 71 = .ok (.aload_n 0, 1) := by decide +kernel
theorem dX3_why_72 : decode cX3_why 72 = .ok (.getfield 23, 3) := by decide +kernel
theorem dX3_why_75 : decode cX3_why 75 = .ok (.aload_n 2, 1) := by decide +kernel
theorem dX3_why_76 : decode cX3_why 76 = .ok (.getfield 61, 3) := by decide +kernel
theorem dX3_why_79 : decode cX3_why 79 = .ok (.aload_n 2, 1) := by decide +kernel
theorem dX3_why_80 : decode cX3_why 80 = .ok (.getfield 64, 3) := by decide +kernel
theorem dX3_why_83 : decode cX3_why 83 = .ok (.aload_n 2, 1) := by decide +kernel
theorem dX3_why_84 : decode cX3_why 84 = .ok (.getfield 101, 3) := by decide +kernel
theorem dX3_why_87 : decode cX3_why 87 = .ok (.invokevirtual 163, 3) := by decide +kernel
theorem dX3_why_90 : decode cX3_why 90 = .ok (.ifCond .ne 5, 3) := by decide +kernel
theorem dX3_why_93 : decode cX3_why 93 = .ok (.iconst 3, 1) := by decide +kernel
theorem dX3_why_94 : decode cX3_why 94 = .ok (.ireturn, 1) := by decide +kernel
theorem dX3_why_95 : decode cX3_why 95 = .ok (.aload_n 0, 1) := by decide +kernel
theorem dX3_why_96 : decode cX3_why 96 = .ok (.getfield 23, 3) := by decide +kernel
theorem dX3_why_99 : decode cX3_why 99 = .ok (.aload_n 2, 1) := by decide +kernel
theorem dX3_why_100 : decode cX3_why 100 = .ok (.getfield 70, 3) := by decide +kernel
theorem dX3_why_103 : decode cX3_why 103 = .ok (.invokevirtual 166, 3) := by decide +kernel
theorem dX3_why_106 : decode cX3_why 106 = .ok (.ifCond .ne 7, 3) := by decide +kernel
theorem dX3_why_109 : decode cX3_why 109 = .ok (.iconst 4, 1) := by decide +kernel
theorem dX3_why_110 : decode cX3_why 110 = .ok (.goto 4, 3) := by decide +kernel
theorem dX3_why_113 : decode cX3_why 113 = .ok (.iconst 0, 1) := by decide +kernel
theorem dX3_why_114 : decode cX3_why 114 = .ok (.ireturn, 1) := by decide +kernel
set_option maxRecDepth 20000 in
theorem ggX3_change_X3_isShip : GoodIn wsX3_change wsX3_isShip := goodIn_r _ [17, 12, 150, 151, 152, 153, 154] (by decide +kernel) (by decide +kernel)
set_option maxRecDepth 20000 in
theorem gX3_change_X3_isShip : GoodIn wsX3_change (wsV RX3 98 RX3 yX3_isShip wsX3_isShip) := goodIn_app (goodIn_of _ (by decide +kernel)) ggX3_change_X3_isShip
set_option maxRecDepth 20000 in
theorem ggX3_change_X3_isWithin : GoodIn wsX3_change wsX3_isWithin := goodIn_r _ [20] (by decide +kernel) (by decide +kernel)
set_option maxRecDepth 20000 in
theorem gX3_change_X3_isWithin : GoodIn wsX3_change (va_wsS RX3 41 yX3_isWithin wsX3_isWithin) := goodIn_app (goodIn_of _ (by decide +kernel)) ggX3_change_X3_isWithin
set_option maxRecDepth 20000 in
theorem ggX3_change_X1_finds : GoodIn wsX3_change wsX1_finds := goodIn_r _ [25, 26, 27, 28, 29, 30, 31, 24, 32, 33, 34, 35, 36, 37, 38, 39, 40, 41, 42, 43, 44, 45, 46, 47, 48, 49, 50, 51, 52, 53, 54, 55, 56, 57, 58, 59, 60, 61, 62, 63, 64, 65, 66, 67, 68, 69, 70, 71, 72, 73, 74, 75, 16, 76, 77, 78, 79, 80, 81, 82, 83, 84, 85, 86, 87, 88, 89, 90, 91, 92, 93, 94, 95, 96, 97, 98, 99, 100, 101, 102, 103, 104, 105, 106, 107, 108, 109, 110, 111, 112, 113, 114, 115, 116, 117, 118, 119, 120, 121, 122, 123, 124, 125, 126, 127, 128, 129, 130, 131, 132, 133, 134, 135, 136, 137, 166, 167, 168, 169, 170, 171, 172, 173, 174, 175, 176, 177, 178, 179, 155, 156, 157, 158, 159, 160, 161, 162, 163, 164, 165] (by decide +kernel) (by decide +kernel)
set_option maxRecDepth 20000 in
theorem gX3_change_X1_finds : GoodIn wsX3_change (wsV RX3 128 RX1 yX1_finds wsX1_finds) := goodIn_app (goodIn_of _ (by decide +kernel)) ggX3_change_X1_finds
set_option maxRecDepth 20000 in
theorem ggX3_change_X3_moveShips : GoodIn wsX3_change wsX3_moveShips := goodIn_r _ [141, 12, 8, 10, 142, 143, 144, 145, 146, 48, 147, 148, 149, 150, 151, 152, 153, 154, 166, 167, 168, 169, 170, 171, 172, 173, 174, 155, 156, 157, 158, 159, 160, 161, 162, 163, 164, 165] (by decide +kernel) (by decide +kernel)
set_option maxRecDepth 20000 in
theorem gX3_change_X3_moveShips : GoodIn wsX3_change (wsV RX3 132 RX3 yX3_moveShips wsX3_moveShips) := goodIn_app (goodIn_of _ (by decide +kernel)) ggX3_change_X3_moveShips
theorem dX3_change_0 : decode cX3_change 0 = .ok (.aload_n 0, 1) := by decide +kernel
theorem dX3_change_1 : decode cX3_change 1 = .ok (.iload_n 1, 1) := by decide +kernel
theorem dX3_change_2 : decode cX3_change 2 = .ok (.invokevirtual 98, 3) := by decide +kernel
theorem dX3_change_5 : decode cX3_change 5 = .ok (.ifCond .ne 13, 3) := by decide +kernel
theorem dX3_change_8 : decode cX3_change 8 = .ok (.new 136, 3) := by decide +kernel
theorem dX3_change_11 : decode cX3_change 11 = .ok (.dup, 1) := by decide +kernel
theorem dX3_change_12 : decode cX3_change 12 = .ok (.ldc 158, 2) := by decide +kernel
theorem dX3_change_14 : decode cX3_change 14 = .ok (.invokespecial 140, 3) := by decide +kernel
theorem dX3_change_17 : decode cX3_change 17 = .ok (.athrow, 1) := by decide +kernel
theorem dX3_change_18 : decode cX3_change 18 = .ok (.iload_n 2, 1) := by decide +kernel
theorem dX3_change_19 : decode cX3_change 19 = .ok (.iconst 0, 1) := by decide +kernel
theorem dX3_change_20 : decode cX3_change 20 = .ok (.bipush 15, 2) := by decide +kernel
theorem dX3_change_22 : decode cX3_change 22 = .ok (.invokestatic 41, 3) := by decide +kernel
theorem dX3_change_25 : decode cX3_change 25 = .ok (.ifCond .ne 13, 3) := by decide +kernel
theorem dX3_change_28 : decode cX3_change 28 = .ok (.new 45, 3) := by decide +kernel
theorem dX3_change_31 : decode cX3_change 31 = .ok (.dup, 1) := by decide +kernel
theorem dX3_change_32 : decode cX3_change 32 = .ok (.ldc 169, 2) := by decide +kernel
theorem dX3_change_34 : decode cX3_change 34 = .ok (.invokespecial 49, 3) := by decide +kernel
theorem dX3_change_37 : decode cX3_change 37 = .ok (.athrow, 1) := by decide +kernel
theorem dX3_change_38 : decode cX3_change 38 = .ok (.aload_n 0, 1) := by decide +kernel
theorem dX3_change_39 : decode cX3_change 39 = .ok (.getfield 76, 3) := by decide +kernel
theorem dX3_change_42 : decode cX3_change 42 = .ok (.ifCond .ne 13, 3) := by decide +kernel
theorem dX3_change_45 : decode cX3_change 45 = .ok (.new 56, 3) := by decide +kernel
theorem dX3_change_48 : decode cX3_change 48 = .ok (.dup, 1) := by decide +kernel
theorem dX3_change_49 : decode cX3_change 49 = .ok (.ldc 141, 2) := by decide +kernel
theorem dX3_change_51 : decode cX3_change 51 = .ok (.invokespecial 60, 3) := by decide +kernel
theorem dX3_change_54 : decode cX3_change 54 = .ok (.athrow, 1) := by decide +kernel
theorem dX3_change_55 : decode cX3_change 55 = .ok (.aload_n 0, 1) := by decide +kernel
theorem dX3_change_56 : decode cX3_change 56 = .ok (.getfield 29, 3) := by decide +kernel
theorem dX3_change_59 : decode cX3_change 59 = .ok (.iload_n 1, 1) := by decide +kernel
theorem dX3_change_60 : decode cX3_change 60 = .ok (.aaload, 1) := by decide +kernel
theorem dX3_change_61 : decode cX3_change 61 = .ok (.iload_n 2, 1) := by decide +kernel
theorem dX3_change_62 : decode cX3_change 62 = .ok (.putfield 70, 3) := by decide +kernel
theorem dX3_change_65 : decode cX3_change 65 = .ok (.aload_n 0, 1) := by decide +kernel
theorem dX3_change_66 : decode cX3_change 66 = .ok (.aload_n 0, 1) := by decide +kernel
theorem dX3_change_67 : decode cX3_change 67 = .ok (.getfield 37, 3) := by decide +kernel
theorem dX3_change_70 : decode cX3_change 70 = .ok (.aload_n 0, 1) := by decide +kernel
theorem dX3_change_71 : decode cX3_change 71 = .ok (.getfield 23, 3) := by decide +kernel
theorem dX3_change_74 : decode cX3_change 74 = .ok (.aload_n 0, 1) := by decide +kernel
theorem dX3_change_75 : decode cX3_change 75 = .ok (.getfield 29, 3) := by decide +kernel
theorem dX3_change_78 : decode cX3_change 78 = .ok (.aload_n 0, 1) := by decide +kernel
theorem dX3_change_79 : decode cX3_change 79 = .ok (.getfield 52, 3) := by decide +kernel
theorem dX3_change_82 : decode cX3_change 82 = .ok (.invokevirtual 128, 3) := by decide +kernel
theorem dX3_change_85 : decode cX3_change 85 = .ok (.putfield 76, 3) := by decide +kernel
theorem dX3_change_88 : decode cX3_change 88 = .ok (.aload_n 0, 1) := by decide +kernel
theorem dX3_change_89 : decode cX3_change 89 = .ok (.getfield 76, 3) := by decide +kernel
theorem dX3_change_92 : decode cX3_change 92 = .ok (.ifCond .eq 10, 3) := by decide +kernel
theorem dX3_change_95 : decode cX3_change 95 = .ok (.aload_n 0, 1) := by decide +kernel
theorem dX3_change_96 : decode cX3_change 96 = .ok (.invokevirtual 132, 3) := by decide +kernel
theorem dX3_change_99 : decode cX3_change 99 = .ok (.goto 4, 3) := by decide +kernel
theorem dX3_change_102 : decode cX3_change 102 = .ok (.iconst (-1), 1) := by decide +kernel
theorem dX3_change_103 : decode cX3_change 103 = .ok (.ireturn, 1) := by decide +kernel
set_option maxRecDepth 20000 in
theorem ggX3_lies_X3_isSpanAt : GoodIn wsX3_lies wsX3_isSpanAt := goodIn_r _ [13] (by decide +kernel) (by decide +kernel)
set_option maxRecDepth 20000 in
theorem gX3_lies_X3_isSpanAt : GoodIn wsX3_lies (va_wsS RX3 171 yX3_isSpanAt wsX3_isSpanAt) := goodIn_app (goodIn_of _ (by decide +kernel)) ggX3_lies_X3_isSpanAt
theorem dX3_lies_0 : decode cX3_lies 0 = .ok (.aload_n 0, 1) := by decide +kernel
theorem dX3_lies_1 : decode cX3_lies 1 = .ok (.getfield 76, 3) := by decide +kernel
theorem dX3_lies_4 : decode cX3_lies 4 = .ok (.ifCond .ne 13, 3) := by decide +kernel
theorem dX3_lies_7 : decode cX3_lies 7 = .ok (.new 56, 3) := by decide +kernel
theorem dX3_lies_10 : decode cX3_lies 10 = .ok (.dup, 1) := by decide +kernel
theorem dX3_lies_11 : decode cX3_lies 11 = .ok (.ldc 141, 2) := by decide +kernel
theorem dX3_lies_13 : decode cX3_lies 13 = .ok (.invokespecial 60, 3) := by decide +kernel
theorem dX3_lies_16 : decode cX3_lies 16 = .ok (.athrow, 1) := by decide +kernel
theorem dX3_lies_17 : decode cX3_lies 17 = .ok (.iconst 0, 1) := by decide +kernel
theorem dX3_lies_18 : decode cX3_lies 18 = .ok (.istore_n 3, 1) := by decide +kernel
theorem dX3_lies_19 : decode cX3_lies 19 = .ok (.iload_n 3, 1) := by decide +kernel
theorem dX3_lies_20 : decode cX3_lies 20 = .ok (.aload_n 0, 1) := by decide +kernel
theorem dX3_lies_21 : decode cX3_lies 21 = .ok (.getfield 52, 3) := by decide +kernel
theorem dX3_lies_24 : decode cX3_lies 24 = .ok (.if_icmp .ge 53, 3) := by decide +kernel
theorem dX3_lies_27 : decode cX3_lies 27 = .ok (.aload_n 0, 1) := by decide +kernel
theorem dX3_lies_28 : decode cX3_lies 28 = .ok (.getfield 29, 3) := by decide +kernel
theorem dX3_lies_31 : decode cX3_lies 31 = .ok (.iload_n 3, 1) := by decide +kernel
theorem dX3_lies_32 : decode cX3_lies 32 = .ok (.aaload, 1) := by decide +kernel
theorem dX3_lies_33 : decode cX3_lies 33 = .ok (.astore 4, 2) := by decide +kernel
theorem dX3_lies_35 : decode cX3_lies 35 = .ok (.aload 4, 2) := by decide +kernel
theorem dX3_lies_37 : decode cX3_lies 37 = .ok (.getfield 143, 3) := by decide +kernel
theorem dX3_lies_40 : decode cX3_lies 40 = .ok (.aload 4, 2) := by decide +kernel
theorem dX3_lies_42 : decode cX3_lies 42 = .ok (.getfield 61, 3) := by decide +kernel
theorem dX3_lies_45 : decode cX3_lies 45 = .ok (.iload_n 1, 1) := by decide +kernel
theorem dX3_lies_46 : decode cX3_lies 46 = .ok (.invokestatic 171, 3) := by decide +kernel
theorem dX3_lies_49 : decode cX3_lies 49 = .ok (.ifCond .eq 22, 3) := by decide +kernel
theorem dX3_lies_52 : decode cX3_lies 52 = .ok (.aload 4, 2) := by decide +kernel
theorem dX3_lies_54 : decode cX3_lies 54 = .ok (.getfield 146, 3) := by decide +kernel
theorem dX3_lies_57 : decode cX3_lies 57 = .ok (.aload 4, 2) := by decide +kernel
theorem dX3_lies_59 : decode cX3_lies 59 = .ok (.getfield 67, 3) := by decide +kernel
theorem dX3_lies_62 : decode cX3_lies 62 = .ok (.iload_n 2, 1) := by decide +kernel
theorem dX3_lies_63 : decode cX3_lies 63 = .ok (.invokestatic 171, 3) := by decide +kernel
theorem dX3_lies_66 : decode cX3_lies 66 = .ok (.ifCond .eq 5, 3) := by decide +kernel
theorem dX3_lies_69 : decode cX3_lies 69 = .ok (.iload_n 3, 1) := by decide +kernel
theorem dX3_lies_70 : decode cX3_lies 70 = .ok (.ireturn, 1) := by decide +kernel
theorem dX3_lies_71 : decode cX3_lies 71 = .ok (.iinc 3 1, 3) := by decide +kernel
theorem dX3_lies_74 : decode cX3_lies 74 = .ok (.goto (-55), 3) := by decide +kernel
theorem dX3_lies_77 : decode cX3_lies 77 = .ok (.iconst (-1), 1) := by decide +kernel
theorem dX3_lies_78 : decode cX3_lies 78 = .ok (.ireturn, 1) := by decide +kernel
set_option maxRecDepth 20000 in
theorem ggX3_share_X3_isWithin : GoodIn wsX3_share wsX3_isWithin := goodIn_r _ [10] (by decide +kernel) (by decide +kernel)
set_option maxRecDepth 20000 in
theorem gX3_share_X3_isWithin : GoodIn wsX3_share (va_wsS RX3 41 yX3_isWithin wsX3_isWithin) := goodIn_app (goodIn_of _ (by decide +kernel)) ggX3_share_X3_isWithin
set_option maxRecDepth 20000 in
theorem ggX3_share_X0_placesOf : GoodIn wsX3_share wsX0_placesOf := goodIn_r _ [15, 16, 17, 23, 24, 25, 26, 27] (by decide +kernel) (by decide +kernel)
set_option maxRecDepth 20000 in
theorem gX3_share_X0_placesOf : GoodIn wsX3_share (wsV RX3 176 RX0 yX0_placesOf wsX0_placesOf) := goodIn_app (goodIn_of _ (by decide +kernel)) ggX3_share_X0_placesOf
theorem dX3_share_0 : decode cX3_share 0 = .ok (.iload_n 1, 1) := by decide +kernel
theorem dX3_share_1 : decode cX3_share 1 = .ok (.iconst 0, 1) := by decide +kernel
theorem dX3_share_2 : decode cX3_share 2 = .ok (.ldc 157, 2) := by decide +kernel
theorem dX3_share_4 : decode cX3_share 4 = .ok (.invokestatic 41, 3) := by decide +kernel
theorem dX3_share_7 : decode cX3_share 7 = .ok (.ifCond .eq 13, 3) := by decide +kernel
theorem dX3_share_10 : decode cX3_share 10 = .ok (.iload_n 2, 1) := by decide +kernel
theorem dX3_share_11 : decode cX3_share 11 = .ok (.iconst 0, 1) := by decide +kernel
theorem dX3_share_12 : decode cX3_share 12 = .ok (.ldc 157, 2) := by decide +kernel
theorem dX3_share_14 : decode cX3_share 14 = .ok (.invokestatic 41, 3) := by decide +kernel
theorem dX3_share_17 : decode cX3_share 17 = .ok (.ifCond .ne 13, 3) := by decide +kernel
theorem dX3_share_20 : decode cX3_share 20 = .ok (.new 45, 3) := by decide +kernel
theorem dX3_share_23 : decode cX3_share 23 = .ok (.dup, 1) := by decide +kernel
theorem dX3_share_24 : decode cX3_share 24 = .ok (.ldc 174, 2) := by decide +kernel
theorem dX3_share_26 : decode cX3_share 26 = .ok (.invokespecial 49, 3) := by decide +kernel
theorem dX3_share_29 : decode cX3_share 29 = .ok (.athrow, 1) := by decide +kernel
theorem dX3_share_30 : decode cX3_share 30 = .ok (.aload_n 0, 1) := by decide +kernel
theorem dX3_share_31 : decode cX3_share 31 = .ok (.getfield 23, 3) := by decide +kernel
theorem dX3_share_34 : decode cX3_share 34 = .ok (.iload_n 3, 1) := by decide +kernel
theorem dX3_share_35 : decode cX3_share 35 = .ok (.invokevirtual 176, 3) := by decide +kernel
theorem dX3_share_38 : decode cX3_share 38 = .ok (.istore 4, 2) := by decide +kernel
theorem dX3_share_40 : decode cX3_share 40 = .ok (.iload 4, 2) := by decide +kernel
theorem dX3_share_42 : decode cX3_share 42 = .ok (.ifCond .ne 13, 3) := by decide +kernel
theorem dX3_share_45 : decode cX3_share 45 = .ok (.new 179, 3) := by decide +kernel
theorem dX3_share_48 : decode cX3_share 48 = .ok (.dup, 1) := by decide +kernel
theorem dX3_share_49 : decode cX3_share 49 = .ok (.ldc 181, 2) := by decide +kernel
theorem dX3_share_51 : decode cX3_share 51 = .ok (.invokespecial 183, 3) := by decide +kernel
theorem dX3_share_54 : decode cX3_share 54 = .ok (.athrow, 1) := by decide +kernel
theorem dX3_share_55 : decode cX3_share 55 = .ok (.iload_n 1, 1) := by decide +kernel
theorem dX3_share_56 : decode cX3_share 56 = .ok (.i2l, 1) := by decide +kernel
theorem dX3_share_57 : decode cX3_share 57 = .ok (.iload_n 2, 1) := by decide +kernel
theorem dX3_share_58 : decode cX3_share 58 = .ok (.i2l, 1) := by decide +kernel
theorem dX3_share_59 : decode cX3_share 59 = .ok (.lmul, 1) := by decide +kernel
theorem dX3_share_60 : decode cX3_share 60 = .ok (.iload 4, 2) := by decide +kernel
theorem dX3_share_62 : decode cX3_share 62 = .ok (.i2l, 1) := by decide +kernel
theorem dX3_share_63 : decode cX3_share 63 = .ok (.ldiv, 1) := by decide +kernel
theorem dX3_share_64 : decode cX3_share 64 = .ok (.lreturn, 1) := by decide +kernel
set_option maxRecDepth 20000 in
theorem ggX3_count_X3_fixedShips : GoodIn wsX3_count wsX3_fixedShips := goodIn_r _ [10, 3, 11, 12, 22, 23, 24, 25, 26, 32, 33, 34, 35, 36, 37, 38, 39, 40, 41, 42] (by decide +kernel) (by decide +kernel)
set_option maxRecDepth 20000 in
theorem gX3_count_X3_fixedShips : GoodIn wsX3_count (wsV RX3 184 RX3 yX3_fixedShips wsX3_fixedShips) := goodIn_app (goodIn_of _ (by decide +kernel)) ggX3_count_X3_fixedShips
set_option maxRecDepth 20000 in
theorem ggX3_count_X3_countOfPlace : GoodIn wsX3_count wsX3_countOfPlace := goodIn_r _ [16, 1, 2, 17, 18, 19, 20, 9, 21, 22, 23, 24, 25, 26, 27, 28, 29, 30, 31] (by decide +kernel) (by decide +kernel)
set_option maxRecDepth 20000 in
theorem gX3_count_X3_countOfPlace : GoodIn wsX3_count (wsV RX3 187 RX3 yX3_countOfPlace wsX3_countOfPlace) := goodIn_app (goodIn_of _ (by decide +kernel)) ggX3_count_X3_countOfPlace
theorem dX3_count_0 : decode cX3_count 0 = .ok (.iload_n 1, 1) := by decide +kernel
theorem dX3_count_1 : decode cX3_count 1 = .ok (.tableswitch 74 0 4 #[35, 43, 48, 56, 69], 35) := by decide +kernel
theorem dX3_count_36 : decode cX3_count 36 = .ok (.aload_n 0, 1) := by decide +kernel
theorem dX3_count_37 : decode cX3_count 37 = .ok (.getfield 23, 3) := by decide +kernel
theorem dX3_count_40 : decode cX3_count 40 = .ok (.getfield 160, 3) := by decide +kernel
theorem dX3_count_43 : decode cX3_count 43 = .ok (.ireturn, 1) := by decide +kernel
theorem dX3_count_44 : decode cX3_count 44 = .ok (.aload_n 0, 1) := by decide +kernel
theorem dX3_count_45 : decode cX3_count 45 = .ok (.getfield 52, 3) := by decide +kernel
theorem dX3_count_48 : decode cX3_count 48 = .ok (.ireturn, 1) := by decide +kernel
theorem dX3_count_49 : decode cX3_count 49 = .ok (.aload_n 0, 1) := by decide +kernel
theorem dX3_count_50 : decode cX3_count 50 = .ok (.getfield 23, 3) := by decide +kernel
theorem dX3_count_53 : decode cX3_count 53 = .ok (.getfield 104, 3) := by decide +kernel
theorem dX3_count_56 : decode cX3_count 56 = .ok (.ireturn, 1) := by decide +kernel
theorem dX3_count_57 : decode cX3_count 57 = .ok (.aload_n 0, 1) := by decide +kernel
theorem dX3_count_58 : decode cX3_count 58 = .ok (.getfield 76, 3) := by decide +kernel
theorem dX3_count_61 : decode cX3_count 61 = .ok (.ifCond .eq 7, 3) := by decide +kernel
theorem dX3_count_64 : decode cX3_count 64 = .ok (.iconst 1, 1) := by decide +kernel
theorem dX3_count_65 : decode cX3_count 65 = .ok (.goto 4, 3) := by decide +kernel
theorem dX3_count_68 : decode cX3_count 68 = .ok (.iconst 0, 1) := by decide +kernel
theorem dX3_count_69 : decode cX3_count 69 = .ok (.ireturn, 1) := by decide +kernel
theorem dX3_count_70 : decode cX3_count 70 = .ok (.aload_n 0, 1) := by decide +kernel
theorem dX3_count_71 : decode cX3_count 71 = .ok (.invokevirtual 184, 3) := by decide +kernel
theorem dX3_count_74 : decode cX3_count 74 = .ok (.ireturn, 1) := by decide +kernel
theorem dX3_count_75 : decode cX3_count 75 = .ok (.aload_n 0, 1) := by decide +kernel
theorem dX3_count_76 : decode cX3_count 76 = .ok (.iload_n 1, 1) := by decide +kernel
theorem dX3_count_77 : decode cX3_count 77 = .ok (.invokevirtual 187, 3) := by decide +kernel
theorem dX3_count_80 : decode cX3_count 80 = .ok (.ireturn, 1) := by decide +kernel
set_option maxRecDepth 20000 in
theorem ggX3_countOfPlace_X3_isWithin : GoodIn wsX3_countOfPlace wsX3_isWithin := goodIn_r _ [8] (by decide +kernel) (by decide +kernel)
set_option maxRecDepth 20000 in
theorem gX3_countOfPlace_X3_isWithin : GoodIn wsX3_countOfPlace (va_wsS RX3 41 yX3_isWithin wsX3_isWithin) := goodIn_app (goodIn_of _ (by decide +kernel)) ggX3_countOfPlace_X3_isWithin
theorem dX3_countOfPlace_0 : decode cX3_countOfPlace 0 = .ok (.iload_n 1, 1) := by decide +kernel
theorem dX3_countOfPlace_1 : decode cX3_countOfPlace 1 = .ok (.bipush 10, 2) := by decide +kernel
theorem dX3_countOfPlace_3 : decode cX3_countOfPlace 3 = .ok (.bipush 10, 2) := by decide +kernel
theorem dX3_countOfPlace_5 : decode cX3_countOfPlace 5 = .ok (.aload_n 0, 1) := by decide +kernel
theorem dX3_countOfPlace_6 : decode cX3_countOfPlace 6 = .ok (.getfield 23, 3) := by decide +kernel
theorem dX3_countOfPlace_9 : decode cX3_countOfPlace 9 = .ok (.getfield 160, 3) := by decide +kernel
theorem dX3_countOfPlace_12 : decode cX3_countOfPlace 12 = .ok (.iadd, 1) := by decide +kernel
theorem dX3_countOfPlace_13 : decode cX3_countOfPlace 13 = .ok (.iconst 1, 1) := by decide +kernel
theorem dX3_countOfPlace_14 : decode cX3_countOfPlace 14 = .ok (.isub, 1) := by decide +kernel
theorem dX3_countOfPlace_15 : decode cX3_countOfPlace 15 = .ok (.invokestatic 41, 3) := by decide +kernel
theorem dX3_countOfPlace_18 : decode cX3_countOfPlace 18 = .ok (.ifCond .eq 16, 3) := by decide +kernel
theorem dX3_countOfPlace_21 : decode cX3_countOfPlace 21 = .ok (.aload_n 0, 1) := by decide +kernel
theorem dX3_countOfPlace_22 : decode cX3_countOfPlace 22 = .ok (.getfield 23, 3) := by decide +kernel
theorem dX3_countOfPlace_25 : decode cX3_countOfPlace 25 = .ok (.getfield 84, 3) := by decide +kernel
theorem dX3_countOfPlace_28 : decode cX3_countOfPlace 28 = .ok (.iload_n 1, 1) := by decide +kernel
theorem dX3_countOfPlace_29 : decode cX3_countOfPlace 29 = .ok (.bipush 10, 2) := by decide +kernel
theorem dX3_countOfPlace_31 : decode cX3_countOfPlace 31 = .ok (.isub, 1) := by decide +kernel
theorem dX3_countOfPlace_32 : decode cX3_countOfPlace 32 = .ok (.iaload, 1) := by decide +kernel
theorem dX3_countOfPlace_33 : decode cX3_countOfPlace 33 = .ok (.ireturn, 1) := by decide +kernel
theorem dX3_countOfPlace_34 : decode cX3_countOfPlace 34 = .ok (.iload_n 1, 1) := by decide +kernel
theorem dX3_countOfPlace_35 : decode cX3_countOfPlace 35 = .ok (.bipush 20, 2) := by decide +kernel
theorem dX3_countOfPlace_37 : decode cX3_countOfPlace 37 = .ok (.bipush 20, 2) := by decide +kernel
theorem dX3_countOfPlace_39 : decode cX3_countOfPlace 39 = .ok (.aload_n 0, 1) := by decide +kernel
theorem dX3_countOfPlace_40 : decode cX3_countOfPlace 40 = .ok (.getfield 23, 3) := by decide +kernel
theorem dX3_countOfPlace_43 : decode cX3_countOfPlace 43 = .ok (.getfield 160, 3) := by decide +kernel
theorem dX3_countOfPlace_46 : decode cX3_countOfPlace 46 = .ok (.iadd, 1) := by decide +kernel
theorem dX3_countOfPlace_47 : decode cX3_countOfPlace 47 = .ok (.iconst 1, 1) := by decide +kernel
theorem dX3_countOfPlace_48 : decode cX3_countOfPlace 48 = .ok (.isub, 1) := by decide +kernel
theorem dX3_countOfPlace_49 : decode cX3_countOfPlace 49 = .ok (.invokestatic 41, 3) := by decide +kernel
theorem dX3_countOfPlace_52 : decode cX3_countOfPlace 52 = .ok (.ifCond .eq 16, 3) := by decide +kernel
theorem dX3_countOfPlace_55 : decode cX3_countOfPlace 55 = .ok (.aload_n 0, 1) := by decide +kernel
theorem dX3_countOfPlace_56 : decode cX3_countOfPlace 56 = .ok (.getfield 23, 3) := by decide +kernel
theorem dX3_countOfPlace_59 : decode cX3_countOfPlace 59 = .ok (.getfield 91, 3) := by decide +kernel
theorem dX3_countOfPlace_62 : decode cX3_countOfPlace 62 = .ok (.iload_n 1, 1) := by decide +kernel
theorem dX3_countOfPlace_63 : decode cX3_countOfPlace 63 = .ok (.bipush 20, 2) := by decide +kernel
theorem dX3_countOfPlace_65 : decode cX3_countOfPlace 65 = .ok (.isub, 1) := by decide +kernel
theorem dX3_countOfPlace_66 : decode cX3_countOfPlace 66 = .ok (.iaload, 1) := by decide +kernel
theorem dX3_countOfPlace_67 : decode cX3_countOfPlace 67 = .ok (.ireturn, 1) := by decide +kernel
theorem dX3_countOfPlace_68 : decode cX3_countOfPlace 68 = .ok (.iconst (-1), 1) := by decide +kernel
theorem dX3_countOfPlace_69 : decode cX3_countOfPlace 69 = .ok (.ireturn, 1) := by decide +kernel
theorem dX3_fixedShips_0 : decode cX3_fixedShips 0 = .ok (.iconst 0, 1) := by decide +kernel
theorem dX3_fixedShips_1 : decode cX3_fixedShips 1 = .ok (.istore_n 1, 1) := by decide +kernel
theorem dX3_fixedShips_2 : decode cX3_fixedShips 2 = .ok (.iconst 0, 1) := by decide +kernel
theorem dX3_fixedShips_3 : decode cX3_fixedShips 3 = .ok (.istore_n 2, 1) := by decide +kernel
theorem dX3_fixedShips_4 : decode cX3_fixedShips 4 = .ok (.iload_n 2, 1) := by decide +kernel
theorem dX3_fixedShips_5 : decode cX3_fixedShips 5 = .ok (.aload_n 0, 1) := by decide +kernel
theorem dX3_fixedShips_6 : decode cX3_fixedShips 6 = .ok (.getfield 52, 3) := by decide +kernel
theorem dX3_fixedShips_9 : decode cX3_fixedShips 9 = .ok (.if_icmp .ge 24, 3) := by decide +kernel
theorem dX3_fixedShips_12 : decode cX3_fixedShips 12 = .ok (.aload_n 0, 1) := by decide +kernel
theorem dX3_fixedShips_13 : decode cX3_fixedShips 13 = .ok (.getfield 29, 3) := by decide +kernel
theorem dX3_fixedShips_16 : decode cX3_fixedShips 16 = .ok (.iload_n 2, 1) := by decide +kernel
theorem dX3_fixedShips_17 : decode cX3_fixedShips 17 = .ok (.aaload, 1) := by decide +kernel
theorem dX3_fixedShips_18 : decode cX3_fixedShips 18 = .ok (.getfield 119, 3) := by decide +kernel
theorem dX3_fixedShips_21 : decode cX3_fixedShips 21 = .ok (.ifCond .eq 6, 3) := by decide +kernel
theorem dX3_fixedShips_24 : decode cX3_fixedShips 24 = .ok (.iinc 1 1, 3) := by decide +kernel
theorem dX3_fixedShips_27 : decode cX3_fixedShips 27 = .ok (.iinc 2 1, 3) := by decide +kernel
theorem dX3_fixedShips_30 : decode cX3_fixedShips 30 = .ok (.goto (-26), 3) := by decide +kernel
theorem dX3_fixedShips_33 : decode cX3_fixedShips 33 = .ok (.iload_n 1, 1) := by decide +kernel
theorem dX3_fixedShips_34 : decode cX3_fixedShips 34 = .ok (.ireturn, 1) := by decide +kernel
theorem dX3_isShip_0 : decode cX3_isShip 0 = .ok (.iload_n 1, 1) := by decide +kernel
theorem dX3_isShip_1 : decode cX3_isShip 1 = .ok (.ifCond .lt 15, 3) := by decide +kernel
theorem dX3_isShip_4 : decode cX3_isShip 4 = .ok (.iload_n 1, 1) := by decide +kernel
theorem dX3_isShip_5 : decode cX3_isShip 5 = .ok (.aload_n 0, 1) := by decide +kernel
theorem dX3_isShip_6 : decode cX3_isShip 6 = .ok (.getfield 52, 3) := by decide +kernel
theorem dX3_isShip_9 : decode cX3_isShip 9 = .ok (.if_icmp .ge 7, 3) := by decide +kernel
theorem dX3_isShip_12 : decode cX3_isShip 12 = .ok (.iconst 1, 1) := by decide +kernel
theorem dX3_isShip_13 : decode cX3_isShip 13 = .ok (.goto 4, 3) := by decide +kernel
theorem dX3_isShip_16 : decode cX3_isShip 16 = .ok (.iconst 0, 1) := by decide +kernel
theorem dX3_isShip_17 : decode cX3_isShip 17 = .ok (.ireturn, 1) := by decide +kernel
set_option maxRecDepth 20000 in
theorem ggX3_meetsFixed_X3_spansMeet : GoodIn wsX3_meetsFixed wsX3_spansMeet := goodIn_r _ [11] (by decide +kernel) (by decide +kernel)
set_option maxRecDepth 20000 in
theorem gX3_meetsFixed_X3_spansMeet : GoodIn wsX3_meetsFixed (va_wsS RX3 190 yX3_spansMeet wsX3_spansMeet) := goodIn_app (goodIn_of _ (by decide +kernel)) ggX3_meetsFixed_X3_spansMeet
theorem dX3_meetsFixed_0 : decode cX3_meetsFixed 0 = .ok (.aload_n 0, 1) := by decide +kernel
theorem dX3_meetsFixed_1 : decode cX3_meetsFixed 1 = .ok (.getfield 29, 3) := by decide +kernel
theorem dX3_meetsFixed_4 : decode cX3_meetsFixed 4 = .ok (.iload_n 1, 1) := by decide +kernel
theorem dX3_meetsFixed_5 : decode cX3_meetsFixed 5 = .ok (.aaload, 1) := by decide +kernel
theorem dX3_meetsFixed_6 : decode cX3_meetsFixed 6 = .ok (.astore 4, 2) := by decide +kernel
theorem dX3_meetsFixed_8 : decode cX3_meetsFixed 8 = .ok (.iconst 0, 1) := by decide +kernel
theorem dX3_meetsFixed_9 : decode cX3_meetsFixed 9 = .ok (.istore 5, 2) := by decide +kernel
theorem dX3_meetsFixed_11 : decode cX3_meetsFixed 11 = .ok (.iload 5, 2) := by decide +kernel
theorem dX3_meetsFixed_13 : decode cX3_meetsFixed 13 = .ok (.aload_n 0, 1) := by decide +kernel
theorem dX3_meetsFixed_14 : decode cX3_meetsFixed 14 = .ok (.getfield 52, 3) := by decide +kernel
theorem dX3_meetsFixed_17 : decode cX3_meetsFixed 17 = .ok (.if_icmp .ge 78, 3) := by decide +kernel
theorem dX3_meetsFixed_20 : decode cX3_meetsFixed 20 = .ok (.aload_n 0, 1) := by decide +kernel
theorem dX3_meetsFixed_21 : decode cX3_meetsFixed 21 = .ok (.getfield 29, 3) := by decide +kernel
theorem dX3_meetsFixed_24 : decode cX3_meetsFixed 24 = .ok (.iload 5, 2) := by decide +kernel
theorem dX3_meetsFixed_26 : decode cX3_meetsFixed 26 = .ok (.aaload, 1) := by decide +kernel
theorem dX3_meetsFixed_27 : decode cX3_meetsFixed 27 = .ok (.astore 6, 2) := by decide +kernel
theorem dX3_meetsFixed_29 : decode cX3_meetsFixed 29 = .ok (.iload 5, 2) := by decide +kernel
theorem dX3_meetsFixed_31 : decode cX3_meetsFixed 31 = .ok (.iload_n 1, 1) := by decide +kernel
theorem dX3_meetsFixed_32 : decode cX3_meetsFixed 32 = .ok (.if_icmp .eq 57, 3) := by decide +kernel
theorem dX3_meetsFixed_35 : decode cX3_meetsFixed 35 = .ok (.aload 6, 2) := by decide +kernel
theorem dX3_meetsFixed_37 : decode cX3_meetsFixed 37 = .ok (.getfield 119, 3) := by decide +kernel
theorem dX3_meetsFixed_40 : decode cX3_meetsFixed 40 = .ok (.ifCond .eq 49, 3) := by decide +kernel
theorem dX3_meetsFixed_43 : decode cX3_meetsFixed 43 = .ok (.iload_n 2, 1) := by decide +kernel
theorem dX3_meetsFixed_44 : decode cX3_meetsFixed 44 = .ok (.aload 4, 2) := by decide +kernel
theorem dX3_meetsFixed_46 : decode cX3_meetsFixed 46 = .ok (.getfield 61, 3) := by decide +kernel
theorem dX3_meetsFixed_49 : decode cX3_meetsFixed 49 = .ok (.aload 6, 2) := by decide +kernel
theorem dX3_meetsFixed_51 : decode cX3_meetsFixed 51 = .ok (.getfield 122, 3) := by decide +kernel
theorem dX3_meetsFixed_54 : decode cX3_meetsFixed 54 = .ok (.aload 6, 2) := by decide +kernel
theorem dX3_meetsFixed_56 : decode cX3_meetsFixed 56 = .ok (.getfield 61, 3) := by decide +kernel
theorem dX3_meetsFixed_59 : decode cX3_meetsFixed 59 = .ok (.invokestatic 190, 3) := by decide +kernel
theorem dX3_meetsFixed_62 : decode cX3_meetsFixed 62 = .ok (.ifCond .eq 27, 3) := by decide +kernel
theorem dX3_meetsFixed_65 : decode cX3_meetsFixed 65 = .ok (.iload_n 3, 1) := by decide +kernel
theorem dX3_meetsFixed_66 : decode cX3_meetsFixed 66 = .ok (.aload 4, 2) := by decide +kernel
theorem dX3_meetsFixed_68 : decode cX3_meetsFixed 68 = .ok (.getfield 67, 3) := by decide +kernel
theorem dX3_meetsFixed_71 : decode cX3_meetsFixed 71 = .ok (.aload 6, 2) := by decide +kernel
theorem dX3_meetsFixed_73 : decode cX3_meetsFixed 73 = .ok (.getfield 125, 3) := by decide +kernel
theorem dX3_meetsFixed_76 : decode cX3_meetsFixed 76 = .ok (.aload 6, 2) := by decide +kernel
theorem dX3_meetsFixed_78 : decode cX3_meetsFixed 78 = .ok (.getfield 67, 3) := by decide +kernel
theorem dX3_meetsFixed_81 : decode cX3_meetsFixed 81 = .ok (.invokestatic 190, 3) := by decide +kernel
theorem dX3_meetsFixed_84 : decode cX3_meetsFixed 84 = .ok (.ifCond .eq 5, 3) := by decide +kernel
theorem dX3_meetsFixed_87 : decode cX3_meetsFixed 87 = .ok (.iconst 1, 1) := by decide +kernel
theorem dX3_meetsFixed_88 : decode cX3_meetsFixed 88 = .ok (.ireturn, 1) := by decide +kernel
theorem dX3_meetsFixed_89 : decode cX3_meetsFixed 89 = .ok (.iinc 5 1, 3) := by decide +kernel
theorem dX3_meetsFixed_92 : decode cX3_meetsFixed 92 = .ok (.goto (-81), 3) := by decide +kernel
theorem dX3_meetsFixed_95 : decode cX3_meetsFixed 95 = .ok (.iconst 0, 1) := by decide +kernel
theorem dX3_meetsFixed_96 : decode cX3_meetsFixed 96 = .ok (.ireturn, 1) := by decide +kernel
set_option maxRecDepth 20000 in
theorem ggX3_moveShips_X2_moveTo : GoodIn wsX3_moveShips wsX2_moveTo := goodIn_r _ [10, 11, 12, 27, 28, 29, 30, 31, 32, 33, 34, 35, 36, 37] (by decide +kernel) (by decide +kernel)
set_option maxRecDepth 20000 in
theorem gX3_moveShips_X2_moveTo : GoodIn wsX3_moveShips (wsV RX3 200 RX2 yX2_moveTo wsX2_moveTo) := goodIn_app (goodIn_of _ (by decide +kernel)) ggX3_moveShips_X2_moveTo
theorem dX3_moveShips_0 : decode cX3_moveShips 0 = .ok (.iconst 0, 1) := by decide +kernel
theorem dX3_moveShips_1 : decode cX3_moveShips 1 = .ok (.istore_n 1, 1) := by decide +kernel
theorem dX3_moveShips_2 : decode cX3_moveShips 2 = .ok (.iconst 0, 1) := by decide +kernel
theorem dX3_moveShips_3 : decode cX3_moveShips 3 = .ok (.istore_n 2, 1) := by decide +kernel
theorem dX3_moveShips_4 : decode cX3_moveShips 4 = .ok (.iload_n 2, 1) := by decide +kernel
theorem dX3_moveShips_5 : decode cX3_moveShips 5 = .ok (.aload_n 0, 1) := by decide +kernel
theorem dX3_moveShips_6 : decode cX3_moveShips 6 = .ok (.getfield 52, 3) := by decide +kernel
theorem dX3_moveShips_9 : decode cX3_moveShips 9 = .ok (.if_icmp .ge 42, 3) := by decide +kernel
theorem dX3_moveShips_12 : decode cX3_moveShips 12 = .ok (.aload_n 0, 1) := by decide +kernel
theorem dX3_moveShips_13 : decode cX3_moveShips 13 = .ok (.getfield 29, 3) := by decide +kernel
theorem dX3_moveShips_16 : decode cX3_moveShips 16 = .ok (.iload_n 2, 1) := by decide +kernel
theorem dX3_moveShips_17 : decode cX3_moveShips 17 = .ok (.aaload, 1) := by decide +kernel
theorem dX3_moveShips_18 : decode cX3_moveShips 18 = .ok (.aload_n 0, 1) := by decide +kernel
theorem dX3_moveShips_19 : decode cX3_moveShips 19 = .ok (.getfield 37, 3) := by decide +kernel
theorem dX3_moveShips_22 : decode cX3_moveShips 22 = .ok (.getfield 194, 3) := by decide +kernel
theorem dX3_moveShips_25 : decode cX3_moveShips 25 = .ok (.iload_n 2, 1) := by decide +kernel
theorem dX3_moveShips_26 : decode cX3_moveShips 26 = .ok (.iaload, 1) := by decide +kernel
theorem dX3_moveShips_27 : decode cX3_moveShips 27 = .ok (.aload_n 0, 1) := by decide +kernel
theorem dX3_moveShips_28 : decode cX3_moveShips 28 = .ok (.getfield 37, 3) := by decide +kernel
theorem dX3_moveShips_31 : decode cX3_moveShips 31 = .ok (.getfield 197, 3) := by decide +kernel
theorem dX3_moveShips_34 : decode cX3_moveShips 34 = .ok (.iload_n 2, 1) := by decide +kernel
theorem dX3_moveShips_35 : decode cX3_moveShips 35 = .ok (.iaload, 1) := by decide +kernel
theorem dX3_moveShips_36 : decode cX3_moveShips 36 = .ok (.invokevirtual 200, 3) := by decide +kernel
theorem dX3_moveShips_39 : decode cX3_moveShips 39 = .ok (.ifCond .eq 6, 3) := by decide +kernel
theorem dX3_moveShips_42 : decode cX3_moveShips 42 = .ok (.iinc 1 1, 3) := by decide +kernel
theorem dX3_moveShips_45 : decode cX3_moveShips 45 = .ok (.iinc 2 1, 3) := by decide +kernel
theorem dX3_moveShips_48 : decode cX3_moveShips 48 = .ok (.goto (-44), 3) := by decide +kernel
theorem dX3_moveShips_51 : decode cX3_moveShips 51 = .ok (.iload_n 1, 1) := by decide +kernel
theorem dX3_moveShips_52 : decode cX3_moveShips 52 = .ok (.ireturn, 1) := by decide +kernel
theorem dX3_isWithin_0 : decode cX3_isWithin 0 = .ok (.iload_n 0, 1) := by decide +kernel
theorem dX3_isWithin_1 : decode cX3_isWithin 1 = .ok (.iload_n 1, 1) := by decide +kernel
theorem dX3_isWithin_2 : decode cX3_isWithin 2 = .ok (.if_icmp .lt 12, 3) := by decide +kernel
theorem dX3_isWithin_5 : decode cX3_isWithin 5 = .ok (.iload_n 0, 1) := by decide +kernel
theorem dX3_isWithin_6 : decode cX3_isWithin 6 = .ok (.iload_n 2, 1) := by decide +kernel
theorem dX3_isWithin_7 : decode cX3_isWithin 7 = .ok (.if_icmp .gt 7, 3) := by decide +kernel
theorem dX3_isWithin_10 : decode cX3_isWithin 10 = .ok (.iconst 1, 1) := by decide +kernel
theorem dX3_isWithin_11 : decode cX3_isWithin 11 = .ok (.goto 4, 3) := by decide +kernel
theorem dX3_isWithin_14 : decode cX3_isWithin 14 = .ok (.iconst 0, 1) := by decide +kernel
theorem dX3_isWithin_15 : decode cX3_isWithin 15 = .ok (.ireturn, 1) := by decide +kernel
theorem dX3_isKind_0 : decode cX3_isKind 0 = .ok (.iload_n 0, 1) := by decide +kernel
theorem dX3_isKind_1 : decode cX3_isKind 1 = .ok (.ifCond .lt 13, 3) := by decide +kernel
theorem dX3_isKind_4 : decode cX3_isKind 4 = .ok (.iload_n 0, 1) := by decide +kernel
theorem dX3_isKind_5 : decode cX3_isKind 5 = .ok (.bipush 8, 2) := by decide +kernel
theorem dX3_isKind_7 : decode cX3_isKind 7 = .ok (.if_icmp .ge 7, 3) := by decide +kernel
theorem dX3_isKind_10 : decode cX3_isKind 10 = .ok (.iconst 1, 1) := by decide +kernel
theorem dX3_isKind_11 : decode cX3_isKind 11 = .ok (.goto 4, 3) := by decide +kernel
theorem dX3_isKind_14 : decode cX3_isKind 14 = .ok (.iconst 0, 1) := by decide +kernel
theorem dX3_isKind_15 : decode cX3_isKind 15 = .ok (.ireturn, 1) := by decide +kernel
theorem dX3_hasBit_0 : decode cX3_hasBit 0 = .ok (.iload_n 0, 1) := by decide +kernel
theorem dX3_hasBit_1 : decode cX3_hasBit 1 = .ok (.iload_n 1, 1) := by decide +kernel
theorem dX3_hasBit_2 : decode cX3_hasBit 2 = .ok (.ishr, 1) := by decide +kernel
theorem dX3_hasBit_3 : decode cX3_hasBit 3 = .ok (.iconst 1, 1) := by decide +kernel
theorem dX3_hasBit_4 : decode cX3_hasBit 4 = .ok (.iand, 1) := by decide +kernel
theorem dX3_hasBit_5 : decode cX3_hasBit 5 = .ok (.ifCond .eq 7, 3) := by decide +kernel
theorem dX3_hasBit_8 : decode cX3_hasBit 8 = .ok (.iconst 1, 1) := by decide +kernel
theorem dX3_hasBit_9 : decode cX3_hasBit 9 = .ok (.goto 4, 3) := by decide +kernel
theorem dX3_hasBit_12 : decode cX3_hasBit 12 = .ok (.iconst 0, 1) := by decide +kernel
theorem dX3_hasBit_13 : decode cX3_hasBit 13 = .ok (.ireturn, 1) := by decide +kernel
theorem dX3_isSpanAt_0 : decode cX3_isSpanAt 0 = .ok (.iload_n 2, 1) := by decide +kernel
theorem dX3_isSpanAt_1 : decode cX3_isSpanAt 1 = .ok (.iload_n 0, 1) := by decide +kernel
theorem dX3_isSpanAt_2 : decode cX3_isSpanAt 2 = .ok (.if_icmp .lt 14, 3) := by decide +kernel
theorem dX3_isSpanAt_5 : decode cX3_isSpanAt 5 = .ok (.iload_n 2, 1) := by decide +kernel
theorem dX3_isSpanAt_6 : decode cX3_isSpanAt 6 = .ok (.iload_n 0, 1) := by decide +kernel
theorem dX3_isSpanAt_7 : decode cX3_isSpanAt 7 = .ok (.iload_n 1, 1) := by decide +kernel
theorem dX3_isSpanAt_8 : decode cX3_isSpanAt 8 = .ok (.iadd, 1) := by decide +kernel
theorem dX3_isSpanAt_9 : decode cX3_isSpanAt 9 = .ok (.if_icmp .ge 7, 3) := by decide +kernel
theorem dX3_isSpanAt_12 : decode cX3_isSpanAt 12 = .ok (.iconst 1, 1) := by decide +kernel
theorem dX3_isSpanAt_13 : decode cX3_isSpanAt 13 = .ok (.goto 4, 3) := by decide +kernel
theorem dX3_isSpanAt_16 : decode cX3_isSpanAt 16 = .ok (.iconst 0, 1) := by decide +kernel
theorem dX3_isSpanAt_17 : decode cX3_isSpanAt 17 = .ok (.ireturn, 1) := by decide +kernel
theorem dX3_spansMeet_0 : decode cX3_spansMeet 0 = .ok (.iload_n 0, 1) := by decide +kernel
theorem dX3_spansMeet_1 : decode cX3_spansMeet 1 = .ok (.iload_n 2, 1) := by decide +kernel
theorem dX3_spansMeet_2 : decode cX3_spansMeet 2 = .ok (.iload_n 3, 1) := by decide +kernel
theorem dX3_spansMeet_3 : decode cX3_spansMeet 3 = .ok (.iadd, 1) := by decide +kernel
theorem dX3_spansMeet_4 : decode cX3_spansMeet 4 = .ok (.if_icmp .ge 14, 3) := by decide +kernel
theorem dX3_spansMeet_7 : decode cX3_spansMeet 7 = .ok (.iload_n 2, 1) := by decide +kernel
theorem dX3_spansMeet_8 : decode cX3_spansMeet 8 = .ok (.iload_n 0, 1) := by decide +kernel
theorem dX3_spansMeet_9 : decode cX3_spansMeet 9 = .ok (.iload_n 1, 1) := by decide +kernel
theorem dX3_spansMeet_10 : decode cX3_spansMeet 10 = .ok (.iadd, 1) := by decide +kernel
theorem dX3_spansMeet_11 : decode cX3_spansMeet 11 = .ok (.if_icmp .ge 7, 3) := by decide +kernel
theorem dX3_spansMeet_14 : decode cX3_spansMeet 14 = .ok (.iconst 1, 1) := by decide +kernel
theorem dX3_spansMeet_15 : decode cX3_spansMeet 15 = .ok (.goto 4, 3) := by decide +kernel
theorem dX3_spansMeet_18 : decode cX3_spansMeet 18 = .ok (.iconst 0, 1) := by decide +kernel
theorem dX3_spansMeet_19 : decode cX3_spansMeet 19 = .ok (.ireturn, 1) := by decide +kernel
theorem dX3_beginsBetween_0 : decode cX3_beginsBetween 0 = .ok (.iload_n 0, 1) := by decide +kernel
theorem dX3_beginsBetween_1 : decode cX3_beginsBetween 1 = .ok (.ifCond .le 7, 3) := by decide +kernel
theorem dX3_beginsBetween_4 : decode cX3_beginsBetween 4 = .ok (.iload_n 0, 1) := by decide +kernel
theorem dX3_beginsBetween_5 : decode cX3_beginsBetween 5 = .ok (.goto 4, 3) := by decide +kernel
theorem dX3_beginsBetween_8 : decode cX3_beginsBetween 8 = .ok (.iconst 0, 1) := by decide +kernel
theorem dX3_beginsBetween_9 : decode cX3_beginsBetween 9 = .ok (.istore_n 2, 1) := by decide +kernel
theorem dX3_beginsBetween_10 : decode cX3_beginsBetween 10 = .ok (.iload_n 1, 1) := by decide +kernel
theorem dX3_beginsBetween_11 : decode cX3_beginsBetween 11 = .ok (.bipush 15, 2) := by decide +kernel
theorem dX3_beginsBetween_13 : decode cX3_beginsBetween 13 = .ok (.if_icmp .ge 7, 3) := by decide +kernel
theorem dX3_beginsBetween_16 : decode cX3_beginsBetween 16 = .ok (.iload_n 1, 1) := by decide +kernel
theorem dX3_beginsBetween_17 : decode cX3_beginsBetween 17 = .ok (.goto 5, 3) := by decide +kernel
theorem dX3_beginsBetween_20 : decode cX3_beginsBetween 20 = .ok (.bipush 15, 2) := by decide +kernel
theorem dX3_beginsBetween_22 : decode cX3_beginsBetween 22 = .ok (.istore_n 3, 1) := by decide +kernel
theorem dX3_beginsBetween_23 : decode cX3_beginsBetween 23 = .ok (.iload_n 2, 1) := by decide +kernel
theorem dX3_beginsBetween_24 : decode cX3_beginsBetween 24 = .ok (.iload_n 3, 1) := by decide +kernel
theorem dX3_beginsBetween_25 : decode cX3_beginsBetween 25 = .ok (.if_icmp .le 7, 3) := by decide +kernel
theorem dX3_beginsBetween_28 : decode cX3_beginsBetween 28 = .ok (.iconst 0, 1) := by decide +kernel
theorem dX3_beginsBetween_29 : decode cX3_beginsBetween 29 = .ok (.goto 14, 3) := by decide +kernel
theorem dX3_beginsBetween_32 : decode cX3_beginsBetween 32 = .ok (.iconst 1, 1) := by decide +kernel
theorem dX3_beginsBetween_33 : decode cX3_beginsBetween 33 = .ok (.iload_n 3, 1) := by decide +kernel
theorem dX3_beginsBetween_34 : decode cX3_beginsBetween 34 = .ok (.iload_n 2, 1) := by decide +kernel
theorem dX3_beginsBetween_35 : decode cX3_beginsBetween 35 = .ok (.isub, 1) := by decide +kernel
theorem dX3_beginsBetween_36 : decode cX3_beginsBetween 36 = .ok (.iconst 1, 1) := by decide +kernel
theorem dX3_beginsBetween_37 : decode cX3_beginsBetween 37 = .ok (.iadd, 1) := by decide +kernel
theorem dX3_beginsBetween_38 : decode cX3_beginsBetween 38 = .ok (.ishl, 1) := by decide +kernel
theorem dX3_beginsBetween_39 : decode cX3_beginsBetween 39 = .ok (.iconst 1, 1) := by decide +kernel
theorem dX3_beginsBetween_40 : decode cX3_beginsBetween 40 = .ok (.isub, 1) := by decide +kernel
theorem dX3_beginsBetween_41 : decode cX3_beginsBetween 41 = .ok (.iload_n 2, 1) := by decide +kernel
theorem dX3_beginsBetween_42 : decode cX3_beginsBetween 42 = .ok (.ishl, 1) := by decide +kernel
theorem dX3_beginsBetween_43 : decode cX3_beginsBetween 43 = .ok (.ireturn, 1) := by decide +kernel
