theorem dX4_init_0 : decode cX4_init 0 = .ok (.aload_n 0, 1) := by decide +kernel
theorem dX4_init_1 : decode cX4_init 1 = .ok (.invokespecial 1, 3) := by decide +kernel
theorem dX4_init_4 : decode cX4_init 4 = .ok (.aload_n 0, 1) := by decide +kernel
theorem dX4_init_5 : decode cX4_init 5 = .ok (.bipush 6, 2) := by decide +kernel
theorem dX4_init_7 : decode cX4_init 7 = .ok (.newarray .int, 2) := by decide +kernel
theorem dX4_init_9 : decode cX4_init 9 = .ok (.dup, 1) := by decide +kernel
theorem dX4_init_10 : decode cX4_init 10 = .ok (.iconst 0, 1) := by decide +kernel
theorem dX4_init_11 : decode cX4_init 11 = .ok (.bipush 20, 2) := by decide +kernel
theorem dX4_init_13 : decode cX4_init 13 = .ok (.iastore, 1) := by decide +kernel
theorem dX4_init_14 : decode cX4_init 14 = .ok (.dup, 1) := by decide +kernel
theorem dX4_init_15 : decode cX4_init 15 = .ok (.iconst 1, 1) := by decide +kernel
theorem dX4_init_16 : decode cX4_init 16 = .ok (.bipush 20, 2) := by decide +kernel
theorem dX4_init_18 : decode cX4_init 18 = .ok (.iastore, 1) := by decide +kernel
theorem dX4_init_19 : decode cX4_init 19 = .ok (.dup, 1) := by decide +kernel
theorem dX4_init_20 : decode cX4_init 20 = .ok (.iconst 2, 1) := by decide +kernel
theorem dX4_init_21 : decode cX4_init 21 = .ok (.bipush 20, 2) := by decide +kernel
theorem dX4_init_23 : decode cX4_init 23 = .ok (.iastore, 1) := by decide +kernel
theorem dX4_init_24 : decode cX4_init 24 = .ok (.dup, 1) := by decide +kernel
theorem dX4_init_25 : decode cX4_init 25 = .ok (.iconst 3, 1) := by decide +kernel
theorem dX4_init_26 : decode cX4_init 26 = .ok (.bipush 20, 2) := by decide +kernel
theorem dX4_init_28 : decode cX4_init 28 = .ok (.iastore, 1) := by decide +kernel
theorem dX4_init_29 : decode cX4_init 29 = .ok (.dup, 1) := by decide +kernel
theorem dX4_init_30 : decode cX4_init 30 = .ok (.iconst 4, 1) := by decide +kernel
theorem dX4_init_31 : decode cX4_init 31 = .ok (.bipush 20, 2) := by decide +kernel
theorem dX4_init_33 : decode cX4_init 33 = .ok (.iastore, 1) := by decide +kernel
theorem dX4_init_34 : decode cX4_init 34 = .ok (.dup, 1) := by decide +kernel
theorem dX4_init_35 : decode cX4_init 35 = .ok (.iconst 5, 1) := by decide +kernel
theorem dX4_init_36 : decode cX4_init 36 = .ok (.bipush 20, 2) := by decide +kernel
theorem dX4_init_38 : decode cX4_init 38 = .ok (.iastore, 1) := by decide +kernel
theorem dX4_init_39 : decode cX4_init 39 = .ok (.putfield 7, 3) := by decide +kernel
theorem dX4_init_42 : decode cX4_init 42 = .ok (.aload_n 0, 1) := by decide +kernel
theorem dX4_init_43 : decode cX4_init 43 = .ok (.bipush 6, 2) := by decide +kernel
theorem dX4_init_45 : decode cX4_init 45 = .ok (.newarray .int, 2) := by decide +kernel
theorem dX4_init_47 : decode cX4_init 47 = .ok (.putfield 13, 3) := by decide +kernel
theorem dX4_init_50 : decode cX4_init 50 = .ok (.aload_n 0, 1) := by decide +kernel
theorem dX4_init_51 : decode cX4_init 51 = .ok (.bipush 8, 2) := by decide +kernel
theorem dX4_init_53 : decode cX4_init 53 = .ok (.newarray .int, 2) := by decide +kernel
theorem dX4_init_55 : decode cX4_init 55 = .ok (.putfield 16, 3) := by decide +kernel
theorem dX4_init_58 : decode cX4_init 58 = .ok (.aload_n 0, 1) := by decide +kernel
theorem dX4_init_59 : decode cX4_init 59 = .ok (.bipush 8, 2) := by decide +kernel
theorem dX4_init_61 : decode cX4_init 61 = .ok (.newarray .int, 2) := by decide +kernel
theorem dX4_init_63 : decode cX4_init 63 = .ok (.putfield 19, 3) := by decide +kernel
theorem dX4_init_66 : decode cX4_init 66 = .ok (.aload_n 0, 1) := by decide +kernel
theorem dX4_init_67 : decode cX4_init 67 = .ok (.iconst 4, 1) := by decide +kernel
theorem dX4_init_68 : decode cX4_init 68 = .ok (.newarray .int, 2) := by decide +kernel
theorem dX4_init_70 : decode cX4_init 70 = .ok (.putfield 22, 3) := by decide +kernel
theorem dX4_init_73 : decode cX4_init 73 = .ok (.aload_n 0, 1) := by decide +kernel
theorem dX4_init_74 : decode cX4_init 74 = .ok (.iconst 4, 1) := by decide +kernel
theorem dX4_init_75 : decode cX4_init 75 = .ok (.newarray .int, 2) := by decide +kernel
theorem dX4_init_77 : decode cX4_init 77 = .ok (.putfield 25, 3) := by decide +kernel
theorem dX4_init_80 : decode cX4_init 80 = .ok (.aload_n 0, 1) := by decide +kernel
theorem dX4_init_81 : decode cX4_init 81 = .ok (.iconst 4, 1) := by decide +kernel
theorem dX4_init_82 : decode cX4_init 82 = .ok (.newarray .int, 2) := by decide +kernel
theorem dX4_init_84 : decode cX4_init 84 = .ok (.putfield 28, 3) := by decide +kernel
theorem dX4_init_87 : decode cX4_init 87 = .ok (.aload_n 0, 1) := by decide +kernel
theorem dX4_init_88 : decode cX4_init 88 = .ok (.iconst 4, 1) := by decide +kernel
theorem dX4_init_89 : decode cX4_init 89 = .ok (.newarray .int, 2) := by decide +kernel
theorem dX4_init_91 : decode cX4_init 91 = .ok (.putfield 31, 3) := by decide +kernel
theorem dX4_init_94 : decode cX4_init 94 = .ok (.aload_n 0, 1) := by decide +kernel
theorem dX4_init_95 : decode cX4_init 95 = .ok (.iconst 4, 1) := by decide +kernel
theorem dX4_init_96 : decode cX4_init 96 = .ok (.newarray .int, 2) := by decide +kernel
theorem dX4_init_98 : decode cX4_init 98 = .ok (.putfield 34, 3) := by decide +kernel
theorem dX4_init_101 : decode cX4_init 101 = .ok (.aload_n 0, 1) := by decide +kernel
theorem dX4_init_102 : decode cX4_init 102 = .ok (.iconst 4, 1) := by decide +kernel
theorem dX4_init_103 : decode cX4_init 103 = .ok (.newarray .int, 2) := by decide +kernel
theorem dX4_init_105 : decode cX4_init 105 = .ok (.putfield 37, 3) := by decide +kernel
theorem dX4_init_108 : decode cX4_init 108 = .ok (.aload_n 0, 1) := by decide +kernel
theorem dX4_init_109 : decode cX4_init 109 = .ok (.iconst 4, 1) := by decide +kernel
theorem dX4_init_110 : decode cX4_init 110 = .ok (.newarray .int, 2) := by decide +kernel
theorem dX4_init_112 : decode cX4_init 112 = .ok (.dup, 1) := by decide +kernel
theorem dX4_init_113 : decode cX4_init 113 = .ok (.iconst 0, 1) := by decide +kernel
theorem dX4_init_114 : decode cX4_init 114 = .ok (.iconst (-1), 1) := by decide +kernel
theorem dX4_init_115 : decode cX4_init 115 = .ok (.iastore, 1) := by decide +kernel
theorem dX4_init_116 : decode cX4_init 116 = .ok (.dup, 1) := by decide +kernel
theorem dX4_init_117 : decode cX4_init 117 = .ok (.iconst 1, 1) := by decide +kernel
theorem dX4_init_118 : decode cX4_init 118 = .ok (.iconst (-1), 1) := by decide +kernel
theorem dX4_init_119 : decode cX4_init 119 = .ok (.iastore, 1) := by decide +kernel
theorem dX4_init_120 : decode cX4_init 120 = .ok (.dup, 1) := by decide +kernel
theorem dX4_init_121 : decode cX4_init 121 = .ok (.iconst 2, 1) := by decide +kernel
theorem dX4_init_122 : decode cX4_init 122 = .ok (.iconst (-1), 1) := by decide +kernel
theorem dX4_init_123 : decode cX4_init 123 = .ok (.iastore, 1) := by decide +kernel
theorem dX4_init_124 : decode cX4_init 124 = .ok (.dup, 1) := by decide +kernel
theorem dX4_init_125 : decode cX4_init 125 = .ok (.iconst 3, 1) := by decide +kernel
theorem dX4_init_126 : decode cX4_init 126 = .ok (.iconst (-1), 1) := by decide +kernel
theorem dX4_init_127 : decode cX4_init 127 = .ok (.iastore, 1) := by decide +kernel
theorem dX4_init_128 : decode cX4_init 128 = .ok (.putfield 40, 3) := by decide +kernel
theorem dX4_init_131 : decode cX4_init 131 = .ok (.aload_n 0, 1) := by decide +kernel
theorem dX4_init_132 : decode cX4_init 132 = .ok (.iconst 4, 1) := by decide +kernel
theorem dX4_init_133 : decode cX4_init 133 = .ok (.newarray .int, 2) := by decide +kernel
theorem dX4_init_135 : decode cX4_init 135 = .ok (.putfield 43, 3) := by decide +kernel
theorem dX4_init_138 : decode cX4_init 138 = .ok (.aload_n 0, 1) := by decide +kernel
theorem dX4_init_139 : decode cX4_init 139 = .ok (.iconst 4, 1) := by decide +kernel
theorem dX4_init_140 : decode cX4_init 140 = .ok (.newarray .int, 2) := by decide +kernel
theorem dX4_init_142 : decode cX4_init 142 = .ok (.putfield 46, 3) := by decide +kernel
theorem dX4_init_145 : decode cX4_init 145 = .ok (.aload_n 0, 1) := by decide +kernel
theorem dX4_init_146 : decode cX4_init 146 = .ok (.iconst 5, 1) := by decide +kernel
theorem dX4_init_147 : decode cX4_init 147 = .ok (.newarray .int, 2) := by decide +kernel
theorem dX4_init_149 : decode cX4_init 149 = .ok (.putfield 49, 3) := by decide +kernel
theorem dX4_init_152 : decode cX4_init 152 = .ok (.aload_n 0, 1) := by decide +kernel
theorem dX4_init_153 : decode cX4_init 153 = .ok (.iload_n 1, 1) := by decide +kernel
theorem dX4_init_154 : decode cX4_init 154 = .ok (.iconst 1, 1) := by decide +kernel
theorem dX4_init_155 : decode cX4_init 155 = .ok (.if_icmp .ge 7, 3) := by decide +kernel
theorem dX4_init_158 : decode cX4_init 158 = .ok (.iconst 1, 1) := by decide +kernel
theorem dX4_init_159 : decode cX4_init 159 = .ok (.goto 15, 3) := by decide +kernel
theorem dX4_init_162 : decode cX4_init 162 = .ok (.iload_n 1, 1) := by decide +kernel
theorem dX4_init_163 : decode cX4_init 163 = .ok (.bipush 6, 2) := by decide +kernel
theorem dX4_init_165 : decode cX4_init 165 = .ok (.if_icmp .le 8, 3) := by decide +kernel
theorem dX4_init_168 : decode cX4_init 168 = .ok (.bipush 6, 2) := by decide +kernel
theorem dX4_init_170 : decode cX4_init 170 = .ok (.goto 4, 3) := by decide +kernel
theorem dX4_init_173 : decode cX4_init 173 = .ok (.iload_n 1, 1) := by decide +kernel
theorem dX4_init_174 : decode cX4_init 174 = .ok (.putfield 52, 3) := by decide +kernel
theorem dX4_init_177 : decode cX4_init 177 = .ok (.return_, 1) := by decide +kernel
theorem dX4_thrown_0 : decode cX4_thrown 0 = .ok (.aload_n 0, 1) := by decide +kernel
theorem dX4_thrown_1 : decode cX4_thrown 1 = .ok (.getfield 56, 3) := by decide +kernel
theorem dX4_thrown_4 : decode cX4_thrown 4 = .ok (.ireturn, 1) := by decide +kernel
theorem dX4_in_0 : decode cX4_in 0 = .ok (.iload_n 0, 1) := by decide +kernel
theorem dX4_in_1 : decode cX4_in 1 = .ok (.iload_n 1, 1) := by decide +kernel
theorem dX4_in_2 : decode cX4_in 2 = .ok (.if_icmp .lt 12, 3) := by decide +kernel
theorem dX4_in_5 : decode cX4_in 5 = .ok (.iload_n 0, 1) := by decide +kernel
theorem dX4_in_6 : decode cX4_in 6 = .ok (.iload_n 2, 1) := by decide +kernel
theorem dX4_in_7 : decode cX4_in 7 = .ok (.if_icmp .gt 7, 3) := by decide +kernel
theorem dX4_in_10 : decode cX4_in 10 = .ok (.iconst 1, 1) := by decide +kernel
theorem dX4_in_11 : decode cX4_in 11 = .ok (.goto 4, 3) := by decide +kernel
theorem dX4_in_14 : decode cX4_in 14 = .ok (.iconst 0, 1) := by decide +kernel
theorem dX4_in_15 : decode cX4_in 15 = .ok (.ireturn, 1) := by decide +kernel
theorem dX4_isPlace_0 : decode cX4_isPlace 0 = .ok (.iload_n 1, 1) := by decide +kernel
theorem dX4_isPlace_1 : decode cX4_isPlace 1 = .ok (.ifCond .lt 15, 3) := by decide +kernel
theorem dX4_isPlace_4 : decode cX4_isPlace 4 = .ok (.iload_n 1, 1) := by decide +kernel
theorem dX4_isPlace_5 : decode cX4_isPlace 5 = .ok (.aload_n 0, 1) := by decide +kernel
theorem dX4_isPlace_6 : decode cX4_isPlace 6 = .ok (.getfield 52, 3) := by decide +kernel
theorem dX4_isPlace_9 : decode cX4_isPlace 9 = .ok (.if_icmp .ge 7, 3) := by decide +kernel
theorem dX4_isPlace_12 : decode cX4_isPlace 12 = .ok (.iconst 1, 1) := by decide +kernel
theorem dX4_isPlace_13 : decode cX4_isPlace 13 = .ok (.goto 4, 3) := by decide +kernel
theorem dX4_isPlace_16 : decode cX4_isPlace 16 = .ok (.iconst 0, 1) := by decide +kernel
theorem dX4_isPlace_17 : decode cX4_isPlace 17 = .ok (.ireturn, 1) := by decide +kernel
theorem dX4_isShip_0 : decode cX4_isShip 0 = .ok (.iload_n 1, 1) := by decide +kernel
theorem dX4_isShip_1 : decode cX4_isShip 1 = .ok (.ifCond .lt 15, 3) := by decide +kernel
theorem dX4_isShip_4 : decode cX4_isShip 4 = .ok (.iload_n 1, 1) := by decide +kernel
theorem dX4_isShip_5 : decode cX4_isShip 5 = .ok (.aload_n 0, 1) := by decide +kernel
theorem dX4_isShip_6 : decode cX4_isShip 6 = .ok (.getfield 59, 3) := by decide +kernel
theorem dX4_isShip_9 : decode cX4_isShip 9 = .ok (.if_icmp .ge 7, 3) := by decide +kernel
theorem dX4_isShip_12 : decode cX4_isShip 12 = .ok (.iconst 1, 1) := by decide +kernel
theorem dX4_isShip_13 : decode cX4_isShip 13 = .ok (.goto 4, 3) := by decide +kernel
theorem dX4_isShip_16 : decode cX4_isShip 16 = .ok (.iconst 0, 1) := by decide +kernel
theorem dX4_isShip_17 : decode cX4_isShip 17 = .ok (.ireturn, 1) := by decide +kernel
set_option maxRecDepth 20000 in
theorem ggX4_ship_X4_in : GoodIn wsX4_ship wsX4_in := goodIn_r _ [12] (by decide +kernel) (by decide +kernel)
set_option maxRecDepth 20000 in
theorem gX4_ship_X4_in : GoodIn wsX4_ship (va_wsS RX4 62 yX4_in wsX4_in) := goodIn_app (goodIn_of _ (by decide +kernel)) ggX4_ship_X4_in
theorem dX4_ship_0 : decode cX4_ship 0 = .ok (.iload_n 1, 1) := by decide +kernel
theorem dX4_ship_1 : decode cX4_ship 1 = .ok (.iconst 1, 1) := by decide +kernel
theorem dX4_ship_2 : decode cX4_ship 2 = .ok (.bipush 6, 2) := by decide +kernel
theorem dX4_ship_4 : decode cX4_ship 4 = .ok (.invokestatic 62, 3) := by decide +kernel
theorem dX4_ship_7 : decode cX4_ship 7 = .ok (.ifCond .eq 49, 3) := by decide +kernel
theorem dX4_ship_10 : decode cX4_ship 10 = .ok (.iload_n 2, 1) := by decide +kernel
theorem dX4_ship_11 : decode cX4_ship 11 = .ok (.iconst 0, 1) := by decide +kernel
theorem dX4_ship_12 : decode cX4_ship 12 = .ok (.bipush 100, 2) := by decide +kernel
theorem dX4_ship_14 : decode cX4_ship 14 = .ok (.invokestatic 62, 3) := by decide +kernel
theorem dX4_ship_17 : decode cX4_ship 17 = .ok (.ifCond .eq 39, 3) := by decide +kernel
theorem dX4_ship_20 : decode cX4_ship 20 = .ok (.iload_n 3, 1) := by decide +kernel
theorem dX4_ship_21 : decode cX4_ship 21 = .ok (.iconst 1, 1) := by decide +kernel
theorem dX4_ship_22 : decode cX4_ship 22 = .ok (.bipush 24, 2) := by decide +kernel
theorem dX4_ship_24 : decode cX4_ship 24 = .ok (.invokestatic 62, 3) := by decide +kernel
theorem dX4_ship_27 : decode cX4_ship 27 = .ok (.ifCond .eq 29, 3) := by decide +kernel
theorem dX4_ship_30 : decode cX4_ship 30 = .ok (.iload 4, 2) := by decide +kernel
theorem dX4_ship_32 : decode cX4_ship 32 = .ok (.iconst 0, 1) := by decide +kernel
theorem dX4_ship_33 : decode cX4_ship 33 = .ok (.bipush 15, 2) := by decide +kernel
theorem dX4_ship_35 : decode cX4_ship 35 = .ok (.invokestatic 62, 3) := by decide +kernel
theorem dX4_ship_38 : decode cX4_ship 38 = .ok (.ifCond .eq 18, 3) := by decide +kernel
theorem dX4_ship_41 : decode cX4_ship 41 = .ok (.iload 5, 2) := by decide +kernel
theorem dX4_ship_43 : decode cX4_ship 43 = .ok (.iconst 1, 1) := by decide +kernel
theorem dX4_ship_44 : decode cX4_ship 44 = .ok (.bipush 100, 2) := by decide +kernel
theorem dX4_ship_46 : decode cX4_ship 46 = .ok (.invokestatic 62, 3) := by decide +kernel
theorem dX4_ship_49 : decode cX4_ship 49 = .ok (.ifCond .eq 7, 3) := by decide +kernel
theorem dX4_ship_52 : decode cX4_ship 52 = .ok (.iconst 1, 1) := by decide +kernel
theorem dX4_ship_53 : decode cX4_ship 53 = .ok (.goto 4, 3) := by decide +kernel
theorem dX4_ship_56 : decode cX4_ship 56 = .ok (.iconst 0, 1) := by decide +kernel
theorem dX4_ship_57 : decode cX4_ship 57 = .ok (.istore 6, 2) := by decide +kernel
theorem dX4_ship_59 : decode cX4_ship 59 = .ok (.aload_n 0, 1) := by decide +kernel
theorem dX4_ship_60 : decode cX4_ship 60 = .ok (.iload 6, 2) := by decide +kernel
theorem dX4_ship_62 : decode cX4_ship 62 = .ok (.ifCond .ne 7, 3) := by decide +kernel
theorem dX4_ship_65 : decode cX4_ship 65 = .ok (.iconst 1, 1) := by decide +kernel
theorem dX4_ship_66 : decode cX4_ship 66 = .ok (.goto 16, 3) := by decide +kernel
theorem dX4_ship_69 : decode cX4_ship 69 = .ok (.aload_n 0, 1) := by decide +kernel
theorem dX4_ship_70 : decode cX4_ship 70 = .ok (.getfield 59, 3) := by decide +kernel
theorem dX4_ship_73 : decode cX4_ship 73 = .ok (.iconst 4, 1) := by decide +kernel
theorem dX4_ship_74 : decode cX4_ship 74 = .ok (.if_icmp .ne 7, 3) := by decide +kernel
theorem dX4_ship_77 : decode cX4_ship 77 = .ok (.iconst 2, 1) := by decide +kernel
theorem dX4_ship_78 : decode cX4_ship 78 = .ok (.goto 4, 3) := by decide +kernel
theorem dX4_ship_81 : decode cX4_ship 81 = .ok (.iconst 0, 1) := by decide +kernel
theorem dX4_ship_82 : decode cX4_ship 82 = .ok (.putfield 56, 3) := by decide +kernel
theorem dX4_ship_85 : decode cX4_ship 85 = .ok (.aload_n 0, 1) := by decide +kernel
theorem dX4_ship_86 : decode cX4_ship 86 = .ok (.getfield 56, 3) := by decide +kernel
theorem dX4_ship_89 : decode cX4_ship 89 = .ok (.ifCond .le 5, 3) := by decide +kernel
theorem dX4_ship_92 : decode cX4_ship 92 = .ok (.iconst 0, 1) := by decide +kernel
theorem dX4_ship_93 : decode cX4_ship 93 = .ok (.ireturn, 1) := by decide +kernel
theorem dX4_ship_94 : decode cX4_ship 94 = .ok (.aload_n 0, 1) := by decide +kernel
theorem dX4_ship_95 : decode cX4_ship 95 = .ok (.getfield 22, 3) := by decide +kernel
theorem dX4_ship_98 : decode cX4_ship 98 = .ok (.aload_n 0, 1) := by decide +kernel
theorem dX4_ship_99 : decode cX4_ship 99 = .ok (.getfield 59, 3) := by decide +kernel
theorem dX4_ship_102 : decode cX4_ship 102 = .ok (.iload_n 1, 1) := by decide +kernel
theorem dX4_ship_103 : decode cX4_ship 103 = .ok (.iastore, 1) := by decide +kernel
theorem dX4_ship_104 : decode cX4_ship 104 = .ok (.aload_n 0, 1) := by decide +kernel
theorem dX4_ship_105 : decode cX4_ship 105 = .ok (.getfield 25, 3) := by decide +kernel
theorem dX4_ship_108 : decode cX4_ship 108 = .ok (.aload_n 0, 1) := by decide +kernel
theorem dX4_ship_109 : decode cX4_ship 109 = .ok (.getfield 59, 3) := by decide +kernel
theorem dX4_ship_112 : decode cX4_ship 112 = .ok (.iload_n 2, 1) := by decide +kernel
theorem dX4_ship_113 : decode cX4_ship 113 = .ok (.iastore, 1) := by decide +kernel
theorem dX4_ship_114 : decode cX4_ship 114 = .ok (.aload_n 0, 1) := by decide +kernel
theorem dX4_ship_115 : decode cX4_ship 115 = .ok (.getfield 28, 3) := by decide +kernel
theorem dX4_ship_118 : decode cX4_ship 118 = .ok (.aload_n 0, 1) := by decide +kernel
theorem dX4_ship_119 : decode cX4_ship 119 = .ok (.getfield 59, 3) := by decide +kernel
theorem dX4_ship_122 : decode cX4_ship 122 = .ok (.iload_n 3, 1) := by decide +kernel
theorem dX4_ship_123 : decode cX4_ship 123 = .ok (.iastore, 1) := by decide +kernel
theorem dX4_ship_124 : decode cX4_ship 124 = .ok (.aload_n 0, 1) := by decide +kernel
theorem dX4_ship_125 : decode cX4_ship 125 = .ok (.getfield 31, 3) := by decide +kernel
theorem dX4_ship_128 : decode cX4_ship 128 = .ok (.aload_n 0, 1) := by decide +kernel
theorem dX4_ship_129 : decode cX4_ship 129 = .ok (.getfield 59, 3) := by decide +kernel
theorem dX4_ship_132 : decode cX4_ship 132 = .ok (.iload 4, 2) := by decide +kernel
theorem dX4_ship_134 : decode cX4_ship 134 = .ok (.iastore, 1) := by decide +kernel
theorem dX4_ship_135 : decode cX4_ship 135 = .ok (.aload_n 0, 1) := by decide +kernel
theorem dX4_ship_136 : decode cX4_ship 136 = .ok (.getfield 34, 3) := by decide +kernel
theorem dX4_ship_139 : decode cX4_ship 139 = .ok (.aload_n 0, 1) := by decide +kernel
theorem dX4_ship_140 : decode cX4_ship 140 = .ok (.getfield 59, 3) := by decide +kernel
theorem dX4_ship_143 : decode cX4_ship 143 = .ok (.iload 5, 2) := by decide +kernel
theorem dX4_ship_145 : decode cX4_ship 145 = .ok (.iastore, 1) := by decide +kernel
theorem dX4_ship_146 : decode cX4_ship 146 = .ok (.aload_n 0, 1) := by decide +kernel
theorem dX4_ship_147 : decode cX4_ship 147 = .ok (.dup, 1) := by decide +kernel
theorem dX4_ship_148 : decode cX4_ship 148 = .ok (.getfield 59, 3) := by decide +kernel
theorem dX4_ship_151 : decode cX4_ship 151 = .ok (.iconst 1, 1) := by decide +kernel
theorem dX4_ship_152 : decode cX4_ship 152 = .ok (.iadd, 1) := by decide +kernel
theorem dX4_ship_153 : decode cX4_ship 153 = .ok (.putfield 59, 3) := by decide +kernel
theorem dX4_ship_156 : decode cX4_ship 156 = .ok (.aload_n 0, 1) := by decide +kernel
theorem dX4_ship_157 : decode cX4_ship 157 = .ok (.iconst 0, 1) := by decide +kernel
theorem dX4_ship_158 : decode cX4_ship 158 = .ok (.putfield 66, 3) := by decide +kernel
theorem dX4_ship_161 : decode cX4_ship 161 = .ok (.aload_n 0, 1) := by decide +kernel
theorem dX4_ship_162 : decode cX4_ship 162 = .ok (.getfield 59, 3) := by decide +kernel
theorem dX4_ship_165 : decode cX4_ship 165 = .ok (.iconst 1, 1) := by decide +kernel
theorem dX4_ship_166 : decode cX4_ship 166 = .ok (.isub, 1) := by decide +kernel
theorem dX4_ship_167 : decode cX4_ship 167 = .ok (.ireturn, 1) := by decide +kernel
set_option maxRecDepth 20000 in
theorem ggX4_depth_X4_isPlace : GoodIn wsX4_depth wsX4_isPlace := goodIn_r _ [8, 9, 13, 14, 15, 16, 17, 18, 19, 20, 21, 22, 23, 24, 25, 26, 27, 28, 29, 30, 31] (by decide +kernel) (by decide +kernel)
set_option maxRecDepth 20000 in
theorem gX4_depth_X4_isPlace : GoodIn wsX4_depth (wsV RX4 70 RX4 yX4_isPlace wsX4_isPlace) := goodIn_app (goodIn_of _ (by decide +kernel)) ggX4_depth_X4_isPlace
set_option maxRecDepth 20000 in
theorem ggX4_depth_X4_in : GoodIn wsX4_depth wsX4_in := goodIn_r _ [12] (by decide +kernel) (by decide +kernel)
set_option maxRecDepth 20000 in
theorem gX4_depth_X4_in : GoodIn wsX4_depth (va_wsS RX4 62 yX4_in wsX4_in) := goodIn_app (goodIn_of _ (by decide +kernel)) ggX4_depth_X4_in
theorem dX4_depth_0 : decode cX4_depth 0 = .ok (.aload_n 0, 1) := by decide +kernel
theorem dX4_depth_1 : decode cX4_depth 1 = .ok (.iconst 0, 1) := by decide +kernel
theorem dX4_depth_2 : decode cX4_depth 2 = .ok (.putfield 56, 3) := by decide +kernel
theorem dX4_depth_5 : decode cX4_depth 5 = .ok (.aload_n 0, 1) := by decide +kernel
theorem dX4_depth_6 : decode cX4_depth 6 = .ok (.iload_n 1, 1) := by decide +kernel
theorem dX4_depth_7 : decode cX4_depth 7 = .ok (.invokevirtual 70, 3) := by decide +kernel
theorem dX4_depth_10 : decode cX4_depth 10 = .ok (.ifCond .eq 26, 3) := by decide +kernel
theorem dX4_depth_13 : decode cX4_depth 13 = .ok (.aload_n 0, 1) := by decide +kernel
theorem dX4_depth_14 : decode cX4_depth 14 = .ok (.iload_n 2, 1) := by decide +kernel
theorem dX4_depth_15 : decode cX4_depth 15 = .ok (.invokevirtual 70, 3) := by decide +kernel
theorem dX4_depth_18 : decode cX4_depth 18 = .ok (.ifCond .eq 18, 3) := by decide +kernel
theorem dX4_depth_21 : decode cX4_depth 21 = .ok (.iload_n 1, 1) := by decide +kernel
theorem dX4_depth_22 : decode cX4_depth 22 = .ok (.iload_n 2, 1) := by decide +kernel
theorem dX4_depth_23 : decode cX4_depth 23 = .ok (.if_icmp .gt 13, 3) := by decide +kernel
theorem dX4_depth_26 : decode cX4_depth 26 = .ok (.iload_n 3, 1) := by decide +kernel
theorem dX4_depth_27 : decode cX4_depth 27 = .ok (.iconst 0, 1) := by decide +kernel
theorem dX4_depth_28 : decode cX4_depth 28 = .ok (.bipush 100, 2) := by decide +kernel
theorem dX4_depth_30 : decode cX4_depth 30 = .ok (.invokestatic 62, 3) := by decide +kernel
theorem dX4_depth_33 : decode cX4_depth 33 = .ok (.ifCond .ne 5, 3) := by decide +kernel
theorem dX4_depth_36 : decode cX4_depth 36 = .ok (.iconst 0, 1) := by decide +kernel
theorem dX4_depth_37 : decode cX4_depth 37 = .ok (.ireturn, 1) := by decide +kernel
theorem dX4_depth_38 : decode cX4_depth 38 = .ok (.iload_n 1, 1) := by decide +kernel
theorem dX4_depth_39 : decode cX4_depth 39 = .ok (.istore 4, 2) := by decide +kernel
theorem dX4_depth_41 : decode cX4_depth 41 = .ok (.iload 4, 2) := by decide +kernel
theorem dX4_depth_43 : decode cX4_depth 43 = .ok (.iload_n 2, 1) := by decide +kernel
theorem dX4_depth_44 : decode cX4_depth 44 = .ok (.if_icmp .gt 17, 3) := by decide +kernel
theorem dX4_depth_47 : decode cX4_depth 47 = .ok (.aload_n 0, 1) := by decide +kernel
theorem dX4_depth_48 : decode cX4_depth 48 = .ok (.getfield 7, 3) := by decide +kernel
theorem dX4_depth_51 : decode cX4_depth 51 = .ok (.iload 4, 2) := by decide +kernel
theorem dX4_depth_53 : decode cX4_depth 53 = .ok (.iload_n 3, 1) := by decide +kernel
theorem dX4_depth_54 : decode cX4_depth 54 = .ok (.iastore, 1) := by decide +kernel
theorem dX4_depth_55 : decode cX4_depth 55 = .ok (.iinc 4 1, 3) := by decide +kernel
theorem dX4_depth_58 : decode cX4_depth 58 = .ok (.goto (-17), 3) := by decide +kernel
theorem dX4_depth_61 : decode cX4_depth 61 = .ok (.aload_n 0, 1) := by decide +kernel
theorem dX4_depth_62 : decode cX4_depth 62 = .ok (.iconst 0, 1) := by decide +kernel
theorem dX4_depth_63 : decode cX4_depth 63 = .ok (.putfield 66, 3) := by decide +kernel
theorem dX4_depth_66 : decode cX4_depth 66 = .ok (.iconst 1, 1) := by decide +kernel
theorem dX4_depth_67 : decode cX4_depth 67 = .ok (.ireturn, 1) := by decide +kernel
theorem dX4_bit_0 : decode cX4_bit 0 = .ok (.iload_n 0, 1) := by decide +kernel
theorem dX4_bit_1 : decode cX4_bit 1 = .ok (.iload_n 1, 1) := by decide +kernel
theorem dX4_bit_2 : decode cX4_bit 2 = .ok (.ishr, 1) := by decide +kernel
theorem dX4_bit_3 : decode cX4_bit 3 = .ok (.iconst 1, 1) := by decide +kernel
theorem dX4_bit_4 : decode cX4_bit 4 = .ok (.iand, 1) := by decide +kernel
theorem dX4_bit_5 : decode cX4_bit 5 = .ok (.iconst 1, 1) := by decide +kernel
theorem dX4_bit_6 : decode cX4_bit 6 = .ok (.if_icmp .ne 7, 3) := by decide +kernel
theorem dX4_bit_9 : decode cX4_bit 9 = .ok (.iconst 1, 1) := by decide +kernel
theorem dX4_bit_10 : decode cX4_bit 10 = .ok (.goto 4, 3) := by decide +kernel
theorem dX4_bit_13 : decode cX4_bit 13 = .ok (.iconst 0, 1) := by decide +kernel
theorem dX4_bit_14 : decode cX4_bit 14 = .ok (.ireturn, 1) := by decide +kernel
set_option maxRecDepth 20000 in
theorem ggX4_gear_X4_isPlace : GoodIn wsX4_gear wsX4_isPlace := goodIn_r _ [8, 9, 16, 17, 18, 19, 20, 21, 22, 23, 24, 25, 26, 27, 28, 29, 30, 31, 32, 33, 34] (by decide +kernel) (by decide +kernel)
set_option maxRecDepth 20000 in
theorem gX4_gear_X4_isPlace : GoodIn wsX4_gear (wsV RX4 70 RX4 yX4_isPlace wsX4_isPlace) := goodIn_app (goodIn_of _ (by decide +kernel)) ggX4_gear_X4_isPlace
set_option maxRecDepth 20000 in
theorem ggX4_gear_X4_in : GoodIn wsX4_gear wsX4_in := goodIn_r _ [12] (by decide +kernel) (by decide +kernel)
set_option maxRecDepth 20000 in
theorem gX4_gear_X4_in : GoodIn wsX4_gear (va_wsS RX4 62 yX4_in wsX4_in) := goodIn_app (goodIn_of _ (by decide +kernel)) ggX4_gear_X4_in
set_option maxRecDepth 20000 in
theorem ggX4_gear_X4_bit : GoodIn wsX4_gear wsX4_bit := goodIn_r _ [15] (by decide +kernel) (by decide +kernel)
set_option maxRecDepth 20000 in
theorem gX4_gear_X4_bit : GoodIn wsX4_gear (va_wsS RX4 74 yX4_bit wsX4_bit) := goodIn_app (goodIn_of _ (by decide +kernel)) ggX4_gear_X4_bit
theorem dX4_gear_0 : decode cX4_gear 0 = .ok (.aload_n 0, 1) := by decide +kernel
theorem dX4_gear_1 : decode cX4_gear 1 = .ok (.iconst 0, 1) := by decide +kernel
theorem dX4_gear_2 : decode cX4_gear 2 = .ok (.putfield 56, 3) := by decide +kernel
theorem dX4_gear_5 : decode cX4_gear 5 = .ok (.aload_n 0, 1) := by decide +kernel
theorem dX4_gear_6 : decode cX4_gear 6 = .ok (.iload_n 1, 1) := by decide +kernel
theorem dX4_gear_7 : decode cX4_gear 7 = .ok (.invokevirtual 70, 3) := by decide +kernel
theorem dX4_gear_10 : decode cX4_gear 10 = .ok (.ifCond .eq 27, 3) := by decide +kernel
theorem dX4_gear_13 : decode cX4_gear 13 = .ok (.iload_n 2, 1) := by decide +kernel
theorem dX4_gear_14 : decode cX4_gear 14 = .ok (.iconst 0, 1) := by decide +kernel
theorem dX4_gear_15 : decode cX4_gear 15 = .ok (.bipush 7, 2) := by decide +kernel
theorem dX4_gear_17 : decode cX4_gear 17 = .ok (.invokestatic 62, 3) := by decide +kernel
theorem dX4_gear_20 : decode cX4_gear 20 = .ok (.ifCond .eq 17, 3) := by decide +kernel
theorem dX4_gear_23 : decode cX4_gear 23 = .ok (.aload_n 0, 1) := by decide +kernel
theorem dX4_gear_24 : decode cX4_gear 24 = .ok (.getfield 13, 3) := by decide +kernel
theorem dX4_gear_27 : decode cX4_gear 27 = .ok (.iload_n 1, 1) := by decide +kernel
theorem dX4_gear_28 : decode cX4_gear 28 = .ok (.iaload, 1) := by decide +kernel
theorem dX4_gear_29 : decode cX4_gear 29 = .ok (.iload_n 2, 1) := by decide +kernel
theorem dX4_gear_30 : decode cX4_gear 30 = .ok (.invokestatic 74, 3) := by decide +kernel
theorem dX4_gear_33 : decode cX4_gear 33 = .ok (.iload_n 3, 1) := by decide +kernel
theorem dX4_gear_34 : decode cX4_gear 34 = .ok (.if_icmp .ne 5, 3) := by decide +kernel
theorem dX4_gear_37 : decode cX4_gear 37 = .ok (.iconst 0, 1) := by decide +kernel
theorem dX4_gear_38 : decode cX4_gear 38 = .ok (.ireturn, 1) := by decide +kernel
theorem dX4_gear_39 : decode cX4_gear 39 = .ok (.aload_n 0, 1) := by decide +kernel
theorem dX4_gear_40 : decode cX4_gear 40 = .ok (.getfield 13, 3) := by decide +kernel
theorem dX4_gear_43 : decode cX4_gear 43 = .ok (.iload_n 1, 1) := by decide +kernel
theorem dX4_gear_44 : decode cX4_gear 44 = .ok (.dup2, 1) := by decide +kernel
theorem dX4_gear_45 : decode cX4_gear 45 = .ok (.iaload, 1) := by decide +kernel
theorem dX4_gear_46 : decode cX4_gear 46 = .ok (.iload_n 3, 1) := by decide +kernel
theorem dX4_gear_47 : decode cX4_gear 47 = .ok (.ifCond .eq 9, 3) := by decide +kernel
theorem dX4_gear_50 : decode cX4_gear 50 = .ok (.iconst 1, 1) := by decide +kernel
theorem dX4_gear_51 : decode cX4_gear 51 = .ok (.iload_n 2, 1) := by decide +kernel
theorem dX4_gear_52 : decode cX4_gear 52 = .ok (.ishl, 1) := by decide +kernel
theorem dX4_gear_53 : decode cX4_gear 53 = .ok (.goto 7, 3) := by decide +kernel
theorem dX4_gear_56 : decode cX4_gear 56 = .ok (.iconst 1, 1) := by decide +kernel
theorem dX4_gear_57 : decode cX4_gear 57 = .ok (.iload_n 2, 1) := by decide +kernel
theorem dX4_gear_58 : decode cX4_gear 58 = .ok (.ishl, 1) := by decide +kernel
theorem dX4_gear_59 : decode cX4_gear 59 = .ok (.ineg, 1) := by decide +kernel
theorem dX4_gear_60 : decode cX4_gear 60 = .ok (.iadd, 1) := by decide +kernel
theorem dX4_gear_61 : decode cX4_gear 61 = .ok (.iastore, 1) := by decide +kernel
theorem dX4_gear_62 : decode cX4_gear 62 = .ok (.aload_n 0, 1) := by decide +kernel
theorem dX4_gear_63 : decode cX4_gear 63 = .ok (.iconst 0, 1) := by decide +kernel
theorem dX4_gear_64 : decode cX4_gear 64 = .ok (.putfield 66, 3) := by decide +kernel
theorem dX4_gear_67 : decode cX4_gear 67 = .ok (.iconst 1, 1) := by decide +kernel
theorem dX4_gear_68 : decode cX4_gear 68 = .ok (.ireturn, 1) := by decide +kernel
set_option maxRecDepth 20000 in
theorem ggX4_wants_X4_isShip : GoodIn wsX4_wants wsX4_isShip := goodIn_r _ [8, 9, 16, 17, 18, 19, 20, 21, 22, 23, 24, 25, 26, 27, 28, 29, 30, 31, 32, 33, 34] (by decide +kernel) (by decide +kernel)
set_option maxRecDepth 20000 in
theorem gX4_wants_X4_isShip : GoodIn wsX4_wants (wsV RX4 78 RX4 yX4_isShip wsX4_isShip) := goodIn_app (goodIn_of _ (by decide +kernel)) ggX4_wants_X4_isShip
set_option maxRecDepth 20000 in
theorem ggX4_wants_X4_in : GoodIn wsX4_wants wsX4_in := goodIn_r _ [12] (by decide +kernel) (by decide +kernel)
set_option maxRecDepth 20000 in
theorem gX4_wants_X4_in : GoodIn wsX4_wants (va_wsS RX4 62 yX4_in wsX4_in) := goodIn_app (goodIn_of _ (by decide +kernel)) ggX4_wants_X4_in
set_option maxRecDepth 20000 in
theorem ggX4_wants_X4_bit : GoodIn wsX4_wants wsX4_bit := goodIn_r _ [15] (by decide +kernel) (by decide +kernel)
set_option maxRecDepth 20000 in
theorem gX4_wants_X4_bit : GoodIn wsX4_wants (va_wsS RX4 74 yX4_bit wsX4_bit) := goodIn_app (goodIn_of _ (by decide +kernel)) ggX4_wants_X4_bit
theorem dX4_wants_0 : decode cX4_wants 0 = .ok (.aload_n 0, 1) := by decide +kernel
theorem dX4_wants_1 : decode cX4_wants 1 = .ok (.iconst 0, 1) := by decide +kernel
theorem dX4_wants_2 : decode cX4_wants 2 = .ok (.putfield 56, 3) := by decide +kernel
theorem dX4_wants_5 : decode cX4_wants 5 = .ok (.aload_n 0, 1) := by decide +kernel
theorem dX4_wants_6 : decode cX4_wants 6 = .ok (.iload_n 1, 1) := by decide +kernel
theorem dX4_wants_7 : decode cX4_wants 7 = .ok (.invokevirtual 78, 3) := by decide +kernel
theorem dX4_wants_10 : decode cX4_wants 10 = .ok (.ifCond .eq 27, 3) := by decide +kernel
theorem dX4_wants_13 : decode cX4_wants 13 = .ok (.iload_n 2, 1) := by decide +kernel
theorem dX4_wants_14 : decode cX4_wants 14 = .ok (.iconst 0, 1) := by decide +kernel
theorem dX4_wants_15 : decode cX4_wants 15 = .ok (.bipush 7, 2) := by decide +kernel
theorem dX4_wants_17 : decode cX4_wants 17 = .ok (.invokestatic 62, 3) := by decide +kernel
theorem dX4_wants_20 : decode cX4_wants 20 = .ok (.ifCond .eq 17, 3) := by decide +kernel
theorem dX4_wants_23 : decode cX4_wants 23 = .ok (.aload_n 0, 1) := by decide +kernel
theorem dX4_wants_24 : decode cX4_wants 24 = .ok (.getfield 37, 3) := by decide +kernel
theorem dX4_wants_27 : decode cX4_wants 27 = .ok (.iload_n 1, 1) := by decide +kernel
theorem dX4_wants_28 : decode cX4_wants 28 = .ok (.iaload, 1) := by decide +kernel
theorem dX4_wants_29 : decode cX4_wants 29 = .ok (.iload_n 2, 1) := by decide +kernel
theorem dX4_wants_30 : decode cX4_wants 30 = .ok (.invokestatic 74, 3) := by decide +kernel
theorem dX4_wants_33 : decode cX4_wants 33 = .ok (.iload_n 3, 1) := by decide +kernel
theorem dX4_wants_34 : decode cX4_wants 34 = .ok (.if_icmp .ne 5, 3) := by decide +kernel
theorem dX4_wants_37 : decode cX4_wants 37 = .ok (.iconst 0, 1) := by decide +kernel
theorem dX4_wants_38 : decode cX4_wants 38 = .ok (.ireturn, 1) := by decide +kernel
theorem dX4_wants_39 : decode cX4_wants 39 = .ok (.aload_n 0, 1) := by decide +kernel
theorem dX4_wants_40 : decode cX4_wants 40 = .ok (.getfield 37, 3) := by decide +kernel
theorem dX4_wants_43 : decode cX4_wants 43 = .ok (.iload_n 1, 1) := by decide +kernel
theorem dX4_wants_44 : decode cX4_wants 44 = .ok (.dup2, 1) := by decide +kernel
theorem dX4_wants_45 : decode cX4_wants 45 = .ok (.iaload, 1) := by decide +kernel
theorem dX4_wants_46 : decode cX4_wants 46 = .ok (.iload_n 3, 1) := by decide +kernel
theorem dX4_wants_47 : decode cX4_wants 47 = .ok (.ifCond .eq 9, 3) := by decide +kernel
theorem dX4_wants_50 : decode cX4_wants 50 = .ok (.iconst 1, 1) := by decide +kernel
theorem dX4_wants_51 : decode cX4_wants 51 = .ok (.iload_n 2, 1) := by decide +kernel
theorem dX4_wants_52 : decode cX4_wants 52 = .ok (.ishl, 1) := by decide +kernel
theorem dX4_wants_53 : decode cX4_wants 53 = .ok (.goto 7, 3) := by decide +kernel
theorem dX4_wants_56 : decode cX4_wants 56 = .ok (.iconst 1, 1) := by decide +kernel
theorem dX4_wants_57 : decode cX4_wants 57 = .ok (.iload_n 2, 1) := by decide +kernel
theorem dX4_wants_58 : decode cX4_wants 58 = .ok (.ishl, 1) := by decide +kernel
theorem dX4_wants_59 : decode cX4_wants 59 = .ok (.ineg, 1) := by decide +kernel
theorem dX4_wants_60 : decode cX4_wants 60 = .ok (.iadd, 1) := by decide +kernel
theorem dX4_wants_61 : decode cX4_wants 61 = .ok (.iastore, 1) := by decide +kernel
theorem dX4_wants_62 : decode cX4_wants 62 = .ok (.aload_n 0, 1) := by decide +kernel
theorem dX4_wants_63 : decode cX4_wants 63 = .ok (.iconst 0, 1) := by decide +kernel
theorem dX4_wants_64 : decode cX4_wants 64 = .ok (.putfield 66, 3) := by decide +kernel
theorem dX4_wants_67 : decode cX4_wants 67 = .ok (.iconst 1, 1) := by decide +kernel
theorem dX4_wants_68 : decode cX4_wants 68 = .ok (.ireturn, 1) := by decide +kernel
set_option maxRecDepth 20000 in
theorem ggX4_tide_X4_in : GoodIn wsX4_tide wsX4_in := goodIn_r _ [9] (by decide +kernel) (by decide +kernel)
set_option maxRecDepth 20000 in
theorem gX4_tide_X4_in : GoodIn wsX4_tide (va_wsS RX4 62 yX4_in wsX4_in) := goodIn_app (goodIn_of _ (by decide +kernel)) ggX4_tide_X4_in
theorem dX4_tide_0 : decode cX4_tide 0 = .ok (.aload_n 0, 1) := by decide +kernel
theorem dX4_tide_1 : decode cX4_tide 1 = .ok (.iconst 0, 1) := by decide +kernel
theorem dX4_tide_2 : decode cX4_tide 2 = .ok (.putfield 56, 3) := by decide +kernel
theorem dX4_tide_5 : decode cX4_tide 5 = .ok (.iload_n 1, 1) := by decide +kernel
theorem dX4_tide_6 : decode cX4_tide 6 = .ok (.iconst 0, 1) := by decide +kernel
theorem dX4_tide_7 : decode cX4_tide 7 = .ok (.bipush 39, 2) := by decide +kernel
theorem dX4_tide_9 : decode cX4_tide 9 = .ok (.invokestatic 62, 3) := by decide +kernel
theorem dX4_tide_12 : decode cX4_tide 12 = .ok (.ifCond .eq 22, 3) := by decide +kernel
theorem dX4_tide_15 : decode cX4_tide 15 = .ok (.iload_n 2, 1) := by decide +kernel
theorem dX4_tide_16 : decode cX4_tide 16 = .ok (.iload_n 1, 1) := by decide +kernel
theorem dX4_tide_17 : decode cX4_tide 17 = .ok (.bipush 39, 2) := by decide +kernel
theorem dX4_tide_19 : decode cX4_tide 19 = .ok (.invokestatic 62, 3) := by decide +kernel
theorem dX4_tide_22 : decode cX4_tide 22 = .ok (.ifCond .eq 12, 3) := by decide +kernel
theorem dX4_tide_25 : decode cX4_tide 25 = .ok (.aload_n 0, 1) := by decide +kernel
theorem dX4_tide_26 : decode cX4_tide 26 = .ok (.getfield 81, 3) := by decide +kernel
theorem dX4_tide_29 : decode cX4_tide 29 = .ok (.bipush 8, 2) := by decide +kernel
theorem dX4_tide_31 : decode cX4_tide 31 = .ok (.if_icmp .ne 5, 3) := by decide +kernel
theorem dX4_tide_34 : decode cX4_tide 34 = .ok (.iconst 0, 1) := by decide +kernel
theorem dX4_tide_35 : decode cX4_tide 35 = .ok (.ireturn, 1) := by decide +kernel
theorem dX4_tide_36 : decode cX4_tide 36 = .ok (.aload_n 0, 1) := by decide +kernel
theorem dX4_tide_37 : decode cX4_tide 37 = .ok (.getfield 16, 3) := by decide +kernel
theorem dX4_tide_40 : decode cX4_tide 40 = .ok (.aload_n 0, 1) := by decide +kernel
theorem dX4_tide_41 : decode cX4_tide 41 = .ok (.getfield 81, 3) := by decide +kernel
theorem dX4_tide_44 : decode cX4_tide 44 = .ok (.iload_n 1, 1) := by decide +kernel
theorem dX4_tide_45 : decode cX4_tide 45 = .ok (.iastore, 1) := by decide +kernel
theorem dX4_tide_46 : decode cX4_tide 46 = .ok (.aload_n 0, 1) := by decide +kernel
theorem dX4_tide_47 : decode cX4_tide 47 = .ok (.getfield 19, 3) := by decide +kernel
theorem dX4_tide_50 : decode cX4_tide 50 = .ok (.aload_n 0, 1) := by decide +kernel
theorem dX4_tide_51 : decode cX4_tide 51 = .ok (.getfield 81, 3) := by decide +kernel
theorem dX4_tide_54 : decode cX4_tide 54 = .ok (.iload_n 2, 1) := by decide +kernel
theorem dX4_tide_55 : decode cX4_tide 55 = .ok (.iastore, 1) := by decide +kernel
theorem dX4_tide_56 : decode cX4_tide 56 = .ok (.aload_n 0, 1) := by decide +kernel
theorem dX4_tide_57 : decode cX4_tide 57 = .ok (.dup, 1) := by decide +kernel
theorem dX4_tide_58 : decode cX4_tide 58 = .ok (.getfield 81, 3) := by decide +kernel
theorem dX4_tide_61 : decode cX4_tide 61 = .ok (.iconst 1, 1) := by decide +kernel
theorem dX4_tide_62 : decode cX4_tide 62 = .ok (.iadd, 1) := by decide +kernel
theorem dX4_tide_63 : decode cX4_tide 63 = .ok (.putfield 81, 3) := by decide +kernel
theorem dX4_tide_66 : decode cX4_tide 66 = .ok (.aload_n 0, 1) := by decide +kernel
theorem dX4_tide_67 : decode cX4_tide 67 = .ok (.iconst 0, 1) := by decide +kernel
theorem dX4_tide_68 : decode cX4_tide 68 = .ok (.putfield 66, 3) := by decide +kernel
theorem dX4_tide_71 : decode cX4_tide 71 = .ok (.iconst 1, 1) := by decide +kernel
theorem dX4_tide_72 : decode cX4_tide 72 = .ok (.ireturn, 1) := by decide +kernel
theorem dX4_meet_0 : decode cX4_meet 0 = .ok (.iload_n 2, 1) := by decide +kernel
theorem dX4_meet_1 : decode cX4_meet 1 = .ok (.bipush 6, 2) := by decide +kernel
theorem dX4_meet_3 : decode cX4_meet 3 = .ok (.irem, 1) := by decide +kernel
theorem dX4_meet_4 : decode cX4_meet 4 = .ok (.iload 4, 2) := by decide +kernel
theorem dX4_meet_6 : decode cX4_meet 6 = .ok (.bipush 6, 2) := by decide +kernel
theorem dX4_meet_8 : decode cX4_meet 8 = .ok (.irem, 1) := by decide +kernel
theorem dX4_meet_9 : decode cX4_meet 9 = .ok (.aload_n 0, 1) := by decide +kernel
theorem dX4_meet_10 : decode cX4_meet 10 = .ok (.getfield 22, 3) := by decide +kernel
theorem dX4_meet_13 : decode cX4_meet 13 = .ok (.iload_n 3, 1) := by decide +kernel
theorem dX4_meet_14 : decode cX4_meet 14 = .ok (.iaload, 1) := by decide +kernel
theorem dX4_meet_15 : decode cX4_meet 15 = .ok (.iadd, 1) := by decide +kernel
theorem dX4_meet_16 : decode cX4_meet 16 = .ok (.if_icmp .ge 26, 3) := by decide +kernel
theorem dX4_meet_19 : decode cX4_meet 19 = .ok (.iload 4, 2) := by decide +kernel
theorem dX4_meet_21 : decode cX4_meet 21 = .ok (.bipush 6, 2) := by decide +kernel
theorem dX4_meet_23 : decode cX4_meet 23 = .ok (.irem, 1) := by decide +kernel
theorem dX4_meet_24 : decode cX4_meet 24 = .ok (.iload_n 2, 1) := by decide +kernel
theorem dX4_meet_25 : decode cX4_meet 25 = .ok (.bipush 6, 2) := by decide +kernel
theorem dX4_meet_27 : decode cX4_meet 27 = .ok (.irem, 1) := by decide +kernel
theorem dX4_meet_28 : decode cX4_meet 28 = .ok (.aload_n 0, 1) := by decide +kernel
theorem dX4_meet_29 : decode cX4_meet 29 = .ok (.getfield 22, 3) := by decide +kernel
theorem dX4_meet_32 : decode cX4_meet 32 = .ok (.iload_n 1, 1) := by decide +kernel
theorem dX4_meet_33 : decode cX4_meet 33 = .ok (.iaload, 1) := by decide +kernel
theorem dX4_meet_34 : decode cX4_meet 34 = .ok (.iadd, 1) := by decide +kernel
theorem dX4_meet_35 : decode cX4_meet 35 = .ok (.if_icmp .ge 7, 3) := by decide +kernel
theorem dX4_meet_38 : decode cX4_meet 38 = .ok (.iconst 1, 1) := by decide +kernel
theorem dX4_meet_39 : decode cX4_meet 39 = .ok (.goto 4, 3) := by decide +kernel
theorem dX4_meet_42 : decode cX4_meet 42 = .ok (.iconst 0, 1) := by decide +kernel
theorem dX4_meet_43 : decode cX4_meet 43 = .ok (.istore 5, 2) := by decide +kernel
theorem dX4_meet_45 : decode cX4_meet 45 = .ok (.iload 5, 2) := by decide +kernel
theorem dX4_meet_47 : decode cX4_meet 47 = .ok (.ifCond .eq 45, 3) := by decide +kernel
theorem dX4_meet_50 : decode cX4_meet 50 = .ok (.iload_n 2, 1) := by decide +kernel
theorem dX4_meet_51 : decode cX4_meet 51 = .ok (.bipush 6, 2) := by decide +kernel
theorem dX4_meet_53 : decode cX4_meet 53 = .ok (.idiv, 1) := by decide +kernel
theorem dX4_meet_54 : decode cX4_meet 54 = .ok (.iload 4, 2) := by decide +kernel
theorem dX4_meet_56 : decode cX4_meet 56 = .ok (.bipush 6, 2) := by decide +kernel
theorem dX4_meet_58 : decode cX4_meet 58 = .ok (.idiv, 1) := by decide +kernel
theorem dX4_meet_59 : decode cX4_meet 59 = .ok (.aload_n 0, 1) := by decide +kernel
theorem dX4_meet_60 : decode cX4_meet 60 = .ok (.getfield 28, 3) := by decide +kernel
theorem dX4_meet_63 : decode cX4_meet 63 = .ok (.iload_n 3, 1) := by decide +kernel
theorem dX4_meet_64 : decode cX4_meet 64 = .ok (.iaload, 1) := by decide +kernel
theorem dX4_meet_65 : decode cX4_meet 65 = .ok (.iadd, 1) := by decide +kernel
theorem dX4_meet_66 : decode cX4_meet 66 = .ok (.if_icmp .ge 26, 3) := by decide +kernel
theorem dX4_meet_69 : decode cX4_meet 69 = .ok (.iload 4, 2) := by decide +kernel
theorem dX4_meet_71 : decode cX4_meet 71 = .ok (.bipush 6, 2) := by decide +kernel
theorem dX4_meet_73 : decode cX4_meet 73 = .ok (.idiv, 1) := by decide +kernel
theorem dX4_meet_74 : decode cX4_meet 74 = .ok (.iload_n 2, 1) := by decide +kernel
theorem dX4_meet_75 : decode cX4_meet 75 = .ok (.bipush 6, 2) := by decide +kernel
theorem dX4_meet_77 : decode cX4_meet 77 = .ok (.idiv, 1) := by decide +kernel
theorem dX4_meet_78 : decode cX4_meet 78 = .ok (.aload_n 0, 1) := by decide +kernel
theorem dX4_meet_79 : decode cX4_meet 79 = .ok (.getfield 28, 3) := by decide +kernel
theorem dX4_meet_82 : decode cX4_meet 82 = .ok (.iload_n 1, 1) := by decide +kernel
theorem dX4_meet_83 : decode cX4_meet 83 = .ok (.iaload, 1) := by decide +kernel
theorem dX4_meet_84 : decode cX4_meet 84 = .ok (.iadd, 1) := by decide +kernel
theorem dX4_meet_85 : decode cX4_meet 85 = .ok (.if_icmp .ge 7, 3) := by decide +kernel
theorem dX4_meet_88 : decode cX4_meet 88 = .ok (.iconst 1, 1) := by decide +kernel
theorem dX4_meet_89 : decode cX4_meet 89 = .ok (.goto 4, 3) := by decide +kernel
theorem dX4_meet_92 : decode cX4_meet 92 = .ok (.iconst 0, 1) := by decide +kernel
theorem dX4_meet_93 : decode cX4_meet 93 = .ok (.ireturn, 1) := by decide +kernel
set_option maxRecDepth 20000 in
theorem ggX4_fix_X4_isShip : GoodIn wsX4_fix wsX4_isShip := goodIn_r _ [11, 4, 24, 25, 26, 27, 28, 29, 30, 31, 32, 33, 34, 35, 36, 37, 38, 39, 40, 41, 42] (by decide +kernel) (by decide +kernel)
set_option maxRecDepth 20000 in
theorem gX4_fix_X4_isShip : GoodIn wsX4_fix (wsV RX4 78 RX4 yX4_isShip wsX4_isShip) := goodIn_app (goodIn_of _ (by decide +kernel)) ggX4_fix_X4_isShip
set_option maxRecDepth 20000 in
theorem ggX4_fix_X4_isPlace : GoodIn wsX4_fix wsX4_isPlace := goodIn_r _ [15, 3, 24, 25, 26, 27, 28, 29, 30, 31, 32, 33, 34, 35, 36, 37, 38, 39, 40, 41, 42] (by decide +kernel) (by decide +kernel)
set_option maxRecDepth 20000 in
theorem gX4_fix_X4_isPlace : GoodIn wsX4_fix (wsV RX4 70 RX4 yX4_isPlace wsX4_isPlace) := goodIn_app (goodIn_of _ (by decide +kernel)) ggX4_fix_X4_isPlace
set_option maxRecDepth 20000 in
theorem ggX4_fix_X4_in : GoodIn wsX4_fix wsX4_in := goodIn_r _ [18] (by decide +kernel) (by decide +kernel)
set_option maxRecDepth 20000 in
theorem gX4_fix_X4_in : GoodIn wsX4_fix (va_wsS RX4 62 yX4_in wsX4_in) := goodIn_app (goodIn_of _ (by decide +kernel)) ggX4_fix_X4_in
set_option maxRecDepth 20000 in
theorem ggX4_fix_X4_meet : GoodIn wsX4_fix wsX4_meet := goodIn_r _ [22, 2, 23, 24, 25, 26, 27, 28, 29, 30, 31, 32, 33, 34, 35, 36, 37, 38, 39, 40, 41, 42] (by decide +kernel) (by decide +kernel)
set_option maxRecDepth 20000 in
theorem gX4_fix_X4_meet : GoodIn wsX4_fix (wsV RX4 84 RX4 yX4_meet wsX4_meet) := goodIn_app (goodIn_of _ (by decide +kernel)) ggX4_fix_X4_meet
theorem dX4_fix_0 : decode cX4_fix 0 = .ok (.aload_n 0, 1) := by decide +kernel
theorem dX4_fix_1 : decode cX4_fix 1 = .ok (.iconst 0, 1) := by decide +kernel
theorem dX4_fix_2 : decode cX4_fix 2 = .ok (.putfield 56, 3) := by decide +kernel
theorem dX4_fix_5 : decode cX4_fix 5 = .ok (.aload_n 0, 1) := by decide +kernel
theorem dX4_fix_6 : decode cX4_fix 6 = .ok (.iload_n 1, 1) := by decide +kernel
theorem dX4_fix_7 : decode cX4_fix 7 = .ok (.invokevirtual 78, 3) := by decide +kernel
theorem dX4_fix_10 : decode cX4_fix 10 = .ok (.ifCond .eq 36, 3) := by decide +kernel
theorem dX4_fix_13 : decode cX4_fix 13 = .ok (.aload_n 0, 1) := by decide +kernel
theorem dX4_fix_14 : decode cX4_fix 14 = .ok (.iload_n 2, 1) := by decide +kernel
theorem dX4_fix_15 : decode cX4_fix 15 = .ok (.invokevirtual 70, 3) := by decide +kernel
theorem dX4_fix_18 : decode cX4_fix 18 = .ok (.ifCond .eq 28, 3) := by decide +kernel
theorem dX4_fix_21 : decode cX4_fix 21 = .ok (.iload_n 3, 1) := by decide +kernel
theorem dX4_fix_22 : decode cX4_fix 22 = .ok (.iconst 0, 1) := by decide +kernel
theorem dX4_fix_23 : decode cX4_fix 23 = .ok (.bipush 15, 2) := by decide +kernel
theorem dX4_fix_25 : decode cX4_fix 25 = .ok (.invokestatic 62, 3) := by decide +kernel
theorem dX4_fix_28 : decode cX4_fix 28 = .ok (.ifCond .eq 18, 3) := by decide +kernel
theorem dX4_fix_31 : decode cX4_fix 31 = .ok (.iload_n 2, 1) := by decide +kernel
theorem dX4_fix_32 : decode cX4_fix 32 = .ok (.aload_n 0, 1) := by decide +kernel
theorem dX4_fix_33 : decode cX4_fix 33 = .ok (.getfield 22, 3) := by decide +kernel
theorem dX4_fix_36 : decode cX4_fix 36 = .ok (.iload_n 1, 1) := by decide +kernel
theorem dX4_fix_37 : decode cX4_fix 37 = .ok (.iaload, 1) := by decide +kernel
theorem dX4_fix_38 : decode cX4_fix 38 = .ok (.iadd, 1) := by decide +kernel
theorem dX4_fix_39 : decode cX4_fix 39 = .ok (.aload_n 0, 1) := by decide +kernel
theorem dX4_fix_40 : decode cX4_fix 40 = .ok (.getfield 52, 3) := by decide +kernel
theorem dX4_fix_43 : decode cX4_fix 43 = .ok (.if_icmp .le 5, 3) := by decide +kernel
theorem dX4_fix_46 : decode cX4_fix 46 = .ok (.iconst 0, 1) := by decide +kernel
theorem dX4_fix_47 : decode cX4_fix 47 = .ok (.ireturn, 1) := by decide +kernel
theorem dX4_fix_48 : decode cX4_fix 48 = .ok (.iconst 0, 1) := by decide +kernel
theorem dX4_fix_49 : decode cX4_fix 49 = .ok (.istore 4, 2) := by decide +kernel
theorem dX4_fix_51 : decode cX4_fix 51 = .ok (.iload 4, 2) := by decide +kernel
theorem dX4_fix_53 : decode cX4_fix 53 = .ok (.aload_n 0, 1) := by decide +kernel
theorem dX4_fix_54 : decode cX4_fix 54 = .ok (.getfield 59, 3) := by decide +kernel
theorem dX4_fix_57 : decode cX4_fix 57 = .ok (.if_icmp .ge 50, 3) := by decide +kernel
theorem dX4_fix_60 : decode cX4_fix 60 = .ok (.iload 4, 2) := by decide +kernel
theorem dX4_fix_62 : decode cX4_fix 62 = .ok (.iload_n 1, 1) := by decide +kernel
theorem dX4_fix_63 : decode cX4_fix 63 = .ok (.if_icmp .eq 38, 3) := by decide +kernel
theorem dX4_fix_66 : decode cX4_fix 66 = .ok (.aload_n 0, 1) := by decide +kernel
theorem dX4_fix_67 : decode cX4_fix 67 = .ok (.getfield 40, 3) := by decide +kernel
theorem dX4_fix_70 : decode cX4_fix 70 = .ok (.iload 4, 2) := by decide +kernel
theorem dX4_fix_72 : decode cX4_fix 72 = .ok (.iaload, 1) := by decide +kernel
theorem dX4_fix_73 : decode cX4_fix 73 = .ok (.ifCond .lt 28, 3) := by decide +kernel
theorem dX4_fix_76 : decode cX4_fix 76 = .ok (.aload_n 0, 1) := by decide +kernel
theorem dX4_fix_77 : decode cX4_fix 77 = .ok (.iload_n 1, 1) := by decide +kernel
theorem dX4_fix_78 : decode cX4_fix 78 = .ok (.bipush 6, 2) := by decide +kernel
theorem dX4_fix_80 : decode cX4_fix 80 = .ok (.iload_n 3, 1) := by decide +kernel
theorem dX4_fix_81 : decode cX4_fix 81 = .ok (.imul, 1) := by decide +kernel
theorem dX4_fix_82 : decode cX4_fix 82 = .ok (.iload_n 2, 1) := by decide +kernel
theorem dX4_fix_83 : decode cX4_fix 83 = .ok (.iadd, 1) := by decide +kernel
theorem dX4_fix_84 : decode cX4_fix 84 = .ok (.iload 4, 2) := by decide +kernel
theorem dX4_fix_86 : decode cX4_fix 86 = .ok (.aload_n 0, 1) := by decide +kernel
theorem dX4_fix_87 : decode cX4_fix 87 = .ok (.getfield 40, 3) := by decide +kernel
theorem dX4_fix_90 : decode cX4_fix 90 = .ok (.iload 4, 2) := by decide +kernel
theorem dX4_fix_92 : decode cX4_fix 92 = .ok (.iaload, 1) := by decide +kernel
theorem dX4_fix_93 : decode cX4_fix 93 = .ok (.invokevirtual 84, 3) := by decide +kernel
theorem dX4_fix_96 : decode cX4_fix 96 = .ok (.ifCond .eq 5, 3) := by decide +kernel
theorem dX4_fix_99 : decode cX4_fix 99 = .ok (.iconst 0, 1) := by decide +kernel
theorem dX4_fix_100 : decode cX4_fix 100 = .ok (.ireturn, 1) := by decide +kernel
theorem dX4_fix_101 : decode cX4_fix 101 = .ok (.iinc 4 1, 3) := by decide +kernel
theorem dX4_fix_104 : decode cX4_fix 104 = .ok (.goto (-53), 3) := by decide +kernel
theorem dX4_fix_107 : decode cX4_fix 107 = .ok (.aload_n 0, 1) := by decide +kernel
theorem dX4_fix_108 : decode cX4_fix 108 = .ok (.getfield 40, 3) := by decide +kernel
theorem dX4_fix_111 : decode cX4_fix 111 = .ok (.iload_n 1, 1) := by decide +kernel
theorem dX4_fix_112 : decode cX4_fix 112 = .ok (.bipush 6, 2) := by decide +kernel
theorem dX4_fix_114 : decode cX4_fix 114 = .ok (.iload_n 3, 1) := by decide +kernel
theorem dX4_fix_115 : decode cX4_fix 115 = .ok (.imul, 1) := by decide +kernel
theorem dX4_fix_116 : decode cX4_fix 116 = .ok (.iload_n 2, 1) := by decide +kernel
theorem dX4_fix_117 : decode cX4_fix 117 = .ok (.iadd, 1) := by decide +kernel
theorem dX4_fix_118 : decode cX4_fix 118 = .ok (.iastore, 1) := by decide +kernel
theorem dX4_fix_119 : decode cX4_fix 119 = .ok (.aload_n 0, 1) := by decide +kernel
theorem dX4_fix_120 : decode cX4_fix 120 = .ok (.iconst 0, 1) := by decide +kernel
theorem dX4_fix_121 : decode cX4_fix 121 = .ok (.putfield 66, 3) := by decide +kernel
theorem dX4_fix_124 : decode cX4_fix 124 = .ok (.iconst 1, 1) := by decide +kernel
theorem dX4_fix_125 : decode cX4_fix 125 = .ok (.ireturn, 1) := by decide +kernel
set_option maxRecDepth 20000 in
theorem ggX4_free_X4_isShip : GoodIn wsX4_free wsX4_isShip := goodIn_r _ [8, 9, 10, 11, 12, 13, 14, 15, 16, 17, 18, 19, 20, 21, 22, 23, 24, 25, 26, 27, 28] (by decide +kernel) (by decide +kernel)
set_option maxRecDepth 20000 in
theorem gX4_free_X4_isShip : GoodIn wsX4_free (wsV RX4 78 RX4 yX4_isShip wsX4_isShip) := goodIn_app (goodIn_of _ (by decide +kernel)) ggX4_free_X4_isShip
theorem dX4_free_0 : decode cX4_free 0 = .ok (.aload_n 0, 1) := by decide +kernel
theorem dX4_free_1 : decode cX4_free 1 = .ok (.iconst 0, 1) := by decide +kernel
theorem dX4_free_2 : decode cX4_free 2 = .ok (.putfield 56, 3) := by decide +kernel
theorem dX4_free_5 : decode cX4_free 5 = .ok (.aload_n 0, 1) := by decide +kernel
theorem dX4_free_6 : decode cX4_free 6 = .ok (.iload_n 1, 1) := by decide +kernel
theorem dX4_free_7 : decode cX4_free 7 = .ok (.invokevirtual 78, 3) := by decide +kernel
theorem dX4_free_10 : decode cX4_free 10 = .ok (.ifCond .eq 12, 3) := by decide +kernel
theorem dX4_free_13 : decode cX4_free 13 = .ok (.aload_n 0, 1) := by decide +kernel
theorem dX4_free_14 : decode cX4_free 14 = .ok (.getfield 40, 3) := by decide +kernel
theorem dX4_free_17 : decode cX4_free 17 = .ok (.iload_n 1, 1) := by decide +kernel
theorem dX4_free_18 : decode cX4_free 18 = .ok (.iaload, 1) := by decide +kernel
theorem dX4_free_19 : decode cX4_free 19 = .ok (.ifCond .ge 5, 3) := by decide +kernel
theorem dX4_free_22 : decode cX4_free 22 = .ok (.iconst 0, 1) := by decide +kernel
theorem dX4_free_23 : decode cX4_free 23 = .ok (.ireturn, 1) := by decide +kernel
theorem dX4_free_24 : decode cX4_free 24 = .ok (.aload_n 0, 1) := by decide +kernel
theorem dX4_free_25 : decode cX4_free 25 = .ok (.getfield 40, 3) := by decide +kernel
theorem dX4_free_28 : decode cX4_free 28 = .ok (.iload_n 1, 1) := by decide +kernel
theorem dX4_free_29 : decode cX4_free 29 = .ok (.iconst (-1), 1) := by decide +kernel
theorem dX4_free_30 : decode cX4_free 30 = .ok (.iastore, 1) := by decide +kernel
theorem dX4_free_31 : decode cX4_free 31 = .ok (.aload_n 0, 1) := by decide +kernel
theorem dX4_free_32 : decode cX4_free 32 = .ok (.iconst 0, 1) := by decide +kernel
theorem dX4_free_33 : decode cX4_free 33 = .ok (.putfield 66, 3) := by decide +kernel
theorem dX4_free_36 : decode cX4_free 36 = .ok (.iconst 1, 1) := by decide +kernel
theorem dX4_free_37 : decode cX4_free 37 = .ok (.ireturn, 1) := by decide +kernel
theorem dX4_isDeep_0 : decode cX4_isDeep 0 = .ok (.iload_n 2, 1) := by decide +kernel
theorem dX4_isDeep_1 : decode cX4_isDeep 1 = .ok (.aload_n 0, 1) := by decide +kernel
theorem dX4_isDeep_2 : decode cX4_isDeep 2 = .ok (.getfield 22, 3) := by decide +kernel
theorem dX4_isDeep_5 : decode cX4_isDeep 5 = .ok (.iload_n 1, 1) := by decide +kernel
theorem dX4_isDeep_6 : decode cX4_isDeep 6 = .ok (.iaload, 1) := by decide +kernel
theorem dX4_isDeep_7 : decode cX4_isDeep 7 = .ok (.iadd, 1) := by decide +kernel
theorem dX4_isDeep_8 : decode cX4_isDeep 8 = .ok (.aload_n 0, 1) := by decide +kernel
theorem dX4_isDeep_9 : decode cX4_isDeep 9 = .ok (.getfield 52, 3) := by decide +kernel
theorem dX4_isDeep_12 : decode cX4_isDeep 12 = .ok (.if_icmp .gt 7, 3) := by decide +kernel
theorem dX4_isDeep_15 : decode cX4_isDeep 15 = .ok (.iconst 1, 1) := by decide +kernel
theorem dX4_isDeep_16 : decode cX4_isDeep 16 = .ok (.goto 4, 3) := by decide +kernel
theorem dX4_isDeep_19 : decode cX4_isDeep 19 = .ok (.iconst 0, 1) := by decide +kernel
theorem dX4_isDeep_20 : decode cX4_isDeep 20 = .ok (.istore_n 3, 1) := by decide +kernel
theorem dX4_isDeep_21 : decode cX4_isDeep 21 = .ok (.iload_n 2, 1) := by decide +kernel
theorem dX4_isDeep_22 : decode cX4_isDeep 22 = .ok (.istore 4, 2) := by decide +kernel
theorem dX4_isDeep_24 : decode cX4_isDeep 24 = .ok (.iload 4, 2) := by decide +kernel
theorem dX4_isDeep_26 : decode cX4_isDeep 26 = .ok (.iload_n 2, 1) := by decide +kernel
theorem dX4_isDeep_27 : decode cX4_isDeep 27 = .ok (.aload_n 0, 1) := by decide +kernel
theorem dX4_isDeep_28 : decode cX4_isDeep 28 = .ok (.getfield 22, 3) := by decide +kernel
theorem dX4_isDeep_31 : decode cX4_isDeep 31 = .ok (.iload_n 1, 1) := by decide +kernel
theorem dX4_isDeep_32 : decode cX4_isDeep 32 = .ok (.iaload, 1) := by decide +kernel
theorem dX4_isDeep_33 : decode cX4_isDeep 33 = .ok (.iadd, 1) := by decide +kernel
theorem dX4_isDeep_34 : decode cX4_isDeep 34 = .ok (.if_icmp .ge 35, 3) := by decide +kernel
theorem dX4_isDeep_37 : decode cX4_isDeep 37 = .ok (.iload_n 3, 1) := by decide +kernel
theorem dX4_isDeep_38 : decode cX4_isDeep 38 = .ok (.ifCond .eq 31, 3) := by decide +kernel
theorem dX4_isDeep_41 : decode cX4_isDeep 41 = .ok (.aload_n 0, 1) := by decide +kernel
theorem dX4_isDeep_42 : decode cX4_isDeep 42 = .ok (.getfield 7, 3) := by decide +kernel
theorem dX4_isDeep_45 : decode cX4_isDeep 45 = .ok (.iload 4, 2) := by decide +kernel
theorem dX4_isDeep_47 : decode cX4_isDeep 47 = .ok (.iaload, 1) := by decide +kernel
theorem dX4_isDeep_48 : decode cX4_isDeep 48 = .ok (.aload_n 0, 1) := by decide +kernel
theorem dX4_isDeep_49 : decode cX4_isDeep 49 = .ok (.getfield 25, 3) := by decide +kernel
theorem dX4_isDeep_52 : decode cX4_isDeep 52 = .ok (.iload_n 1, 1) := by decide +kernel
theorem dX4_isDeep_53 : decode cX4_isDeep 53 = .ok (.iaload, 1) := by decide +kernel
theorem dX4_isDeep_54 : decode cX4_isDeep 54 = .ok (.if_icmp .lt 7, 3) := by decide +kernel
theorem dX4_isDeep_57 : decode cX4_isDeep 57 = .ok (.iconst 1, 1) := by decide +kernel
theorem dX4_isDeep_58 : decode cX4_isDeep 58 = .ok (.goto 4, 3) := by decide +kernel
theorem dX4_isDeep_61 : decode cX4_isDeep 61 = .ok (.iconst 0, 1) := by decide +kernel
theorem dX4_isDeep_62 : decode cX4_isDeep 62 = .ok (.istore_n 3, 1) := by decide +kernel
theorem dX4_isDeep_63 : decode cX4_isDeep 63 = .ok (.iinc 4 1, 3) := by decide +kernel
theorem dX4_isDeep_66 : decode cX4_isDeep 66 = .ok (.goto (-42), 3) := by decide +kernel
theorem dX4_isDeep_69 : decode cX4_isDeep 69 = .ok (.iload_n 3, 1) := by decide +kernel
theorem dX4_isDeep_70 : decode cX4_isDeep 70 = .ok (.ireturn, 1) := by decide +kernel
theorem dX4_hasGear_0 : decode cX4_hasGear 0 = .ok (.iconst 0, 1) := by decide +kernel
theorem dX4_hasGear_1 : decode cX4_hasGear 1 = .ok (.istore_n 3, 1) := by decide +kernel
theorem dX4_hasGear_2 : decode cX4_hasGear 2 = .ok (.iload_n 2, 1) := by decide +kernel
theorem dX4_hasGear_3 : decode cX4_hasGear 3 = .ok (.istore 4, 2) := by decide +kernel
theorem dX4_hasGear_5 : decode cX4_hasGear 5 = .ok (.iload 4, 2) := by decide +kernel
theorem dX4_hasGear_7 : decode cX4_hasGear 7 = .ok (.iload_n 2, 1) := by decide +kernel
theorem dX4_hasGear_8 : decode cX4_hasGear 8 = .ok (.aload_n 0, 1) := by decide +kernel
theorem dX4_hasGear_9 : decode cX4_hasGear 9 = .ok (.getfield 22, 3) := by decide +kernel
theorem dX4_hasGear_12 : decode cX4_hasGear 12 = .ok (.iload_n 1, 1) := by decide +kernel
theorem dX4_hasGear_13 : decode cX4_hasGear 13 = .ok (.iaload, 1) := by decide +kernel
theorem dX4_hasGear_14 : decode cX4_hasGear 14 = .ok (.iadd, 1) := by decide +kernel
theorem dX4_hasGear_15 : decode cX4_hasGear 15 = .ok (.if_icmp .ge 28, 3) := by decide +kernel
theorem dX4_hasGear_18 : decode cX4_hasGear 18 = .ok (.iload 4, 2) := by decide +kernel
theorem dX4_hasGear_20 : decode cX4_hasGear 20 = .ok (.aload_n 0, 1) := by decide +kernel
theorem dX4_hasGear_21 : decode cX4_hasGear 21 = .ok (.getfield 52, 3) := by decide +kernel
theorem dX4_hasGear_24 : decode cX4_hasGear 24 = .ok (.if_icmp .ge 19, 3) := by decide +kernel
theorem dX4_hasGear_27 : decode cX4_hasGear 27 = .ok (.iload_n 3, 1) := by decide +kernel
theorem dX4_hasGear_28 : decode cX4_hasGear 28 = .ok (.aload_n 0, 1) := by decide +kernel
theorem dX4_hasGear_29 : decode cX4_hasGear 29 = .ok (.getfield 13, 3) := by decide +kernel
theorem dX4_hasGear_32 : decode cX4_hasGear 32 = .ok (.iload 4, 2) := by decide +kernel
theorem dX4_hasGear_34 : decode cX4_hasGear 34 = .ok (.iaload, 1) := by decide +kernel
theorem dX4_hasGear_35 : decode cX4_hasGear 35 = .ok (.ior, 1) := by decide +kernel
theorem dX4_hasGear_36 : decode cX4_hasGear 36 = .ok (.istore_n 3, 1) := by decide +kernel
theorem dX4_hasGear_37 : decode cX4_hasGear 37 = .ok (.iinc 4 1, 3) := by decide +kernel
theorem dX4_hasGear_40 : decode cX4_hasGear 40 = .ok (.goto (-35), 3) := by decide +kernel
theorem dX4_hasGear_43 : decode cX4_hasGear 43 = .ok (.aload_n 0, 1) := by decide +kernel
theorem dX4_hasGear_44 : decode cX4_hasGear 44 = .ok (.getfield 37, 3) := by decide +kernel
theorem dX4_hasGear_47 : decode cX4_hasGear 47 = .ok (.iload_n 1, 1) := by decide +kernel
theorem dX4_hasGear_48 : decode cX4_hasGear 48 = .ok (.iaload, 1) := by decide +kernel
theorem dX4_hasGear_49 : decode cX4_hasGear 49 = .ok (.iload_n 3, 1) := by decide +kernel
theorem dX4_hasGear_50 : decode cX4_hasGear 50 = .ok (.iand, 1) := by decide +kernel
theorem dX4_hasGear_51 : decode cX4_hasGear 51 = .ok (.aload_n 0, 1) := by decide +kernel
theorem dX4_hasGear_52 : decode cX4_hasGear 52 = .ok (.getfield 37, 3) := by decide +kernel
theorem dX4_hasGear_55 : decode cX4_hasGear 55 = .ok (.iload_n 1, 1) := by decide +kernel
theorem dX4_hasGear_56 : decode cX4_hasGear 56 = .ok (.iaload, 1) := by decide +kernel
theorem dX4_hasGear_57 : decode cX4_hasGear 57 = .ok (.if_icmp .ne 7, 3) := by decide +kernel
theorem dX4_hasGear_60 : decode cX4_hasGear 60 = .ok (.iconst 1, 1) := by decide +kernel
theorem dX4_hasGear_61 : decode cX4_hasGear 61 = .ok (.goto 4, 3) := by decide +kernel
theorem dX4_hasGear_64 : decode cX4_hasGear 64 = .ok (.iconst 0, 1) := by decide +kernel
theorem dX4_hasGear_65 : decode cX4_hasGear 65 = .ok (.ireturn, 1) := by decide +kernel
set_option maxRecDepth 20000 in
theorem ggX4_isTide_X4_in : GoodIn wsX4_isTide wsX4_in := goodIn_r _ [7] (by decide +kernel) (by decide +kernel)
set_option maxRecDepth 20000 in
theorem gX4_isTide_X4_in : GoodIn wsX4_isTide (va_wsS RX4 62 yX4_in wsX4_in) := goodIn_app (goodIn_of _ (by decide +kernel)) ggX4_isTide_X4_in
theorem dX4_isTide_0 : decode cX4_isTide 0 = .ok (.aload_n 0, 1) := by decide +kernel
theorem dX4_isTide_1 : decode cX4_isTide 1 = .ok (.getfield 81, 3) := by decide +kernel
theorem dX4_isTide_4 : decode cX4_isTide 4 = .ok (.ifCond .ne 7, 3) := by decide +kernel
theorem dX4_isTide_7 : decode cX4_isTide 7 = .ok (.iconst 1, 1) := by decide +kernel
theorem dX4_isTide_8 : decode cX4_isTide 8 = .ok (.goto 4, 3) := by decide +kernel
theorem dX4_isTide_11 : decode cX4_isTide 11 = .ok (.iconst 0, 1) := by decide +kernel
theorem dX4_isTide_12 : decode cX4_isTide 12 = .ok (.istore_n 2, 1) := by decide +kernel
theorem dX4_isTide_13 : decode cX4_isTide 13 = .ok (.iconst 0, 1) := by decide +kernel
theorem dX4_isTide_14 : decode cX4_isTide 14 = .ok (.istore_n 3, 1) := by decide +kernel
theorem dX4_isTide_15 : decode cX4_isTide 15 = .ok (.iload_n 3, 1) := by decide +kernel
theorem dX4_isTide_16 : decode cX4_isTide 16 = .ok (.aload_n 0, 1) := by decide +kernel
theorem dX4_isTide_17 : decode cX4_isTide 17 = .ok (.getfield 81, 3) := by decide +kernel
theorem dX4_isTide_20 : decode cX4_isTide 20 = .ok (.if_icmp .ge 38, 3) := by decide +kernel
theorem dX4_isTide_23 : decode cX4_isTide 23 = .ok (.iload_n 2, 1) := by decide +kernel
theorem dX4_isTide_24 : decode cX4_isTide 24 = .ok (.ifCond .ne 22, 3) := by decide +kernel
theorem dX4_isTide_27 : decode cX4_isTide 27 = .ok (.iload_n 1, 1) := by decide +kernel
theorem dX4_isTide_28 : decode cX4_isTide 28 = .ok (.aload_n 0, 1) := by decide +kernel
theorem dX4_isTide_29 : decode cX4_isTide 29 = .ok (.getfield 16, 3) := by decide +kernel
theorem dX4_isTide_32 : decode cX4_isTide 32 = .ok (.iload_n 3, 1) := by decide +kernel
theorem dX4_isTide_33 : decode cX4_isTide 33 = .ok (.iaload, 1) := by decide +kernel
theorem dX4_isTide_34 : decode cX4_isTide 34 = .ok (.aload_n 0, 1) := by decide +kernel
theorem dX4_isTide_35 : decode cX4_isTide 35 = .ok (.getfield 19, 3) := by decide +kernel
theorem dX4_isTide_38 : decode cX4_isTide 38 = .ok (.iload_n 3, 1) := by decide +kernel
theorem dX4_isTide_39 : decode cX4_isTide 39 = .ok (.iaload, 1) := by decide +kernel
theorem dX4_isTide_40 : decode cX4_isTide 40 = .ok (.invokestatic 62, 3) := by decide +kernel
theorem dX4_isTide_43 : decode cX4_isTide 43 = .ok (.ifCond .eq 7, 3) := by decide +kernel
theorem dX4_isTide_46 : decode cX4_isTide 46 = .ok (.iconst 1, 1) := by decide +kernel
theorem dX4_isTide_47 : decode cX4_isTide 47 = .ok (.goto 4, 3) := by decide +kernel
theorem dX4_isTide_50 : decode cX4_isTide 50 = .ok (.iconst 0, 1) := by decide +kernel
theorem dX4_isTide_51 : decode cX4_isTide 51 = .ok (.istore_n 2, 1) := by decide +kernel
theorem dX4_isTide_52 : decode cX4_isTide 52 = .ok (.iinc 3 1, 3) := by decide +kernel
theorem dX4_isTide_55 : decode cX4_isTide 55 = .ok (.goto (-40), 3) := by decide +kernel
theorem dX4_isTide_58 : decode cX4_isTide 58 = .ok (.iload_n 2, 1) := by decide +kernel
theorem dX4_isTide_59 : decode cX4_isTide 59 = .ok (.ireturn, 1) := by decide +kernel
set_option maxRecDepth 20000 in
theorem ggX4_mayBe_X4_isTide : GoodIn wsX4_mayBe wsX4_isTide := goodIn_r _ [8, 9, 10, 11, 12, 13, 7, 14, 28, 29, 30, 31, 32, 33, 34, 35, 36, 37, 38, 39, 40, 41, 42, 43, 44, 45, 46] (by decide +kernel) (by decide +kernel)
set_option maxRecDepth 20000 in
theorem gX4_mayBe_X4_isTide : GoodIn wsX4_mayBe (wsV RX4 88 RX4 yX4_isTide wsX4_isTide) := goodIn_app (goodIn_of _ (by decide +kernel)) ggX4_mayBe_X4_isTide
set_option maxRecDepth 20000 in
theorem ggX4_mayBe_X4_isDeep : GoodIn wsX4_mayBe wsX4_isDeep := goodIn_r _ [18, 19, 2, 20, 21, 28, 29, 30, 31, 32, 33, 34, 35, 36, 37, 38, 39, 40, 41, 42, 43, 44, 45, 46] (by decide +kernel) (by decide +kernel)
set_option maxRecDepth 20000 in
theorem gX4_mayBe_X4_isDeep : GoodIn wsX4_mayBe (wsV RX4 91 RX4 yX4_isDeep wsX4_isDeep) := goodIn_app (goodIn_of _ (by decide +kernel)) ggX4_mayBe_X4_isDeep
set_option maxRecDepth 20000 in
theorem ggX4_mayBe_X4_hasGear : GoodIn wsX4_mayBe wsX4_hasGear := goodIn_r _ [25, 19, 2, 26, 27, 28, 29, 30, 31, 32, 33, 34, 35, 36, 37, 38, 39, 40, 41, 42, 43, 44, 45, 46] (by decide +kernel) (by decide +kernel)
set_option maxRecDepth 20000 in
theorem gX4_mayBe_X4_hasGear : GoodIn wsX4_mayBe (wsV RX4 94 RX4 yX4_hasGear wsX4_hasGear) := goodIn_app (goodIn_of _ (by decide +kernel)) ggX4_mayBe_X4_hasGear
theorem dX4_mayBe_0 : decode cX4_mayBe 0 = .ok (.aload_n 0, 1) := by decide +kernel
theorem dX4_mayBe_1 : decode cX4_mayBe 1 = .ok (.getfield 40, 3) := by decide +kernel
theorem dX4_mayBe_4 : decode cX4_mayBe 4 = .ok (.iload_n 1, 1) := by decide +kernel
theorem dX4_mayBe_5 : decode cX4_mayBe 5 = .ok (.iaload, 1) := by decide +kernel
theorem dX4_mayBe_6 : decode cX4_mayBe 6 = .ok (.ifCond .lt 19, 3) := by decide +kernel
theorem dX4_mayBe_9 : decode cX4_mayBe 9 = .ok (.iload_n 2, 1) := by decide +kernel
theorem dX4_mayBe_10 : decode cX4_mayBe 10 = .ok (.aload_n 0, 1) := by decide +kernel
theorem dX4_mayBe_11 : decode cX4_mayBe 11 = .ok (.getfield 40, 3) := by decide +kernel
theorem dX4_mayBe_14 : decode cX4_mayBe 14 = .ok (.iload_n 1, 1) := by decide +kernel
theorem dX4_mayBe_15 : decode cX4_mayBe 15 = .ok (.iaload, 1) := by decide +kernel
theorem dX4_mayBe_16 : decode cX4_mayBe 16 = .ok (.if_icmp .ne 7, 3) := by decide +kernel
theorem dX4_mayBe_19 : decode cX4_mayBe 19 = .ok (.iconst 1, 1) := by decide +kernel
theorem dX4_mayBe_20 : decode cX4_mayBe 20 = .ok (.goto 4, 3) := by decide +kernel
theorem dX4_mayBe_23 : decode cX4_mayBe 23 = .ok (.iconst 0, 1) := by decide +kernel
theorem dX4_mayBe_24 : decode cX4_mayBe 24 = .ok (.ireturn, 1) := by decide +kernel
theorem dX4_mayBe_25 : decode cX4_mayBe 25 = .ok (.iload_n 2, 1) := by decide +kernel
theorem dX4_mayBe_26 : decode cX4_mayBe 26 = .ok (.bipush 6, 2) := by decide +kernel
theorem dX4_mayBe_28 : decode cX4_mayBe 28 = .ok (.irem, 1) := by decide +kernel
theorem dX4_mayBe_29 : decode cX4_mayBe 29 = .ok (.aload_n 0, 1) := by decide +kernel
theorem dX4_mayBe_30 : decode cX4_mayBe 30 = .ok (.getfield 52, 3) := by decide +kernel
theorem dX4_mayBe_33 : decode cX4_mayBe 33 = .ok (.if_icmp .ge 55, 3) := by decide +kernel
theorem dX4_mayBe_36 : decode cX4_mayBe 36 = .ok (.iload_n 2, 1) := by decide +kernel
theorem dX4_mayBe_37 : decode cX4_mayBe 37 = .ok (.bipush 6, 2) := by decide +kernel
theorem dX4_mayBe_39 : decode cX4_mayBe 39 = .ok (.idiv, 1) := by decide +kernel
theorem dX4_mayBe_40 : decode cX4_mayBe 40 = .ok (.aload_n 0, 1) := by decide +kernel
theorem dX4_mayBe_41 : decode cX4_mayBe 41 = .ok (.getfield 31, 3) := by decide +kernel
theorem dX4_mayBe_44 : decode cX4_mayBe 44 = .ok (.iload_n 1, 1) := by decide +kernel
theorem dX4_mayBe_45 : decode cX4_mayBe 45 = .ok (.iaload, 1) := by decide +kernel
theorem dX4_mayBe_46 : decode cX4_mayBe 46 = .ok (.if_icmp .lt 42, 3) := by decide +kernel
theorem dX4_mayBe_49 : decode cX4_mayBe 49 = .ok (.aload_n 0, 1) := by decide +kernel
theorem dX4_mayBe_50 : decode cX4_mayBe 50 = .ok (.iload_n 2, 1) := by decide +kernel
theorem dX4_mayBe_51 : decode cX4_mayBe 51 = .ok (.bipush 6, 2) := by decide +kernel
theorem dX4_mayBe_53 : decode cX4_mayBe 53 = .ok (.idiv, 1) := by decide +kernel
theorem dX4_mayBe_54 : decode cX4_mayBe 54 = .ok (.invokevirtual 88, 3) := by decide +kernel
theorem dX4_mayBe_57 : decode cX4_mayBe 57 = .ok (.ifCond .eq 31, 3) := by decide +kernel
theorem dX4_mayBe_60 : decode cX4_mayBe 60 = .ok (.aload_n 0, 1) := by decide +kernel
theorem dX4_mayBe_61 : decode cX4_mayBe 61 = .ok (.iload_n 1, 1) := by decide +kernel
theorem dX4_mayBe_62 : decode cX4_mayBe 62 = .ok (.iload_n 2, 1) := by decide +kernel
theorem dX4_mayBe_63 : decode cX4_mayBe 63 = .ok (.bipush 6, 2) := by decide +kernel
theorem dX4_mayBe_65 : decode cX4_mayBe 65 = .ok (.irem, 1) := by decide +kernel
theorem dX4_mayBe_66 : decode cX4_mayBe 66 = .ok (.invokevirtual 91, 3) := by decide +kernel
theorem dX4_mayBe_69 : decode cX4_mayBe 69 = .ok (.ifCond .eq 19, 3) := by decide +kernel
theorem dX4_mayBe_72 : decode cX4_mayBe 72 = .ok (.aload_n 0, 1) := by decide +kernel
theorem dX4_mayBe_73 : decode cX4_mayBe 73 = .ok (.iload_n 1, 1) := by decide +kernel
theorem dX4_mayBe_74 : decode cX4_mayBe 74 = .ok (.iload_n 2, 1) := by decide +kernel
theorem dX4_mayBe_75 : decode cX4_mayBe 75 = .ok (.bipush 6, 2) := by decide +kernel
theorem dX4_mayBe_77 : decode cX4_mayBe 77 = .ok (.irem, 1) := by decide +kernel
theorem dX4_mayBe_78 : decode cX4_mayBe 78 = .ok (.invokevirtual 94, 3) := by decide +kernel
theorem dX4_mayBe_81 : decode cX4_mayBe 81 = .ok (.ifCond .eq 7, 3) := by decide +kernel
theorem dX4_mayBe_84 : decode cX4_mayBe 84 = .ok (.iconst 1, 1) := by decide +kernel
theorem dX4_mayBe_85 : decode cX4_mayBe 85 = .ok (.goto 4, 3) := by decide +kernel
theorem dX4_mayBe_88 : decode cX4_mayBe 88 = .ok (.iconst 0, 1) := by decide +kernel
theorem dX4_mayBe_89 : decode cX4_mayBe 89 = .ok (.ireturn, 1) := by decide +kernel
theorem dX4_cost_0 : decode cX4_cost 0 = .ok (.aload_n 0, 1) := by decide +kernel
theorem dX4_cost_1 : decode cX4_cost 1 = .ok (.getfield 34, 3) := by decide +kernel
theorem dX4_cost_4 : decode cX4_cost 4 = .ok (.iload_n 1, 1) := by decide +kernel
theorem dX4_cost_5 : decode cX4_cost 5 = .ok (.iaload, 1) := by decide +kernel
theorem dX4_cost_6 : decode cX4_cost 6 = .ok (.iload_n 2, 1) := by decide +kernel
theorem dX4_cost_7 : decode cX4_cost 7 = .ok (.bipush 6, 2) := by decide +kernel
theorem dX4_cost_9 : decode cX4_cost 9 = .ok (.idiv, 1) := by decide +kernel
theorem dX4_cost_10 : decode cX4_cost 10 = .ok (.aload_n 0, 1) := by decide +kernel
theorem dX4_cost_11 : decode cX4_cost 11 = .ok (.getfield 31, 3) := by decide +kernel
theorem dX4_cost_14 : decode cX4_cost 14 = .ok (.iload_n 1, 1) := by decide +kernel
theorem dX4_cost_15 : decode cX4_cost 15 = .ok (.iaload, 1) := by decide +kernel
theorem dX4_cost_16 : decode cX4_cost 16 = .ok (.isub, 1) := by decide +kernel
theorem dX4_cost_17 : decode cX4_cost 17 = .ok (.imul, 1) := by decide +kernel
theorem dX4_cost_18 : decode cX4_cost 18 = .ok (.ireturn, 1) := by decide +kernel
set_option maxRecDepth 20000 in
theorem ggX4_leastOf_X4_mayBe : GoodIn wsX4_leastOf wsX4_mayBe := goodIn_r _ [6, 7, 8, 9, 10, 11, 12, 5, 13, 14, 15, 16, 17, 18, 19, 20, 21, 22, 23, 24, 25, 26, 27, 28, 29, 30, 31, 32, 38, 39, 40, 41, 42, 43, 44, 45, 46, 47, 48, 49, 50, 51, 52, 53, 54, 55, 56] (by decide +kernel) (by decide +kernel)
set_option maxRecDepth 20000 in
theorem gX4_leastOf_X4_mayBe : GoodIn wsX4_leastOf (wsV RX4 98 RX4 yX4_mayBe wsX4_mayBe) := goodIn_app (goodIn_of _ (by decide +kernel)) ggX4_leastOf_X4_mayBe
set_option maxRecDepth 20000 in
theorem ggX4_leastOf_X4_cost : GoodIn wsX4_leastOf wsX4_cost := goodIn_r _ [36, 37, 9, 38, 39, 40, 41, 42, 43, 44, 45, 46, 47, 48, 49, 50, 51, 52, 53, 54, 55, 56] (by decide +kernel) (by decide +kernel)
set_option maxRecDepth 20000 in
theorem gX4_leastOf_X4_cost : GoodIn wsX4_leastOf (wsV RX4 101 RX4 yX4_cost wsX4_cost) := goodIn_app (goodIn_of _ (by decide +kernel)) ggX4_leastOf_X4_cost
theorem dX4_leastOf_0 : decode cX4_leastOf 0 = .ok (.ldc 97, 2) := by decide +kernel
theorem dX4_leastOf_2 : decode cX4_leastOf 2 = .ok (.istore_n 2, 1) := by decide +kernel
theorem dX4_leastOf_3 : decode cX4_leastOf 3 = .ok (.iconst 0, 1) := by decide +kernel
theorem dX4_leastOf_4 : decode cX4_leastOf 4 = .ok (.istore_n 3, 1) := by decide +kernel
theorem dX4_leastOf_5 : decode cX4_leastOf 5 = .ok (.iload_n 3, 1) := by decide +kernel
theorem dX4_leastOf_6 : decode cX4_leastOf 6 = .ok (.bipush 96, 2) := by decide +kernel
theorem dX4_leastOf_8 : decode cX4_leastOf 8 = .ok (.if_icmp .ge 39, 3) := by decide +kernel
theorem dX4_leastOf_11 : decode cX4_leastOf 11 = .ok (.aload_n 0, 1) := by decide +kernel
theorem dX4_leastOf_12 : decode cX4_leastOf 12 = .ok (.iload_n 1, 1) := by decide +kernel
theorem dX4_leastOf_13 : decode cX4_leastOf 13 = .ok (.iload_n 3, 1) := by decide +kernel
theorem dX4_leastOf_14 : decode cX4_leastOf 14 = .ok (.invokevirtual 98, 3) := by decide +kernel
theorem dX4_leastOf_17 : decode cX4_leastOf 17 = .ok (.ifCond .eq 22, 3) := by decide +kernel
theorem dX4_leastOf_20 : decode cX4_leastOf 20 = .ok (.aload_n 0, 1) := by decide +kernel
theorem dX4_leastOf_21 : decode cX4_leastOf 21 = .ok (.iload_n 1, 1) := by decide +kernel
theorem dX4_leastOf_22 : decode cX4_leastOf 22 = .ok (.iload_n 3, 1) := by decide +kernel
theorem dX4_leastOf_23 : decode cX4_leastOf 23 = .ok (.invokevirtual 101, 3) := by decide +kernel
theorem dX4_leastOf_26 : decode cX4_leastOf 26 = .ok (.iload_n 2, 1) := by decide +kernel
theorem dX4_leastOf_27 : decode cX4_leastOf 27 = .ok (.if_icmp .ge 12, 3) := by decide +kernel
theorem dX4_leastOf_30 : decode cX4_leastOf 30 = .ok (.aload_n 0, 1) := by decide +kernel
theorem dX4_leastOf_31 : decode cX4_leastOf 31 = .ok (.iload_n 1, 1) := by decide +kernel
theorem dX4_leastOf_32 : decode cX4_leastOf 32 = .ok (.iload_n 3, 1) := by decide +kernel
theorem dX4_leastOf_33 : decode cX4_leastOf 33 = .ok (.invokevirtual 101, 3) := by decide +kernel
theorem dX4_leastOf_36 : decode cX4_leastOf 36 = .ok (.goto 4, 3) := by decide +kernel
theorem dX4_leastOf_39 : decode cX4_leastOf 39 = .ok (.iload_n 2, 1) := by decide +kernel
theorem dX4_leastOf_40 : decode cX4_leastOf 40 = .ok (.istore_n 2, 1) := by decide +kernel
theorem dX4_leastOf_41 : decode cX4_leastOf 41 = .ok (.iinc 3 1, 3) := by decide +kernel
theorem dX4_leastOf_44 : decode cX4_leastOf 44 = .ok (.goto (-39), 3) := by decide +kernel
theorem dX4_leastOf_47 : decode cX4_leastOf 47 = .ok (.iload_n 2, 1) := by decide +kernel
theorem dX4_leastOf_48 : decode cX4_leastOf 48 = .ok (.ireturn, 1) := by decide +kernel
set_option maxRecDepth 20000 in
theorem ggX4_isClear_X4_meet : GoodIn wsX4_isClear wsX4_meet := goodIn_r _ [6, 7, 8, 9, 10, 11, 12, 13, 14, 15, 16, 17, 18, 19, 20, 21, 22, 23, 24, 25, 26, 27] (by decide +kernel) (by decide +kernel)
set_option maxRecDepth 20000 in
theorem gX4_isClear_X4_meet : GoodIn wsX4_isClear (wsV RX4 84 RX4 yX4_meet wsX4_meet) := goodIn_app (goodIn_of _ (by decide +kernel)) ggX4_isClear_X4_meet
theorem dX4_isClear_0 : decode cX4_isClear 0 = .ok (.iconst 1, 1) := by decide +kernel
theorem dX4_isClear_1 : decode cX4_isClear 1 = .ok (.istore_n 3, 1) := by decide +kernel
theorem dX4_isClear_2 : decode cX4_isClear 2 = .ok (.iconst 0, 1) := by decide +kernel
theorem dX4_isClear_3 : decode cX4_isClear 3 = .ok (.istore 4, 2) := by decide +kernel
theorem dX4_isClear_5 : decode cX4_isClear 5 = .ok (.iload 4, 2) := by decide +kernel
theorem dX4_isClear_7 : decode cX4_isClear 7 = .ok (.iload_n 1, 1) := by decide +kernel
theorem dX4_isClear_8 : decode cX4_isClear 8 = .ok (.if_icmp .ge 37, 3) := by decide +kernel
theorem dX4_isClear_11 : decode cX4_isClear 11 = .ok (.iload_n 3, 1) := by decide +kernel
theorem dX4_isClear_12 : decode cX4_isClear 12 = .ok (.ifCond .eq 25, 3) := by decide +kernel
theorem dX4_isClear_15 : decode cX4_isClear 15 = .ok (.aload_n 0, 1) := by decide +kernel
theorem dX4_isClear_16 : decode cX4_isClear 16 = .ok (.iload_n 1, 1) := by decide +kernel
theorem dX4_isClear_17 : decode cX4_isClear 17 = .ok (.iload_n 2, 1) := by decide +kernel
theorem dX4_isClear_18 : decode cX4_isClear 18 = .ok (.iload 4, 2) := by decide +kernel
theorem dX4_isClear_20 : decode cX4_isClear 20 = .ok (.aload_n 0, 1) := by decide +kernel
theorem dX4_isClear_21 : decode cX4_isClear 21 = .ok (.getfield 46, 3) := by decide +kernel
theorem dX4_isClear_24 : decode cX4_isClear 24 = .ok (.iload 4, 2) := by decide +kernel
theorem dX4_isClear_26 : decode cX4_isClear 26 = .ok (.iaload, 1) := by decide +kernel
theorem dX4_isClear_27 : decode cX4_isClear 27 = .ok (.invokevirtual 84, 3) := by decide +kernel
theorem dX4_isClear_30 : decode cX4_isClear 30 = .ok (.ifCond .ne 7, 3) := by decide +kernel
theorem dX4_isClear_33 : decode cX4_isClear 33 = .ok (.iconst 1, 1) := by decide +kernel
theorem dX4_isClear_34 : decode cX4_isClear 34 = .ok (.goto 4, 3) := by decide +kernel
theorem dX4_isClear_37 : decode cX4_isClear 37 = .ok (.iconst 0, 1) := by decide +kernel
theorem dX4_isClear_38 : decode cX4_isClear 38 = .ok (.istore_n 3, 1) := by decide +kernel
theorem dX4_isClear_39 : decode cX4_isClear 39 = .ok (.iinc 4 1, 3) := by decide +kernel
theorem dX4_isClear_42 : decode cX4_isClear 42 = .ok (.goto (-37), 3) := by decide +kernel
theorem dX4_isClear_45 : decode cX4_isClear 45 = .ok (.iload_n 3, 1) := by decide +kernel
theorem dX4_isClear_46 : decode cX4_isClear 46 = .ok (.ireturn, 1) := by decide +kernel
set_option maxRecDepth 20000 in
theorem ggX4_costUpTo_X4_cost : GoodIn wsX4_costUpTo wsX4_cost := goodIn_r _ [6, 7, 8, 9, 10, 11, 12, 13, 14, 15, 16, 17, 18, 19, 20, 21, 22, 23, 24, 25, 26, 27] (by decide +kernel) (by decide +kernel)
set_option maxRecDepth 20000 in
theorem gX4_costUpTo_X4_cost : GoodIn wsX4_costUpTo (wsV RX4 101 RX4 yX4_cost wsX4_cost) := goodIn_app (goodIn_of _ (by decide +kernel)) ggX4_costUpTo_X4_cost
theorem dX4_costUpTo_0 : decode cX4_costUpTo 0 = .ok (.iconst 0, 1) := by decide +kernel
theorem dX4_costUpTo_1 : decode cX4_costUpTo 1 = .ok (.istore_n 2, 1) := by decide +kernel
theorem dX4_costUpTo_2 : decode cX4_costUpTo 2 = .ok (.iconst 0, 1) := by decide +kernel
theorem dX4_costUpTo_3 : decode cX4_costUpTo 3 = .ok (.istore_n 3, 1) := by decide +kernel
theorem dX4_costUpTo_4 : decode cX4_costUpTo 4 = .ok (.iload_n 3, 1) := by decide +kernel
theorem dX4_costUpTo_5 : decode cX4_costUpTo 5 = .ok (.iload_n 1, 1) := by decide +kernel
theorem dX4_costUpTo_6 : decode cX4_costUpTo 6 = .ok (.if_icmp .ge 23, 3) := by decide +kernel
theorem dX4_costUpTo_9 : decode cX4_costUpTo 9 = .ok (.iload_n 2, 1) := by decide +kernel
theorem dX4_costUpTo_10 : decode cX4_costUpTo 10 = .ok (.aload_n 0, 1) := by decide +kernel
theorem dX4_costUpTo_11 : decode cX4_costUpTo 11 = .ok (.iload_n 3, 1) := by decide +kernel
theorem dX4_costUpTo_12 : decode cX4_costUpTo 12 = .ok (.aload_n 0, 1) := by decide +kernel
theorem dX4_costUpTo_13 : decode cX4_costUpTo 13 = .ok (.getfield 46, 3) := by decide +kernel
theorem dX4_costUpTo_16 : decode cX4_costUpTo 16 = .ok (.iload_n 3, 1) := by decide +kernel
theorem dX4_costUpTo_17 : decode cX4_costUpTo 17 = .ok (.iaload, 1) := by decide +kernel
theorem dX4_costUpTo_18 : decode cX4_costUpTo 18 = .ok (.invokevirtual 101, 3) := by decide +kernel
theorem dX4_costUpTo_21 : decode cX4_costUpTo 21 = .ok (.iadd, 1) := by decide +kernel
theorem dX4_costUpTo_22 : decode cX4_costUpTo 22 = .ok (.istore_n 2, 1) := by decide +kernel
theorem dX4_costUpTo_23 : decode cX4_costUpTo 23 = .ok (.iinc 3 1, 3) := by decide +kernel
theorem dX4_costUpTo_26 : decode cX4_costUpTo 26 = .ok (.goto (-22), 3) := by decide +kernel
theorem dX4_costUpTo_29 : decode cX4_costUpTo 29 = .ok (.iload_n 2, 1) := by decide +kernel
theorem dX4_costUpTo_30 : decode cX4_costUpTo 30 = .ok (.ireturn, 1) := by decide +kernel
set_option maxRecDepth 20000 in
theorem ggX4_search_X4_leastOf : GoodIn wsX4_search wsX4_leastOf := goodIn_r _ [10, 3, 11, 12, 13, 9, 14, 15, 16, 17, 18, 19, 20, 21, 22, 23, 24, 25, 26, 27, 28, 29, 30, 31, 32, 33, 34, 35, 36, 37, 38, 39, 40, 41, 42, 43, 44, 45, 59, 60, 61, 62, 63, 64, 65, 66, 67, 68, 69, 70, 71, 72, 73, 74, 75, 76, 77] (by decide +kernel) (by decide +kernel)
set_option maxRecDepth 20000 in
theorem gX4_search_X4_leastOf : GoodIn wsX4_search (wsV RX4 105 RX4 yX4_leastOf wsX4_leastOf) := goodIn_app (goodIn_of _ (by decide +kernel)) ggX4_search_X4_leastOf
set_option maxRecDepth 20000 in
theorem ggX4_search_X4_costUpTo : GoodIn wsX4_search wsX4_costUpTo := goodIn_r _ [49, 4, 41, 42, 43, 9, 44, 45, 17, 59, 60, 61, 62, 63, 64, 65, 66, 67, 68, 69, 70, 71, 72, 73, 74, 75, 76, 77] (by decide +kernel) (by decide +kernel)
set_option maxRecDepth 20000 in
theorem gX4_search_X4_costUpTo : GoodIn wsX4_search (wsV RX4 109 RX4 yX4_costUpTo wsX4_costUpTo) := goodIn_app (goodIn_of _ (by decide +kernel)) ggX4_search_X4_costUpTo
set_option maxRecDepth 20000 in
theorem ggX4_search_X4_mayBe : GoodIn wsX4_search wsX4_mayBe := goodIn_r _ [14, 15, 16, 17, 18, 19, 20, 9, 21, 22, 23, 24, 25, 26, 27, 28, 29, 30, 31, 32, 33, 34, 35, 36, 37, 38, 39, 40, 59, 60, 61, 62, 63, 64, 65, 66, 67, 68, 69, 70, 71, 72, 73, 74, 75, 76, 77] (by decide +kernel) (by decide +kernel)
set_option maxRecDepth 20000 in
theorem gX4_search_X4_mayBe : GoodIn wsX4_search (wsV RX4 98 RX4 yX4_mayBe wsX4_mayBe) := goodIn_app (goodIn_of _ (by decide +kernel)) ggX4_search_X4_mayBe
set_option maxRecDepth 20000 in
theorem ggX4_search_X4_cost : GoodIn wsX4_search wsX4_cost := goodIn_r _ [44, 45, 17, 59, 60, 61, 62, 63, 64, 65, 66, 67, 68, 69, 70, 71, 72, 73, 74, 75, 76, 77] (by decide +kernel) (by decide +kernel)
set_option maxRecDepth 20000 in
theorem gX4_search_X4_cost : GoodIn wsX4_search (wsV RX4 101 RX4 yX4_cost wsX4_cost) := goodIn_app (goodIn_of _ (by decide +kernel)) ggX4_search_X4_cost
set_option maxRecDepth 20000 in
theorem ggX4_search_X4_isClear : GoodIn wsX4_search wsX4_isClear := goodIn_r _ [53, 4, 54, 55, 56, 9, 57, 32, 58, 59, 60, 61, 62, 63, 64, 65, 66, 67, 68, 69, 70, 71, 72, 73, 74, 75, 76, 77] (by decide +kernel) (by decide +kernel)
set_option maxRecDepth 20000 in
theorem gX4_search_X4_isClear : GoodIn wsX4_search (wsV RX4 112 RX4 yX4_isClear wsX4_isClear) := goodIn_app (goodIn_of _ (by decide +kernel)) ggX4_search_X4_isClear
theorem dX4_search_0 : decode cX4_search 0 = .ok (.aload_n 0, 1) := by decide +kernel
theorem dX4_search_1 : decode cX4_search 1 = .ok (.getfield 49, 3) := by decide +kernel
theorem dX4_search_4 : decode cX4_search 4 = .ok (.aload_n 0, 1) := by decide +kernel
theorem dX4_search_5 : decode cX4_search 5 = .ok (.getfield 59, 3) := by decide +kernel
theorem dX4_search_8 : decode cX4_search 8 = .ok (.iconst 0, 1) := by decide +kernel
theorem dX4_search_9 : decode cX4_search 9 = .ok (.iastore, 1) := by decide +kernel
theorem dX4_search_10 : decode cX4_search 10 = .ok (.aload_n 0, 1) := by decide +kernel
theorem dX4_search_11 : decode cX4_search 11 = .ok (.getfield 59, 3) := by decide +kernel
theorem dX4_search_14 : decode cX4_search 14 = .ok (.iconst 1, 1) := by decide +kernel
theorem dX4_search_15 : decode cX4_search 15 = .ok (.isub, 1) := by decide +kernel
theorem dX4_search_16 : decode cX4_search 16 = .ok (.istore_n 1, 1) := by decide +kernel
theorem dX4_search_17 : decode cX4_search 17 = .ok (.iload_n 1, 1) := by decide +kernel
theorem dX4_search_18 : decode cX4_search 18 = .ok (.ifCond .lt 41, 3) := by decide +kernel
theorem dX4_search_21 : decode cX4_search 21 = .ok (.aload_n 0, 1) := by decide +kernel
theorem dX4_search_22 : decode cX4_search 22 = .ok (.iload_n 1, 1) := by decide +kernel
theorem dX4_search_23 : decode cX4_search 23 = .ok (.invokevirtual 105, 3) := by decide +kernel
theorem dX4_search_26 : decode cX4_search 26 = .ok (.ldc 97, 2) := by decide +kernel
theorem dX4_search_28 : decode cX4_search 28 = .ok (.if_icmp .ne 5, 3) := by decide +kernel
theorem dX4_search_31 : decode cX4_search 31 = .ok (.iconst 0, 1) := by decide +kernel
theorem dX4_search_32 : decode cX4_search 32 = .ok (.ireturn, 1) := by decide +kernel
theorem dX4_search_33 : decode cX4_search 33 = .ok (.aload_n 0, 1) := by decide +kernel
theorem dX4_search_34 : decode cX4_search 34 = .ok (.getfield 49, 3) := by decide +kernel
theorem dX4_search_37 : decode cX4_search 37 = .ok (.iload_n 1, 1) := by decide +kernel
theorem dX4_search_38 : decode cX4_search 38 = .ok (.aload_n 0, 1) := by decide +kernel
theorem dX4_search_39 : decode cX4_search 39 = .ok (.getfield 49, 3) := by decide +kernel
theorem dX4_search_42 : decode cX4_search 42 = .ok (.iload_n 1, 1) := by decide +kernel
theorem dX4_search_43 : decode cX4_search 43 = .ok (.iconst 1, 1) := by decide +kernel
theorem dX4_search_44 : decode cX4_search 44 = .ok (.iadd, 1) := by decide +kernel
theorem dX4_search_45 : decode cX4_search 45 = .ok (.iaload, 1) := by decide +kernel
theorem dX4_search_46 : decode cX4_search 46 = .ok (.aload_n 0, 1) := by decide +kernel
theorem dX4_search_47 : decode cX4_search 47 = .ok (.iload_n 1, 1) := by decide +kernel
theorem dX4_search_48 : decode cX4_search 48 = .ok (.invokevirtual 105, 3) := by decide +kernel
theorem dX4_search_51 : decode cX4_search 51 = .ok (.iadd, 1) := by decide +kernel
theorem dX4_search_52 : decode cX4_search 52 = .ok (.iastore, 1) := by decide +kernel
theorem dX4_search_53 : decode cX4_search 53 = .ok (.iinc 1 (-1), 3) := by decide +kernel
theorem dX4_search_56 : decode cX4_search 56 = .ok (.goto (-39), 3) := by decide +kernel
theorem dX4_search_59 : decode cX4_search 59 = .ok (.ldc 97, 2) := by decide +kernel
theorem dX4_search_61 : decode cX4_search 61 = .ok (.istore_n 1, 1) := by decide +kernel
theorem dX4_search_62 : decode cX4_search 62 = .ok (.iconst 0, 1) := by decide +kernel
theorem dX4_search_63 : decode cX4_search 63 = .ok (.istore_n 2, 1) := by decide +kernel
theorem dX4_search_64 : decode cX4_search 64 = .ok (.aload_n 0, 1) := by decide +kernel
theorem dX4_search_65 : decode cX4_search 65 = .ok (.getfield 46, 3) := by decide +kernel
theorem dX4_search_68 : decode cX4_search 68 = .ok (.iconst 0, 1) := by decide +kernel
theorem dX4_search_69 : decode cX4_search 69 = .ok (.iconst (-1), 1) := by decide +kernel
theorem dX4_search_70 : decode cX4_search 70 = .ok (.iastore, 1) := by decide +kernel
theorem dX4_search_71 : decode cX4_search 71 = .ok (.iload_n 2, 1) := by decide +kernel
theorem dX4_search_72 : decode cX4_search 72 = .ok (.ifCond .lt 167, 3) := by decide +kernel
theorem dX4_search_75 : decode cX4_search 75 = .ok (.iload_n 2, 1) := by decide +kernel
theorem dX4_search_76 : decode cX4_search 76 = .ok (.aload_n 0, 1) := by decide +kernel
theorem dX4_search_77 : decode cX4_search 77 = .ok (.getfield 59, 3) := by decide +kernel
theorem dX4_search_80 : decode cX4_search 80 = .ok (.if_icmp .ne 46, 3) := by decide +kernel
theorem dX4_search_83 : decode cX4_search 83 = .ok (.aload_n 0, 1) := by decide +kernel
theorem dX4_search_84 : decode cX4_search 84 = .ok (.aload_n 0, 1) := by decide +kernel
theorem dX4_search_85 : decode cX4_search 85 = .ok (.getfield 59, 3) := by decide +kernel
theorem dX4_search_88 : decode cX4_search 88 = .ok (.invokevirtual 109, 3) := by decide +kernel
theorem dX4_search_91 : decode cX4_search 91 = .ok (.istore_n 1, 1) := by decide +kernel
theorem dX4_search_92 : decode cX4_search 92 = .ok (.iconst 0, 1) := by decide +kernel
theorem dX4_search_93 : decode cX4_search 93 = .ok (.istore_n 3, 1) := by decide +kernel
theorem dX4_search_94 : decode cX4_search 94 = .ok (.iload_n 3, 1) := by decide +kernel
theorem dX4_search_95 : decode cX4_search 95 = .ok (.aload_n 0, 1) := by decide +kernel
theorem dX4_search_96 : decode cX4_search 96 = .ok (.getfield 59, 3) := by decide +kernel
theorem dX4_search_99 : decode cX4_search 99 = .ok (.if_icmp .ge 21, 3) := by decide +kernel
theorem dX4_search_102 : decode cX4_search 102 = .ok (.aload_n 0, 1) := by decide +kernel
theorem dX4_search_103 : decode cX4_search 103 = .ok (.getfield 43, 3) := by decide +kernel
theorem dX4_search_106 : decode cX4_search 106 = .ok (.iload_n 3, 1) := by decide +kernel
theorem dX4_search_107 : decode cX4_search 107 = .ok (.aload_n 0, 1) := by decide +kernel
theorem dX4_search_108 : decode cX4_search 108 = .ok (.getfield 46, 3) := by decide +kernel
theorem dX4_search_111 : decode cX4_search 111 = .ok (.iload_n 3, 1) := by decide +kernel
theorem dX4_search_112 : decode cX4_search 112 = .ok (.iaload, 1) := by decide +kernel
theorem dX4_search_113 : decode cX4_search 113 = .ok (.iastore, 1) := by decide +kernel
theorem dX4_search_114 : decode cX4_search 114 = .ok (.iinc 3 1, 3) := by decide +kernel
theorem dX4_search_117 : decode cX4_search 117 = .ok (.goto (-23), 3) := by decide +kernel
theorem dX4_search_120 : decode cX4_search 120 = .ok (.iinc 2 (-1), 3) := by decide +kernel
theorem dX4_search_123 : decode cX4_search 123 = .ok (.goto (-52), 3) := by decide +kernel
theorem dX4_search_126 : decode cX4_search 126 = .ok (.aload_n 0, 1) := by decide +kernel
theorem dX4_search_127 : decode cX4_search 127 = .ok (.getfield 46, 3) := by decide +kernel
theorem dX4_search_130 : decode cX4_search 130 = .ok (.iload_n 2, 1) := by decide +kernel
theorem dX4_search_131 : decode cX4_search 131 = .ok (.iaload, 1) := by decide +kernel
theorem dX4_search_132 : decode cX4_search 132 = .ok (.iconst 1, 1) := by decide +kernel
theorem dX4_search_133 : decode cX4_search 133 = .ok (.iadd, 1) := by decide +kernel
theorem dX4_search_134 : decode cX4_search 134 = .ok (.istore_n 3, 1) := by decide +kernel
theorem dX4_search_135 : decode cX4_search 135 = .ok (.aload_n 0, 1) := by decide +kernel
theorem dX4_search_136 : decode cX4_search 136 = .ok (.iload_n 2, 1) := by decide +kernel
theorem dX4_search_137 : decode cX4_search 137 = .ok (.invokevirtual 109, 3) := by decide +kernel
theorem dX4_search_140 : decode cX4_search 140 = .ok (.istore 4, 2) := by decide +kernel
theorem dX4_search_142 : decode cX4_search 142 = .ok (.iload_n 3, 1) := by decide +kernel
theorem dX4_search_143 : decode cX4_search 143 = .ok (.bipush 96, 2) := by decide +kernel
theorem dX4_search_145 : decode cX4_search 145 = .ok (.if_icmp .ge 49, 3) := by decide +kernel
theorem dX4_search_148 : decode cX4_search 148 = .ok (.aload_n 0, 1) := by decide +kernel
theorem dX4_search_149 : decode cX4_search 149 = .ok (.iload_n 2, 1) := by decide +kernel
theorem dX4_search_150 : decode cX4_search 150 = .ok (.iload_n 3, 1) := by decide +kernel
theorem dX4_search_151 : decode cX4_search 151 = .ok (.invokevirtual 98, 3) := by decide +kernel
theorem dX4_search_154 : decode cX4_search 154 = .ok (.ifCond .eq 34, 3) := by decide +kernel
theorem dX4_search_157 : decode cX4_search 157 = .ok (.iload 4, 2) := by decide +kernel
theorem dX4_search_159 : decode cX4_search 159 = .ok (.aload_n 0, 1) := by decide +kernel
theorem dX4_search_160 : decode cX4_search 160 = .ok (.iload_n 2, 1) := by decide +kernel
theorem dX4_search_161 : decode cX4_search 161 = .ok (.iload_n 3, 1) := by decide +kernel
theorem dX4_search_162 : decode cX4_search 162 = .ok (.invokevirtual 101, 3) := by decide +kernel
theorem dX4_search_165 : decode cX4_search 165 = .ok (.iadd, 1) := by decide +kernel
theorem dX4_search_166 : decode cX4_search 166 = .ok (.aload_n 0, 1) := by decide +kernel
theorem dX4_search_167 : decode cX4_search 167 = .ok (.getfield 49, 3) := by decide +kernel
theorem dX4_search_170 : decode cX4_search 170 = .ok (.iload_n 2, 1) := by decide +kernel
theorem dX4_search_171 : decode cX4_search 171 = .ok (.iconst 1, 1) := by decide +kernel
theorem dX4_search_172 : decode cX4_search 172 = .ok (.iadd, 1) := by decide +kernel
theorem dX4_search_173 : decode cX4_search 173 = .ok (.iaload, 1) := by decide +kernel
theorem dX4_search_174 : decode cX4_search 174 = .ok (.iadd, 1) := by decide +kernel
theorem dX4_search_175 : decode cX4_search 175 = .ok (.iload_n 1, 1) := by decide +kernel
theorem dX4_search_176 : decode cX4_search 176 = .ok (.if_icmp .ge 12, 3) := by decide +kernel
theorem dX4_search_179 : decode cX4_search 179 = .ok (.aload_n 0, 1) := by decide +kernel
theorem dX4_search_180 : decode cX4_search 180 = .ok (.iload_n 2, 1) := by decide +kernel
theorem dX4_search_181 : decode cX4_search 181 = .ok (.iload_n 3, 1) := by decide +kernel
theorem dX4_search_182 : decode cX4_search 182 = .ok (.invokevirtual 112, 3) := by decide +kernel
theorem dX4_search_185 : decode cX4_search 185 = .ok (.ifCond .ne 9, 3) := by decide +kernel
theorem dX4_search_188 : decode cX4_search 188 = .ok (.iinc 3 1, 3) := by decide +kernel
theorem dX4_search_191 : decode cX4_search 191 = .ok (.goto (-49), 3) := by decide +kernel
theorem dX4_search_194 : decode cX4_search 194 = .ok (.aload_n 0, 1) := by decide +kernel
theorem dX4_search_195 : decode cX4_search 195 = .ok (.getfield 46, 3) := by decide +kernel
theorem dX4_search_198 : decode cX4_search 198 = .ok (.iload_n 2, 1) := by decide +kernel
theorem dX4_search_199 : decode cX4_search 199 = .ok (.iload_n 3, 1) := by decide +kernel
theorem dX4_search_200 : decode cX4_search 200 = .ok (.iastore, 1) := by decide +kernel
theorem dX4_search_201 : decode cX4_search 201 = .ok (.iload_n 2, 1) := by decide +kernel
theorem dX4_search_202 : decode cX4_search 202 = .ok (.iload_n 3, 1) := by decide +kernel
theorem dX4_search_203 : decode cX4_search 203 = .ok (.bipush 96, 2) := by decide +kernel
theorem dX4_search_205 : decode cX4_search 205 = .ok (.if_icmp .ge 7, 3) := by decide +kernel
theorem dX4_search_208 : decode cX4_search 208 = .ok (.iconst 1, 1) := by decide +kernel
theorem dX4_search_209 : decode cX4_search 209 = .ok (.goto 4, 3) := by decide +kernel
theorem dX4_search_212 : decode cX4_search 212 = .ok (.iconst (-1), 1) := by decide +kernel
theorem dX4_search_213 : decode cX4_search 213 = .ok (.iadd, 1) := by decide +kernel
theorem dX4_search_214 : decode cX4_search 214 = .ok (.istore_n 2, 1) := by decide +kernel
theorem dX4_search_215 : decode cX4_search 215 = .ok (.iload_n 3, 1) := by decide +kernel
theorem dX4_search_216 : decode cX4_search 216 = .ok (.bipush 96, 2) := by decide +kernel
theorem dX4_search_218 : decode cX4_search 218 = .ok (.if_icmp .ge 18, 3) := by decide +kernel
theorem dX4_search_221 : decode cX4_search 221 = .ok (.iload_n 2, 1) := by decide +kernel
theorem dX4_search_222 : decode cX4_search 222 = .ok (.aload_n 0, 1) := by decide +kernel
theorem dX4_search_223 : decode cX4_search 223 = .ok (.getfield 59, 3) := by decide +kernel
theorem dX4_search_226 : decode cX4_search 226 = .ok (.if_icmp .ge 10, 3) := by decide +kernel
theorem dX4_search_229 : decode cX4_search 229 = .ok (.aload_n 0, 1) := by decide +kernel
theorem dX4_search_230 : decode cX4_search 230 = .ok (.getfield 46, 3) := by decide +kernel
theorem dX4_search_233 : decode cX4_search 233 = .ok (.iload_n 2, 1) := by decide +kernel
theorem dX4_search_234 : decode cX4_search 234 = .ok (.iconst (-1), 1) := by decide +kernel
theorem dX4_search_235 : decode cX4_search 235 = .ok (.iastore, 1) := by decide +kernel
theorem dX4_search_236 : decode cX4_search 236 = .ok (.goto (-165), 3) := by decide +kernel
theorem dX4_search_239 : decode cX4_search 239 = .ok (.iload_n 1, 1) := by decide +kernel
theorem dX4_search_240 : decode cX4_search 240 = .ok (.ldc 97, 2) := by decide +kernel
theorem dX4_search_242 : decode cX4_search 242 = .ok (.if_icmp .ge 7, 3) := by decide +kernel
theorem dX4_search_245 : decode cX4_search 245 = .ok (.iconst 1, 1) := by decide +kernel
theorem dX4_search_246 : decode cX4_search 246 = .ok (.goto 4, 3) := by decide +kernel
theorem dX4_search_249 : decode cX4_search 249 = .ok (.iconst 0, 1) := by decide +kernel
theorem dX4_search_250 : decode cX4_search 250 = .ok (.ireturn, 1) := by decide +kernel
set_option maxRecDepth 20000 in
theorem ggX4_solve_X4_search : GoodIn wsX4_solve wsX4_search := goodIn_r _ [7, 8, 9, 10, 11, 12, 13, 14, 15, 6, 16, 17, 18, 19, 20, 21, 22, 23, 24, 25, 26, 27, 28, 29, 30, 31, 32, 33, 34, 35, 36, 37, 38, 39, 40, 41, 42, 43, 44, 45, 46, 47, 48, 49, 50, 51, 52, 53, 54, 55, 56, 57, 58, 59, 60, 61, 62, 63, 64, 65, 66, 67, 68, 69, 70, 71, 72, 73, 74, 75, 76, 77, 78, 79, 80, 81, 82, 83] (by decide +kernel) (by decide +kernel)
set_option maxRecDepth 20000 in
theorem gX4_solve_X4_search : GoodIn wsX4_solve (wsV RX4 115 RX4 yX4_search wsX4_search) := goodIn_app (goodIn_of _ (by decide +kernel)) ggX4_solve_X4_search
theorem dX4_solve_0 : decode cX4_solve 0 = .ok (.aload_n 0, 1) := by decide +kernel
theorem dX4_solve_1 : decode cX4_solve 1 = .ok (.iconst 0, 1) := by decide +kernel
theorem dX4_solve_2 : decode cX4_solve 2 = .ok (.putfield 56, 3) := by decide +kernel
theorem dX4_solve_5 : decode cX4_solve 5 = .ok (.aload_n 0, 1) := by decide +kernel
theorem dX4_solve_6 : decode cX4_solve 6 = .ok (.aload_n 0, 1) := by decide +kernel
theorem dX4_solve_7 : decode cX4_solve 7 = .ok (.invokevirtual 115, 3) := by decide +kernel
theorem dX4_solve_10 : decode cX4_solve 10 = .ok (.putfield 66, 3) := by decide +kernel
theorem dX4_solve_13 : decode cX4_solve 13 = .ok (.aload_n 0, 1) := by decide +kernel
theorem dX4_solve_14 : decode cX4_solve 14 = .ok (.getfield 66, 3) := by decide +kernel
theorem dX4_solve_17 : decode cX4_solve 17 = .ok (.ifCond .eq 7, 3) := by decide +kernel
theorem dX4_solve_20 : decode cX4_solve 20 = .ok (.iconst 1, 1) := by decide +kernel
theorem dX4_solve_21 : decode cX4_solve 21 = .ok (.goto 4, 3) := by decide +kernel
theorem dX4_solve_24 : decode cX4_solve 24 = .ok (.iconst 0, 1) := by decide +kernel
theorem dX4_solve_25 : decode cX4_solve 25 = .ok (.ireturn, 1) := by decide +kernel
set_option maxRecDepth 20000 in
theorem ggX4_at_X4_isShip : GoodIn wsX4_at wsX4_isShip := goodIn_r _ [9, 10, 14, 15, 16, 17, 18, 19, 20, 21, 22, 23, 24, 25, 26, 27, 28, 29, 30, 31, 32] (by decide +kernel) (by decide +kernel)
set_option maxRecDepth 20000 in
theorem gX4_at_X4_isShip : GoodIn wsX4_at (wsV RX4 78 RX4 yX4_isShip wsX4_isShip) := goodIn_app (goodIn_of _ (by decide +kernel)) ggX4_at_X4_isShip
set_option maxRecDepth 20000 in
theorem ggX4_at_X4_in : GoodIn wsX4_at wsX4_in := goodIn_r _ [13] (by decide +kernel) (by decide +kernel)
set_option maxRecDepth 20000 in
theorem gX4_at_X4_in : GoodIn wsX4_at (va_wsS RX4 62 yX4_in wsX4_in) := goodIn_app (goodIn_of _ (by decide +kernel)) ggX4_at_X4_in
theorem dX4_at_0 : decode cX4_at 0 = .ok (.aload_n 0, 1) := by decide +kernel
theorem dX4_at_1 : decode cX4_at 1 = .ok (.aload_n 0, 1) := by decide +kernel
theorem dX4_at_2 : decode cX4_at 2 = .ok (.iload_n 1, 1) := by decide +kernel
theorem dX4_at_3 : decode cX4_at 3 = .ok (.invokevirtual 78, 3) := by decide +kernel
theorem dX4_at_6 : decode cX4_at 6 = .ok (.ifCond .eq 12, 3) := by decide +kernel
theorem dX4_at_9 : decode cX4_at 9 = .ok (.iload_n 2, 1) := by decide +kernel
theorem dX4_at_10 : decode cX4_at 10 = .ok (.iconst 0, 1) := by decide +kernel
theorem dX4_at_11 : decode cX4_at 11 = .ok (.iconst 2, 1) := by decide +kernel
theorem dX4_at_12 : decode cX4_at 12 = .ok (.invokestatic 62, 3) := by decide +kernel
theorem dX4_at_15 : decode cX4_at 15 = .ok (.ifCond .ne 7, 3) := by decide +kernel
theorem dX4_at_18 : decode cX4_at 18 = .ok (.iconst 1, 1) := by decide +kernel
theorem dX4_at_19 : decode cX4_at 19 = .ok (.goto 15, 3) := by decide +kernel
theorem dX4_at_22 : decode cX4_at 22 = .ok (.aload_n 0, 1) := by decide +kernel
theorem dX4_at_23 : decode cX4_at 23 = .ok (.getfield 66, 3) := by decide +kernel
theorem dX4_at_26 : decode cX4_at 26 = .ok (.ifCond .eq 7, 3) := by decide +kernel
theorem dX4_at_29 : decode cX4_at 29 = .ok (.iconst 0, 1) := by decide +kernel
theorem dX4_at_30 : decode cX4_at 30 = .ok (.goto 4, 3) := by decide +kernel
theorem dX4_at_33 : decode cX4_at 33 = .ok (.iconst 2, 1) := by decide +kernel
theorem dX4_at_34 : decode cX4_at 34 = .ok (.putfield 56, 3) := by decide +kernel
theorem dX4_at_37 : decode cX4_at 37 = .ok (.aload_n 0, 1) := by decide +kernel
theorem dX4_at_38 : decode cX4_at 38 = .ok (.getfield 56, 3) := by decide +kernel
theorem dX4_at_41 : decode cX4_at 41 = .ok (.ifCond .le 5, 3) := by decide +kernel
theorem dX4_at_44 : decode cX4_at 44 = .ok (.iconst 0, 1) := by decide +kernel
theorem dX4_at_45 : decode cX4_at 45 = .ok (.ireturn, 1) := by decide +kernel
theorem dX4_at_46 : decode cX4_at 46 = .ok (.iload_n 2, 1) := by decide +kernel
theorem dX4_at_47 : decode cX4_at 47 = .ok (.ifCond .ne 15, 3) := by decide +kernel
theorem dX4_at_50 : decode cX4_at 50 = .ok (.aload_n 0, 1) := by decide +kernel
theorem dX4_at_51 : decode cX4_at 51 = .ok (.getfield 43, 3) := by decide +kernel
theorem dX4_at_54 : decode cX4_at 54 = .ok (.iload_n 1, 1) := by decide +kernel
theorem dX4_at_55 : decode cX4_at 55 = .ok (.iaload, 1) := by decide +kernel
theorem dX4_at_56 : decode cX4_at 56 = .ok (.bipush 6, 2) := by decide +kernel
theorem dX4_at_58 : decode cX4_at 58 = .ok (.irem, 1) := by decide +kernel
theorem dX4_at_59 : decode cX4_at 59 = .ok (.goto 36, 3) := by decide +kernel
theorem dX4_at_62 : decode cX4_at 62 = .ok (.iload_n 2, 1) := by decide +kernel
theorem dX4_at_63 : decode cX4_at 63 = .ok (.iconst 1, 1) := by decide +kernel
theorem dX4_at_64 : decode cX4_at 64 = .ok (.if_icmp .ne 15, 3) := by decide +kernel
theorem dX4_at_67 : decode cX4_at 67 = .ok (.aload_n 0, 1) := by decide +kernel
theorem dX4_at_68 : decode cX4_at 68 = .ok (.getfield 43, 3) := by decide +kernel
theorem dX4_at_71 : decode cX4_at 71 = .ok (.iload_n 1, 1) := by decide +kernel
theorem dX4_at_72 : decode cX4_at 72 = .ok (.iaload, 1) := by decide +kernel
theorem dX4_at_73 : decode cX4_at 73 = .ok (.bipush 6, 2) := by decide +kernel
theorem dX4_at_75 : decode cX4_at 75 = .ok (.idiv, 1) := by decide +kernel
theorem dX4_at_76 : decode cX4_at 76 = .ok (.goto 19, 3) := by decide +kernel
theorem dX4_at_79 : decode cX4_at 79 = .ok (.aload_n 0, 1) := by decide +kernel
theorem dX4_at_80 : decode cX4_at 80 = .ok (.getfield 43, 3) := by decide +kernel
theorem dX4_at_83 : decode cX4_at 83 = .ok (.iload_n 1, 1) := by decide +kernel
theorem dX4_at_84 : decode cX4_at 84 = .ok (.iaload, 1) := by decide +kernel
theorem dX4_at_85 : decode cX4_at 85 = .ok (.bipush 6, 2) := by decide +kernel
theorem dX4_at_87 : decode cX4_at 87 = .ok (.idiv, 1) := by decide +kernel
theorem dX4_at_88 : decode cX4_at 88 = .ok (.aload_n 0, 1) := by decide +kernel
theorem dX4_at_89 : decode cX4_at 89 = .ok (.getfield 31, 3) := by decide +kernel
theorem dX4_at_92 : decode cX4_at 92 = .ok (.iload_n 1, 1) := by decide +kernel
theorem dX4_at_93 : decode cX4_at 93 = .ok (.iaload, 1) := by decide +kernel
theorem dX4_at_94 : decode cX4_at 94 = .ok (.isub, 1) := by decide +kernel
theorem dX4_at_95 : decode cX4_at 95 = .ok (.ireturn, 1) := by decide +kernel
set_option maxRecDepth 20000 in
theorem ggX4_lateness_X4_cost : GoodIn wsX4_lateness wsX4_cost := goodIn_r _ [9, 10, 11, 12, 13, 14, 15, 16, 17, 18, 19, 20, 21, 22, 23, 24, 25, 26, 27, 28, 29, 30] (by decide +kernel) (by decide +kernel)
set_option maxRecDepth 20000 in
theorem gX4_lateness_X4_cost : GoodIn wsX4_lateness (wsV RX4 101 RX4 yX4_cost wsX4_cost) := goodIn_app (goodIn_of _ (by decide +kernel)) ggX4_lateness_X4_cost
theorem dX4_lateness_0 : decode cX4_lateness 0 = .ok (.aload_n 0, 1) := by decide +kernel
theorem dX4_lateness_1 : decode cX4_lateness 1 = .ok (.aload_n 0, 1) := by decide +kernel
theorem dX4_lateness_2 : decode cX4_lateness 2 = .ok (.getfield 66, 3) := by decide +kernel
theorem dX4_lateness_5 : decode cX4_lateness 5 = .ok (.ifCond .eq 7, 3) := by decide +kernel
theorem dX4_lateness_8 : decode cX4_lateness 8 = .ok (.iconst 0, 1) := by decide +kernel
theorem dX4_lateness_9 : decode cX4_lateness 9 = .ok (.goto 4, 3) := by decide +kernel
theorem dX4_lateness_12 : decode cX4_lateness 12 = .ok (.iconst 1, 1) := by decide +kernel
theorem dX4_lateness_13 : decode cX4_lateness 13 = .ok (.putfield 56, 3) := by decide +kernel
theorem dX4_lateness_16 : decode cX4_lateness 16 = .ok (.aload_n 0, 1) := by decide +kernel
theorem dX4_lateness_17 : decode cX4_lateness 17 = .ok (.getfield 56, 3) := by decide +kernel
theorem dX4_lateness_20 : decode cX4_lateness 20 = .ok (.ifCond .le 5, 3) := by decide +kernel
theorem dX4_lateness_23 : decode cX4_lateness 23 = .ok (.iconst 0, 1) := by decide +kernel
theorem dX4_lateness_24 : decode cX4_lateness 24 = .ok (.ireturn, 1) := by decide +kernel
theorem dX4_lateness_25 : decode cX4_lateness 25 = .ok (.iconst 0, 1) := by decide +kernel
theorem dX4_lateness_26 : decode cX4_lateness 26 = .ok (.istore_n 1, 1) := by decide +kernel
theorem dX4_lateness_27 : decode cX4_lateness 27 = .ok (.iconst 0, 1) := by decide +kernel
theorem dX4_lateness_28 : decode cX4_lateness 28 = .ok (.istore_n 2, 1) := by decide +kernel
theorem dX4_lateness_29 : decode cX4_lateness 29 = .ok (.iload_n 2, 1) := by decide +kernel
theorem dX4_lateness_30 : decode cX4_lateness 30 = .ok (.aload_n 0, 1) := by decide +kernel
theorem dX4_lateness_31 : decode cX4_lateness 31 = .ok (.getfield 59, 3) := by decide +kernel
theorem dX4_lateness_34 : decode cX4_lateness 34 = .ok (.if_icmp .ge 23, 3) := by decide +kernel
theorem dX4_lateness_37 : decode cX4_lateness 37 = .ok (.iload_n 1, 1) := by decide +kernel
theorem dX4_lateness_38 : decode cX4_lateness 38 = .ok (.aload_n 0, 1) := by decide +kernel
theorem dX4_lateness_39 : decode cX4_lateness 39 = .ok (.iload_n 2, 1) := by decide +kernel
theorem dX4_lateness_40 : decode cX4_lateness 40 = .ok (.aload_n 0, 1) := by decide +kernel
theorem dX4_lateness_41 : decode cX4_lateness 41 = .ok (.getfield 43, 3) := by decide +kernel
theorem dX4_lateness_44 : decode cX4_lateness 44 = .ok (.iload_n 2, 1) := by decide +kernel
theorem dX4_lateness_45 : decode cX4_lateness 45 = .ok (.iaload, 1) := by decide +kernel
theorem dX4_lateness_46 : decode cX4_lateness 46 = .ok (.invokevirtual 101, 3) := by decide +kernel
theorem dX4_lateness_49 : decode cX4_lateness 49 = .ok (.iadd, 1) := by decide +kernel
theorem dX4_lateness_50 : decode cX4_lateness 50 = .ok (.istore_n 1, 1) := by decide +kernel
theorem dX4_lateness_51 : decode cX4_lateness 51 = .ok (.iinc 2 1, 3) := by decide +kernel
theorem dX4_lateness_54 : decode cX4_lateness 54 = .ok (.goto (-25), 3) := by decide +kernel
theorem dX4_lateness_57 : decode cX4_lateness 57 = .ok (.iload_n 1, 1) := by decide +kernel
theorem dX4_lateness_58 : decode cX4_lateness 58 = .ok (.ireturn, 1) := by decide +kernel
set_option maxRecDepth 20000 in
theorem ggX4_bound_X4_leastOf : GoodIn wsX4_bound wsX4_leastOf := goodIn_r _ [8, 3, 9, 10, 11, 7, 12, 13, 14, 15, 16, 17, 18, 19, 20, 21, 22, 23, 24, 25, 26, 27, 28, 29, 30, 31, 32, 33, 34, 35, 36, 37, 38, 39, 40, 41, 42, 43, 44, 45, 46, 47, 48, 49, 50, 51, 52, 53, 54, 55, 56, 57, 58, 59, 60, 61, 62] (by decide +kernel) (by decide +kernel)
set_option maxRecDepth 20000 in
theorem gX4_bound_X4_leastOf : GoodIn wsX4_bound (wsV RX4 105 RX4 yX4_leastOf wsX4_leastOf) := goodIn_app (goodIn_of _ (by decide +kernel)) ggX4_bound_X4_leastOf
theorem dX4_bound_0 : decode cX4_bound 0 = .ok (.aload_n 0, 1) := by decide +kernel
theorem dX4_bound_1 : decode cX4_bound 1 = .ok (.iconst 0, 1) := by decide +kernel
theorem dX4_bound_2 : decode cX4_bound 2 = .ok (.putfield 56, 3) := by decide +kernel
theorem dX4_bound_5 : decode cX4_bound 5 = .ok (.iconst 0, 1) := by decide +kernel
theorem dX4_bound_6 : decode cX4_bound 6 = .ok (.istore_n 1, 1) := by decide +kernel
theorem dX4_bound_7 : decode cX4_bound 7 = .ok (.iconst 0, 1) := by decide +kernel
theorem dX4_bound_8 : decode cX4_bound 8 = .ok (.istore_n 2, 1) := by decide +kernel
theorem dX4_bound_9 : decode cX4_bound 9 = .ok (.iload_n 2, 1) := by decide +kernel
theorem dX4_bound_10 : decode cX4_bound 10 = .ok (.aload_n 0, 1) := by decide +kernel
theorem dX4_bound_11 : decode cX4_bound 11 = .ok (.getfield 59, 3) := by decide +kernel
theorem dX4_bound_14 : decode cX4_bound 14 = .ok (.if_icmp .ge 29, 3) := by decide +kernel
theorem dX4_bound_17 : decode cX4_bound 17 = .ok (.aload_n 0, 1) := by decide +kernel
theorem dX4_bound_18 : decode cX4_bound 18 = .ok (.iload_n 2, 1) := by decide +kernel
theorem dX4_bound_19 : decode cX4_bound 19 = .ok (.invokevirtual 105, 3) := by decide +kernel
theorem dX4_bound_22 : decode cX4_bound 22 = .ok (.ldc 97, 2) := by decide +kernel
theorem dX4_bound_24 : decode cX4_bound 24 = .ok (.if_icmp .ne 5, 3) := by decide +kernel
theorem dX4_bound_27 : decode cX4_bound 27 = .ok (.iconst (-1), 1) := by decide +kernel
theorem dX4_bound_28 : decode cX4_bound 28 = .ok (.ireturn, 1) := by decide +kernel
theorem dX4_bound_29 : decode cX4_bound 29 = .ok (.iload_n 1, 1) := by decide +kernel
theorem dX4_bound_30 : decode cX4_bound 30 = .ok (.aload_n 0, 1) := by decide +kernel
theorem dX4_bound_31 : decode cX4_bound 31 = .ok (.iload_n 2, 1) := by decide +kernel
theorem dX4_bound_32 : decode cX4_bound 32 = .ok (.invokevirtual 105, 3) := by decide +kernel
theorem dX4_bound_35 : decode cX4_bound 35 = .ok (.iadd, 1) := by decide +kernel
theorem dX4_bound_36 : decode cX4_bound 36 = .ok (.istore_n 1, 1) := by decide +kernel
theorem dX4_bound_37 : decode cX4_bound 37 = .ok (.iinc 2 1, 3) := by decide +kernel
theorem dX4_bound_40 : decode cX4_bound 40 = .ok (.goto (-31), 3) := by decide +kernel
theorem dX4_bound_43 : decode cX4_bound 43 = .ok (.iload_n 1, 1) := by decide +kernel
theorem dX4_bound_44 : decode cX4_bound 44 = .ok (.ireturn, 1) := by decide +kernel
set_option maxRecDepth 20000 in
theorem ggX4_why_X4_isShip : GoodIn wsX4_why wsX4_isShip := goodIn_r _ [9, 10, 48, 49, 50, 51, 52, 53, 54, 55, 56, 57, 58, 59, 60, 61, 62, 63, 64, 65, 66] (by decide +kernel) (by decide +kernel)
set_option maxRecDepth 20000 in
theorem gX4_why_X4_isShip : GoodIn wsX4_why (wsV RX4 78 RX4 yX4_isShip wsX4_isShip) := goodIn_app (goodIn_of _ (by decide +kernel)) ggX4_why_X4_isShip
set_option maxRecDepth 20000 in
theorem ggX4_why_X4_isDeep : GoodIn wsX4_why wsX4_isDeep := goodIn_r _ [14, 4, 2, 15, 16, 48, 49, 50, 51, 52, 53, 54, 55, 56, 57, 58, 59, 60, 61, 62, 63, 64, 65, 66] (by decide +kernel) (by decide +kernel)
set_option maxRecDepth 20000 in
theorem gX4_why_X4_isDeep : GoodIn wsX4_why (wsV RX4 91 RX4 yX4_isDeep wsX4_isDeep) := goodIn_app (goodIn_of _ (by decide +kernel)) ggX4_why_X4_isDeep
set_option maxRecDepth 20000 in
theorem ggX4_why_X4_hasGear : GoodIn wsX4_why wsX4_hasGear := goodIn_r _ [20, 4, 2, 21, 22, 48, 49, 50, 51, 52, 53, 54, 55, 56, 57, 58, 59, 60, 61, 62, 63, 64, 65, 66] (by decide +kernel) (by decide +kernel)
set_option maxRecDepth 20000 in
theorem gX4_why_X4_hasGear : GoodIn wsX4_why (wsV RX4 94 RX4 yX4_hasGear wsX4_hasGear) := goodIn_app (goodIn_of _ (by decide +kernel)) ggX4_why_X4_hasGear
set_option maxRecDepth 20000 in
theorem ggX4_why_X4_leastOf : GoodIn wsX4_why wsX4_leastOf := goodIn_r _ [26, 3, 27, 28, 29, 8, 30, 31, 2, 32, 33, 34, 35, 36, 37, 38, 39, 40, 41, 42, 11, 12, 13, 14, 4, 15, 16, 17, 18, 19, 20, 21, 22, 43, 44, 45, 46, 47, 48, 49, 50, 51, 52, 53, 54, 55, 56, 57, 58, 59, 60, 61, 62, 63, 64, 65, 66] (by decide +kernel) (by decide +kernel)
set_option maxRecDepth 20000 in
theorem gX4_why_X4_leastOf : GoodIn wsX4_why (wsV RX4 105 RX4 yX4_leastOf wsX4_leastOf) := goodIn_app (goodIn_of _ (by decide +kernel)) ggX4_why_X4_leastOf
theorem dX4_why_0 : decode cX4_why 0 = .ok (.aload_n 0, 1) := by decide +kernel
theorem dX4_why_1 : decode cX4_why 1 = .ok (.aload_n 0, 1) := by decide +kernel
theorem dX4_why_2 : decode cX4_why 2 = .ok (.iload_n 1, 1) := by decide +kernel
theorem dX4_why_3 : decode cX4_why 3 = .ok (.invokevirtual 78, 3) := by decide +kernel
theorem dX4_why_6 : decode cX4_why 6 = .ok (.ifCond .eq 7, 3) := by decide +kernel
theorem dX4_why_9 : decode cX4_why 9 = .ok (.iconst 0, 1) := by decide +kernel
theorem dX4_why_10 : decode cX4_why 10 = .ok (.goto 4, 3) := by decide +kernel
theorem dX4_why_13 : decode cX4_why 13 = .ok (.iconst 1, 1) := by decide +kernel
theorem dX4_why_14 : decode cX4_why 14 = .ok (.putfield 56, 3) := by decide +kernel
theorem dX4_why_17 : decode cX4_why 17 = .ok (.aload_n 0, 1) := by decide +kernel
theorem dX4_why_18 : decode cX4_why 18 = .ok (.getfield 56, 3) := by decide +kernel
theorem dX4_why_21 : decode cX4_why 21 = .ok (.ifCond .le 5, 3) := by decide +kernel
theorem dX4_why_24 : decode cX4_why 24 = .ok (.iconst 0, 1) := by decide +kernel
theorem dX4_why_25 : decode cX4_why 25 = .ok (.ireturn, 1) := by decide +kernel
theorem dX4_why_26 : decode cX4_why 26 = .ok (.iconst 0, 1) := by decide +kernel
theorem dX4_why_27 : decode cX4_why 27 = .ok (.istore_n 2, 1) := by decide +kernel
theorem dX4_why_28 : decode cX4_why 28 = .ok (.iconst 0, 1) := by decide +kernel
theorem dX4_why_29 : decode cX4_why 29 = .ok (.istore_n 3, 1) := by decide +kernel
theorem dX4_why_30 : decode cX4_why 30 = .ok (.iconst 0, 1) := by decide +kernel
theorem dX4_why_31 : decode cX4_why 31 = .ok (.istore 4, 2) := by decide +kernel
theorem dX4_why_33 : decode cX4_why 33 = .ok (.iload 4, 2) := by decide +kernel
theorem dX4_why_35 : decode cX4_why 35 = .ok (.aload_n 0, 1) := by decide +kernel
theorem dX4_why_36 : decode cX4_why 36 = .ok (.getfield 52, 3) := by decide +kernel
theorem dX4_why_39 : decode cX4_why 39 = .ok (.if_icmp .ge 59, 3) := by decide +kernel
theorem dX4_why_42 : decode cX4_why 42 = .ok (.iload_n 2, 1) := by decide +kernel
theorem dX4_why_43 : decode cX4_why 43 = .ok (.ifCond .ne 13, 3) := by decide +kernel
theorem dX4_why_46 : decode cX4_why 46 = .ok (.aload_n 0, 1) := by decide +kernel
theorem dX4_why_47 : decode cX4_why 47 = .ok (.iload_n 1, 1) := by decide +kernel
theorem dX4_why_48 : decode cX4_why 48 = .ok (.iload 4, 2) := by decide +kernel
theorem dX4_why_50 : decode cX4_why 50 = .ok (.invokevirtual 91, 3) := by decide +kernel
theorem dX4_why_53 : decode cX4_why 53 = .ok (.ifCond .eq 7, 3) := by decide +kernel
theorem dX4_why_56 : decode cX4_why 56 = .ok (.iconst 1, 1) := by decide +kernel
theorem dX4_why_57 : decode cX4_why 57 = .ok (.goto 4, 3) := by decide +kernel
theorem dX4_why_60 : decode cX4_why 60 = .ok (.iconst 0, 1) := by decide +kernel
theorem dX4_why_61 : decode cX4_why 61 = .ok (.istore_n 2, 1) := by decide +kernel
theorem dX4_why_62 : decode cX4_why 62 = .ok (.iload_n 3, 1) := by decide +kernel
theorem dX4_why_63 : decode cX4_why 63 = .ok (.ifCond .ne 23, 3) := by decide +kernel
theorem dX4_why_66 : decode cX4_why 66 = .ok (.aload_n 0, 1) := by decide +kernel
theorem dX4_why_67 : decode cX4_why 67 = .ok (.iload_n 1, 1) := by decide +kernel
theorem dX4_why_68 : decode cX4_why 68 = .ok (.iload 4, 2) := by decide +kernel
theorem dX4_why_70 : decode cX4_why 70 = .ok (.invokevirtual 91, 3) := by decide +kernel
theorem dX4_why_73 : decode cX4_why 73 = .ok (.ifCond .eq 17, 3) := by decide +kernel
theorem dX4_why_76 : decode cX4_why 76 = .ok (.aload_n 0, 1) := by decide +kernel
theorem dX4_why_77 : decode cX4_why 77 = .ok (.iload_n 1, 1) := by decide +kernel
theorem dX4_why_78 : decode cX4_why 78 = .ok (.iload 4, 2) := by decide +kernel
theorem dX4_why_80 : decode cX4_why 80 = .ok (.invokevirtual 94, 3) := by decide +kernel
theorem dX4_why_83 : decode cX4_why 83 = .ok (.ifCond .eq 7, 3) := by decide +kernel
theorem dX4_why_86 : decode cX4_why 86 = .ok (.iconst 1, 1) := by decide +kernel
theorem dX4_why_87 : decode cX4_why 87 = .ok (.goto 4, 3) := by decide +kernel
theorem dX4_why_90 : decode cX4_why 90 = .ok (.iconst 0, 1) := by decide +kernel
theorem dX4_why_91 : decode cX4_why 91 = .ok (.istore_n 3, 1) := by decide +kernel
theorem dX4_why_92 : decode cX4_why 92 = .ok (.iinc 4 1, 3) := by decide +kernel
theorem dX4_why_95 : decode cX4_why 95 = .ok (.goto (-62), 3) := by decide +kernel
theorem dX4_why_98 : decode cX4_why 98 = .ok (.aload_n 0, 1) := by decide +kernel
theorem dX4_why_99 : decode cX4_why 99 = .ok (.iload_n 1, 1) := by decide +kernel
theorem dX4_why_100 : decode cX4_why 100 = .ok (.invokevirtual 105, 3) := by decide +kernel
theorem dX4_why_103 : decode cX4_why 103 = .ok (.ldc 97, 2) := by decide +kernel
theorem dX4_why_105 : decode cX4_why 105 = .ok (.if_icmp .ge 7, 3) := by decide +kernel
theorem dX4_why_108 : decode cX4_why 108 = .ok (.iconst 0, 1) := by decide +kernel
theorem dX4_why_109 : decode cX4_why 109 = .ok (.goto 37, 3) := by decide +kernel
theorem dX4_why_112 : decode cX4_why 112 = .ok (.aload_n 0, 1) := by decide +kernel
theorem dX4_why_113 : decode cX4_why 113 = .ok (.getfield 22, 3) := by decide +kernel
theorem dX4_why_116 : decode cX4_why 116 = .ok (.iload_n 1, 1) := by decide +kernel
theorem dX4_why_117 : decode cX4_why 117 = .ok (.iaload, 1) := by decide +kernel
theorem dX4_why_118 : decode cX4_why 118 = .ok (.aload_n 0, 1) := by decide +kernel
theorem dX4_why_119 : decode cX4_why 119 = .ok (.getfield 52, 3) := by decide +kernel
theorem dX4_why_122 : decode cX4_why 122 = .ok (.if_icmp .le 7, 3) := by decide +kernel
theorem dX4_why_125 : decode cX4_why 125 = .ok (.iconst 1, 1) := by decide +kernel
theorem dX4_why_126 : decode cX4_why 126 = .ok (.goto 20, 3) := by decide +kernel
theorem dX4_why_129 : decode cX4_why 129 = .ok (.iload_n 2, 1) := by decide +kernel
theorem dX4_why_130 : decode cX4_why 130 = .ok (.ifCond .ne 7, 3) := by decide +kernel
theorem dX4_why_133 : decode cX4_why 133 = .ok (.iconst 2, 1) := by decide +kernel
theorem dX4_why_134 : decode cX4_why 134 = .ok (.goto 12, 3) := by decide +kernel
theorem dX4_why_137 : decode cX4_why 137 = .ok (.iload_n 3, 1) := by decide +kernel
theorem dX4_why_138 : decode cX4_why 138 = .ok (.ifCond .ne 7, 3) := by decide +kernel
theorem dX4_why_141 : decode cX4_why 141 = .ok (.iconst 3, 1) := by decide +kernel
theorem dX4_why_142 : decode cX4_why 142 = .ok (.goto 4, 3) := by decide +kernel
theorem dX4_why_145 : decode cX4_why 145 = .ok (.iconst 4, 1) := by decide +kernel
theorem dX4_why_146 : decode cX4_why 146 = .ok (.ireturn, 1) := by decide +kernel
set_option maxRecDepth 20000 in
theorem ggX4_change_X4_isShip : GoodIn wsX4_change wsX4_isShip := goodIn_r _ [11, 3, 70, 71, 72, 73, 74, 75, 76, 77, 78, 79, 80, 81, 82, 83, 84, 85, 86, 87, 88] (by decide +kernel) (by decide +kernel)
set_option maxRecDepth 20000 in
theorem gX4_change_X4_isShip : GoodIn wsX4_change (wsV RX4 78 RX4 yX4_isShip wsX4_isShip) := goodIn_app (goodIn_of _ (by decide +kernel)) ggX4_change_X4_isShip
set_option maxRecDepth 20000 in
theorem ggX4_change_X4_in : GoodIn wsX4_change wsX4_in := goodIn_r _ [14] (by decide +kernel) (by decide +kernel)
set_option maxRecDepth 20000 in
theorem gX4_change_X4_in : GoodIn wsX4_change (va_wsS RX4 62 yX4_in wsX4_in) := goodIn_app (goodIn_of _ (by decide +kernel)) ggX4_change_X4_in
set_option maxRecDepth 20000 in
theorem ggX4_change_X4_search : GoodIn wsX4_change wsX4_search := goodIn_r _ [18, 19, 3, 20, 21, 5, 22, 23, 24, 10, 25, 26, 27, 28, 29, 30, 31, 6, 32, 33, 34, 35, 36, 37, 38, 12, 13, 14, 39, 40, 41, 42, 43, 44, 45, 46, 47, 48, 49, 50, 51, 52, 53, 54, 55, 56, 57, 58, 59, 60, 61, 62, 63, 64, 65, 66, 67, 68, 69, 70, 71, 72, 73, 74, 75, 76, 77, 78, 79, 80, 81, 82, 83, 84, 85, 86, 87, 88] (by decide +kernel) (by decide +kernel)
set_option maxRecDepth 20000 in
theorem gX4_change_X4_search : GoodIn wsX4_change (wsV RX4 115 RX4 yX4_search wsX4_search) := goodIn_app (goodIn_of _ (by decide +kernel)) ggX4_change_X4_search
theorem dX4_change_0 : decode cX4_change 0 = .ok (.aload_n 0, 1) := by decide +kernel
theorem dX4_change_1 : decode cX4_change 1 = .ok (.aload_n 0, 1) := by decide +kernel
theorem dX4_change_2 : decode cX4_change 2 = .ok (.iload_n 1, 1) := by decide +kernel
theorem dX4_change_3 : decode cX4_change 3 = .ok (.invokevirtual 78, 3) := by decide +kernel
theorem dX4_change_6 : decode cX4_change 6 = .ok (.ifCond .ne 7, 3) := by decide +kernel
theorem dX4_change_9 : decode cX4_change 9 = .ok (.iconst 1, 1) := by decide +kernel
theorem dX4_change_10 : decode cX4_change 10 = .ok (.goto 29, 3) := by decide +kernel
theorem dX4_change_13 : decode cX4_change 13 = .ok (.iload_n 2, 1) := by decide +kernel
theorem dX4_change_14 : decode cX4_change 14 = .ok (.iconst 0, 1) := by decide +kernel
theorem dX4_change_15 : decode cX4_change 15 = .ok (.bipush 15, 2) := by decide +kernel
theorem dX4_change_17 : decode cX4_change 17 = .ok (.invokestatic 62, 3) := by decide +kernel
theorem dX4_change_20 : decode cX4_change 20 = .ok (.ifCond .ne 7, 3) := by decide +kernel
theorem dX4_change_23 : decode cX4_change 23 = .ok (.iconst 2, 1) := by decide +kernel
theorem dX4_change_24 : decode cX4_change 24 = .ok (.goto 15, 3) := by decide +kernel
theorem dX4_change_27 : decode cX4_change 27 = .ok (.aload_n 0, 1) := by decide +kernel
theorem dX4_change_28 : decode cX4_change 28 = .ok (.getfield 66, 3) := by decide +kernel
theorem dX4_change_31 : decode cX4_change 31 = .ok (.ifCond .ne 7, 3) := by decide +kernel
theorem dX4_change_34 : decode cX4_change 34 = .ok (.iconst 3, 1) := by decide +kernel
theorem dX4_change_35 : decode cX4_change 35 = .ok (.goto 4, 3) := by decide +kernel
theorem dX4_change_38 : decode cX4_change 38 = .ok (.iconst 0, 1) := by decide +kernel
theorem dX4_change_39 : decode cX4_change 39 = .ok (.putfield 56, 3) := by decide +kernel
theorem dX4_change_42 : decode cX4_change 42 = .ok (.aload_n 0, 1) := by decide +kernel
theorem dX4_change_43 : decode cX4_change 43 = .ok (.getfield 56, 3) := by decide +kernel
theorem dX4_change_46 : decode cX4_change 46 = .ok (.ifCond .le 5, 3) := by decide +kernel
theorem dX4_change_49 : decode cX4_change 49 = .ok (.iconst 0, 1) := by decide +kernel
theorem dX4_change_50 : decode cX4_change 50 = .ok (.ireturn, 1) := by decide +kernel
theorem dX4_change_51 : decode cX4_change 51 = .ok (.lconst 0, 1) := by decide +kernel
theorem dX4_change_52 : decode cX4_change 52 = .ok (.lstore_n 3, 1) := by decide +kernel
theorem dX4_change_53 : decode cX4_change 53 = .ok (.iconst 0, 1) := by decide +kernel
theorem dX4_change_54 : decode cX4_change 54 = .ok (.istore 5, 2) := by decide +kernel
theorem dX4_change_56 : decode cX4_change 56 = .ok (.iload 5, 2) := by decide +kernel
theorem dX4_change_58 : decode cX4_change 58 = .ok (.aload_n 0, 1) := by decide +kernel
theorem dX4_change_59 : decode cX4_change 59 = .ok (.getfield 59, 3) := by decide +kernel
theorem dX4_change_62 : decode cX4_change 62 = .ok (.if_icmp .ge 24, 3) := by decide +kernel
theorem dX4_change_65 : decode cX4_change 65 = .ok (.ldc2_w 119, 3) := by decide +kernel
theorem dX4_change_68 : decode cX4_change 68 = .ok (.lload_n 3, 1) := by decide +kernel
theorem dX4_change_69 : decode cX4_change 69 = .ok (.lmul, 1) := by decide +kernel
theorem dX4_change_70 : decode cX4_change 70 = .ok (.aload_n 0, 1) := by decide +kernel
theorem dX4_change_71 : decode cX4_change 71 = .ok (.getfield 43, 3) := by decide +kernel
theorem dX4_change_74 : decode cX4_change 74 = .ok (.iload 5, 2) := by decide +kernel
theorem dX4_change_76 : decode cX4_change 76 = .ok (.iaload, 1) := by decide +kernel
theorem dX4_change_77 : decode cX4_change 77 = .ok (.i2l, 1) := by decide +kernel
theorem dX4_change_78 : decode cX4_change 78 = .ok (.ladd, 1) := by decide +kernel
theorem dX4_change_79 : decode cX4_change 79 = .ok (.lstore_n 3, 1) := by decide +kernel
theorem dX4_change_80 : decode cX4_change 80 = .ok (.iinc 5 1, 3) := by decide +kernel
theorem dX4_change_83 : decode cX4_change 83 = .ok (.goto (-27), 3) := by decide +kernel
theorem dX4_change_86 : decode cX4_change 86 = .ok (.aload_n 0, 1) := by decide +kernel
theorem dX4_change_87 : decode cX4_change 87 = .ok (.getfield 31, 3) := by decide +kernel
theorem dX4_change_90 : decode cX4_change 90 = .ok (.iload_n 1, 1) := by decide +kernel
theorem dX4_change_91 : decode cX4_change 91 = .ok (.iload_n 2, 1) := by decide +kernel
theorem dX4_change_92 : decode cX4_change 92 = .ok (.iastore, 1) := by decide +kernel
theorem dX4_change_93 : decode cX4_change 93 = .ok (.aload_n 0, 1) := by decide +kernel
theorem dX4_change_94 : decode cX4_change 94 = .ok (.aload_n 0, 1) := by decide +kernel
theorem dX4_change_95 : decode cX4_change 95 = .ok (.invokevirtual 115, 3) := by decide +kernel
theorem dX4_change_98 : decode cX4_change 98 = .ok (.putfield 66, 3) := by decide +kernel
theorem dX4_change_101 : decode cX4_change 101 = .ok (.aload_n 0, 1) := by decide +kernel
theorem dX4_change_102 : decode cX4_change 102 = .ok (.getfield 66, 3) := by decide +kernel
theorem dX4_change_105 : decode cX4_change 105 = .ok (.ifCond .ne 5, 3) := by decide +kernel
theorem dX4_change_108 : decode cX4_change 108 = .ok (.iconst (-1), 1) := by decide +kernel
theorem dX4_change_109 : decode cX4_change 109 = .ok (.ireturn, 1) := by decide +kernel
theorem dX4_change_110 : decode cX4_change 110 = .ok (.iconst 0, 1) := by decide +kernel
theorem dX4_change_111 : decode cX4_change 111 = .ok (.istore 5, 2) := by decide +kernel
theorem dX4_change_113 : decode cX4_change 113 = .ok (.aload_n 0, 1) := by decide +kernel
theorem dX4_change_114 : decode cX4_change 114 = .ok (.getfield 59, 3) := by decide +kernel
theorem dX4_change_117 : decode cX4_change 117 = .ok (.iconst 1, 1) := by decide +kernel
theorem dX4_change_118 : decode cX4_change 118 = .ok (.isub, 1) := by decide +kernel
theorem dX4_change_119 : decode cX4_change 119 = .ok (.istore 6, 2) := by decide +kernel
theorem dX4_change_121 : decode cX4_change 121 = .ok (.iload 6, 2) := by decide +kernel
theorem dX4_change_123 : decode cX4_change 123 = .ok (.ifCond .lt 42, 3) := by decide +kernel
theorem dX4_change_126 : decode cX4_change 126 = .ok (.iload 5, 2) := by decide +kernel
theorem dX4_change_128 : decode cX4_change 128 = .ok (.lload_n 3, 1) := by decide +kernel
theorem dX4_change_129 : decode cX4_change 129 = .ok (.ldc2_w 119, 3) := by decide +kernel
theorem dX4_change_132 : decode cX4_change 132 = .ok (.lrem, 1) := by decide +kernel
theorem dX4_change_133 : decode cX4_change 133 = .ok (.aload_n 0, 1) := by decide +kernel
theorem dX4_change_134 : decode cX4_change 134 = .ok (.getfield 43, 3) := by decide +kernel
theorem dX4_change_137 : decode cX4_change 137 = .ok (.iload 6, 2) := by decide +kernel
theorem dX4_change_139 : decode cX4_change 139 = .ok (.iaload, 1) := by decide +kernel
theorem dX4_change_140 : decode cX4_change 140 = .ok (.i2l, 1) := by decide +kernel
theorem dX4_change_141 : decode cX4_change 141 = .ok (.lcmp, 1) := by decide +kernel
theorem dX4_change_142 : decode cX4_change 142 = .ok (.ifCond .eq 7, 3) := by decide +kernel
theorem dX4_change_145 : decode cX4_change 145 = .ok (.iconst 1, 1) := by decide +kernel
theorem dX4_change_146 : decode cX4_change 146 = .ok (.goto 4, 3) := by decide +kernel
theorem dX4_change_149 : decode cX4_change 149 = .ok (.iconst 0, 1) := by decide +kernel
theorem dX4_change_150 : decode cX4_change 150 = .ok (.iadd, 1) := by decide +kernel
theorem dX4_change_151 : decode cX4_change 151 = .ok (.istore 5, 2) := by decide +kernel
theorem dX4_change_153 : decode cX4_change 153 = .ok (.lload_n 3, 1) := by decide +kernel
theorem dX4_change_154 : decode cX4_change 154 = .ok (.ldc2_w 119, 3) := by decide +kernel
theorem dX4_change_157 : decode cX4_change 157 = .ok (.ldiv, 1) := by decide +kernel
theorem dX4_change_158 : decode cX4_change 158 = .ok (.lstore_n 3, 1) := by decide +kernel
theorem dX4_change_159 : decode cX4_change 159 = .ok (.iinc 6 (-1), 3) := by decide +kernel
theorem dX4_change_162 : decode cX4_change 162 = .ok (.goto (-41), 3) := by decide +kernel
theorem dX4_change_165 : decode cX4_change 165 = .ok (.iload 5, 2) := by decide +kernel
theorem dX4_change_167 : decode cX4_change 167 = .ok (.ireturn, 1) := by decide +kernel
theorem dX4_lies_0 : decode cX4_lies 0 = .ok (.aload_n 0, 1) := by decide +kernel
theorem dX4_lies_1 : decode cX4_lies 1 = .ok (.aload_n 0, 1) := by decide +kernel
theorem dX4_lies_2 : decode cX4_lies 2 = .ok (.getfield 66, 3) := by decide +kernel
theorem dX4_lies_5 : decode cX4_lies 5 = .ok (.ifCond .eq 7, 3) := by decide +kernel
theorem dX4_lies_8 : decode cX4_lies 8 = .ok (.iconst 0, 1) := by decide +kernel
theorem dX4_lies_9 : decode cX4_lies 9 = .ok (.goto 4, 3) := by decide +kernel
theorem dX4_lies_12 : decode cX4_lies 12 = .ok (.iconst 1, 1) := by decide +kernel
theorem dX4_lies_13 : decode cX4_lies 13 = .ok (.putfield 56, 3) := by decide +kernel
theorem dX4_lies_16 : decode cX4_lies 16 = .ok (.iconst (-1), 1) := by decide +kernel
theorem dX4_lies_17 : decode cX4_lies 17 = .ok (.istore_n 3, 1) := by decide +kernel
theorem dX4_lies_18 : decode cX4_lies 18 = .ok (.iconst 0, 1) := by decide +kernel
theorem dX4_lies_19 : decode cX4_lies 19 = .ok (.istore 4, 2) := by decide +kernel
theorem dX4_lies_21 : decode cX4_lies 21 = .ok (.iload 4, 2) := by decide +kernel
theorem dX4_lies_23 : decode cX4_lies 23 = .ok (.aload_n 0, 1) := by decide +kernel
theorem dX4_lies_24 : decode cX4_lies 24 = .ok (.getfield 59, 3) := by decide +kernel
theorem dX4_lies_27 : decode cX4_lies 27 = .ok (.if_icmp .ge 107, 3) := by decide +kernel
theorem dX4_lies_30 : decode cX4_lies 30 = .ok (.aload_n 0, 1) := by decide +kernel
theorem dX4_lies_31 : decode cX4_lies 31 = .ok (.getfield 66, 3) := by decide +kernel
theorem dX4_lies_34 : decode cX4_lies 34 = .ok (.ifCond .eq 100, 3) := by decide +kernel
theorem dX4_lies_37 : decode cX4_lies 37 = .ok (.iload_n 1, 1) := by decide +kernel
theorem dX4_lies_38 : decode cX4_lies 38 = .ok (.aload_n 0, 1) := by decide +kernel
theorem dX4_lies_39 : decode cX4_lies 39 = .ok (.getfield 43, 3) := by decide +kernel
theorem dX4_lies_42 : decode cX4_lies 42 = .ok (.iload 4, 2) := by decide +kernel
theorem dX4_lies_44 : decode cX4_lies 44 = .ok (.iaload, 1) := by decide +kernel
theorem dX4_lies_45 : decode cX4_lies 45 = .ok (.bipush 6, 2) := by decide +kernel
theorem dX4_lies_47 : decode cX4_lies 47 = .ok (.irem, 1) := by decide +kernel
theorem dX4_lies_48 : decode cX4_lies 48 = .ok (.if_icmp .lt 65, 3) := by decide +kernel
theorem dX4_lies_51 : decode cX4_lies 51 = .ok (.iload_n 1, 1) := by decide +kernel
theorem dX4_lies_52 : decode cX4_lies 52 = .ok (.aload_n 0, 1) := by decide +kernel
theorem dX4_lies_53 : decode cX4_lies 53 = .ok (.getfield 43, 3) := by decide +kernel
theorem dX4_lies_56 : decode cX4_lies 56 = .ok (.iload 4, 2) := by decide +kernel
theorem dX4_lies_58 : decode cX4_lies 58 = .ok (.iaload, 1) := by decide +kernel
theorem dX4_lies_59 : decode cX4_lies 59 = .ok (.bipush 6, 2) := by decide +kernel
theorem dX4_lies_61 : decode cX4_lies 61 = .ok (.irem, 1) := by decide +kernel
theorem dX4_lies_62 : decode cX4_lies 62 = .ok (.aload_n 0, 1) := by decide +kernel
theorem dX4_lies_63 : decode cX4_lies 63 = .ok (.getfield 22, 3) := by decide +kernel
theorem dX4_lies_66 : decode cX4_lies 66 = .ok (.iload 4, 2) := by decide +kernel
theorem dX4_lies_68 : decode cX4_lies 68 = .ok (.iaload, 1) := by decide +kernel
theorem dX4_lies_69 : decode cX4_lies 69 = .ok (.iadd, 1) := by decide +kernel
theorem dX4_lies_70 : decode cX4_lies 70 = .ok (.if_icmp .ge 43, 3) := by decide +kernel
theorem dX4_lies_73 : decode cX4_lies 73 = .ok (.iload_n 2, 1) := by decide +kernel
theorem dX4_lies_74 : decode cX4_lies 74 = .ok (.aload_n 0, 1) := by decide +kernel
theorem dX4_lies_75 : decode cX4_lies 75 = .ok (.getfield 43, 3) := by decide +kernel
theorem dX4_lies_78 : decode cX4_lies 78 = .ok (.iload 4, 2) := by decide +kernel
theorem dX4_lies_80 : decode cX4_lies 80 = .ok (.iaload, 1) := by decide +kernel
theorem dX4_lies_81 : decode cX4_lies 81 = .ok (.bipush 6, 2) := by decide +kernel
theorem dX4_lies_83 : decode cX4_lies 83 = .ok (.idiv, 1) := by decide +kernel
theorem dX4_lies_84 : decode cX4_lies 84 = .ok (.if_icmp .lt 29, 3) := by decide +kernel
theorem dX4_lies_87 : decode cX4_lies 87 = .ok (.iload_n 2, 1) := by decide +kernel
theorem dX4_lies_88 : decode cX4_lies 88 = .ok (.aload_n 0, 1) := by decide +kernel
theorem dX4_lies_89 : decode cX4_lies 89 = .ok (.getfield 43, 3) := by decide +kernel
theorem dX4_lies_92 : decode cX4_lies 92 = .ok (.iload 4, 2) := by decide +kernel
theorem dX4_lies_94 : decode cX4_lies 94 = .ok (.iaload, 1) := by decide +kernel
theorem dX4_lies_95 : decode cX4_lies 95 = .ok (.bipush 6, 2) := by decide +kernel
theorem dX4_lies_97 : decode cX4_lies 97 = .ok (.idiv, 1) := by decide +kernel
theorem dX4_lies_98 : decode cX4_lies 98 = .ok (.aload_n 0, 1) := by decide +kernel
theorem dX4_lies_99 : decode cX4_lies 99 = .ok (.getfield 28, 3) := by decide +kernel
theorem dX4_lies_102 : decode cX4_lies 102 = .ok (.iload 4, 2) := by decide +kernel
theorem dX4_lies_104 : decode cX4_lies 104 = .ok (.iaload, 1) := by decide +kernel
theorem dX4_lies_105 : decode cX4_lies 105 = .ok (.iadd, 1) := by decide +kernel
theorem dX4_lies_106 : decode cX4_lies 106 = .ok (.if_icmp .ge 7, 3) := by decide +kernel
theorem dX4_lies_109 : decode cX4_lies 109 = .ok (.iconst 1, 1) := by decide +kernel
theorem dX4_lies_110 : decode cX4_lies 110 = .ok (.goto 4, 3) := by decide +kernel
theorem dX4_lies_113 : decode cX4_lies 113 = .ok (.iconst 0, 1) := by decide +kernel
theorem dX4_lies_114 : decode cX4_lies 114 = .ok (.istore 5, 2) := by decide +kernel
theorem dX4_lies_116 : decode cX4_lies 116 = .ok (.iload 5, 2) := by decide +kernel
theorem dX4_lies_118 : decode cX4_lies 118 = .ok (.ifCond .eq 8, 3) := by decide +kernel
theorem dX4_lies_121 : decode cX4_lies 121 = .ok (.iload 4, 2) := by decide +kernel
theorem dX4_lies_123 : decode cX4_lies 123 = .ok (.goto 4, 3) := by decide +kernel
theorem dX4_lies_126 : decode cX4_lies 126 = .ok (.iload_n 3, 1) := by decide +kernel
theorem dX4_lies_127 : decode cX4_lies 127 = .ok (.istore_n 3, 1) := by decide +kernel
theorem dX4_lies_128 : decode cX4_lies 128 = .ok (.iinc 4 1, 3) := by decide +kernel
theorem dX4_lies_131 : decode cX4_lies 131 = .ok (.goto (-110), 3) := by decide +kernel
theorem dX4_lies_134 : decode cX4_lies 134 = .ok (.aload_n 0, 1) := by decide +kernel
theorem dX4_lies_135 : decode cX4_lies 135 = .ok (.getfield 56, 3) := by decide +kernel
theorem dX4_lies_138 : decode cX4_lies 138 = .ok (.ifCond .le 7, 3) := by decide +kernel
theorem dX4_lies_141 : decode cX4_lies 141 = .ok (.iconst 0, 1) := by decide +kernel
theorem dX4_lies_142 : decode cX4_lies 142 = .ok (.goto 4, 3) := by decide +kernel
theorem dX4_lies_145 : decode cX4_lies 145 = .ok (.iload_n 3, 1) := by decide +kernel
theorem dX4_lies_146 : decode cX4_lies 146 = .ok (.ireturn, 1) := by decide +kernel
set_option maxRecDepth 20000 in
theorem ggX4_share_X4_in : GoodIn wsX4_share wsX4_in := goodIn_r _ [8] (by decide +kernel) (by decide +kernel)
set_option maxRecDepth 20000 in
theorem gX4_share_X4_in : GoodIn wsX4_share (va_wsS RX4 62 yX4_in wsX4_in) := goodIn_app (goodIn_of _ (by decide +kernel)) ggX4_share_X4_in
theorem dX4_share_0 : decode cX4_share 0 = .ok (.iconst 0, 1) := by decide +kernel
theorem dX4_share_1 : decode cX4_share 1 = .ok (.istore 4, 2) := by decide +kernel
theorem dX4_share_3 : decode cX4_share 3 = .ok (.iconst 0, 1) := by decide +kernel
theorem dX4_share_4 : decode cX4_share 4 = .ok (.istore 5, 2) := by decide +kernel
theorem dX4_share_6 : decode cX4_share 6 = .ok (.iload 5, 2) := by decide +kernel
theorem dX4_share_8 : decode cX4_share 8 = .ok (.aload_n 0, 1) := by decide +kernel
theorem dX4_share_9 : decode cX4_share 9 = .ok (.getfield 52, 3) := by decide +kernel
theorem dX4_share_12 : decode cX4_share 12 = .ok (.if_icmp .ge 30, 3) := by decide +kernel
theorem dX4_share_15 : decode cX4_share 15 = .ok (.iload 4, 2) := by decide +kernel
theorem dX4_share_17 : decode cX4_share 17 = .ok (.aload_n 0, 1) := by decide +kernel
theorem dX4_share_18 : decode cX4_share 18 = .ok (.getfield 7, 3) := by decide +kernel
theorem dX4_share_21 : decode cX4_share 21 = .ok (.iload 5, 2) := by decide +kernel
theorem dX4_share_23 : decode cX4_share 23 = .ok (.iaload, 1) := by decide +kernel
theorem dX4_share_24 : decode cX4_share 24 = .ok (.iload_n 3, 1) := by decide +kernel
theorem dX4_share_25 : decode cX4_share 25 = .ok (.if_icmp .lt 7, 3) := by decide +kernel
theorem dX4_share_28 : decode cX4_share 28 = .ok (.iconst 1, 1) := by decide +kernel
theorem dX4_share_29 : decode cX4_share 29 = .ok (.goto 4, 3) := by decide +kernel
theorem dX4_share_32 : decode cX4_share 32 = .ok (.iconst 0, 1) := by decide +kernel
theorem dX4_share_33 : decode cX4_share 33 = .ok (.iadd, 1) := by decide +kernel
theorem dX4_share_34 : decode cX4_share 34 = .ok (.istore 4, 2) := by decide +kernel
theorem dX4_share_36 : decode cX4_share 36 = .ok (.iinc 5 1, 3) := by decide +kernel
theorem dX4_share_39 : decode cX4_share 39 = .ok (.goto (-33), 3) := by decide +kernel
theorem dX4_share_42 : decode cX4_share 42 = .ok (.aload_n 0, 1) := by decide +kernel
theorem dX4_share_43 : decode cX4_share 43 = .ok (.iload_n 1, 1) := by decide +kernel
theorem dX4_share_44 : decode cX4_share 44 = .ok (.iconst 0, 1) := by decide +kernel
theorem dX4_share_45 : decode cX4_share 45 = .ok (.ldc 121, 2) := by decide +kernel
theorem dX4_share_47 : decode cX4_share 47 = .ok (.invokestatic 62, 3) := by decide +kernel
theorem dX4_share_50 : decode cX4_share 50 = .ok (.ifCond .eq 13, 3) := by decide +kernel
theorem dX4_share_53 : decode cX4_share 53 = .ok (.iload_n 2, 1) := by decide +kernel
theorem dX4_share_54 : decode cX4_share 54 = .ok (.iconst 0, 1) := by decide +kernel
theorem dX4_share_55 : decode cX4_share 55 = .ok (.ldc 121, 2) := by decide +kernel
theorem dX4_share_57 : decode cX4_share 57 = .ok (.invokestatic 62, 3) := by decide +kernel
theorem dX4_share_60 : decode cX4_share 60 = .ok (.ifCond .ne 7, 3) := by decide +kernel
theorem dX4_share_63 : decode cX4_share 63 = .ok (.iconst 1, 1) := by decide +kernel
theorem dX4_share_64 : decode cX4_share 64 = .ok (.goto 13, 3) := by decide +kernel
theorem dX4_share_67 : decode cX4_share 67 = .ok (.iload 4, 2) := by decide +kernel
theorem dX4_share_69 : decode cX4_share 69 = .ok (.ifCond .ne 7, 3) := by decide +kernel
theorem dX4_share_72 : decode cX4_share 72 = .ok (.iconst 2, 1) := by decide +kernel
theorem dX4_share_73 : decode cX4_share 73 = .ok (.goto 4, 3) := by decide +kernel
theorem dX4_share_76 : decode cX4_share 76 = .ok (.iconst 0, 1) := by decide +kernel
theorem dX4_share_77 : decode cX4_share 77 = .ok (.putfield 56, 3) := by decide +kernel
theorem dX4_share_80 : decode cX4_share 80 = .ok (.aload_n 0, 1) := by decide +kernel
theorem dX4_share_81 : decode cX4_share 81 = .ok (.getfield 56, 3) := by decide +kernel
theorem dX4_share_84 : decode cX4_share 84 = .ok (.ifCond .le 7, 3) := by decide +kernel
theorem dX4_share_87 : decode cX4_share 87 = .ok (.lconst 0, 1) := by decide +kernel
theorem dX4_share_88 : decode cX4_share 88 = .ok (.goto 12, 3) := by decide +kernel
theorem dX4_share_91 : decode cX4_share 91 = .ok (.iload_n 1, 1) := by decide +kernel
theorem dX4_share_92 : decode cX4_share 92 = .ok (.i2l, 1) := by decide +kernel
theorem dX4_share_93 : decode cX4_share 93 = .ok (.iload_n 2, 1) := by decide +kernel
theorem dX4_share_94 : decode cX4_share 94 = .ok (.i2l, 1) := by decide +kernel
theorem dX4_share_95 : decode cX4_share 95 = .ok (.lmul, 1) := by decide +kernel
theorem dX4_share_96 : decode cX4_share 96 = .ok (.iload 4, 2) := by decide +kernel
theorem dX4_share_98 : decode cX4_share 98 = .ok (.i2l, 1) := by decide +kernel
theorem dX4_share_99 : decode cX4_share 99 = .ok (.ldiv, 1) := by decide +kernel
theorem dX4_share_100 : decode cX4_share 100 = .ok (.lreturn, 1) := by decide +kernel
set_option maxRecDepth 20000 in
theorem ggX4_count_X4_isPlace : GoodIn wsX4_count wsX4_isPlace := goodIn_r _ [13, 6, 14, 15, 16, 17, 18, 19, 20, 21, 22, 23, 24, 25, 26, 27, 28, 29, 30, 31, 32] (by decide +kernel) (by decide +kernel)
set_option maxRecDepth 20000 in
theorem gX4_count_X4_isPlace : GoodIn wsX4_count (wsV RX4 70 RX4 yX4_isPlace wsX4_isPlace) := goodIn_app (goodIn_of _ (by decide +kernel)) ggX4_count_X4_isPlace
theorem dX4_count_0 : decode cX4_count 0 = .ok (.aload_n 0, 1) := by decide +kernel
theorem dX4_count_1 : decode cX4_count 1 = .ok (.iconst 0, 1) := by decide +kernel
theorem dX4_count_2 : decode cX4_count 2 = .ok (.putfield 56, 3) := by decide +kernel
theorem dX4_count_5 : decode cX4_count 5 = .ok (.iload_n 1, 1) := by decide +kernel
theorem dX4_count_6 : decode cX4_count 6 = .ok (.bipush 10, 2) := by decide +kernel
theorem dX4_count_8 : decode cX4_count 8 = .ok (.if_icmp .lt 52, 3) := by decide +kernel
theorem dX4_count_11 : decode cX4_count 11 = .ok (.aload_n 0, 1) := by decide +kernel
theorem dX4_count_12 : decode cX4_count 12 = .ok (.iload_n 1, 1) := by decide +kernel
theorem dX4_count_13 : decode cX4_count 13 = .ok (.bipush 10, 2) := by decide +kernel
theorem dX4_count_15 : decode cX4_count 15 = .ok (.irem, 1) := by decide +kernel
theorem dX4_count_16 : decode cX4_count 16 = .ok (.invokevirtual 70, 3) := by decide +kernel
theorem dX4_count_19 : decode cX4_count 19 = .ok (.ifCond .eq 9, 3) := by decide +kernel
theorem dX4_count_22 : decode cX4_count 22 = .ok (.iload_n 1, 1) := by decide +kernel
theorem dX4_count_23 : decode cX4_count 23 = .ok (.bipush 29, 2) := by decide +kernel
theorem dX4_count_25 : decode cX4_count 25 = .ok (.if_icmp .le 7, 3) := by decide +kernel
theorem dX4_count_28 : decode cX4_count 28 = .ok (.iconst (-1), 1) := by decide +kernel
theorem dX4_count_29 : decode cX4_count 29 = .ok (.goto 30, 3) := by decide +kernel
theorem dX4_count_32 : decode cX4_count 32 = .ok (.iload_n 1, 1) := by decide +kernel
theorem dX4_count_33 : decode cX4_count 33 = .ok (.bipush 20, 2) := by decide +kernel
theorem dX4_count_35 : decode cX4_count 35 = .ok (.if_icmp .ge 15, 3) := by decide +kernel
theorem dX4_count_38 : decode cX4_count 38 = .ok (.aload_n 0, 1) := by decide +kernel
theorem dX4_count_39 : decode cX4_count 39 = .ok (.getfield 7, 3) := by decide +kernel
theorem dX4_count_42 : decode cX4_count 42 = .ok (.iload_n 1, 1) := by decide +kernel
theorem dX4_count_43 : decode cX4_count 43 = .ok (.bipush 10, 2) := by decide +kernel
theorem dX4_count_45 : decode cX4_count 45 = .ok (.isub, 1) := by decide +kernel
theorem dX4_count_46 : decode cX4_count 46 = .ok (.iaload, 1) := by decide +kernel
theorem dX4_count_47 : decode cX4_count 47 = .ok (.goto 12, 3) := by decide +kernel
theorem dX4_count_50 : decode cX4_count 50 = .ok (.aload_n 0, 1) := by decide +kernel
theorem dX4_count_51 : decode cX4_count 51 = .ok (.getfield 13, 3) := by decide +kernel
theorem dX4_count_54 : decode cX4_count 54 = .ok (.iload_n 1, 1) := by decide +kernel
theorem dX4_count_55 : decode cX4_count 55 = .ok (.bipush 20, 2) := by decide +kernel
theorem dX4_count_57 : decode cX4_count 57 = .ok (.isub, 1) := by decide +kernel
theorem dX4_count_58 : decode cX4_count 58 = .ok (.iaload, 1) := by decide +kernel
theorem dX4_count_59 : decode cX4_count 59 = .ok (.ireturn, 1) := by decide +kernel
theorem dX4_count_60 : decode cX4_count 60 = .ok (.iconst 0, 1) := by decide +kernel
theorem dX4_count_61 : decode cX4_count 61 = .ok (.istore_n 2, 1) := by decide +kernel
theorem dX4_count_62 : decode cX4_count 62 = .ok (.iconst 0, 1) := by decide +kernel
theorem dX4_count_63 : decode cX4_count 63 = .ok (.istore_n 3, 1) := by decide +kernel
theorem dX4_count_64 : decode cX4_count 64 = .ok (.iload_n 3, 1) := by decide +kernel
theorem dX4_count_65 : decode cX4_count 65 = .ok (.aload_n 0, 1) := by decide +kernel
theorem dX4_count_66 : decode cX4_count 66 = .ok (.getfield 59, 3) := by decide +kernel
theorem dX4_count_69 : decode cX4_count 69 = .ok (.if_icmp .ge 26, 3) := by decide +kernel
theorem dX4_count_72 : decode cX4_count 72 = .ok (.iload_n 2, 1) := by decide +kernel
theorem dX4_count_73 : decode cX4_count 73 = .ok (.aload_n 0, 1) := by decide +kernel
theorem dX4_count_74 : decode cX4_count 74 = .ok (.getfield 40, 3) := by decide +kernel
theorem dX4_count_77 : decode cX4_count 77 = .ok (.iload_n 3, 1) := by decide +kernel
theorem dX4_count_78 : decode cX4_count 78 = .ok (.iaload, 1) := by decide +kernel
theorem dX4_count_79 : decode cX4_count 79 = .ok (.ifCond .lt 7, 3) := by decide +kernel
theorem dX4_count_82 : decode cX4_count 82 = .ok (.iconst 1, 1) := by decide +kernel
theorem dX4_count_83 : decode cX4_count 83 = .ok (.goto 4, 3) := by decide +kernel
theorem dX4_count_86 : decode cX4_count 86 = .ok (.iconst 0, 1) := by decide +kernel
theorem dX4_count_87 : decode cX4_count 87 = .ok (.iadd, 1) := by decide +kernel
theorem dX4_count_88 : decode cX4_count 88 = .ok (.istore_n 2, 1) := by decide +kernel
theorem dX4_count_89 : decode cX4_count 89 = .ok (.iinc 3 1, 3) := by decide +kernel
theorem dX4_count_92 : decode cX4_count 92 = .ok (.goto (-28), 3) := by decide +kernel
theorem dX4_count_95 : decode cX4_count 95 = .ok (.iload_n 1, 1) := by decide +kernel
theorem dX4_count_96 : decode cX4_count 96 = .ok (.tableswitch 66 0 4 #[36, 41, 46, 51, 64], 36) := by decide +kernel
theorem dX4_count_132 : decode cX4_count 132 = .ok (.aload_n 0, 1) := by decide +kernel
theorem dX4_count_133 : decode cX4_count 133 = .ok (.getfield 52, 3) := by decide +kernel
theorem dX4_count_136 : decode cX4_count 136 = .ok (.ireturn, 1) := by decide +kernel
theorem dX4_count_137 : decode cX4_count 137 = .ok (.aload_n 0, 1) := by decide +kernel
theorem dX4_count_138 : decode cX4_count 138 = .ok (.getfield 59, 3) := by decide +kernel
theorem dX4_count_141 : decode cX4_count 141 = .ok (.ireturn, 1) := by decide +kernel
theorem dX4_count_142 : decode cX4_count 142 = .ok (.aload_n 0, 1) := by decide +kernel
theorem dX4_count_143 : decode cX4_count 143 = .ok (.getfield 81, 3) := by decide +kernel
theorem dX4_count_146 : decode cX4_count 146 = .ok (.ireturn, 1) := by decide +kernel
theorem dX4_count_147 : decode cX4_count 147 = .ok (.aload_n 0, 1) := by decide +kernel
theorem dX4_count_148 : decode cX4_count 148 = .ok (.getfield 66, 3) := by decide +kernel
theorem dX4_count_151 : decode cX4_count 151 = .ok (.ifCond .eq 7, 3) := by decide +kernel
theorem dX4_count_154 : decode cX4_count 154 = .ok (.iconst 1, 1) := by decide +kernel
theorem dX4_count_155 : decode cX4_count 155 = .ok (.goto 4, 3) := by decide +kernel
theorem dX4_count_158 : decode cX4_count 158 = .ok (.iconst 0, 1) := by decide +kernel
theorem dX4_count_159 : decode cX4_count 159 = .ok (.ireturn, 1) := by decide +kernel
theorem dX4_count_160 : decode cX4_count 160 = .ok (.iload_n 2, 1) := by decide +kernel
theorem dX4_count_161 : decode cX4_count 161 = .ok (.ireturn, 1) := by decide +kernel
theorem dX4_count_162 : decode cX4_count 162 = .ok (.iconst (-1), 1) := by decide +kernel
theorem dX4_count_163 : decode cX4_count 163 = .ok (.ireturn, 1) := by decide +kernel
theorem dJ6_bitCount_0f7a4_0 : decode cJ6_bitCount_0f7a4 0 = .ok (.iload_n 0, 1) := by decide +kernel
theorem dJ6_bitCount_0f7a4_1 : decode cJ6_bitCount_0f7a4 1 = .ok (.iload_n 0, 1) := by decide +kernel
theorem dJ6_bitCount_0f7a4_2 : decode cJ6_bitCount_0f7a4 2 = .ok (.iconst 1, 1) := by decide +kernel
theorem dJ6_bitCount_0f7a4_3 : decode cJ6_bitCount_0f7a4 3 = .ok (.iushr, 1) := by decide +kernel
theorem dJ6_bitCount_0f7a4_4 : decode cJ6_bitCount_0f7a4 4 = .ok (.ldc_w 265, 3) := by decide +kernel
theorem dJ6_bitCount_0f7a4_7 : decode cJ6_bitCount_0f7a4 7 = .ok (.iand, 1) := by decide +kernel
theorem dJ6_bitCount_0f7a4_8 : decode cJ6_bitCount_0f7a4 8 = .ok (.isub, 1) := by decide +kernel
theorem dJ6_bitCount_0f7a4_9 : decode cJ6_bitCount_0f7a4 9 = .ok (.istore_n 0, 1) := by decide +kernel
theorem dJ6_bitCount_0f7a4_10 : decode cJ6_bitCount_0f7a4 10 = .ok (.iload_n 0, 1) := by decide +kernel
theorem dJ6_bitCount_0f7a4_11 : decode cJ6_bitCount_0f7a4 11 = .ok (.ldc_w 266, 3) := by decide +kernel
theorem dJ6_bitCount_0f7a4_14 : decode cJ6_bitCount_0f7a4 14 = .ok (.iand, 1) := by decide +kernel
theorem dJ6_bitCount_0f7a4_15 : decode cJ6_bitCount_0f7a4 15 = .ok (.iload_n 0, 1) := by decide +kernel
theorem dJ6_bitCount_0f7a4_16 : decode cJ6_bitCount_0f7a4 16 = .ok (.iconst 2, 1) := by decide +kernel
theorem dJ6_bitCount_0f7a4_17 : decode cJ6_bitCount_0f7a4 17 = .ok (.iushr, 1) := by decide +kernel
theorem dJ6_bitCount_0f7a4_18 : decode cJ6_bitCount_0f7a4 18 = .ok (.ldc_w 266, 3) := by decide +kernel
theorem dJ6_bitCount_0f7a4_21 : decode cJ6_bitCount_0f7a4 21 = .ok (.iand, 1) := by decide +kernel
theorem dJ6_bitCount_0f7a4_22 : decode cJ6_bitCount_0f7a4 22 = .ok (.iadd, 1) := by decide +kernel
theorem dJ6_bitCount_0f7a4_23 : decode cJ6_bitCount_0f7a4 23 = .ok (.istore_n 0, 1) := by decide +kernel
theorem dJ6_bitCount_0f7a4_24 : decode cJ6_bitCount_0f7a4 24 = .ok (.iload_n 0, 1) := by decide +kernel
theorem dJ6_bitCount_0f7a4_25 : decode cJ6_bitCount_0f7a4 25 = .ok (.iload_n 0, 1) := by decide +kernel
theorem dJ6_bitCount_0f7a4_26 : decode cJ6_bitCount_0f7a4 26 = .ok (.iconst 4, 1) := by decide +kernel
theorem dJ6_bitCount_0f7a4_27 : decode cJ6_bitCount_0f7a4 27 = .ok (.iushr, 1) := by decide +kernel
theorem dJ6_bitCount_0f7a4_28 : decode cJ6_bitCount_0f7a4 28 = .ok (.iadd, 1) := by decide +kernel
theorem dJ6_bitCount_0f7a4_29 : decode cJ6_bitCount_0f7a4 29 = .ok (.ldc_w 267, 3) := by decide +kernel
theorem dJ6_bitCount_0f7a4_32 : decode cJ6_bitCount_0f7a4 32 = .ok (.iand, 1) := by decide +kernel
theorem dJ6_bitCount_0f7a4_33 : decode cJ6_bitCount_0f7a4 33 = .ok (.istore_n 0, 1) := by decide +kernel
theorem dJ6_bitCount_0f7a4_34 : decode cJ6_bitCount_0f7a4 34 = .ok (.iload_n 0, 1) := by decide +kernel
theorem dJ6_bitCount_0f7a4_35 : decode cJ6_bitCount_0f7a4 35 = .ok (.iload_n 0, 1) := by decide +kernel
theorem dJ6_bitCount_0f7a4_36 : decode cJ6_bitCount_0f7a4 36 = .ok (.bipush 8, 2) := by decide +kernel
theorem dJ6_bitCount_0f7a4_38 : decode cJ6_bitCount_0f7a4 38 = .ok (.iushr, 1) := by decide +kernel
theorem dJ6_bitCount_0f7a4_39 : decode cJ6_bitCount_0f7a4 39 = .ok (.iadd, 1) := by decide +kernel
theorem dJ6_bitCount_0f7a4_40 : decode cJ6_bitCount_0f7a4 40 = .ok (.istore_n 0, 1) := by decide +kernel
theorem dJ6_bitCount_0f7a4_41 : decode cJ6_bitCount_0f7a4 41 = .ok (.iload_n 0, 1) := by decide +kernel
theorem dJ6_bitCount_0f7a4_42 : decode cJ6_bitCount_0f7a4 42 = .ok (.iload_n 0, 1) := by decide +kernel
theorem dJ6_bitCount_0f7a4_43 : decode cJ6_bitCount_0f7a4 43 = .ok (.bipush 16, 2) := by decide +kernel
theorem dJ6_bitCount_0f7a4_45 : decode cJ6_bitCount_0f7a4 45 = .ok (.iushr, 1) := by decide +kernel
theorem dJ6_bitCount_0f7a4_46 : decode cJ6_bitCount_0f7a4 46 = .ok (.iadd, 1) := by decide +kernel
theorem dJ6_bitCount_0f7a4_47 : decode cJ6_bitCount_0f7a4 47 = .ok (.istore_n 0, 1) := by decide +kernel
theorem dJ6_bitCount_0f7a4_48 : decode cJ6_bitCount_0f7a4 48 = .ok (.iload_n 0, 1) := by decide +kernel
theorem dJ6_bitCount_0f7a4_49 : decode cJ6_bitCount_0f7a4 49 = .ok (.bipush 63, 2) := by decide +kernel
theorem dJ6_bitCount_0f7a4_51 : decode cJ6_bitCount_0f7a4 51 = .ok (.iand, 1) := by decide +kernel
theorem dJ6_bitCount_0f7a4_52 : decode cJ6_bitCount_0f7a4 52 = .ok (.ireturn, 1) := by decide +kernel
theorem dJ9_max_7cf53_0 : decode cJ9_max_7cf53 0 = .ok (.iload_n 0, 1) := by decide +kernel
theorem dJ9_max_7cf53_1 : decode cJ9_max_7cf53 1 = .ok (.iload_n 1, 1) := by decide +kernel
theorem dJ9_max_7cf53_2 : decode cJ9_max_7cf53 2 = .ok (.if_icmp .lt 7, 3) := by decide +kernel
theorem dJ9_max_7cf53_5 : decode cJ9_max_7cf53 5 = .ok (.iload_n 0, 1) := by decide +kernel
theorem dJ9_max_7cf53_6 : decode cJ9_max_7cf53 6 = .ok (.goto 4, 3) := by decide +kernel
theorem dJ9_max_7cf53_9 : decode cJ9_max_7cf53 9 = .ok (.iload_n 1, 1) := by decide +kernel
theorem dJ9_max_7cf53_10 : decode cJ9_max_7cf53 10 = .ok (.ireturn, 1) := by decide +kernel
theorem dJ9_min_7cf53_0 : decode cJ9_min_7cf53 0 = .ok (.iload_n 0, 1) := by decide +kernel
theorem dJ9_min_7cf53_1 : decode cJ9_min_7cf53 1 = .ok (.iload_n 1, 1) := by decide +kernel
theorem dJ9_min_7cf53_2 : decode cJ9_min_7cf53 2 = .ok (.if_icmp .gt 7, 3) := by decide +kernel
theorem dJ9_min_7cf53_5 : decode cJ9_min_7cf53 5 = .ok (.iload_n 0, 1) := by decide +kernel
theorem dJ9_min_7cf53_6 : decode cJ9_min_7cf53 6 = .ok (.goto 4, 3) := by decide +kernel
theorem dJ9_min_7cf53_9 : decode cJ9_min_7cf53 9 = .ok (.iload_n 1, 1) := by decide +kernel
theorem dJ9_min_7cf53_10 : decode cJ9_min_7cf53 10 = .ok (.ireturn, 1) := by decide +kernel
