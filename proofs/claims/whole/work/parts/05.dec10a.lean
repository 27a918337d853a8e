theorem dX10_init_0 : decode cX10_init 0 = .ok (.aload_n 0, 1) := by decide +kernel
theorem dX10_init_1 : decode cX10_init 1 = .ok (.invokespecial 1, 3) := by decide +kernel
theorem dX10_init_4 : decode cX10_init 4 = .ok (.aload_n 0, 1) := by decide +kernel
theorem dX10_init_5 : decode cX10_init 5 = .ok (.bipush 20, 2) := by decide +kernel
theorem dX10_init_7 : decode cX10_init 7 = .ok (.newarray .int, 2) := by decide +kernel
theorem dX10_init_9 : decode cX10_init 9 = .ok (.putfield 7, 3) := by decide +kernel
theorem dX10_init_12 : decode cX10_init 12 = .ok (.aload_n 0, 1) := by decide +kernel
theorem dX10_init_13 : decode cX10_init 13 = .ok (.iconst 5, 1) := by decide +kernel
theorem dX10_init_14 : decode cX10_init 14 = .ok (.newarray .int, 2) := by decide +kernel
theorem dX10_init_16 : decode cX10_init 16 = .ok (.putfield 13, 3) := by decide +kernel
theorem dX10_init_19 : decode cX10_init 19 = .ok (.aload_n 0, 1) := by decide +kernel
theorem dX10_init_20 : decode cX10_init 20 = .ok (.iconst 5, 1) := by decide +kernel
theorem dX10_init_21 : decode cX10_init 21 = .ok (.newarray .int, 2) := by decide +kernel
theorem dX10_init_23 : decode cX10_init 23 = .ok (.putfield 16, 3) := by decide +kernel
theorem dX10_init_26 : decode cX10_init 26 = .ok (.aload_n 0, 1) := by decide +kernel
theorem dX10_init_27 : decode cX10_init 27 = .ok (.iconst 5, 1) := by decide +kernel
theorem dX10_init_28 : decode cX10_init 28 = .ok (.newarray .int, 2) := by decide +kernel
theorem dX10_init_30 : decode cX10_init 30 = .ok (.putfield 19, 3) := by decide +kernel
theorem dX10_init_33 : decode cX10_init 33 = .ok (.aload_n 0, 1) := by decide +kernel
theorem dX10_init_34 : decode cX10_init 34 = .ok (.bipush 37, 2) := by decide +kernel
theorem dX10_init_36 : decode cX10_init 36 = .ok (.newarray .int, 2) := by decide +kernel
theorem dX10_init_38 : decode cX10_init 38 = .ok (.putfield 22, 3) := by decide +kernel
theorem dX10_init_41 : decode cX10_init 41 = .ok (.aload_n 0, 1) := by decide +kernel
theorem dX10_init_42 : decode cX10_init 42 = .ok (.sipush 240, 3) := by decide +kernel
theorem dX10_init_45 : decode cX10_init 45 = .ok (.newarray .int, 2) := by decide +kernel
theorem dX10_init_47 : decode cX10_init 47 = .ok (.putfield 25, 3) := by decide +kernel
theorem dX10_init_50 : decode cX10_init 50 = .ok (.aload_n 0, 1) := by decide +kernel
theorem dX10_init_51 : decode cX10_init 51 = .ok (.iconst (-1), 1) := by decide +kernel
theorem dX10_init_52 : decode cX10_init 52 = .ok (.putfield 28, 3) := by decide +kernel
theorem dX10_init_55 : decode cX10_init 55 = .ok (.aload_n 0, 1) := by decide +kernel
theorem dX10_init_56 : decode cX10_init 56 = .ok (.iconst 2, 1) := by decide +kernel
theorem dX10_init_57 : decode cX10_init 57 = .ok (.newarray .int, 2) := by decide +kernel
theorem dX10_init_59 : decode cX10_init 59 = .ok (.putfield 32, 3) := by decide +kernel
theorem dX10_init_62 : decode cX10_init 62 = .ok (.aload_n 0, 1) := by decide +kernel
theorem dX10_init_63 : decode cX10_init 63 = .ok (.bipush 20, 2) := by decide +kernel
theorem dX10_init_65 : decode cX10_init 65 = .ok (.newarray .int, 2) := by decide +kernel
theorem dX10_init_67 : decode cX10_init 67 = .ok (.putfield 35, 3) := by decide +kernel
theorem dX10_init_70 : decode cX10_init 70 = .ok (.aload_n 0, 1) := by decide +kernel
theorem dX10_init_71 : decode cX10_init 71 = .ok (.iconst 5, 1) := by decide +kernel
theorem dX10_init_72 : decode cX10_init 72 = .ok (.newarray .int, 2) := by decide +kernel
theorem dX10_init_74 : decode cX10_init 74 = .ok (.putfield 38, 3) := by decide +kernel
theorem dX10_init_77 : decode cX10_init 77 = .ok (.aload_n 0, 1) := by decide +kernel
theorem dX10_init_78 : decode cX10_init 78 = .ok (.iconst 5, 1) := by decide +kernel
theorem dX10_init_79 : decode cX10_init 79 = .ok (.newarray .int, 2) := by decide +kernel
theorem dX10_init_81 : decode cX10_init 81 = .ok (.putfield 41, 3) := by decide +kernel
theorem dX10_init_84 : decode cX10_init 84 = .ok (.aload_n 0, 1) := by decide +kernel
theorem dX10_init_85 : decode cX10_init 85 = .ok (.iconst 5, 1) := by decide +kernel
theorem dX10_init_86 : decode cX10_init 86 = .ok (.newarray .int, 2) := by decide +kernel
theorem dX10_init_88 : decode cX10_init 88 = .ok (.putfield 44, 3) := by decide +kernel
theorem dX10_init_91 : decode cX10_init 91 = .ok (.aload_n 0, 1) := by decide +kernel
theorem dX10_init_92 : decode cX10_init 92 = .ok (.bipush 35, 2) := by decide +kernel
theorem dX10_init_94 : decode cX10_init 94 = .ok (.newarray .int, 2) := by decide +kernel
theorem dX10_init_96 : decode cX10_init 96 = .ok (.putfield 47, 3) := by decide +kernel
theorem dX10_init_99 : decode cX10_init 99 = .ok (.aload_n 0, 1) := by decide +kernel
theorem dX10_init_100 : decode cX10_init 100 = .ok (.iconst 5, 1) := by decide +kernel
theorem dX10_init_101 : decode cX10_init 101 = .ok (.newarray .int, 2) := by decide +kernel
theorem dX10_init_103 : decode cX10_init 103 = .ok (.putfield 50, 3) := by decide +kernel
theorem dX10_init_106 : decode cX10_init 106 = .ok (.aload_n 0, 1) := by decide +kernel
theorem dX10_init_107 : decode cX10_init 107 = .ok (.bipush 20, 2) := by decide +kernel
theorem dX10_init_109 : decode cX10_init 109 = .ok (.newarray .int, 2) := by decide +kernel
theorem dX10_init_111 : decode cX10_init 111 = .ok (.putfield 53, 3) := by decide +kernel
theorem dX10_init_114 : decode cX10_init 114 = .ok (.aload_n 0, 1) := by decide +kernel
theorem dX10_init_115 : decode cX10_init 115 = .ok (.sipush 740, 3) := by decide +kernel
theorem dX10_init_118 : decode cX10_init 118 = .ok (.newarray .int, 2) := by decide +kernel
theorem dX10_init_120 : decode cX10_init 120 = .ok (.putfield 56, 3) := by decide +kernel
theorem dX10_init_123 : decode cX10_init 123 = .ok (.aload_n 0, 1) := by decide +kernel
theorem dX10_init_124 : decode cX10_init 124 = .ok (.bipush 15, 2) := by decide +kernel
theorem dX10_init_126 : decode cX10_init 126 = .ok (.newarray .int, 2) := by decide +kernel
theorem dX10_init_128 : decode cX10_init 128 = .ok (.putfield 59, 3) := by decide +kernel
theorem dX10_init_131 : decode cX10_init 131 = .ok (.aload_n 0, 1) := by decide +kernel
theorem dX10_init_132 : decode cX10_init 132 = .ok (.bipush 6, 2) := by decide +kernel
theorem dX10_init_134 : decode cX10_init 134 = .ok (.newarray .int, 2) := by decide +kernel
theorem dX10_init_136 : decode cX10_init 136 = .ok (.putfield 62, 3) := by decide +kernel
theorem dX10_init_139 : decode cX10_init 139 = .ok (.aload_n 0, 1) := by decide +kernel
theorem dX10_init_140 : decode cX10_init 140 = .ok (.bipush 6, 2) := by decide +kernel
theorem dX10_init_142 : decode cX10_init 142 = .ok (.newarray .int, 2) := by decide +kernel
theorem dX10_init_144 : decode cX10_init 144 = .ok (.putfield 65, 3) := by decide +kernel
theorem dX10_init_147 : decode cX10_init 147 = .ok (.aload_n 0, 1) := by decide +kernel
theorem dX10_init_148 : decode cX10_init 148 = .ok (.sipush 400, 3) := by decide +kernel
theorem dX10_init_151 : decode cX10_init 151 = .ok (.newarray .int, 2) := by decide +kernel
theorem dX10_init_153 : decode cX10_init 153 = .ok (.putfield 68, 3) := by decide +kernel
theorem dX10_init_156 : decode cX10_init 156 = .ok (.aload_n 0, 1) := by decide +kernel
theorem dX10_init_157 : decode cX10_init 157 = .ok (.bipush 15, 2) := by decide +kernel
theorem dX10_init_159 : decode cX10_init 159 = .ok (.newarray .int, 2) := by decide +kernel
theorem dX10_init_161 : decode cX10_init 161 = .ok (.putfield 71, 3) := by decide +kernel
theorem dX10_init_164 : decode cX10_init 164 = .ok (.aload_n 0, 1) := by decide +kernel
theorem dX10_init_165 : decode cX10_init 165 = .ok (.bipush 15, 2) := by decide +kernel
theorem dX10_init_167 : decode cX10_init 167 = .ok (.newarray .int, 2) := by decide +kernel
theorem dX10_init_169 : decode cX10_init 169 = .ok (.putfield 74, 3) := by decide +kernel
theorem dX10_init_172 : decode cX10_init 172 = .ok (.aload_n 0, 1) := by decide +kernel
theorem dX10_init_173 : decode cX10_init 173 = .ok (.bipush 76, 2) := by decide +kernel
theorem dX10_init_175 : decode cX10_init 175 = .ok (.newarray .int, 2) := by decide +kernel
theorem dX10_init_177 : decode cX10_init 177 = .ok (.putfield 77, 3) := by decide +kernel
theorem dX10_init_180 : decode cX10_init 180 = .ok (.aload_n 0, 1) := by decide +kernel
theorem dX10_init_181 : decode cX10_init 181 = .ok (.iconst 2, 1) := by decide +kernel
theorem dX10_init_182 : decode cX10_init 182 = .ok (.newarray .boolean, 2) := by decide +kernel
theorem dX10_init_184 : decode cX10_init 184 = .ok (.putfield 80, 3) := by decide +kernel
theorem dX10_init_187 : decode cX10_init 187 = .ok (.aload_n 0, 1) := by decide +kernel
theorem dX10_init_188 : decode cX10_init 188 = .ok (.getfield 22, 3) := by decide +kernel
theorem dX10_init_191 : decode cX10_init 191 = .ok (.bipush 36, 2) := by decide +kernel
theorem dX10_init_193 : decode cX10_init 193 = .ok (.iconst (-1), 1) := by decide +kernel
theorem dX10_init_194 : decode cX10_init 194 = .ok (.iastore, 1) := by decide +kernel
theorem dX10_init_195 : decode cX10_init 195 = .ok (.return_, 1) := by decide +kernel
theorem dX10_in_0 : decode cX10_in 0 = .ok (.lload_n 0, 1) := by decide +kernel
theorem dX10_in_1 : decode cX10_in 1 = .ok (.lload_n 2, 1) := by decide +kernel
theorem dX10_in_2 : decode cX10_in 2 = .ok (.lcmp, 1) := by decide +kernel
theorem dX10_in_3 : decode cX10_in 3 = .ok (.ifCond .lt 14, 3) := by decide +kernel
theorem dX10_in_6 : decode cX10_in 6 = .ok (.lload_n 0, 1) := by decide +kernel
theorem dX10_in_7 : decode cX10_in 7 = .ok (.lload 4, 2) := by decide +kernel
theorem dX10_in_9 : decode cX10_in 9 = .ok (.lcmp, 1) := by decide +kernel
theorem dX10_in_10 : decode cX10_in 10 = .ok (.ifCond .gt 7, 3) := by decide +kernel
theorem dX10_in_13 : decode cX10_in 13 = .ok (.iconst 1, 1) := by decide +kernel
theorem dX10_in_14 : decode cX10_in 14 = .ok (.goto 4, 3) := by decide +kernel
theorem dX10_in_17 : decode cX10_in 17 = .ok (.iconst 0, 1) := by decide +kernel
theorem dX10_in_18 : decode cX10_in 18 = .ok (.ireturn, 1) := by decide +kernel
theorem dX10_has_0 : decode cX10_has 0 = .ok (.iload_n 0, 1) := by decide +kernel
theorem dX10_has_1 : decode cX10_has 1 = .ok (.iload_n 1, 1) := by decide +kernel
theorem dX10_has_2 : decode cX10_has 2 = .ok (.ishr, 1) := by decide +kernel
theorem dX10_has_3 : decode cX10_has 3 = .ok (.iconst 1, 1) := by decide +kernel
theorem dX10_has_4 : decode cX10_has 4 = .ok (.iand, 1) := by decide +kernel
theorem dX10_has_5 : decode cX10_has 5 = .ok (.iconst 1, 1) := by decide +kernel
theorem dX10_has_6 : decode cX10_has 6 = .ok (.if_icmp .ne 7, 3) := by decide +kernel
theorem dX10_has_9 : decode cX10_has 9 = .ok (.iconst 1, 1) := by decide +kernel
theorem dX10_has_10 : decode cX10_has 10 = .ok (.goto 4, 3) := by decide +kernel
theorem dX10_has_13 : decode cX10_has 13 = .ok (.iconst 0, 1) := by decide +kernel
theorem dX10_has_14 : decode cX10_has 14 = .ok (.ireturn, 1) := by decide +kernel
theorem dX10_bits_0 : decode cX10_bits 0 = .ok (.iconst 0, 1) := by decide +kernel
theorem dX10_bits_1 : decode cX10_bits 1 = .ok (.istore_n 1, 1) := by decide +kernel
theorem dX10_bits_2 : decode cX10_bits 2 = .ok (.iconst 0, 1) := by decide +kernel
theorem dX10_bits_3 : decode cX10_bits 3 = .ok (.istore_n 2, 1) := by decide +kernel
theorem dX10_bits_4 : decode cX10_bits 4 = .ok (.iload_n 2, 1) := by decide +kernel
theorem dX10_bits_5 : decode cX10_bits 5 = .ok (.bipush 7, 2) := by decide +kernel
theorem dX10_bits_7 : decode cX10_bits 7 = .ok (.if_icmp .ge 17, 3) := by decide +kernel
theorem dX10_bits_10 : decode cX10_bits 10 = .ok (.iload_n 1, 1) := by decide +kernel
theorem dX10_bits_11 : decode cX10_bits 11 = .ok (.iload_n 0, 1) := by decide +kernel
theorem dX10_bits_12 : decode cX10_bits 12 = .ok (.iload_n 2, 1) := by decide +kernel
theorem dX10_bits_13 : decode cX10_bits 13 = .ok (.ishr, 1) := by decide +kernel
theorem dX10_bits_14 : decode cX10_bits 14 = .ok (.iconst 1, 1) := by decide +kernel
theorem dX10_bits_15 : decode cX10_bits 15 = .ok (.iand, 1) := by decide +kernel
theorem dX10_bits_16 : decode cX10_bits 16 = .ok (.iadd, 1) := by decide +kernel
theorem dX10_bits_17 : decode cX10_bits 17 = .ok (.istore_n 1, 1) := by decide +kernel
theorem dX10_bits_18 : decode cX10_bits 18 = .ok (.iinc 2 1, 3) := by decide +kernel
theorem dX10_bits_21 : decode cX10_bits 21 = .ok (.goto (-17), 3) := by decide +kernel
theorem dX10_bits_24 : decode cX10_bits 24 = .ok (.iload_n 1, 1) := by decide +kernel
theorem dX10_bits_25 : decode cX10_bits 25 = .ok (.ireturn, 1) := by decide +kernel
theorem dX10_cells_0 : decode cX10_cells 0 = .ok (.aload_n 0, 1) := by decide +kernel
theorem dX10_cells_1 : decode cX10_cells 1 = .ok (.getfield 84, 3) := by decide +kernel
theorem dX10_cells_4 : decode cX10_cells 4 = .ok (.aload_n 0, 1) := by decide +kernel
theorem dX10_cells_5 : decode cX10_cells 5 = .ok (.getfield 87, 3) := by decide +kernel
theorem dX10_cells_8 : decode cX10_cells 8 = .ok (.imul, 1) := by decide +kernel
theorem dX10_cells_9 : decode cX10_cells 9 = .ok (.ireturn, 1) := by decide +kernel
set_option maxRecDepth 20000 in
theorem ggX10_isCell_X10_cells : GoodIn wsX10_isCell wsX10_cells := goodIn_r _ [5, 6, 7, 11, 12, 13, 14, 15, 16, 17, 18, 19, 20, 21, 22, 23, 24, 25, 26, 27, 28, 29, 30, 31, 32, 33, 34, 35, 36, 37, 38, 39, 40, 41, 42, 43, 44, 45, 46, 47, 48, 49] (by decide +kernel) (by decide +kernel)
set_option maxRecDepth 20000 in
theorem gX10_isCell_X10_cells : GoodIn wsX10_isCell (wsV RX10 90 RX10 yX10_cells wsX10_cells) := goodIn_app (goodIn_of _ (by decide +kernel)) ggX10_isCell_X10_cells
set_option maxRecDepth 20000 in
theorem ggX10_isCell_X10_in : GoodIn wsX10_isCell wsX10_in := goodIn_r _ [10] (by decide +kernel) (by decide +kernel)
set_option maxRecDepth 20000 in
theorem gX10_isCell_X10_in : GoodIn wsX10_isCell (va_wsS RX10 94 yX10_in wsX10_in) := goodIn_app (goodIn_of _ (by decide +kernel)) ggX10_isCell_X10_in
theorem dX10_isCell_0 : decode cX10_isCell 0 = .ok (.iload_n 1, 1) := by decide +kernel
theorem dX10_isCell_1 : decode cX10_isCell 1 = .ok (.i2l, 1) := by decide +kernel
theorem dX10_isCell_2 : decode cX10_isCell 2 = .ok (.lconst 0, 1) := by decide +kernel
theorem dX10_isCell_3 : decode cX10_isCell 3 = .ok (.aload_n 0, 1) := by decide +kernel
theorem dX10_isCell_4 : decode cX10_isCell 4 = .ok (.invokevirtual 90, 3) := by decide +kernel
theorem dX10_isCell_7 : decode cX10_isCell 7 = .ok (.iconst 1, 1) := by decide +kernel
theorem dX10_isCell_8 : decode cX10_isCell 8 = .ok (.isub, 1) := by decide +kernel
theorem dX10_isCell_9 : decode cX10_isCell 9 = .ok (.i2l, 1) := by decide +kernel
theorem dX10_isCell_10 : decode cX10_isCell 10 = .ok (.invokestatic 94, 3) := by decide +kernel
theorem dX10_isCell_13 : decode cX10_isCell 13 = .ok (.ireturn, 1) := by decide +kernel
set_option maxRecDepth 20000 in
theorem ggX10_isItem_X10_in : GoodIn wsX10_isItem wsX10_in := goodIn_r _ [5] (by decide +kernel) (by decide +kernel)
set_option maxRecDepth 20000 in
theorem gX10_isItem_X10_in : GoodIn wsX10_isItem (va_wsS RX10 94 yX10_in wsX10_in) := goodIn_app (goodIn_of _ (by decide +kernel)) ggX10_isItem_X10_in
theorem dX10_isItem_0 : decode cX10_isItem 0 = .ok (.iload_n 1, 1) := by decide +kernel
theorem dX10_isItem_1 : decode cX10_isItem 1 = .ok (.i2l, 1) := by decide +kernel
theorem dX10_isItem_2 : decode cX10_isItem 2 = .ok (.lconst 0, 1) := by decide +kernel
theorem dX10_isItem_3 : decode cX10_isItem 3 = .ok (.aload_n 0, 1) := by decide +kernel
theorem dX10_isItem_4 : decode cX10_isItem 4 = .ok (.getfield 98, 3) := by decide +kernel
theorem dX10_isItem_7 : decode cX10_isItem 7 = .ok (.iconst 1, 1) := by decide +kernel
theorem dX10_isItem_8 : decode cX10_isItem 8 = .ok (.isub, 1) := by decide +kernel
theorem dX10_isItem_9 : decode cX10_isItem 9 = .ok (.i2l, 1) := by decide +kernel
theorem dX10_isItem_10 : decode cX10_isItem 10 = .ok (.invokestatic 94, 3) := by decide +kernel
theorem dX10_isItem_13 : decode cX10_isItem 13 = .ok (.ireturn, 1) := by decide +kernel
set_option maxRecDepth 20000 in
theorem ggX10_isPerson_X10_in : GoodIn wsX10_isPerson wsX10_in := goodIn_r _ [5] (by decide +kernel) (by decide +kernel)
set_option maxRecDepth 20000 in
theorem gX10_isPerson_X10_in : GoodIn wsX10_isPerson (va_wsS RX10 94 yX10_in wsX10_in) := goodIn_app (goodIn_of _ (by decide +kernel)) ggX10_isPerson_X10_in
theorem dX10_isPerson_0 : decode cX10_isPerson 0 = .ok (.iload_n 1, 1) := by decide +kernel
theorem dX10_isPerson_1 : decode cX10_isPerson 1 = .ok (.i2l, 1) := by decide +kernel
theorem dX10_isPerson_2 : decode cX10_isPerson 2 = .ok (.lconst 0, 1) := by decide +kernel
theorem dX10_isPerson_3 : decode cX10_isPerson 3 = .ok (.aload_n 0, 1) := by decide +kernel
theorem dX10_isPerson_4 : decode cX10_isPerson 4 = .ok (.getfield 101, 3) := by decide +kernel
theorem dX10_isPerson_7 : decode cX10_isPerson 7 = .ok (.iconst 1, 1) := by decide +kernel
theorem dX10_isPerson_8 : decode cX10_isPerson 8 = .ok (.isub, 1) := by decide +kernel
theorem dX10_isPerson_9 : decode cX10_isPerson 9 = .ok (.i2l, 1) := by decide +kernel
theorem dX10_isPerson_10 : decode cX10_isPerson 10 = .ok (.invokestatic 94, 3) := by decide +kernel
theorem dX10_isPerson_13 : decode cX10_isPerson 13 = .ok (.ireturn, 1) := by decide +kernel
set_option maxRecDepth 20000 in
theorem ggX10_feed_X10_in : GoodIn wsX10_feed wsX10_in := goodIn_r _ [9] (by decide +kernel) (by decide +kernel)
set_option maxRecDepth 20000 in
theorem gX10_feed_X10_in : GoodIn wsX10_feed (va_wsS RX10 94 yX10_in wsX10_in) := goodIn_app (goodIn_of _ (by decide +kernel)) ggX10_feed_X10_in
theorem dX10_feed_0 : decode cX10_feed 0 = .ok (.iload_n 1, 1) := by decide +kernel
theorem dX10_feed_1 : decode cX10_feed 1 = .ok (.i2l, 1) := by decide +kernel
theorem dX10_feed_2 : decode cX10_feed 2 = .ok (.lconst 0, 1) := by decide +kernel
theorem dX10_feed_3 : decode cX10_feed 3 = .ok (.ldc2_w 104, 3) := by decide +kernel
theorem dX10_feed_6 : decode cX10_feed 6 = .ok (.invokestatic 94, 3) := by decide +kernel
theorem dX10_feed_9 : decode cX10_feed 9 = .ok (.ifCond .ne 6, 3) := by decide +kernel
theorem dX10_feed_12 : decode cX10_feed 12 = .ok (.ldc 106, 2) := by decide +kernel
theorem dX10_feed_14 : decode cX10_feed 14 = .ok (.ireturn, 1) := by decide +kernel
theorem dX10_feed_15 : decode cX10_feed 15 = .ok (.aload_n 0, 1) := by decide +kernel
theorem dX10_feed_16 : decode cX10_feed 16 = .ok (.getfield 107, 3) := by decide +kernel
theorem dX10_feed_19 : decode cX10_feed 19 = .ok (.sipush 240, 3) := by decide +kernel
theorem dX10_feed_22 : decode cX10_feed 22 = .ok (.if_icmp .ne 6, 3) := by decide +kernel
theorem dX10_feed_25 : decode cX10_feed 25 = .ok (.ldc 110, 2) := by decide +kernel
theorem dX10_feed_27 : decode cX10_feed 27 = .ok (.ireturn, 1) := by decide +kernel
theorem dX10_feed_28 : decode cX10_feed 28 = .ok (.aload_n 0, 1) := by decide +kernel
theorem dX10_feed_29 : decode cX10_feed 29 = .ok (.getfield 25, 3) := by decide +kernel
theorem dX10_feed_32 : decode cX10_feed 32 = .ok (.aload_n 0, 1) := by decide +kernel
theorem dX10_feed_33 : decode cX10_feed 33 = .ok (.getfield 107, 3) := by decide +kernel
theorem dX10_feed_36 : decode cX10_feed 36 = .ok (.iload_n 1, 1) := by decide +kernel
theorem dX10_feed_37 : decode cX10_feed 37 = .ok (.iastore, 1) := by decide +kernel
theorem dX10_feed_38 : decode cX10_feed 38 = .ok (.aload_n 0, 1) := by decide +kernel
theorem dX10_feed_39 : decode cX10_feed 39 = .ok (.dup, 1) := by decide +kernel
theorem dX10_feed_40 : decode cX10_feed 40 = .ok (.getfield 107, 3) := by decide +kernel
theorem dX10_feed_43 : decode cX10_feed 43 = .ok (.iconst 1, 1) := by decide +kernel
theorem dX10_feed_44 : decode cX10_feed 44 = .ok (.iadd, 1) := by decide +kernel
theorem dX10_feed_45 : decode cX10_feed 45 = .ok (.putfield 107, 3) := by decide +kernel
theorem dX10_feed_48 : decode cX10_feed 48 = .ok (.aload_n 0, 1) := by decide +kernel
theorem dX10_feed_49 : decode cX10_feed 49 = .ok (.getfield 107, 3) := by decide +kernel
theorem dX10_feed_52 : decode cX10_feed 52 = .ok (.ireturn, 1) := by decide +kernel
theorem dX10_here_0 : decode cX10_here 0 = .ok (.aload_n 0, 1) := by decide +kernel
theorem dX10_here_1 : decode cX10_here 1 = .ok (.getfield 111, 3) := by decide +kernel
theorem dX10_here_4 : decode cX10_here 4 = .ok (.aload_n 0, 1) := by decide +kernel
theorem dX10_here_5 : decode cX10_here 5 = .ok (.getfield 107, 3) := by decide +kernel
theorem dX10_here_8 : decode cX10_here 8 = .ok (.if_icmp .ge 30, 3) := by decide +kernel
theorem dX10_here_11 : decode cX10_here 11 = .ok (.aload_n 0, 1) := by decide +kernel
theorem dX10_here_12 : decode cX10_here 12 = .ok (.getfield 25, 3) := by decide +kernel
theorem dX10_here_15 : decode cX10_here 15 = .ok (.aload_n 0, 1) := by decide +kernel
theorem dX10_here_16 : decode cX10_here 16 = .ok (.getfield 111, 3) := by decide +kernel
theorem dX10_here_19 : decode cX10_here 19 = .ok (.iaload, 1) := by decide +kernel
theorem dX10_here_20 : decode cX10_here 20 = .ok (.bipush 32, 2) := by decide +kernel
theorem dX10_here_22 : decode cX10_here 22 = .ok (.if_icmp .ne 16, 3) := by decide +kernel
theorem dX10_here_25 : decode cX10_here 25 = .ok (.aload_n 0, 1) := by decide +kernel
theorem dX10_here_26 : decode cX10_here 26 = .ok (.dup, 1) := by decide +kernel
theorem dX10_here_27 : decode cX10_here 27 = .ok (.getfield 111, 3) := by decide +kernel
theorem dX10_here_30 : decode cX10_here 30 = .ok (.iconst 1, 1) := by decide +kernel
theorem dX10_here_31 : decode cX10_here 31 = .ok (.iadd, 1) := by decide +kernel
theorem dX10_here_32 : decode cX10_here 32 = .ok (.putfield 111, 3) := by decide +kernel
theorem dX10_here_35 : decode cX10_here 35 = .ok (.goto (-35), 3) := by decide +kernel
theorem dX10_here_38 : decode cX10_here 38 = .ok (.aload_n 0, 1) := by decide +kernel
theorem dX10_here_39 : decode cX10_here 39 = .ok (.getfield 111, 3) := by decide +kernel
theorem dX10_here_42 : decode cX10_here 42 = .ok (.aload_n 0, 1) := by decide +kernel
theorem dX10_here_43 : decode cX10_here 43 = .ok (.getfield 107, 3) := by decide +kernel
theorem dX10_here_46 : decode cX10_here 46 = .ok (.if_icmp .ge 15, 3) := by decide +kernel
theorem dX10_here_49 : decode cX10_here 49 = .ok (.aload_n 0, 1) := by decide +kernel
theorem dX10_here_50 : decode cX10_here 50 = .ok (.getfield 25, 3) := by decide +kernel
theorem dX10_here_53 : decode cX10_here 53 = .ok (.aload_n 0, 1) := by decide +kernel
theorem dX10_here_54 : decode cX10_here 54 = .ok (.getfield 111, 3) := by decide +kernel
theorem dX10_here_57 : decode cX10_here 57 = .ok (.iaload, 1) := by decide +kernel
theorem dX10_here_58 : decode cX10_here 58 = .ok (.goto 4, 3) := by decide +kernel
theorem dX10_here_61 : decode cX10_here 61 = .ok (.iconst (-1), 1) := by decide +kernel
theorem dX10_here_62 : decode cX10_here 62 = .ok (.ireturn, 1) := by decide +kernel
theorem dX10_fails_0 : decode cX10_fails 0 = .ok (.aload_n 0, 1) := by decide +kernel
theorem dX10_fails_1 : decode cX10_fails 1 = .ok (.iload_n 2, 1) := by decide +kernel
theorem dX10_fails_2 : decode cX10_fails 2 = .ok (.putfield 28, 3) := by decide +kernel
theorem dX10_fails_5 : decode cX10_fails 5 = .ok (.iload_n 1, 1) := by decide +kernel
theorem dX10_fails_6 : decode cX10_fails 6 = .ok (.ireturn, 1) := by decide +kernel
set_option maxRecDepth 20000 in
theorem ggX10_takeNumber_X10_here : GoodIn wsX10_takeNumber wsX10_here := goodIn_r _ [13, 3, 6, 7, 22, 23, 24, 25, 26, 27, 28, 29, 30, 31, 32, 33, 34, 35, 36, 37, 38, 39, 40, 41, 42, 43, 44, 45, 46, 47, 48, 49, 50, 51, 52, 53, 54, 55, 56, 57, 58, 59, 60] (by decide +kernel) (by decide +kernel)
set_option maxRecDepth 20000 in
theorem gX10_takeNumber_X10_here : GoodIn wsX10_takeNumber (wsV RX10 114 RX10 yX10_here wsX10_here) := goodIn_app (goodIn_of _ (by decide +kernel)) ggX10_takeNumber_X10_here
set_option maxRecDepth 20000 in
theorem ggX10_takeNumber_X10_in : GoodIn wsX10_takeNumber wsX10_in := goodIn_r _ [16] (by decide +kernel) (by decide +kernel)
set_option maxRecDepth 20000 in
theorem gX10_takeNumber_X10_in : GoodIn wsX10_takeNumber (va_wsS RX10 94 yX10_in wsX10_in) := goodIn_app (goodIn_of _ (by decide +kernel)) ggX10_takeNumber_X10_in
set_option maxRecDepth 20000 in
theorem ggX10_takeNumber_X10_fails : GoodIn wsX10_takeNumber wsX10_fails := goodIn_r _ [20, 21, 22, 23, 24, 25, 26, 27, 28, 29, 30, 31, 32, 33, 34, 35, 36, 37, 38, 39, 40, 41, 42, 43, 44, 45, 46, 47, 48, 49, 50, 51, 52, 53, 54, 55, 56, 57, 58, 59, 60] (by decide +kernel) (by decide +kernel)
set_option maxRecDepth 20000 in
theorem gX10_takeNumber_X10_fails : GoodIn wsX10_takeNumber (wsV RX10 121 RX10 yX10_fails wsX10_fails) := goodIn_app (goodIn_of _ (by decide +kernel)) ggX10_takeNumber_X10_fails
theorem dX10_takeNumber_0 : decode cX10_takeNumber 0 = .ok (.aload_n 0, 1) := by decide +kernel
theorem dX10_takeNumber_1 : decode cX10_takeNumber 1 = .ok (.invokevirtual 114, 3) := by decide +kernel
theorem dX10_takeNumber_4 : decode cX10_takeNumber 4 = .ok (.istore_n 3, 1) := by decide +kernel
theorem dX10_takeNumber_5 : decode cX10_takeNumber 5 = .ok (.iload_n 3, 1) := by decide +kernel
theorem dX10_takeNumber_6 : decode cX10_takeNumber 6 = .ok (.i2l, 1) := by decide +kernel
theorem dX10_takeNumber_7 : decode cX10_takeNumber 7 = .ok (.ldc2_w 117, 3) := by decide +kernel
theorem dX10_takeNumber_10 : decode cX10_takeNumber 10 = .ok (.ldc2_w 119, 3) := by decide +kernel
theorem dX10_takeNumber_13 : decode cX10_takeNumber 13 = .ok (.invokestatic 94, 3) := by decide +kernel
theorem dX10_takeNumber_16 : decode cX10_takeNumber 16 = .ok (.ifCond .ne 13, 3) := by decide +kernel
theorem dX10_takeNumber_19 : decode cX10_takeNumber 19 = .ok (.aload_n 0, 1) := by decide +kernel
theorem dX10_takeNumber_20 : decode cX10_takeNumber 20 = .ok (.iconst 1, 1) := by decide +kernel
theorem dX10_takeNumber_21 : decode cX10_takeNumber 21 = .ok (.aload_n 0, 1) := by decide +kernel
theorem dX10_takeNumber_22 : decode cX10_takeNumber 22 = .ok (.getfield 111, 3) := by decide +kernel
theorem dX10_takeNumber_25 : decode cX10_takeNumber 25 = .ok (.invokevirtual 121, 3) := by decide +kernel
theorem dX10_takeNumber_28 : decode cX10_takeNumber 28 = .ok (.ireturn, 1) := by decide +kernel
theorem dX10_takeNumber_29 : decode cX10_takeNumber 29 = .ok (.aload_n 0, 1) := by decide +kernel
theorem dX10_takeNumber_30 : decode cX10_takeNumber 30 = .ok (.aload_n 0, 1) := by decide +kernel
theorem dX10_takeNumber_31 : decode cX10_takeNumber 31 = .ok (.getfield 111, 3) := by decide +kernel
theorem dX10_takeNumber_34 : decode cX10_takeNumber 34 = .ok (.putfield 125, 3) := by decide +kernel
theorem dX10_takeNumber_37 : decode cX10_takeNumber 37 = .ok (.aload_n 0, 1) := by decide +kernel
theorem dX10_takeNumber_38 : decode cX10_takeNumber 38 = .ok (.iconst 0, 1) := by decide +kernel
theorem dX10_takeNumber_39 : decode cX10_takeNumber 39 = .ok (.putfield 128, 3) := by decide +kernel
theorem dX10_takeNumber_42 : decode cX10_takeNumber 42 = .ok (.aload_n 0, 1) := by decide +kernel
theorem dX10_takeNumber_43 : decode cX10_takeNumber 43 = .ok (.getfield 111, 3) := by decide +kernel
theorem dX10_takeNumber_46 : decode cX10_takeNumber 46 = .ok (.aload_n 0, 1) := by decide +kernel
theorem dX10_takeNumber_47 : decode cX10_takeNumber 47 = .ok (.getfield 107, 3) := by decide +kernel
theorem dX10_takeNumber_50 : decode cX10_takeNumber 50 = .ok (.if_icmp .ge 78, 3) := by decide +kernel
theorem dX10_takeNumber_53 : decode cX10_takeNumber 53 = .ok (.aload_n 0, 1) := by decide +kernel
theorem dX10_takeNumber_54 : decode cX10_takeNumber 54 = .ok (.getfield 25, 3) := by decide +kernel
theorem dX10_takeNumber_57 : decode cX10_takeNumber 57 = .ok (.aload_n 0, 1) := by decide +kernel
theorem dX10_takeNumber_58 : decode cX10_takeNumber 58 = .ok (.getfield 111, 3) := by decide +kernel
theorem dX10_takeNumber_61 : decode cX10_takeNumber 61 = .ok (.iaload, 1) := by decide +kernel
theorem dX10_takeNumber_62 : decode cX10_takeNumber 62 = .ok (.i2l, 1) := by decide +kernel
theorem dX10_takeNumber_63 : decode cX10_takeNumber 63 = .ok (.ldc2_w 117, 3) := by decide +kernel
theorem dX10_takeNumber_66 : decode cX10_takeNumber 66 = .ok (.ldc2_w 119, 3) := by decide +kernel
theorem dX10_takeNumber_69 : decode cX10_takeNumber 69 = .ok (.invokestatic 94, 3) := by decide +kernel
theorem dX10_takeNumber_72 : decode cX10_takeNumber 72 = .ok (.ifCond .eq 56, 3) := by decide +kernel
theorem dX10_takeNumber_75 : decode cX10_takeNumber 75 = .ok (.aload_n 0, 1) := by decide +kernel
theorem dX10_takeNumber_76 : decode cX10_takeNumber 76 = .ok (.aload_n 0, 1) := by decide +kernel
theorem dX10_takeNumber_77 : decode cX10_takeNumber 77 = .ok (.getfield 128, 3) := by decide +kernel
theorem dX10_takeNumber_80 : decode cX10_takeNumber 80 = .ok (.ldc 131, 2) := by decide +kernel
theorem dX10_takeNumber_82 : decode cX10_takeNumber 82 = .ok (.if_icmp .le 10, 3) := by decide +kernel
theorem dX10_takeNumber_85 : decode cX10_takeNumber 85 = .ok (.aload_n 0, 1) := by decide +kernel
theorem dX10_takeNumber_86 : decode cX10_takeNumber 86 = .ok (.getfield 128, 3) := by decide +kernel
theorem dX10_takeNumber_89 : decode cX10_takeNumber 89 = .ok (.goto 23, 3) := by decide +kernel
theorem dX10_takeNumber_92 : decode cX10_takeNumber 92 = .ok (.bipush 10, 2) := by decide +kernel
theorem dX10_takeNumber_94 : decode cX10_takeNumber 94 = .ok (.aload_n 0, 1) := by decide +kernel
theorem dX10_takeNumber_95 : decode cX10_takeNumber 95 = .ok (.getfield 128, 3) := by decide +kernel
theorem dX10_takeNumber_98 : decode cX10_takeNumber 98 = .ok (.imul, 1) := by decide +kernel
theorem dX10_takeNumber_99 : decode cX10_takeNumber 99 = .ok (.aload_n 0, 1) := by decide +kernel
theorem dX10_takeNumber_100 : decode cX10_takeNumber 100 = .ok (.getfield 25, 3) := by decide +kernel
theorem dX10_takeNumber_103 : decode cX10_takeNumber 103 = .ok (.aload_n 0, 1) := by decide +kernel
theorem dX10_takeNumber_104 : decode cX10_takeNumber 104 = .ok (.getfield 111, 3) := by decide +kernel
theorem dX10_takeNumber_107 : decode cX10_takeNumber 107 = .ok (.iaload, 1) := by decide +kernel
theorem dX10_takeNumber_108 : decode cX10_takeNumber 108 = .ok (.iadd, 1) := by decide +kernel
theorem dX10_takeNumber_109 : decode cX10_takeNumber 109 = .ok (.bipush 48, 2) := by decide +kernel
theorem dX10_takeNumber_111 : decode cX10_takeNumber 111 = .ok (.isub, 1) := by decide +kernel
theorem dX10_takeNumber_112 : decode cX10_takeNumber 112 = .ok (.putfield 128, 3) := by decide +kernel
theorem dX10_takeNumber_115 : decode cX10_takeNumber 115 = .ok (.aload_n 0, 1) := by decide +kernel
theorem dX10_takeNumber_116 : decode cX10_takeNumber 116 = .ok (.dup, 1) := by decide +kernel
theorem dX10_takeNumber_117 : decode cX10_takeNumber 117 = .ok (.getfield 111, 3) := by decide +kernel
theorem dX10_takeNumber_120 : decode cX10_takeNumber 120 = .ok (.iconst 1, 1) := by decide +kernel
theorem dX10_takeNumber_121 : decode cX10_takeNumber 121 = .ok (.iadd, 1) := by decide +kernel
theorem dX10_takeNumber_122 : decode cX10_takeNumber 122 = .ok (.putfield 111, 3) := by decide +kernel
theorem dX10_takeNumber_125 : decode cX10_takeNumber 125 = .ok (.goto (-83), 3) := by decide +kernel
theorem dX10_takeNumber_128 : decode cX10_takeNumber 128 = .ok (.aload_n 0, 1) := by decide +kernel
theorem dX10_takeNumber_129 : decode cX10_takeNumber 129 = .ok (.getfield 111, 3) := by decide +kernel
theorem dX10_takeNumber_132 : decode cX10_takeNumber 132 = .ok (.aload_n 0, 1) := by decide +kernel
theorem dX10_takeNumber_133 : decode cX10_takeNumber 133 = .ok (.getfield 125, 3) := by decide +kernel
theorem dX10_takeNumber_136 : decode cX10_takeNumber 136 = .ok (.isub, 1) := by decide +kernel
theorem dX10_takeNumber_137 : decode cX10_takeNumber 137 = .ok (.iconst 5, 1) := by decide +kernel
theorem dX10_takeNumber_138 : decode cX10_takeNumber 138 = .ok (.if_icmp .gt 18, 3) := by decide +kernel
theorem dX10_takeNumber_141 : decode cX10_takeNumber 141 = .ok (.aload_n 0, 1) := by decide +kernel
theorem dX10_takeNumber_142 : decode cX10_takeNumber 142 = .ok (.getfield 128, 3) := by decide +kernel
theorem dX10_takeNumber_145 : decode cX10_takeNumber 145 = .ok (.i2l, 1) := by decide +kernel
theorem dX10_takeNumber_146 : decode cX10_takeNumber 146 = .ok (.iload_n 1, 1) := by decide +kernel
theorem dX10_takeNumber_147 : decode cX10_takeNumber 147 = .ok (.i2l, 1) := by decide +kernel
theorem dX10_takeNumber_148 : decode cX10_takeNumber 148 = .ok (.iload_n 2, 1) := by decide +kernel
theorem dX10_takeNumber_149 : decode cX10_takeNumber 149 = .ok (.i2l, 1) := by decide +kernel
theorem dX10_takeNumber_150 : decode cX10_takeNumber 150 = .ok (.invokestatic 94, 3) := by decide +kernel
theorem dX10_takeNumber_153 : decode cX10_takeNumber 153 = .ok (.ifCond .ne 15, 3) := by decide +kernel
theorem dX10_takeNumber_156 : decode cX10_takeNumber 156 = .ok (.aload_n 0, 1) := by decide +kernel
theorem dX10_takeNumber_157 : decode cX10_takeNumber 157 = .ok (.iconst 2, 1) := by decide +kernel
theorem dX10_takeNumber_158 : decode cX10_takeNumber 158 = .ok (.aload_n 0, 1) := by decide +kernel
theorem dX10_takeNumber_159 : decode cX10_takeNumber 159 = .ok (.getfield 125, 3) := by decide +kernel
theorem dX10_takeNumber_162 : decode cX10_takeNumber 162 = .ok (.invokevirtual 121, 3) := by decide +kernel
theorem dX10_takeNumber_165 : decode cX10_takeNumber 165 = .ok (.goto 4, 3) := by decide +kernel
theorem dX10_takeNumber_168 : decode cX10_takeNumber 168 = .ok (.iconst 0, 1) := by decide +kernel
theorem dX10_takeNumber_169 : decode cX10_takeNumber 169 = .ok (.ireturn, 1) := by decide +kernel
set_option maxRecDepth 20000 in
theorem ggX10_into_X10_takeNumber : GoodIn wsX10_into wsX10_takeNumber := goodIn_r _ [6, 7, 8, 9, 10, 1, 11, 12, 13, 14, 15, 16, 5, 17, 18, 19, 20, 21, 22, 23, 24, 25, 26, 27, 28, 29, 30, 31, 32, 33, 34, 35, 36, 37, 38, 39, 40, 41, 42, 43, 44, 45, 46, 47, 48, 49, 50, 51, 52, 53, 54, 55, 56, 57, 58, 59, 60, 61, 62, 63, 64] (by decide +kernel) (by decide +kernel)
set_option maxRecDepth 20000 in
theorem gX10_into_X10_takeNumber : GoodIn wsX10_into (wsV RX10 132 RX10 yX10_takeNumber wsX10_takeNumber) := goodIn_app (goodIn_of _ (by decide +kernel)) ggX10_into_X10_takeNumber
theorem dX10_into_0 : decode cX10_into 0 = .ok (.aload_n 0, 1) := by decide +kernel
theorem dX10_into_1 : decode cX10_into 1 = .ok (.iload_n 3, 1) := by decide +kernel
theorem dX10_into_2 : decode cX10_into 2 = .ok (.iload 4, 2) := by decide +kernel
theorem dX10_into_4 : decode cX10_into 4 = .ok (.invokevirtual 132, 3) := by decide +kernel
theorem dX10_into_7 : decode cX10_into 7 = .ok (.istore 5, 2) := by decide +kernel
theorem dX10_into_9 : decode cX10_into 9 = .ok (.aload_n 1, 1) := by decide +kernel
theorem dX10_into_10 : decode cX10_into 10 = .ok (.iload_n 2, 1) := by decide +kernel
theorem dX10_into_11 : decode cX10_into 11 = .ok (.aload_n 0, 1) := by decide +kernel
theorem dX10_into_12 : decode cX10_into 12 = .ok (.getfield 128, 3) := by decide +kernel
theorem dX10_into_15 : decode cX10_into 15 = .ok (.iastore, 1) := by decide +kernel
theorem dX10_into_16 : decode cX10_into 16 = .ok (.iload 5, 2) := by decide +kernel
theorem dX10_into_18 : decode cX10_into 18 = .ok (.ireturn, 1) := by decide +kernel
set_option maxRecDepth 20000 in
theorem ggX10_takeSize_X10_into : GoodIn wsX10_takeSize wsX10_into := goodIn_r _ [6, 7, 8, 9, 10, 5, 11, 12, 13, 14, 15, 16, 17, 18, 19, 20, 21, 22, 23, 24, 25, 26, 27, 28, 29, 30, 31, 32, 33, 34, 35, 36, 37, 38, 39, 40, 41, 42, 43, 44, 45, 46, 47, 48, 49, 50, 51, 52, 53, 54, 55, 56, 57, 58, 59, 60, 61, 62, 63, 64, 65, 66, 67, 68, 69] (by decide +kernel) (by decide +kernel)
set_option maxRecDepth 20000 in
theorem gX10_takeSize_X10_into : GoodIn wsX10_takeSize (wsV RX10 135 RX10 yX10_into wsX10_into) := goodIn_app (goodIn_of _ (by decide +kernel)) ggX10_takeSize_X10_into
theorem dX10_takeSize_0 : decode cX10_takeSize 0 = .ok (.aload_n 0, 1) := by decide +kernel
theorem dX10_takeSize_1 : decode cX10_takeSize 1 = .ok (.aload_n 0, 1) := by decide +kernel
theorem dX10_takeSize_2 : decode cX10_takeSize 2 = .ok (.getfield 32, 3) := by decide +kernel
theorem dX10_takeSize_5 : decode cX10_takeSize 5 = .ok (.iconst 0, 1) := by decide +kernel
theorem dX10_takeSize_6 : decode cX10_takeSize 6 = .ok (.iconst 1, 1) := by decide +kernel
theorem dX10_takeSize_7 : decode cX10_takeSize 7 = .ok (.iconst 5, 1) := by decide +kernel
theorem dX10_takeSize_8 : decode cX10_takeSize 8 = .ok (.invokevirtual 135, 3) := by decide +kernel
theorem dX10_takeSize_11 : decode cX10_takeSize 11 = .ok (.istore_n 1, 1) := by decide +kernel
theorem dX10_takeSize_12 : decode cX10_takeSize 12 = .ok (.iload_n 1, 1) := by decide +kernel
theorem dX10_takeSize_13 : decode cX10_takeSize 13 = .ok (.ifCond .le 7, 3) := by decide +kernel
theorem dX10_takeSize_16 : decode cX10_takeSize 16 = .ok (.iload_n 1, 1) := by decide +kernel
theorem dX10_takeSize_17 : decode cX10_takeSize 17 = .ok (.goto 14, 3) := by decide +kernel
theorem dX10_takeSize_20 : decode cX10_takeSize 20 = .ok (.aload_n 0, 1) := by decide +kernel
theorem dX10_takeSize_21 : decode cX10_takeSize 21 = .ok (.aload_n 0, 1) := by decide +kernel
theorem dX10_takeSize_22 : decode cX10_takeSize 22 = .ok (.getfield 32, 3) := by decide +kernel
theorem dX10_takeSize_25 : decode cX10_takeSize 25 = .ok (.iconst 1, 1) := by decide +kernel
theorem dX10_takeSize_26 : decode cX10_takeSize 26 = .ok (.iconst 1, 1) := by decide +kernel
theorem dX10_takeSize_27 : decode cX10_takeSize 27 = .ok (.iconst 4, 1) := by decide +kernel
theorem dX10_takeSize_28 : decode cX10_takeSize 28 = .ok (.invokevirtual 135, 3) := by decide +kernel
theorem dX10_takeSize_31 : decode cX10_takeSize 31 = .ok (.ireturn, 1) := by decide +kernel
set_option maxRecDepth 20000 in
theorem ggX10_takeGround_X10_into : GoodIn wsX10_takeGround wsX10_into := goodIn_r _ [8, 9, 10, 11, 12, 7, 13, 14, 15, 3, 16, 17, 18, 19, 20, 21, 22, 23, 24, 25, 26, 27, 28, 29, 30, 31, 32, 33, 34, 35, 36, 37, 38, 39, 40, 41, 42, 43, 44, 45, 46, 47, 48, 49, 50, 51, 52, 53, 54, 55, 56, 57, 58, 59, 60, 61, 62, 63, 64, 65, 66, 67, 68, 69, 70] (by decide +kernel) (by decide +kernel)
set_option maxRecDepth 20000 in
theorem gX10_takeGround_X10_into : GoodIn wsX10_takeGround (wsV RX10 135 RX10 yX10_into wsX10_into) := goodIn_app (goodIn_of _ (by decide +kernel)) ggX10_takeGround_X10_into
set_option maxRecDepth 20000 in
theorem ggX10_takeGround_X10_here : GoodIn wsX10_takeGround wsX10_here := goodIn_r _ [23, 3, 17, 18, 32, 33, 34, 35, 36, 37, 38, 39, 40, 41, 42, 43, 44, 45, 46, 47, 48, 49, 50, 51, 52, 53, 54, 55, 56, 57, 58, 59, 60, 61, 62, 63, 64, 65, 66, 67, 68, 69, 70] (by decide +kernel) (by decide +kernel)
set_option maxRecDepth 20000 in
theorem gX10_takeGround_X10_here : GoodIn wsX10_takeGround (wsV RX10 114 RX10 yX10_here wsX10_here) := goodIn_app (goodIn_of _ (by decide +kernel)) ggX10_takeGround_X10_here
set_option maxRecDepth 20000 in
theorem ggX10_takeGround_X10_fails : GoodIn wsX10_takeGround wsX10_fails := goodIn_r _ [30, 31, 32, 33, 34, 35, 36, 37, 38, 39, 40, 41, 42, 43, 44, 45, 46, 47, 48, 49, 50, 51, 52, 53, 54, 55, 56, 57, 58, 59, 60, 61, 62, 63, 64, 65, 66, 67, 68, 69, 70] (by decide +kernel) (by decide +kernel)
set_option maxRecDepth 20000 in
theorem gX10_takeGround_X10_fails : GoodIn wsX10_takeGround (wsV RX10 121 RX10 yX10_fails wsX10_fails) := goodIn_app (goodIn_of _ (by decide +kernel)) ggX10_takeGround_X10_fails
theorem dX10_takeGround_0 : decode cX10_takeGround 0 = .ok (.aload_n 0, 1) := by decide +kernel
theorem dX10_takeGround_1 : decode cX10_takeGround 1 = .ok (.aload_n 0, 1) := by decide +kernel
theorem dX10_takeGround_2 : decode cX10_takeGround 2 = .ok (.getfield 35, 3) := by decide +kernel
theorem dX10_takeGround_5 : decode cX10_takeGround 5 = .ok (.iconst 0, 1) := by decide +kernel
theorem dX10_takeGround_6 : decode cX10_takeGround 6 = .ok (.iconst 0, 1) := by decide +kernel
theorem dX10_takeGround_7 : decode cX10_takeGround 7 = .ok (.bipush 9, 2) := by decide +kernel
theorem dX10_takeGround_9 : decode cX10_takeGround 9 = .ok (.invokevirtual 135, 3) := by decide +kernel
theorem dX10_takeGround_12 : decode cX10_takeGround 12 = .ok (.istore_n 1, 1) := by decide +kernel
theorem dX10_takeGround_13 : decode cX10_takeGround 13 = .ok (.aload_n 0, 1) := by decide +kernel
theorem dX10_takeGround_14 : decode cX10_takeGround 14 = .ok (.iconst 1, 1) := by decide +kernel
theorem dX10_takeGround_15 : decode cX10_takeGround 15 = .ok (.putfield 139, 3) := by decide +kernel
theorem dX10_takeGround_18 : decode cX10_takeGround 18 = .ok (.iload_n 1, 1) := by decide +kernel
theorem dX10_takeGround_19 : decode cX10_takeGround 19 = .ok (.ifCond .ne 70, 3) := by decide +kernel
theorem dX10_takeGround_22 : decode cX10_takeGround 22 = .ok (.aload_n 0, 1) := by decide +kernel
theorem dX10_takeGround_23 : decode cX10_takeGround 23 = .ok (.invokevirtual 114, 3) := by decide +kernel
theorem dX10_takeGround_26 : decode cX10_takeGround 26 = .ok (.bipush 44, 2) := by decide +kernel
theorem dX10_takeGround_28 : decode cX10_takeGround 28 = .ok (.if_icmp .ne 61, 3) := by decide +kernel
theorem dX10_takeGround_31 : decode cX10_takeGround 31 = .ok (.aload_n 0, 1) := by decide +kernel
theorem dX10_takeGround_32 : decode cX10_takeGround 32 = .ok (.getfield 139, 3) := by decide +kernel
theorem dX10_takeGround_35 : decode cX10_takeGround 35 = .ok (.bipush 20, 2) := by decide +kernel
theorem dX10_takeGround_37 : decode cX10_takeGround 37 = .ok (.if_icmp .ne 13, 3) := by decide +kernel
theorem dX10_takeGround_40 : decode cX10_takeGround 40 = .ok (.aload_n 0, 1) := by decide +kernel
theorem dX10_takeGround_41 : decode cX10_takeGround 41 = .ok (.iconst 1, 1) := by decide +kernel
theorem dX10_takeGround_42 : decode cX10_takeGround 42 = .ok (.aload_n 0, 1) := by decide +kernel
theorem dX10_takeGround_43 : decode cX10_takeGround 43 = .ok (.getfield 111, 3) := by decide +kernel
theorem dX10_takeGround_46 : decode cX10_takeGround 46 = .ok (.invokevirtual 121, 3) := by decide +kernel
theorem dX10_takeGround_49 : decode cX10_takeGround 49 = .ok (.ireturn, 1) := by decide +kernel
theorem dX10_takeGround_50 : decode cX10_takeGround 50 = .ok (.aload_n 0, 1) := by decide +kernel
theorem dX10_takeGround_51 : decode cX10_takeGround 51 = .ok (.dup, 1) := by decide +kernel
theorem dX10_takeGround_52 : decode cX10_takeGround 52 = .ok (.getfield 111, 3) := by decide +kernel
theorem dX10_takeGround_55 : decode cX10_takeGround 55 = .ok (.iconst 1, 1) := by decide +kernel
theorem dX10_takeGround_56 : decode cX10_takeGround 56 = .ok (.iadd, 1) := by decide +kernel
theorem dX10_takeGround_57 : decode cX10_takeGround 57 = .ok (.putfield 111, 3) := by decide +kernel
theorem dX10_takeGround_60 : decode cX10_takeGround 60 = .ok (.aload_n 0, 1) := by decide +kernel
theorem dX10_takeGround_61 : decode cX10_takeGround 61 = .ok (.aload_n 0, 1) := by decide +kernel
theorem dX10_takeGround_62 : decode cX10_takeGround 62 = .ok (.getfield 35, 3) := by decide +kernel
theorem dX10_takeGround_65 : decode cX10_takeGround 65 = .ok (.aload_n 0, 1) := by decide +kernel
theorem dX10_takeGround_66 : decode cX10_takeGround 66 = .ok (.getfield 139, 3) := by decide +kernel
theorem dX10_takeGround_69 : decode cX10_takeGround 69 = .ok (.iconst 0, 1) := by decide +kernel
theorem dX10_takeGround_70 : decode cX10_takeGround 70 = .ok (.bipush 9, 2) := by decide +kernel
theorem dX10_takeGround_72 : decode cX10_takeGround 72 = .ok (.invokevirtual 135, 3) := by decide +kernel
theorem dX10_takeGround_75 : decode cX10_takeGround 75 = .ok (.istore_n 1, 1) := by decide +kernel
theorem dX10_takeGround_76 : decode cX10_takeGround 76 = .ok (.aload_n 0, 1) := by decide +kernel
theorem dX10_takeGround_77 : decode cX10_takeGround 77 = .ok (.dup, 1) := by decide +kernel
theorem dX10_takeGround_78 : decode cX10_takeGround 78 = .ok (.getfield 139, 3) := by decide +kernel
theorem dX10_takeGround_81 : decode cX10_takeGround 81 = .ok (.iconst 1, 1) := by decide +kernel
theorem dX10_takeGround_82 : decode cX10_takeGround 82 = .ok (.iadd, 1) := by decide +kernel
theorem dX10_takeGround_83 : decode cX10_takeGround 83 = .ok (.putfield 139, 3) := by decide +kernel
theorem dX10_takeGround_86 : decode cX10_takeGround 86 = .ok (.goto (-68), 3) := by decide +kernel
theorem dX10_takeGround_89 : decode cX10_takeGround 89 = .ok (.iload_n 1, 1) := by decide +kernel
theorem dX10_takeGround_90 : decode cX10_takeGround 90 = .ok (.ireturn, 1) := by decide +kernel
set_option maxRecDepth 20000 in
theorem ggX10_takeItem_X10_into : GoodIn wsX10_takeItem wsX10_into := goodIn_r _ [11, 12, 13, 14, 15, 10, 16, 17, 18, 19, 5, 20, 21, 22, 23, 24, 25, 26, 27, 28, 29, 30, 31, 32, 33, 34, 35, 36, 37, 38, 39, 40, 41, 42, 43, 44, 45, 46, 47, 48, 49, 50, 51, 52, 53, 54, 55, 56, 57, 58, 59, 60, 61, 62, 63, 64, 65, 66, 67, 68, 69, 70, 71, 72, 73] (by decide +kernel) (by decide +kernel)
set_option maxRecDepth 20000 in
theorem gX10_takeItem_X10_into : GoodIn wsX10_takeItem (wsV RX10 135 RX10 yX10_into wsX10_into) := goodIn_app (goodIn_of _ (by decide +kernel)) ggX10_takeItem_X10_into
set_option maxRecDepth 20000 in
theorem ggX10_takeItem_X10_fails : GoodIn wsX10_takeItem wsX10_fails := goodIn_r _ [33, 34, 35, 36, 37, 38, 39, 40, 41, 42, 43, 44, 45, 46, 47, 48, 49, 50, 51, 52, 53, 54, 55, 56, 57, 58, 59, 60, 61, 62, 63, 64, 65, 66, 67, 68, 69, 70, 71, 72, 73] (by decide +kernel) (by decide +kernel)
set_option maxRecDepth 20000 in
theorem gX10_takeItem_X10_fails : GoodIn wsX10_takeItem (wsV RX10 121 RX10 yX10_fails wsX10_fails) := goodIn_app (goodIn_of _ (by decide +kernel)) ggX10_takeItem_X10_fails
theorem dX10_takeItem_0 : decode cX10_takeItem 0 = .ok (.aload_n 0, 1) := by decide +kernel
theorem dX10_takeItem_1 : decode cX10_takeItem 1 = .ok (.getfield 142, 3) := by decide +kernel
theorem dX10_takeItem_4 : decode cX10_takeItem 4 = .ok (.istore_n 1, 1) := by decide +kernel
theorem dX10_takeItem_5 : decode cX10_takeItem 5 = .ok (.aload_n 0, 1) := by decide +kernel
theorem dX10_takeItem_6 : decode cX10_takeItem 6 = .ok (.dup, 1) := by decide +kernel
theorem dX10_takeItem_7 : decode cX10_takeItem 7 = .ok (.getfield 142, 3) := by decide +kernel
theorem dX10_takeItem_10 : decode cX10_takeItem 10 = .ok (.iconst 1, 1) := by decide +kernel
theorem dX10_takeItem_11 : decode cX10_takeItem 11 = .ok (.iadd, 1) := by decide +kernel
theorem dX10_takeItem_12 : decode cX10_takeItem 12 = .ok (.putfield 142, 3) := by decide +kernel
theorem dX10_takeItem_15 : decode cX10_takeItem 15 = .ok (.aload_n 0, 1) := by decide +kernel
theorem dX10_takeItem_16 : decode cX10_takeItem 16 = .ok (.getfield 32, 3) := by decide +kernel
theorem dX10_takeItem_19 : decode cX10_takeItem 19 = .ok (.iconst 0, 1) := by decide +kernel
theorem dX10_takeItem_20 : decode cX10_takeItem 20 = .ok (.iaload, 1) := by decide +kernel
theorem dX10_takeItem_21 : decode cX10_takeItem 21 = .ok (.istore_n 2, 1) := by decide +kernel
theorem dX10_takeItem_22 : decode cX10_takeItem 22 = .ok (.iload_n 2, 1) := by decide +kernel
theorem dX10_takeItem_23 : decode cX10_takeItem 23 = .ok (.aload_n 0, 1) := by decide +kernel
theorem dX10_takeItem_24 : decode cX10_takeItem 24 = .ok (.getfield 32, 3) := by decide +kernel
theorem dX10_takeItem_27 : decode cX10_takeItem 27 = .ok (.iconst 1, 1) := by decide +kernel
theorem dX10_takeItem_28 : decode cX10_takeItem 28 = .ok (.iaload, 1) := by decide +kernel
theorem dX10_takeItem_29 : decode cX10_takeItem 29 = .ok (.imul, 1) := by decide +kernel
theorem dX10_takeItem_30 : decode cX10_takeItem 30 = .ok (.istore_n 3, 1) := by decide +kernel
theorem dX10_takeItem_31 : decode cX10_takeItem 31 = .ok (.aload_n 0, 1) := by decide +kernel
theorem dX10_takeItem_32 : decode cX10_takeItem 32 = .ok (.aload_n 0, 1) := by decide +kernel
theorem dX10_takeItem_33 : decode cX10_takeItem 33 = .ok (.getfield 38, 3) := by decide +kernel
theorem dX10_takeItem_36 : decode cX10_takeItem 36 = .ok (.iload_n 1, 1) := by decide +kernel
theorem dX10_takeItem_37 : decode cX10_takeItem 37 = .ok (.iconst 0, 1) := by decide +kernel
theorem dX10_takeItem_38 : decode cX10_takeItem 38 = .ok (.iload_n 3, 1) := by decide +kernel
theorem dX10_takeItem_39 : decode cX10_takeItem 39 = .ok (.iconst 1, 1) := by decide +kernel
theorem dX10_takeItem_40 : decode cX10_takeItem 40 = .ok (.isub, 1) := by decide +kernel
theorem dX10_takeItem_41 : decode cX10_takeItem 41 = .ok (.invokevirtual 135, 3) := by decide +kernel
theorem dX10_takeItem_44 : decode cX10_takeItem 44 = .ok (.istore 4, 2) := by decide +kernel
theorem dX10_takeItem_46 : decode cX10_takeItem 46 = .ok (.iload 4, 2) := by decide +kernel
theorem dX10_takeItem_48 : decode cX10_takeItem 48 = .ok (.ifCond .le 8, 3) := by decide +kernel
theorem dX10_takeItem_51 : decode cX10_takeItem 51 = .ok (.iload 4, 2) := by decide +kernel
theorem dX10_takeItem_53 : decode cX10_takeItem 53 = .ok (.goto 16, 3) := by decide +kernel
theorem dX10_takeItem_56 : decode cX10_takeItem 56 = .ok (.aload_n 0, 1) := by decide +kernel
theorem dX10_takeItem_57 : decode cX10_takeItem 57 = .ok (.aload_n 0, 1) := by decide +kernel
theorem dX10_takeItem_58 : decode cX10_takeItem 58 = .ok (.getfield 41, 3) := by decide +kernel
theorem dX10_takeItem_61 : decode cX10_takeItem 61 = .ok (.iload_n 1, 1) := by decide +kernel
theorem dX10_takeItem_62 : decode cX10_takeItem 62 = .ok (.iconst 0, 1) := by decide +kernel
theorem dX10_takeItem_63 : decode cX10_takeItem 63 = .ok (.iload_n 3, 1) := by decide +kernel
theorem dX10_takeItem_64 : decode cX10_takeItem 64 = .ok (.iconst 1, 1) := by decide +kernel
theorem dX10_takeItem_65 : decode cX10_takeItem 65 = .ok (.isub, 1) := by decide +kernel
theorem dX10_takeItem_66 : decode cX10_takeItem 66 = .ok (.invokevirtual 135, 3) := by decide +kernel
theorem dX10_takeItem_69 : decode cX10_takeItem 69 = .ok (.istore 4, 2) := by decide +kernel
theorem dX10_takeItem_71 : decode cX10_takeItem 71 = .ok (.iload 4, 2) := by decide +kernel
theorem dX10_takeItem_73 : decode cX10_takeItem 73 = .ok (.ifCond .ne 51, 3) := by decide +kernel
theorem dX10_takeItem_76 : decode cX10_takeItem 76 = .ok (.aload_n 0, 1) := by decide +kernel
theorem dX10_takeItem_77 : decode cX10_takeItem 77 = .ok (.getfield 41, 3) := by decide +kernel
theorem dX10_takeItem_80 : decode cX10_takeItem 80 = .ok (.iload_n 1, 1) := by decide +kernel
theorem dX10_takeItem_81 : decode cX10_takeItem 81 = .ok (.iaload, 1) := by decide +kernel
theorem dX10_takeItem_82 : decode cX10_takeItem 82 = .ok (.iload_n 2, 1) := by decide +kernel
theorem dX10_takeItem_83 : decode cX10_takeItem 83 = .ok (.idiv, 1) := by decide +kernel
theorem dX10_takeItem_84 : decode cX10_takeItem 84 = .ok (.aload_n 0, 1) := by decide +kernel
theorem dX10_takeItem_85 : decode cX10_takeItem 85 = .ok (.getfield 38, 3) := by decide +kernel
theorem dX10_takeItem_88 : decode cX10_takeItem 88 = .ok (.iload_n 1, 1) := by decide +kernel
theorem dX10_takeItem_89 : decode cX10_takeItem 89 = .ok (.iaload, 1) := by decide +kernel
theorem dX10_takeItem_90 : decode cX10_takeItem 90 = .ok (.iload_n 2, 1) := by decide +kernel
theorem dX10_takeItem_91 : decode cX10_takeItem 91 = .ok (.idiv, 1) := by decide +kernel
theorem dX10_takeItem_92 : decode cX10_takeItem 92 = .ok (.if_icmp .lt 22, 3) := by decide +kernel
theorem dX10_takeItem_95 : decode cX10_takeItem 95 = .ok (.aload_n 0, 1) := by decide +kernel
theorem dX10_takeItem_96 : decode cX10_takeItem 96 = .ok (.getfield 41, 3) := by decide +kernel
theorem dX10_takeItem_99 : decode cX10_takeItem 99 = .ok (.iload_n 1, 1) := by decide +kernel
theorem dX10_takeItem_100 : decode cX10_takeItem 100 = .ok (.iaload, 1) := by decide +kernel
theorem dX10_takeItem_101 : decode cX10_takeItem 101 = .ok (.iload_n 2, 1) := by decide +kernel
theorem dX10_takeItem_102 : decode cX10_takeItem 102 = .ok (.irem, 1) := by decide +kernel
theorem dX10_takeItem_103 : decode cX10_takeItem 103 = .ok (.aload_n 0, 1) := by decide +kernel
theorem dX10_takeItem_104 : decode cX10_takeItem 104 = .ok (.getfield 38, 3) := by decide +kernel
theorem dX10_takeItem_107 : decode cX10_takeItem 107 = .ok (.iload_n 1, 1) := by decide +kernel
theorem dX10_takeItem_108 : decode cX10_takeItem 108 = .ok (.iaload, 1) := by decide +kernel
theorem dX10_takeItem_109 : decode cX10_takeItem 109 = .ok (.iload_n 2, 1) := by decide +kernel
theorem dX10_takeItem_110 : decode cX10_takeItem 110 = .ok (.irem, 1) := by decide +kernel
theorem dX10_takeItem_111 : decode cX10_takeItem 111 = .ok (.if_icmp .ge 13, 3) := by decide +kernel
theorem dX10_takeItem_114 : decode cX10_takeItem 114 = .ok (.aload_n 0, 1) := by decide +kernel
theorem dX10_takeItem_115 : decode cX10_takeItem 115 = .ok (.iconst 4, 1) := by decide +kernel
theorem dX10_takeItem_116 : decode cX10_takeItem 116 = .ok (.aload_n 0, 1) := by decide +kernel
theorem dX10_takeItem_117 : decode cX10_takeItem 117 = .ok (.getfield 125, 3) := by decide +kernel
theorem dX10_takeItem_120 : decode cX10_takeItem 120 = .ok (.invokevirtual 121, 3) := by decide +kernel
theorem dX10_takeItem_123 : decode cX10_takeItem 123 = .ok (.ireturn, 1) := by decide +kernel
theorem dX10_takeItem_124 : decode cX10_takeItem 124 = .ok (.iload 4, 2) := by decide +kernel
theorem dX10_takeItem_126 : decode cX10_takeItem 126 = .ok (.ifCond .le 8, 3) := by decide +kernel
theorem dX10_takeItem_129 : decode cX10_takeItem 129 = .ok (.iload 4, 2) := by decide +kernel
theorem dX10_takeItem_131 : decode cX10_takeItem 131 = .ok (.goto 15, 3) := by decide +kernel
theorem dX10_takeItem_134 : decode cX10_takeItem 134 = .ok (.aload_n 0, 1) := by decide +kernel
theorem dX10_takeItem_135 : decode cX10_takeItem 135 = .ok (.aload_n 0, 1) := by decide +kernel
theorem dX10_takeItem_136 : decode cX10_takeItem 136 = .ok (.getfield 44, 3) := by decide +kernel
theorem dX10_takeItem_139 : decode cX10_takeItem 139 = .ok (.iload_n 1, 1) := by decide +kernel
theorem dX10_takeItem_140 : decode cX10_takeItem 140 = .ok (.iconst 0, 1) := by decide +kernel
theorem dX10_takeItem_141 : decode cX10_takeItem 141 = .ok (.bipush 9, 2) := by decide +kernel
theorem dX10_takeItem_143 : decode cX10_takeItem 143 = .ok (.invokevirtual 135, 3) := by decide +kernel
theorem dX10_takeItem_146 : decode cX10_takeItem 146 = .ok (.ireturn, 1) := by decide +kernel
set_option maxRecDepth 20000 in
theorem ggX10_takePerson_X10_takeNumber : GoodIn wsX10_takePerson wsX10_takeNumber := goodIn_r _ [10, 11, 12, 2, 3, 13, 14, 4, 15, 16, 17, 18, 9, 19, 20, 21, 22, 23, 24, 25, 26, 27, 28, 29, 30, 31, 32, 33, 34, 35, 36, 37, 38, 39, 40, 41, 42, 43, 44, 45, 46, 47, 48, 49, 50, 51, 52, 53, 54, 55, 56, 57, 58, 59, 60, 61, 62, 63, 64, 65, 66] (by decide +kernel) (by decide +kernel)
set_option maxRecDepth 20000 in
theorem gX10_takePerson_X10_takeNumber : GoodIn wsX10_takePerson (wsV RX10 132 RX10 yX10_takeNumber wsX10_takeNumber) := goodIn_app (goodIn_of _ (by decide +kernel)) ggX10_takePerson_X10_takeNumber
set_option maxRecDepth 20000 in
theorem ggX10_takePerson_X10_fails : GoodIn wsX10_takePerson wsX10_fails := goodIn_r _ [26, 27, 28, 29, 30, 31, 32, 33, 34, 35, 36, 37, 38, 39, 40, 41, 42, 43, 44, 45, 46, 47, 48, 49, 50, 51, 52, 53, 54, 55, 56, 57, 58, 59, 60, 61, 62, 63, 64, 65, 66] (by decide +kernel) (by decide +kernel)
set_option maxRecDepth 20000 in
theorem gX10_takePerson_X10_fails : GoodIn wsX10_takePerson (wsV RX10 121 RX10 yX10_fails wsX10_fails) := goodIn_app (goodIn_of _ (by decide +kernel)) ggX10_takePerson_X10_fails
theorem dX10_takePerson_0 : decode cX10_takePerson 0 = .ok (.aload_n 0, 1) := by decide +kernel
theorem dX10_takePerson_1 : decode cX10_takePerson 1 = .ok (.getfield 145, 3) := by decide +kernel
theorem dX10_takePerson_4 : decode cX10_takePerson 4 = .ok (.istore_n 1, 1) := by decide +kernel
theorem dX10_takePerson_5 : decode cX10_takePerson 5 = .ok (.aload_n 0, 1) := by decide +kernel
theorem dX10_takePerson_6 : decode cX10_takePerson 6 = .ok (.dup, 1) := by decide +kernel
theorem dX10_takePerson_7 : decode cX10_takePerson 7 = .ok (.getfield 145, 3) := by decide +kernel
theorem dX10_takePerson_10 : decode cX10_takePerson 10 = .ok (.iconst 1, 1) := by decide +kernel
theorem dX10_takePerson_11 : decode cX10_takePerson 11 = .ok (.iadd, 1) := by decide +kernel
theorem dX10_takePerson_12 : decode cX10_takePerson 12 = .ok (.putfield 145, 3) := by decide +kernel
theorem dX10_takePerson_15 : decode cX10_takePerson 15 = .ok (.aload_n 0, 1) := by decide +kernel
theorem dX10_takePerson_16 : decode cX10_takePerson 16 = .ok (.iconst 0, 1) := by decide +kernel
theorem dX10_takePerson_17 : decode cX10_takePerson 17 = .ok (.sipush 22222, 3) := by decide +kernel
theorem dX10_takePerson_20 : decode cX10_takePerson 20 = .ok (.invokevirtual 132, 3) := by decide +kernel
theorem dX10_takePerson_23 : decode cX10_takePerson 23 = .ok (.istore_n 2, 1) := by decide +kernel
theorem dX10_takePerson_24 : decode cX10_takePerson 24 = .ok (.iload_n 2, 1) := by decide +kernel
theorem dX10_takePerson_25 : decode cX10_takePerson 25 = .ok (.ifCond .le 5, 3) := by decide +kernel
theorem dX10_takePerson_28 : decode cX10_takePerson 28 = .ok (.iload_n 2, 1) := by decide +kernel
theorem dX10_takePerson_29 : decode cX10_takePerson 29 = .ok (.ireturn, 1) := by decide +kernel
theorem dX10_takePerson_30 : decode cX10_takePerson 30 = .ok (.aload_n 0, 1) := by decide +kernel
theorem dX10_takePerson_31 : decode cX10_takePerson 31 = .ok (.getfield 111, 3) := by decide +kernel
theorem dX10_takePerson_34 : decode cX10_takePerson 34 = .ok (.aload_n 0, 1) := by decide +kernel
theorem dX10_takePerson_35 : decode cX10_takePerson 35 = .ok (.getfield 125, 3) := by decide +kernel
theorem dX10_takePerson_38 : decode cX10_takePerson 38 = .ok (.isub, 1) := by decide +kernel
theorem dX10_takePerson_39 : decode cX10_takePerson 39 = .ok (.iconst 5, 1) := by decide +kernel
theorem dX10_takePerson_40 : decode cX10_takePerson 40 = .ok (.if_icmp .ne 7, 3) := by decide +kernel
theorem dX10_takePerson_43 : decode cX10_takePerson 43 = .ok (.iconst 1, 1) := by decide +kernel
theorem dX10_takePerson_44 : decode cX10_takePerson 44 = .ok (.goto 4, 3) := by decide +kernel
theorem dX10_takePerson_47 : decode cX10_takePerson 47 = .ok (.iconst 0, 1) := by decide +kernel
theorem dX10_takePerson_48 : decode cX10_takePerson 48 = .ok (.istore_n 3, 1) := by decide +kernel
theorem dX10_takePerson_49 : decode cX10_takePerson 49 = .ok (.iconst 0, 1) := by decide +kernel
theorem dX10_takePerson_50 : decode cX10_takePerson 50 = .ok (.istore 4, 2) := by decide +kernel
theorem dX10_takePerson_52 : decode cX10_takePerson 52 = .ok (.iload 4, 2) := by decide +kernel
theorem dX10_takePerson_54 : decode cX10_takePerson 54 = .ok (.iconst 5, 1) := by decide +kernel
theorem dX10_takePerson_55 : decode cX10_takePerson 55 = .ok (.if_icmp .ge 55, 3) := by decide +kernel
theorem dX10_takePerson_58 : decode cX10_takePerson 58 = .ok (.iload_n 3, 1) := by decide +kernel
theorem dX10_takePerson_59 : decode cX10_takePerson 59 = .ok (.ifCond .eq 51, 3) := by decide +kernel
theorem dX10_takePerson_62 : decode cX10_takePerson 62 = .ok (.aload_n 0, 1) := by decide +kernel
theorem dX10_takePerson_63 : decode cX10_takePerson 63 = .ok (.getfield 25, 3) := by decide +kernel
theorem dX10_takePerson_66 : decode cX10_takePerson 66 = .ok (.aload_n 0, 1) := by decide +kernel
theorem dX10_takePerson_67 : decode cX10_takePerson 67 = .ok (.getfield 125, 3) := by decide +kernel
theorem dX10_takePerson_70 : decode cX10_takePerson 70 = .ok (.iload 4, 2) := by decide +kernel
theorem dX10_takePerson_72 : decode cX10_takePerson 72 = .ok (.iadd, 1) := by decide +kernel
theorem dX10_takePerson_73 : decode cX10_takePerson 73 = .ok (.iaload, 1) := by decide +kernel
theorem dX10_takePerson_74 : decode cX10_takePerson 74 = .ok (.bipush 48, 2) := by decide +kernel
theorem dX10_takePerson_76 : decode cX10_takePerson 76 = .ok (.isub, 1) := by decide +kernel
theorem dX10_takePerson_77 : decode cX10_takePerson 77 = .ok (.istore 5, 2) := by decide +kernel
theorem dX10_takePerson_79 : decode cX10_takePerson 79 = .ok (.aload_n 0, 1) := by decide +kernel
theorem dX10_takePerson_80 : decode cX10_takePerson 80 = .ok (.getfield 47, 3) := by decide +kernel
theorem dX10_takePerson_83 : decode cX10_takePerson 83 = .ok (.iconst 5, 1) := by decide +kernel
theorem dX10_takePerson_84 : decode cX10_takePerson 84 = .ok (.iload_n 1, 1) := by decide +kernel
theorem dX10_takePerson_85 : decode cX10_takePerson 85 = .ok (.imul, 1) := by decide +kernel
theorem dX10_takePerson_86 : decode cX10_takePerson 86 = .ok (.iload 4, 2) := by decide +kernel
theorem dX10_takePerson_88 : decode cX10_takePerson 88 = .ok (.iadd, 1) := by decide +kernel
theorem dX10_takePerson_89 : decode cX10_takePerson 89 = .ok (.iload 5, 2) := by decide +kernel
theorem dX10_takePerson_91 : decode cX10_takePerson 91 = .ok (.iastore, 1) := by decide +kernel
theorem dX10_takePerson_92 : decode cX10_takePerson 92 = .ok (.iload 5, 2) := by decide +kernel
theorem dX10_takePerson_94 : decode cX10_takePerson 94 = .ok (.iconst 3, 1) := by decide +kernel
theorem dX10_takePerson_95 : decode cX10_takePerson 95 = .ok (.if_icmp .ge 7, 3) := by decide +kernel
theorem dX10_takePerson_98 : decode cX10_takePerson 98 = .ok (.iconst 1, 1) := by decide +kernel
theorem dX10_takePerson_99 : decode cX10_takePerson 99 = .ok (.goto 4, 3) := by decide +kernel
theorem dX10_takePerson_102 : decode cX10_takePerson 102 = .ok (.iconst 0, 1) := by decide +kernel
theorem dX10_takePerson_103 : decode cX10_takePerson 103 = .ok (.istore_n 3, 1) := by decide +kernel
theorem dX10_takePerson_104 : decode cX10_takePerson 104 = .ok (.iinc 4 1, 3) := by decide +kernel
theorem dX10_takePerson_107 : decode cX10_takePerson 107 = .ok (.goto (-55), 3) := by decide +kernel
theorem dX10_takePerson_110 : decode cX10_takePerson 110 = .ok (.iload_n 3, 1) := by decide +kernel
theorem dX10_takePerson_111 : decode cX10_takePerson 111 = .ok (.ifCond .eq 7, 3) := by decide +kernel
theorem dX10_takePerson_114 : decode cX10_takePerson 114 = .ok (.iconst 0, 1) := by decide +kernel
theorem dX10_takePerson_115 : decode cX10_takePerson 115 = .ok (.goto 12, 3) := by decide +kernel
theorem dX10_takePerson_118 : decode cX10_takePerson 118 = .ok (.aload_n 0, 1) := by decide +kernel
theorem dX10_takePerson_119 : decode cX10_takePerson 119 = .ok (.iconst 2, 1) := by decide +kernel
theorem dX10_takePerson_120 : decode cX10_takePerson 120 = .ok (.aload_n 0, 1) := by decide +kernel
theorem dX10_takePerson_121 : decode cX10_takePerson 121 = .ok (.getfield 125, 3) := by decide +kernel
theorem dX10_takePerson_124 : decode cX10_takePerson 124 = .ok (.invokevirtual 121, 3) := by decide +kernel
theorem dX10_takePerson_127 : decode cX10_takePerson 127 = .ok (.ireturn, 1) := by decide +kernel
set_option maxRecDepth 20000 in
theorem ggX10_takeClause_X10_here : GoodIn wsX10_takeClause wsX10_here := goodIn_r _ [10, 2, 11, 12, 55, 56, 57, 58, 59, 60, 61, 62, 63, 64, 65, 66, 67, 68, 69, 70, 71, 72, 73, 74, 75, 76, 77, 78, 79, 80, 81, 82, 83, 84, 85, 86, 87, 88, 89, 90, 91, 92, 93] (by decide +kernel) (by decide +kernel)
set_option maxRecDepth 20000 in
theorem gX10_takeClause_X10_here : GoodIn wsX10_takeClause (wsV RX10 114 RX10 yX10_here wsX10_here) := goodIn_app (goodIn_of _ (by decide +kernel)) ggX10_takeClause_X10_here
set_option maxRecDepth 20000 in
theorem ggX10_takeClause_X10_fails : GoodIn wsX10_takeClause wsX10_fails := goodIn_r _ [16, 17, 55, 56, 57, 58, 59, 60, 61, 62, 63, 64, 65, 66, 67, 68, 69, 70, 71, 72, 73, 74, 75, 76, 77, 78, 79, 80, 81, 82, 83, 84, 85, 86, 87, 88, 89, 90, 91, 92, 93] (by decide +kernel) (by decide +kernel)
set_option maxRecDepth 20000 in
theorem gX10_takeClause_X10_fails : GoodIn wsX10_takeClause (wsV RX10 121 RX10 yX10_fails wsX10_fails) := goodIn_app (goodIn_of _ (by decide +kernel)) ggX10_takeClause_X10_fails
set_option maxRecDepth 20000 in
theorem ggX10_takeClause_X10_takeSize : GoodIn wsX10_takeClause wsX10_takeSize := goodIn_r _ [21, 1, 22, 23, 24, 9, 25, 26, 27, 28, 29, 30, 31, 32, 2, 33, 11, 12, 34, 6, 7, 8, 10, 35, 36, 37, 13, 14, 15, 16, 17, 55, 56, 57, 58, 59, 60, 61, 62, 63, 64, 65, 66, 67, 68, 69, 70, 71, 72, 73, 74, 75, 76, 77, 78, 79, 80, 81, 82, 83, 84, 85, 86, 87, 88, 89, 90, 91, 92, 93] (by decide +kernel) (by decide +kernel)
set_option maxRecDepth 20000 in
theorem gX10_takeClause_X10_takeSize : GoodIn wsX10_takeClause (wsV RX10 148 RX10 yX10_takeSize wsX10_takeSize) := goodIn_app (goodIn_of _ (by decide +kernel)) ggX10_takeClause_X10_takeSize
set_option maxRecDepth 20000 in
theorem ggX10_takeClause_X10_takeGround : GoodIn wsX10_takeClause wsX10_takeGround := goodIn_r _ [41, 42, 3, 2, 22, 23, 24, 9, 25, 26, 27, 28, 29, 30, 31, 32, 33, 11, 12, 34, 6, 7, 8, 10, 35, 36, 37, 13, 14, 15, 16, 17, 55, 56, 57, 58, 59, 60, 61, 62, 63, 64, 65, 66, 67, 68, 69, 70, 71, 72, 73, 74, 75, 76, 77, 78, 79, 80, 81, 82, 83, 84, 85, 86, 87, 88, 89, 90, 91, 92, 93] (by decide +kernel) (by decide +kernel)
set_option maxRecDepth 20000 in
theorem gX10_takeClause_X10_takeGround : GoodIn wsX10_takeClause (wsV RX10 151 RX10 yX10_takeGround wsX10_takeGround) := goodIn_app (goodIn_of _ (by decide +kernel)) ggX10_takeClause_X10_takeGround
set_option maxRecDepth 20000 in
theorem ggX10_takeClause_X10_takeItem : GoodIn wsX10_takeClause wsX10_takeItem := goodIn_r _ [46, 4, 1, 47, 48, 33, 49, 22, 23, 24, 9, 25, 26, 27, 28, 29, 30, 31, 32, 2, 11, 12, 34, 6, 7, 8, 10, 35, 36, 37, 13, 14, 15, 16, 17, 55, 56, 57, 58, 59, 60, 61, 62, 63, 64, 65, 66, 67, 68, 69, 70, 71, 72, 73, 74, 75, 76, 77, 78, 79, 80, 81, 82, 83, 84, 85, 86, 87, 88, 89, 90, 91, 92, 93] (by decide +kernel) (by decide +kernel)
set_option maxRecDepth 20000 in
theorem gX10_takeClause_X10_takeItem : GoodIn wsX10_takeClause (wsV RX10 154 RX10 yX10_takeItem wsX10_takeItem) := goodIn_app (goodIn_of _ (by decide +kernel)) ggX10_takeClause_X10_takeItem
set_option maxRecDepth 20000 in
theorem ggX10_takeClause_X10_takePerson : GoodIn wsX10_takeClause wsX10_takePerson := goodIn_r _ [53, 5, 2, 33, 12, 54, 27, 28, 29, 9, 30, 31, 32, 26, 11, 34, 6, 7, 8, 10, 35, 36, 37, 13, 14, 15, 16, 17, 55, 56, 57, 58, 59, 60, 61, 62, 63, 64, 65, 66, 67, 68, 69, 70, 71, 72, 73, 74, 75, 76, 77, 78, 79, 80, 81, 82, 83, 84, 85, 86, 87, 88, 89, 90, 91, 92, 93] (by decide +kernel) (by decide +kernel)
set_option maxRecDepth 20000 in
theorem gX10_takeClause_X10_takePerson : GoodIn wsX10_takeClause (wsV RX10 157 RX10 yX10_takePerson wsX10_takePerson) := goodIn_app (goodIn_of _ (by decide +kernel)) ggX10_takeClause_X10_takePerson
theorem dX10_takeClause_0 : decode cX10_takeClause 0 = .ok (.aload_n 0, 1) := by decide +kernel
theorem dX10_takeClause_1 : decode cX10_takeClause 1 = .ok (.invokevirtual 114, 3) := by decide +kernel
theorem dX10_takeClause_4 : decode cX10_takeClause 4 = .ok (.istore_n 1, 1) := by decide +kernel
theorem dX10_takeClause_5 : decode cX10_takeClause 5 = .ok (.iload_n 1, 1) := by decide +kernel
theorem dX10_takeClause_6 : decode cX10_takeClause 6 = .ok (.bipush 104, 2) := by decide +kernel
theorem dX10_takeClause_8 : decode cX10_takeClause 8 = .ok (.if_icmp .ne 7, 3) := by decide +kernel
theorem dX10_takeClause_11 : decode cX10_takeClause 11 = .ok (.iconst 0, 1) := by decide +kernel
theorem dX10_takeClause_12 : decode cX10_takeClause 12 = .ok (.goto 34, 3) := by decide +kernel
theorem dX10_takeClause_15 : decode cX10_takeClause 15 = .ok (.iload_n 1, 1) := by decide +kernel
theorem dX10_takeClause_16 : decode cX10_takeClause 16 = .ok (.bipush 103, 2) := by decide +kernel
theorem dX10_takeClause_18 : decode cX10_takeClause 18 = .ok (.if_icmp .ne 7, 3) := by decide +kernel
theorem dX10_takeClause_21 : decode cX10_takeClause 21 = .ok (.iconst 1, 1) := by decide +kernel
theorem dX10_takeClause_22 : decode cX10_takeClause 22 = .ok (.goto 24, 3) := by decide +kernel
theorem dX10_takeClause_25 : decode cX10_takeClause 25 = .ok (.iload_n 1, 1) := by decide +kernel
theorem dX10_takeClause_26 : decode cX10_takeClause 26 = .ok (.bipush 105, 2) := by decide +kernel
theorem dX10_takeClause_28 : decode cX10_takeClause 28 = .ok (.if_icmp .ne 7, 3) := by decide +kernel
theorem dX10_takeClause_31 : decode cX10_takeClause 31 = .ok (.iconst 2, 1) := by decide +kernel
theorem dX10_takeClause_32 : decode cX10_takeClause 32 = .ok (.goto 14, 3) := by decide +kernel
theorem dX10_takeClause_35 : decode cX10_takeClause 35 = .ok (.iload_n 1, 1) := by decide +kernel
theorem dX10_takeClause_36 : decode cX10_takeClause 36 = .ok (.bipush 112, 2) := by decide +kernel
theorem dX10_takeClause_38 : decode cX10_takeClause 38 = .ok (.if_icmp .ne 7, 3) := by decide +kernel
theorem dX10_takeClause_41 : decode cX10_takeClause 41 = .ok (.iconst 3, 1) := by decide +kernel
theorem dX10_takeClause_42 : decode cX10_takeClause 42 = .ok (.goto 4, 3) := by decide +kernel
theorem dX10_takeClause_45 : decode cX10_takeClause 45 = .ok (.iconst (-1), 1) := by decide +kernel
theorem dX10_takeClause_46 : decode cX10_takeClause 46 = .ok (.istore_n 2, 1) := by decide +kernel
theorem dX10_takeClause_47 : decode cX10_takeClause 47 = .ok (.iload_n 2, 1) := by decide +kernel
theorem dX10_takeClause_48 : decode cX10_takeClause 48 = .ok (.ifCond .lt 16, 3) := by decide +kernel
theorem dX10_takeClause_51 : decode cX10_takeClause 51 = .ok (.iload_n 2, 1) := by decide +kernel
theorem dX10_takeClause_52 : decode cX10_takeClause 52 = .ok (.ifCond .le 22, 3) := by decide +kernel
theorem dX10_takeClause_55 : decode cX10_takeClause 55 = .ok (.aload_n 0, 1) := by decide +kernel
theorem dX10_takeClause_56 : decode cX10_takeClause 56 = .ok (.getfield 32, 3) := by decide +kernel
theorem dX10_takeClause_59 : decode cX10_takeClause 59 = .ok (.iconst 0, 1) := by decide +kernel
theorem dX10_takeClause_60 : decode cX10_takeClause 60 = .ok (.iaload, 1) := by decide +kernel
theorem dX10_takeClause_61 : decode cX10_takeClause 61 = .ok (.ifCond .ne 13, 3) := by decide +kernel
theorem dX10_takeClause_64 : decode cX10_takeClause 64 = .ok (.aload_n 0, 1) := by decide +kernel
theorem dX10_takeClause_65 : decode cX10_takeClause 65 = .ok (.iconst 1, 1) := by decide +kernel
theorem dX10_takeClause_66 : decode cX10_takeClause 66 = .ok (.aload_n 0, 1) := by decide +kernel
theorem dX10_takeClause_67 : decode cX10_takeClause 67 = .ok (.getfield 111, 3) := by decide +kernel
theorem dX10_takeClause_70 : decode cX10_takeClause 70 = .ok (.invokevirtual 121, 3) := by decide +kernel
theorem dX10_takeClause_73 : decode cX10_takeClause 73 = .ok (.ireturn, 1) := by decide +kernel
theorem dX10_takeClause_74 : decode cX10_takeClause 74 = .ok (.iload_n 2, 1) := by decide +kernel
theorem dX10_takeClause_75 : decode cX10_takeClause 75 = .ok (.ifCond .ne 20, 3) := by decide +kernel
theorem dX10_takeClause_78 : decode cX10_takeClause 78 = .ok (.aload_n 0, 1) := by decide +kernel
theorem dX10_takeClause_79 : decode cX10_takeClause 79 = .ok (.getfield 32, 3) := by decide +kernel
theorem dX10_takeClause_82 : decode cX10_takeClause 82 = .ok (.iconst 0, 1) := by decide +kernel
theorem dX10_takeClause_83 : decode cX10_takeClause 83 = .ok (.iaload, 1) := by decide +kernel
theorem dX10_takeClause_84 : decode cX10_takeClause 84 = .ok (.ifCond .le 7, 3) := by decide +kernel
theorem dX10_takeClause_87 : decode cX10_takeClause 87 = .ok (.iconst 1, 1) := by decide +kernel
theorem dX10_takeClause_88 : decode cX10_takeClause 88 = .ok (.goto 62, 3) := by decide +kernel
theorem dX10_takeClause_91 : decode cX10_takeClause 91 = .ok (.iconst 0, 1) := by decide +kernel
theorem dX10_takeClause_92 : decode cX10_takeClause 92 = .ok (.goto 58, 3) := by decide +kernel
theorem dX10_takeClause_95 : decode cX10_takeClause 95 = .ok (.iload_n 2, 1) := by decide +kernel
theorem dX10_takeClause_96 : decode cX10_takeClause 96 = .ok (.iconst 1, 1) := by decide +kernel
theorem dX10_takeClause_97 : decode cX10_takeClause 97 = .ok (.if_icmp .ne 18, 3) := by decide +kernel
theorem dX10_takeClause_100 : decode cX10_takeClause 100 = .ok (.aload_n 0, 1) := by decide +kernel
theorem dX10_takeClause_101 : decode cX10_takeClause 101 = .ok (.getfield 139, 3) := by decide +kernel
theorem dX10_takeClause_104 : decode cX10_takeClause 104 = .ok (.ifCond .le 7, 3) := by decide +kernel
theorem dX10_takeClause_107 : decode cX10_takeClause 107 = .ok (.iconst 1, 1) := by decide +kernel
theorem dX10_takeClause_108 : decode cX10_takeClause 108 = .ok (.goto 42, 3) := by decide +kernel
theorem dX10_takeClause_111 : decode cX10_takeClause 111 = .ok (.iconst 0, 1) := by decide +kernel
theorem dX10_takeClause_112 : decode cX10_takeClause 112 = .ok (.goto 38, 3) := by decide +kernel
theorem dX10_takeClause_115 : decode cX10_takeClause 115 = .ok (.iload_n 2, 1) := by decide +kernel
theorem dX10_takeClause_116 : decode cX10_takeClause 116 = .ok (.iconst 2, 1) := by decide +kernel
theorem dX10_takeClause_117 : decode cX10_takeClause 117 = .ok (.if_icmp .ne 19, 3) := by decide +kernel
theorem dX10_takeClause_120 : decode cX10_takeClause 120 = .ok (.aload_n 0, 1) := by decide +kernel
theorem dX10_takeClause_121 : decode cX10_takeClause 121 = .ok (.getfield 142, 3) := by decide +kernel
theorem dX10_takeClause_124 : decode cX10_takeClause 124 = .ok (.iconst 5, 1) := by decide +kernel
theorem dX10_takeClause_125 : decode cX10_takeClause 125 = .ok (.if_icmp .ne 7, 3) := by decide +kernel
theorem dX10_takeClause_128 : decode cX10_takeClause 128 = .ok (.iconst 1, 1) := by decide +kernel
theorem dX10_takeClause_129 : decode cX10_takeClause 129 = .ok (.goto 21, 3) := by decide +kernel
theorem dX10_takeClause_132 : decode cX10_takeClause 132 = .ok (.iconst 0, 1) := by decide +kernel
theorem dX10_takeClause_133 : decode cX10_takeClause 133 = .ok (.goto 17, 3) := by decide +kernel
theorem dX10_takeClause_136 : decode cX10_takeClause 136 = .ok (.aload_n 0, 1) := by decide +kernel
theorem dX10_takeClause_137 : decode cX10_takeClause 137 = .ok (.getfield 145, 3) := by decide +kernel
theorem dX10_takeClause_140 : decode cX10_takeClause 140 = .ok (.bipush 7, 2) := by decide +kernel
theorem dX10_takeClause_142 : decode cX10_takeClause 142 = .ok (.if_icmp .ne 7, 3) := by decide +kernel
theorem dX10_takeClause_145 : decode cX10_takeClause 145 = .ok (.iconst 1, 1) := by decide +kernel
theorem dX10_takeClause_146 : decode cX10_takeClause 146 = .ok (.goto 4, 3) := by decide +kernel
theorem dX10_takeClause_149 : decode cX10_takeClause 149 = .ok (.iconst 0, 1) := by decide +kernel
theorem dX10_takeClause_150 : decode cX10_takeClause 150 = .ok (.istore_n 3, 1) := by decide +kernel
theorem dX10_takeClause_151 : decode cX10_takeClause 151 = .ok (.iload_n 3, 1) := by decide +kernel
theorem dX10_takeClause_152 : decode cX10_takeClause 152 = .ok (.ifCond .eq 13, 3) := by decide +kernel
theorem dX10_takeClause_155 : decode cX10_takeClause 155 = .ok (.aload_n 0, 1) := by decide +kernel
theorem dX10_takeClause_156 : decode cX10_takeClause 156 = .ok (.iconst 3, 1) := by decide +kernel
theorem dX10_takeClause_157 : decode cX10_takeClause 157 = .ok (.aload_n 0, 1) := by decide +kernel
theorem dX10_takeClause_158 : decode cX10_takeClause 158 = .ok (.getfield 111, 3) := by decide +kernel
theorem dX10_takeClause_161 : decode cX10_takeClause 161 = .ok (.invokevirtual 121, 3) := by decide +kernel
theorem dX10_takeClause_164 : decode cX10_takeClause 164 = .ok (.ireturn, 1) := by decide +kernel
theorem dX10_takeClause_165 : decode cX10_takeClause 165 = .ok (.aload_n 0, 1) := by decide +kernel
theorem dX10_takeClause_166 : decode cX10_takeClause 166 = .ok (.dup, 1) := by decide +kernel
theorem dX10_takeClause_167 : decode cX10_takeClause 167 = .ok (.getfield 111, 3) := by decide +kernel
theorem dX10_takeClause_170 : decode cX10_takeClause 170 = .ok (.iconst 1, 1) := by decide +kernel
theorem dX10_takeClause_171 : decode cX10_takeClause 171 = .ok (.iadd, 1) := by decide +kernel
theorem dX10_takeClause_172 : decode cX10_takeClause 172 = .ok (.putfield 111, 3) := by decide +kernel
theorem dX10_takeClause_175 : decode cX10_takeClause 175 = .ok (.iload_n 2, 1) := by decide +kernel
theorem dX10_takeClause_176 : decode cX10_takeClause 176 = .ok (.ifCond .ne 10, 3) := by decide +kernel
theorem dX10_takeClause_179 : decode cX10_takeClause 179 = .ok (.aload_n 0, 1) := by decide +kernel
theorem dX10_takeClause_180 : decode cX10_takeClause 180 = .ok (.invokevirtual 148, 3) := by decide +kernel
theorem dX10_takeClause_183 : decode cX10_takeClause 183 = .ok (.goto 31, 3) := by decide +kernel
theorem dX10_takeClause_186 : decode cX10_takeClause 186 = .ok (.iload_n 2, 1) := by decide +kernel
theorem dX10_takeClause_187 : decode cX10_takeClause 187 = .ok (.iconst 1, 1) := by decide +kernel
theorem dX10_takeClause_188 : decode cX10_takeClause 188 = .ok (.if_icmp .ne 10, 3) := by decide +kernel
theorem dX10_takeClause_191 : decode cX10_takeClause 191 = .ok (.aload_n 0, 1) := by decide +kernel
theorem dX10_takeClause_192 : decode cX10_takeClause 192 = .ok (.invokevirtual 151, 3) := by decide +kernel
theorem dX10_takeClause_195 : decode cX10_takeClause 195 = .ok (.goto 19, 3) := by decide +kernel
theorem dX10_takeClause_198 : decode cX10_takeClause 198 = .ok (.iload_n 2, 1) := by decide +kernel
theorem dX10_takeClause_199 : decode cX10_takeClause 199 = .ok (.iconst 2, 1) := by decide +kernel
theorem dX10_takeClause_200 : decode cX10_takeClause 200 = .ok (.if_icmp .ne 10, 3) := by decide +kernel
theorem dX10_takeClause_203 : decode cX10_takeClause 203 = .ok (.aload_n 0, 1) := by decide +kernel
theorem dX10_takeClause_204 : decode cX10_takeClause 204 = .ok (.invokevirtual 154, 3) := by decide +kernel
theorem dX10_takeClause_207 : decode cX10_takeClause 207 = .ok (.goto 7, 3) := by decide +kernel
theorem dX10_takeClause_210 : decode cX10_takeClause 210 = .ok (.aload_n 0, 1) := by decide +kernel
theorem dX10_takeClause_211 : decode cX10_takeClause 211 = .ok (.invokevirtual 157, 3) := by decide +kernel
theorem dX10_takeClause_214 : decode cX10_takeClause 214 = .ok (.istore 4, 2) := by decide +kernel
theorem dX10_takeClause_216 : decode cX10_takeClause 216 = .ok (.iload 4, 2) := by decide +kernel
theorem dX10_takeClause_218 : decode cX10_takeClause 218 = .ok (.ifCond .ne 22, 3) := by decide +kernel
theorem dX10_takeClause_221 : decode cX10_takeClause 221 = .ok (.aload_n 0, 1) := by decide +kernel
theorem dX10_takeClause_222 : decode cX10_takeClause 222 = .ok (.invokevirtual 114, 3) := by decide +kernel
theorem dX10_takeClause_225 : decode cX10_takeClause 225 = .ok (.bipush 59, 2) := by decide +kernel
theorem dX10_takeClause_227 : decode cX10_takeClause 227 = .ok (.if_icmp .eq 13, 3) := by decide +kernel
theorem dX10_takeClause_230 : decode cX10_takeClause 230 = .ok (.aload_n 0, 1) := by decide +kernel
theorem dX10_takeClause_231 : decode cX10_takeClause 231 = .ok (.iconst 1, 1) := by decide +kernel
theorem dX10_takeClause_232 : decode cX10_takeClause 232 = .ok (.aload_n 0, 1) := by decide +kernel
theorem dX10_takeClause_233 : decode cX10_takeClause 233 = .ok (.getfield 111, 3) := by decide +kernel
theorem dX10_takeClause_236 : decode cX10_takeClause 236 = .ok (.invokevirtual 121, 3) := by decide +kernel
theorem dX10_takeClause_239 : decode cX10_takeClause 239 = .ok (.ireturn, 1) := by decide +kernel
theorem dX10_takeClause_240 : decode cX10_takeClause 240 = .ok (.aload_n 0, 1) := by decide +kernel
theorem dX10_takeClause_241 : decode cX10_takeClause 241 = .ok (.dup, 1) := by decide +kernel
theorem dX10_takeClause_242 : decode cX10_takeClause 242 = .ok (.getfield 111, 3) := by decide +kernel
theorem dX10_takeClause_245 : decode cX10_takeClause 245 = .ok (.iconst 1, 1) := by decide +kernel
theorem dX10_takeClause_246 : decode cX10_takeClause 246 = .ok (.iadd, 1) := by decide +kernel
theorem dX10_takeClause_247 : decode cX10_takeClause 247 = .ok (.putfield 111, 3) := by decide +kernel
theorem dX10_takeClause_250 : decode cX10_takeClause 250 = .ok (.iload 4, 2) := by decide +kernel
theorem dX10_takeClause_252 : decode cX10_takeClause 252 = .ok (.ireturn, 1) := by decide +kernel
theorem dX10_takeRead_0 : decode cX10_takeRead 0 = .ok (.aload_n 0, 1) := by decide +kernel
theorem dX10_takeRead_1 : decode cX10_takeRead 1 = .ok (.aload_n 0, 1) := by decide +kernel
theorem dX10_takeRead_2 : decode cX10_takeRead 2 = .ok (.getfield 32, 3) := by decide +kernel
theorem dX10_takeRead_5 : decode cX10_takeRead 5 = .ok (.iconst 0, 1) := by decide +kernel
theorem dX10_takeRead_6 : decode cX10_takeRead 6 = .ok (.iaload, 1) := by decide +kernel
theorem dX10_takeRead_7 : decode cX10_takeRead 7 = .ok (.putfield 84, 3) := by decide +kernel
theorem dX10_takeRead_10 : decode cX10_takeRead 10 = .ok (.aload_n 0, 1) := by decide +kernel
theorem dX10_takeRead_11 : decode cX10_takeRead 11 = .ok (.aload_n 0, 1) := by decide +kernel
theorem dX10_takeRead_12 : decode cX10_takeRead 12 = .ok (.getfield 32, 3) := by decide +kernel
theorem dX10_takeRead_15 : decode cX10_takeRead 15 = .ok (.iconst 1, 1) := by decide +kernel
theorem dX10_takeRead_16 : decode cX10_takeRead 16 = .ok (.iaload, 1) := by decide +kernel
theorem dX10_takeRead_17 : decode cX10_takeRead 17 = .ok (.putfield 87, 3) := by decide +kernel
theorem dX10_takeRead_20 : decode cX10_takeRead 20 = .ok (.aload_n 0, 1) := by decide +kernel
theorem dX10_takeRead_21 : decode cX10_takeRead 21 = .ok (.aload_n 0, 1) := by decide +kernel
theorem dX10_takeRead_22 : decode cX10_takeRead 22 = .ok (.getfield 142, 3) := by decide +kernel
theorem dX10_takeRead_25 : decode cX10_takeRead 25 = .ok (.putfield 98, 3) := by decide +kernel
theorem dX10_takeRead_28 : decode cX10_takeRead 28 = .ok (.aload_n 0, 1) := by decide +kernel
theorem dX10_takeRead_29 : decode cX10_takeRead 29 = .ok (.aload_n 0, 1) := by decide +kernel
theorem dX10_takeRead_30 : decode cX10_takeRead 30 = .ok (.getfield 145, 3) := by decide +kernel
theorem dX10_takeRead_33 : decode cX10_takeRead 33 = .ok (.putfield 101, 3) := by decide +kernel
theorem dX10_takeRead_36 : decode cX10_takeRead 36 = .ok (.iconst 0, 1) := by decide +kernel
theorem dX10_takeRead_37 : decode cX10_takeRead 37 = .ok (.istore_n 1, 1) := by decide +kernel
theorem dX10_takeRead_38 : decode cX10_takeRead 38 = .ok (.iload_n 1, 1) := by decide +kernel
theorem dX10_takeRead_39 : decode cX10_takeRead 39 = .ok (.bipush 20, 2) := by decide +kernel
theorem dX10_takeRead_41 : decode cX10_takeRead 41 = .ok (.if_icmp .ge 37, 3) := by decide +kernel
theorem dX10_takeRead_44 : decode cX10_takeRead 44 = .ok (.aload_n 0, 1) := by decide +kernel
theorem dX10_takeRead_45 : decode cX10_takeRead 45 = .ok (.getfield 7, 3) := by decide +kernel
theorem dX10_takeRead_48 : decode cX10_takeRead 48 = .ok (.iload_n 1, 1) := by decide +kernel
theorem dX10_takeRead_49 : decode cX10_takeRead 49 = .ok (.aload_n 0, 1) := by decide +kernel
theorem dX10_takeRead_50 : decode cX10_takeRead 50 = .ok (.getfield 139, 3) := by decide +kernel
theorem dX10_takeRead_53 : decode cX10_takeRead 53 = .ok (.ifCond .ne 7, 3) := by decide +kernel
theorem dX10_takeRead_56 : decode cX10_takeRead 56 = .ok (.iconst 0, 1) := by decide +kernel
theorem dX10_takeRead_57 : decode cX10_takeRead 57 = .ok (.goto 14, 3) := by decide +kernel
theorem dX10_takeRead_60 : decode cX10_takeRead 60 = .ok (.aload_n 0, 1) := by decide +kernel
theorem dX10_takeRead_61 : decode cX10_takeRead 61 = .ok (.getfield 35, 3) := by decide +kernel
theorem dX10_takeRead_64 : decode cX10_takeRead 64 = .ok (.iload_n 1, 1) := by decide +kernel
theorem dX10_takeRead_65 : decode cX10_takeRead 65 = .ok (.aload_n 0, 1) := by decide +kernel
theorem dX10_takeRead_66 : decode cX10_takeRead 66 = .ok (.getfield 139, 3) := by decide +kernel
theorem dX10_takeRead_69 : decode cX10_takeRead 69 = .ok (.irem, 1) := by decide +kernel
theorem dX10_takeRead_70 : decode cX10_takeRead 70 = .ok (.iaload, 1) := by decide +kernel
theorem dX10_takeRead_71 : decode cX10_takeRead 71 = .ok (.iastore, 1) := by decide +kernel
theorem dX10_takeRead_72 : decode cX10_takeRead 72 = .ok (.iinc 1 1, 3) := by decide +kernel
theorem dX10_takeRead_75 : decode cX10_takeRead 75 = .ok (.goto (-37), 3) := by decide +kernel
theorem dX10_takeRead_78 : decode cX10_takeRead 78 = .ok (.iconst 0, 1) := by decide +kernel
theorem dX10_takeRead_79 : decode cX10_takeRead 79 = .ok (.istore_n 1, 1) := by decide +kernel
theorem dX10_takeRead_80 : decode cX10_takeRead 80 = .ok (.iload_n 1, 1) := by decide +kernel
theorem dX10_takeRead_81 : decode cX10_takeRead 81 = .ok (.aload_n 0, 1) := by decide +kernel
theorem dX10_takeRead_82 : decode cX10_takeRead 82 = .ok (.getfield 98, 3) := by decide +kernel
theorem dX10_takeRead_85 : decode cX10_takeRead 85 = .ok (.if_icmp .ge 45, 3) := by decide +kernel
theorem dX10_takeRead_88 : decode cX10_takeRead 88 = .ok (.aload_n 0, 1) := by decide +kernel
theorem dX10_takeRead_89 : decode cX10_takeRead 89 = .ok (.getfield 13, 3) := by decide +kernel
theorem dX10_takeRead_92 : decode cX10_takeRead 92 = .ok (.iload_n 1, 1) := by decide +kernel
theorem dX10_takeRead_93 : decode cX10_takeRead 93 = .ok (.aload_n 0, 1) := by decide +kernel
theorem dX10_takeRead_94 : decode cX10_takeRead 94 = .ok (.getfield 38, 3) := by decide +kernel
theorem dX10_takeRead_97 : decode cX10_takeRead 97 = .ok (.iload_n 1, 1) := by decide +kernel
theorem dX10_takeRead_98 : decode cX10_takeRead 98 = .ok (.iaload, 1) := by decide +kernel
theorem dX10_takeRead_99 : decode cX10_takeRead 99 = .ok (.iastore, 1) := by decide +kernel
theorem dX10_takeRead_100 : decode cX10_takeRead 100 = .ok (.aload_n 0, 1) := by decide +kernel
theorem dX10_takeRead_101 : decode cX10_takeRead 101 = .ok (.getfield 16, 3) := by decide +kernel
theorem dX10_takeRead_104 : decode cX10_takeRead 104 = .ok (.iload_n 1, 1) := by decide +kernel
theorem dX10_takeRead_105 : decode cX10_takeRead 105 = .ok (.aload_n 0, 1) := by decide +kernel
theorem dX10_takeRead_106 : decode cX10_takeRead 106 = .ok (.getfield 41, 3) := by decide +kernel
theorem dX10_takeRead_109 : decode cX10_takeRead 109 = .ok (.iload_n 1, 1) := by decide +kernel
theorem dX10_takeRead_110 : decode cX10_takeRead 110 = .ok (.iaload, 1) := by decide +kernel
theorem dX10_takeRead_111 : decode cX10_takeRead 111 = .ok (.iastore, 1) := by decide +kernel
theorem dX10_takeRead_112 : decode cX10_takeRead 112 = .ok (.aload_n 0, 1) := by decide +kernel
theorem dX10_takeRead_113 : decode cX10_takeRead 113 = .ok (.getfield 19, 3) := by decide +kernel
theorem dX10_takeRead_116 : decode cX10_takeRead 116 = .ok (.iload_n 1, 1) := by decide +kernel
theorem dX10_takeRead_117 : decode cX10_takeRead 117 = .ok (.aload_n 0, 1) := by decide +kernel
theorem dX10_takeRead_118 : decode cX10_takeRead 118 = .ok (.getfield 44, 3) := by decide +kernel
theorem dX10_takeRead_121 : decode cX10_takeRead 121 = .ok (.iload_n 1, 1) := by decide +kernel
theorem dX10_takeRead_122 : decode cX10_takeRead 122 = .ok (.iaload, 1) := by decide +kernel
theorem dX10_takeRead_123 : decode cX10_takeRead 123 = .ok (.iastore, 1) := by decide +kernel
theorem dX10_takeRead_124 : decode cX10_takeRead 124 = .ok (.iinc 1 1, 3) := by decide +kernel
theorem dX10_takeRead_127 : decode cX10_takeRead 127 = .ok (.goto (-47), 3) := by decide +kernel
theorem dX10_takeRead_130 : decode cX10_takeRead 130 = .ok (.iconst 0, 1) := by decide +kernel
theorem dX10_takeRead_131 : decode cX10_takeRead 131 = .ok (.istore_n 1, 1) := by decide +kernel
theorem dX10_takeRead_132 : decode cX10_takeRead 132 = .ok (.iload_n 1, 1) := by decide +kernel
theorem dX10_takeRead_133 : decode cX10_takeRead 133 = .ok (.bipush 35, 2) := by decide +kernel
theorem dX10_takeRead_135 : decode cX10_takeRead 135 = .ok (.if_icmp .ge 35, 3) := by decide +kernel
theorem dX10_takeRead_138 : decode cX10_takeRead 138 = .ok (.aload_n 0, 1) := by decide +kernel
theorem dX10_takeRead_139 : decode cX10_takeRead 139 = .ok (.getfield 22, 3) := by decide +kernel
theorem dX10_takeRead_142 : decode cX10_takeRead 142 = .ok (.iload_n 1, 1) := by decide +kernel
theorem dX10_takeRead_143 : decode cX10_takeRead 143 = .ok (.iload_n 1, 1) := by decide +kernel
theorem dX10_takeRead_144 : decode cX10_takeRead 144 = .ok (.iconst 5, 1) := by decide +kernel
theorem dX10_takeRead_145 : decode cX10_takeRead 145 = .ok (.idiv, 1) := by decide +kernel
theorem dX10_takeRead_146 : decode cX10_takeRead 146 = .ok (.aload_n 0, 1) := by decide +kernel
theorem dX10_takeRead_147 : decode cX10_takeRead 147 = .ok (.getfield 101, 3) := by decide +kernel
theorem dX10_takeRead_150 : decode cX10_takeRead 150 = .ok (.if_icmp .ge 12, 3) := by decide +kernel
theorem dX10_takeRead_153 : decode cX10_takeRead 153 = .ok (.aload_n 0, 1) := by decide +kernel
theorem dX10_takeRead_154 : decode cX10_takeRead 154 = .ok (.getfield 47, 3) := by decide +kernel
theorem dX10_takeRead_157 : decode cX10_takeRead 157 = .ok (.iload_n 1, 1) := by decide +kernel
theorem dX10_takeRead_158 : decode cX10_takeRead 158 = .ok (.iaload, 1) := by decide +kernel
theorem dX10_takeRead_159 : decode cX10_takeRead 159 = .ok (.goto 4, 3) := by decide +kernel
theorem dX10_takeRead_162 : decode cX10_takeRead 162 = .ok (.iconst 0, 1) := by decide +kernel
theorem dX10_takeRead_163 : decode cX10_takeRead 163 = .ok (.iastore, 1) := by decide +kernel
theorem dX10_takeRead_164 : decode cX10_takeRead 164 = .ok (.iinc 1 1, 3) := by decide +kernel
theorem dX10_takeRead_167 : decode cX10_takeRead 167 = .ok (.goto (-35), 3) := by decide +kernel
theorem dX10_takeRead_170 : decode cX10_takeRead 170 = .ok (.aload_n 0, 1) := by decide +kernel
theorem dX10_takeRead_171 : decode cX10_takeRead 171 = .ok (.getfield 22, 3) := by decide +kernel
theorem dX10_takeRead_174 : decode cX10_takeRead 174 = .ok (.bipush 35, 2) := by decide +kernel
theorem dX10_takeRead_176 : decode cX10_takeRead 176 = .ok (.iconst 0, 1) := by decide +kernel
theorem dX10_takeRead_177 : decode cX10_takeRead 177 = .ok (.iastore, 1) := by decide +kernel
theorem dX10_takeRead_178 : decode cX10_takeRead 178 = .ok (.aload_n 0, 1) := by decide +kernel
theorem dX10_takeRead_179 : decode cX10_takeRead 179 = .ok (.getfield 22, 3) := by decide +kernel
theorem dX10_takeRead_182 : decode cX10_takeRead 182 = .ok (.bipush 36, 2) := by decide +kernel
theorem dX10_takeRead_184 : decode cX10_takeRead 184 = .ok (.iconst (-1), 1) := by decide +kernel
theorem dX10_takeRead_185 : decode cX10_takeRead 185 = .ok (.iastore, 1) := by decide +kernel
theorem dX10_takeRead_186 : decode cX10_takeRead 186 = .ok (.return_, 1) := by decide +kernel
set_option maxRecDepth 20000 in
theorem ggX10_house_X10_here : GoodIn wsX10_house wsX10_here := goodIn_r _ [17, 2, 7, 18, 76, 77, 78, 79, 80, 81, 82, 83, 84, 85, 86, 87, 88, 89, 90, 91, 92, 93, 94, 95, 96, 97, 98, 99, 100, 101, 102, 103, 104, 105, 106, 107, 108, 109, 110, 111, 112, 113, 114] (by decide +kernel) (by decide +kernel)
set_option maxRecDepth 20000 in
theorem gX10_house_X10_here : GoodIn wsX10_house (wsV RX10 114 RX10 yX10_here wsX10_here) := goodIn_app (goodIn_of _ (by decide +kernel)) ggX10_house_X10_here
set_option maxRecDepth 20000 in
theorem ggX10_house_X10_takeClause : GoodIn wsX10_house wsX10_takeClause := goodIn_r _ [22, 3, 2, 4, 5, 6, 13, 14, 15, 16, 17, 7, 18, 23, 24, 25, 26, 1, 27, 28, 29, 30, 31, 32, 33, 34, 35, 36, 37, 38, 39, 40, 41, 42, 43, 44, 45, 46, 47, 48, 49, 50, 51, 52, 53, 54, 55, 56, 57, 58, 59, 60, 61, 62, 63, 76, 77, 78, 79, 80, 81, 82, 83, 84, 85, 86, 87, 88, 89, 90, 91, 92, 93, 94, 95, 96, 97, 98, 99, 100, 101, 102, 103, 104, 105, 106, 107, 108, 109, 110, 111, 112, 113, 114] (by decide +kernel) (by decide +kernel)
set_option maxRecDepth 20000 in
theorem gX10_house_X10_takeClause : GoodIn wsX10_house (wsV RX10 160 RX10 yX10_takeClause wsX10_takeClause) := goodIn_app (goodIn_of _ (by decide +kernel)) ggX10_house_X10_takeClause
set_option maxRecDepth 20000 in
theorem ggX10_house_X10_takeRead : GoodIn wsX10_house wsX10_takeRead := goodIn_r _ [67, 3, 68, 69, 5, 12, 6, 70, 71, 4, 51, 72, 56, 73, 57, 74, 58, 75, 63, 76, 77, 78, 79, 80, 81, 82, 83, 84, 85, 86, 87, 88, 89, 90, 91, 92, 93, 94, 95, 96, 97, 98, 99, 100, 101, 102, 103, 104, 105, 106, 107, 108, 109, 110, 111, 112, 113, 114] (by decide +kernel) (by decide +kernel)
set_option maxRecDepth 20000 in
theorem gX10_house_X10_takeRead : GoodIn wsX10_house (wsV RX10 163 RX10 yX10_takeRead wsX10_takeRead) := goodIn_app (goodIn_of _ (by decide +kernel)) ggX10_house_X10_takeRead
theorem dX10_house_0 : decode cX10_house 0 = .ok (.aload_n 0, 1) := by decide +kernel
theorem dX10_house_1 : decode cX10_house 1 = .ok (.iconst (-1), 1) := by decide +kernel
theorem dX10_house_2 : decode cX10_house 2 = .ok (.putfield 28, 3) := by decide +kernel
theorem dX10_house_5 : decode cX10_house 5 = .ok (.aload_n 0, 1) := by decide +kernel
theorem dX10_house_6 : decode cX10_house 6 = .ok (.iconst 0, 1) := by decide +kernel
theorem dX10_house_7 : decode cX10_house 7 = .ok (.putfield 111, 3) := by decide +kernel
theorem dX10_house_10 : decode cX10_house 10 = .ok (.aload_n 0, 1) := by decide +kernel
theorem dX10_house_11 : decode cX10_house 11 = .ok (.getfield 32, 3) := by decide +kernel
theorem dX10_house_14 : decode cX10_house 14 = .ok (.iconst 0, 1) := by decide +kernel
theorem dX10_house_15 : decode cX10_house 15 = .ok (.iconst 0, 1) := by decide +kernel
theorem dX10_house_16 : decode cX10_house 16 = .ok (.iastore, 1) := by decide +kernel
theorem dX10_house_17 : decode cX10_house 17 = .ok (.aload_n 0, 1) := by decide +kernel
theorem dX10_house_18 : decode cX10_house 18 = .ok (.getfield 32, 3) := by decide +kernel
theorem dX10_house_21 : decode cX10_house 21 = .ok (.iconst 1, 1) := by decide +kernel
theorem dX10_house_22 : decode cX10_house 22 = .ok (.iconst 0, 1) := by decide +kernel
theorem dX10_house_23 : decode cX10_house 23 = .ok (.iastore, 1) := by decide +kernel
theorem dX10_house_24 : decode cX10_house 24 = .ok (.aload_n 0, 1) := by decide +kernel
theorem dX10_house_25 : decode cX10_house 25 = .ok (.iconst 0, 1) := by decide +kernel
theorem dX10_house_26 : decode cX10_house 26 = .ok (.putfield 139, 3) := by decide +kernel
theorem dX10_house_29 : decode cX10_house 29 = .ok (.aload_n 0, 1) := by decide +kernel
theorem dX10_house_30 : decode cX10_house 30 = .ok (.iconst 0, 1) := by decide +kernel
theorem dX10_house_31 : decode cX10_house 31 = .ok (.putfield 142, 3) := by decide +kernel
theorem dX10_house_34 : decode cX10_house 34 = .ok (.aload_n 0, 1) := by decide +kernel
theorem dX10_house_35 : decode cX10_house 35 = .ok (.iconst 0, 1) := by decide +kernel
theorem dX10_house_36 : decode cX10_house 36 = .ok (.putfield 145, 3) := by decide +kernel
theorem dX10_house_39 : decode cX10_house 39 = .ok (.iconst 0, 1) := by decide +kernel
theorem dX10_house_40 : decode cX10_house 40 = .ok (.istore_n 1, 1) := by decide +kernel
theorem dX10_house_41 : decode cX10_house 41 = .ok (.iload_n 1, 1) := by decide +kernel
theorem dX10_house_42 : decode cX10_house 42 = .ok (.ifCond .ne 18, 3) := by decide +kernel
theorem dX10_house_45 : decode cX10_house 45 = .ok (.aload_n 0, 1) := by decide +kernel
theorem dX10_house_46 : decode cX10_house 46 = .ok (.invokevirtual 114, 3) := by decide +kernel
theorem dX10_house_49 : decode cX10_house 49 = .ok (.ifCond .lt 11, 3) := by decide +kernel
theorem dX10_house_52 : decode cX10_house 52 = .ok (.aload_n 0, 1) := by decide +kernel
theorem dX10_house_53 : decode cX10_house 53 = .ok (.invokevirtual 160, 3) := by decide +kernel
theorem dX10_house_56 : decode cX10_house 56 = .ok (.istore_n 1, 1) := by decide +kernel
theorem dX10_house_57 : decode cX10_house 57 = .ok (.goto (-16), 3) := by decide +kernel
theorem dX10_house_60 : decode cX10_house 60 = .ok (.aload_n 0, 1) := by decide +kernel
theorem dX10_house_61 : decode cX10_house 61 = .ok (.iconst 0, 1) := by decide +kernel
theorem dX10_house_62 : decode cX10_house 62 = .ok (.putfield 107, 3) := by decide +kernel
theorem dX10_house_65 : decode cX10_house 65 = .ok (.iload_n 1, 1) := by decide +kernel
theorem dX10_house_66 : decode cX10_house 66 = .ok (.ifCond .le 8, 3) := by decide +kernel
theorem dX10_house_69 : decode cX10_house 69 = .ok (.bipush (-10), 2) := by decide +kernel
theorem dX10_house_71 : decode cX10_house 71 = .ok (.iload_n 1, 1) := by decide +kernel
theorem dX10_house_72 : decode cX10_house 72 = .ok (.isub, 1) := by decide +kernel
theorem dX10_house_73 : decode cX10_house 73 = .ok (.ireturn, 1) := by decide +kernel
theorem dX10_house_74 : decode cX10_house 74 = .ok (.aload_n 0, 1) := by decide +kernel
theorem dX10_house_75 : decode cX10_house 75 = .ok (.invokevirtual 163, 3) := by decide +kernel
theorem dX10_house_78 : decode cX10_house 78 = .ok (.aload_n 0, 1) := by decide +kernel
theorem dX10_house_79 : decode cX10_house 79 = .ok (.iconst 0, 1) := by decide +kernel
theorem dX10_house_80 : decode cX10_house 80 = .ok (.putfield 166, 3) := by decide +kernel
theorem dX10_house_83 : decode cX10_house 83 = .ok (.aload_n 0, 1) := by decide +kernel
theorem dX10_house_84 : decode cX10_house 84 = .ok (.iconst 0, 1) := by decide +kernel
theorem dX10_house_85 : decode cX10_house 85 = .ok (.putfield 169, 3) := by decide +kernel
theorem dX10_house_88 : decode cX10_house 88 = .ok (.aload_n 0, 1) := by decide +kernel
theorem dX10_house_89 : decode cX10_house 89 = .ok (.iconst 0, 1) := by decide +kernel
theorem dX10_house_90 : decode cX10_house 90 = .ok (.putfield 172, 3) := by decide +kernel
theorem dX10_house_93 : decode cX10_house 93 = .ok (.aload_n 0, 1) := by decide +kernel
theorem dX10_house_94 : decode cX10_house 94 = .ok (.getfield 80, 3) := by decide +kernel
theorem dX10_house_97 : decode cX10_house 97 = .ok (.iconst 0, 1) := by decide +kernel
theorem dX10_house_98 : decode cX10_house 98 = .ok (.iconst 0, 1) := by decide +kernel
theorem dX10_house_99 : decode cX10_house 99 = .ok (.bastore, 1) := by decide +kernel
theorem dX10_house_100 : decode cX10_house 100 = .ok (.aload_n 0, 1) := by decide +kernel
theorem dX10_house_101 : decode cX10_house 101 = .ok (.getfield 80, 3) := by decide +kernel
theorem dX10_house_104 : decode cX10_house 104 = .ok (.iconst 1, 1) := by decide +kernel
theorem dX10_house_105 : decode cX10_house 105 = .ok (.iconst 0, 1) := by decide +kernel
theorem dX10_house_106 : decode cX10_house 106 = .ok (.bastore, 1) := by decide +kernel
theorem dX10_house_107 : decode cX10_house 107 = .ok (.aload_n 0, 1) := by decide +kernel
theorem dX10_house_108 : decode cX10_house 108 = .ok (.getfield 98, 3) := by decide +kernel
theorem dX10_house_111 : decode cX10_house 111 = .ok (.ireturn, 1) := by decide +kernel
theorem dX10_fault_0 : decode cX10_fault 0 = .ok (.aload_n 0, 1) := by decide +kernel
theorem dX10_fault_1 : decode cX10_fault 1 = .ok (.getfield 28, 3) := by decide +kernel
theorem dX10_fault_4 : decode cX10_fault 4 = .ok (.ireturn, 1) := by decide +kernel
theorem dX10_voters_0 : decode cX10_voters 0 = .ok (.iconst 0, 1) := by decide +kernel
theorem dX10_voters_1 : decode cX10_voters 1 = .ok (.istore_n 3, 1) := by decide +kernel
theorem dX10_voters_2 : decode cX10_voters 2 = .ok (.iconst 0, 1) := by decide +kernel
theorem dX10_voters_3 : decode cX10_voters 3 = .ok (.istore 4, 2) := by decide +kernel
theorem dX10_voters_5 : decode cX10_voters 5 = .ok (.iload 4, 2) := by decide +kernel
theorem dX10_voters_7 : decode cX10_voters 7 = .ok (.aload_n 0, 1) := by decide +kernel
theorem dX10_voters_8 : decode cX10_voters 8 = .ok (.getfield 101, 3) := by decide +kernel
theorem dX10_voters_11 : decode cX10_voters 11 = .ok (.if_icmp .ge 35, 3) := by decide +kernel
theorem dX10_voters_14 : decode cX10_voters 14 = .ok (.iload_n 3, 1) := by decide +kernel
theorem dX10_voters_15 : decode cX10_voters 15 = .ok (.aload_n 0, 1) := by decide +kernel
theorem dX10_voters_16 : decode cX10_voters 16 = .ok (.getfield 22, 3) := by decide +kernel
theorem dX10_voters_19 : decode cX10_voters 19 = .ok (.iconst 5, 1) := by decide +kernel
theorem dX10_voters_20 : decode cX10_voters 20 = .ok (.iload 4, 2) := by decide +kernel
theorem dX10_voters_22 : decode cX10_voters 22 = .ok (.imul, 1) := by decide +kernel
theorem dX10_voters_23 : decode cX10_voters 23 = .ok (.iload_n 1, 1) := by decide +kernel
theorem dX10_voters_24 : decode cX10_voters 24 = .ok (.iadd, 1) := by decide +kernel
theorem dX10_voters_25 : decode cX10_voters 25 = .ok (.iaload, 1) := by decide +kernel
theorem dX10_voters_26 : decode cX10_voters 26 = .ok (.iload_n 2, 1) := by decide +kernel
theorem dX10_voters_27 : decode cX10_voters 27 = .ok (.if_icmp .ne 10, 3) := by decide +kernel
theorem dX10_voters_30 : decode cX10_voters 30 = .ok (.iconst 1, 1) := by decide +kernel
theorem dX10_voters_31 : decode cX10_voters 31 = .ok (.iload 4, 2) := by decide +kernel
theorem dX10_voters_33 : decode cX10_voters 33 = .ok (.ishl, 1) := by decide +kernel
theorem dX10_voters_34 : decode cX10_voters 34 = .ok (.goto 4, 3) := by decide +kernel
theorem dX10_voters_37 : decode cX10_voters 37 = .ok (.iconst 0, 1) := by decide +kernel
theorem dX10_voters_38 : decode cX10_voters 38 = .ok (.ior, 1) := by decide +kernel
theorem dX10_voters_39 : decode cX10_voters 39 = .ok (.istore_n 3, 1) := by decide +kernel
theorem dX10_voters_40 : decode cX10_voters 40 = .ok (.iinc 4 1, 3) := by decide +kernel
theorem dX10_voters_43 : decode cX10_voters 43 = .ok (.goto (-38), 3) := by decide +kernel
theorem dX10_voters_46 : decode cX10_voters 46 = .ok (.iload_n 3, 1) := by decide +kernel
theorem dX10_voters_47 : decode cX10_voters 47 = .ok (.ireturn, 1) := by decide +kernel
theorem dX10_standsBy_0 : decode cX10_standsBy 0 = .ok (.iload_n 0, 1) := by decide +kernel
theorem dX10_standsBy_1 : decode cX10_standsBy 1 = .ok (.iconst 1, 1) := by decide +kernel
theorem dX10_standsBy_2 : decode cX10_standsBy 2 = .ok (.if_icmp .ge 7, 3) := by decide +kernel
theorem dX10_standsBy_5 : decode cX10_standsBy 5 = .ok (.iconst 0, 1) := by decide +kernel
theorem dX10_standsBy_6 : decode cX10_standsBy 6 = .ok (.goto 13, 3) := by decide +kernel
theorem dX10_standsBy_9 : decode cX10_standsBy 9 = .ok (.iload_n 0, 1) := by decide +kernel
theorem dX10_standsBy_10 : decode cX10_standsBy 10 = .ok (.iconst 1, 1) := by decide +kernel
theorem dX10_standsBy_11 : decode cX10_standsBy 11 = .ok (.if_icmp .ne 7, 3) := by decide +kernel
theorem dX10_standsBy_14 : decode cX10_standsBy 14 = .ok (.iconst 1, 1) := by decide +kernel
theorem dX10_standsBy_15 : decode cX10_standsBy 15 = .ok (.goto 4, 3) := by decide +kernel
theorem dX10_standsBy_18 : decode cX10_standsBy 18 = .ok (.iconst 2, 1) := by decide +kernel
theorem dX10_standsBy_19 : decode cX10_standsBy 19 = .ok (.ireturn, 1) := by decide +kernel
set_option maxRecDepth 20000 in
theorem ggX10_standOf_X10_voters : GoodIn wsX10_standOf wsX10_voters := goodIn_r _ [5, 6, 7, 14, 15, 16, 17, 18, 19, 20, 21, 22, 23, 24, 25, 26, 27, 28, 29, 30, 31, 32, 33, 34, 35, 36, 37, 38, 39, 40, 41, 42, 43, 44, 45, 46, 47, 48, 49, 50, 51, 52] (by decide +kernel) (by decide +kernel)
set_option maxRecDepth 20000 in
theorem gX10_standOf_X10_voters : GoodIn wsX10_standOf (wsV RX10 175 RX10 yX10_voters wsX10_voters) := goodIn_app (goodIn_of _ (by decide +kernel)) ggX10_standOf_X10_voters
set_option maxRecDepth 20000 in
theorem ggX10_standOf_X10_bits : GoodIn wsX10_standOf wsX10_bits := goodIn_r _ [10] (by decide +kernel) (by decide +kernel)
set_option maxRecDepth 20000 in
theorem gX10_standOf_X10_bits : GoodIn wsX10_standOf (va_wsS RX10 178 yX10_bits wsX10_bits) := goodIn_app (goodIn_of _ (by decide +kernel)) ggX10_standOf_X10_bits
set_option maxRecDepth 20000 in
theorem ggX10_standOf_X10_standsBy : GoodIn wsX10_standOf wsX10_standsBy := goodIn_r _ [13] (by decide +kernel) (by decide +kernel)
set_option maxRecDepth 20000 in
theorem gX10_standOf_X10_standsBy : GoodIn wsX10_standOf (va_wsS RX10 182 yX10_standsBy wsX10_standsBy) := goodIn_app (goodIn_of _ (by decide +kernel)) ggX10_standOf_X10_standsBy
theorem dX10_standOf_0 : decode cX10_standOf 0 = .ok (.aload_n 0, 1) := by decide +kernel
theorem dX10_standOf_1 : decode cX10_standOf 1 = .ok (.iload_n 1, 1) := by decide +kernel
theorem dX10_standOf_2 : decode cX10_standOf 2 = .ok (.iconst 1, 1) := by decide +kernel
theorem dX10_standOf_3 : decode cX10_standOf 3 = .ok (.invokevirtual 175, 3) := by decide +kernel
theorem dX10_standOf_6 : decode cX10_standOf 6 = .ok (.invokestatic 178, 3) := by decide +kernel
theorem dX10_standOf_9 : decode cX10_standOf 9 = .ok (.aload_n 0, 1) := by decide +kernel
theorem dX10_standOf_10 : decode cX10_standOf 10 = .ok (.iload_n 1, 1) := by decide +kernel
theorem dX10_standOf_11 : decode cX10_standOf 11 = .ok (.iconst 0, 1) := by decide +kernel
theorem dX10_standOf_12 : decode cX10_standOf 12 = .ok (.invokevirtual 175, 3) := by decide +kernel
theorem dX10_standOf_15 : decode cX10_standOf 15 = .ok (.invokestatic 178, 3) := by decide +kernel
theorem dX10_standOf_18 : decode cX10_standOf 18 = .ok (.isub, 1) := by decide +kernel
theorem dX10_standOf_19 : decode cX10_standOf 19 = .ok (.invokestatic 182, 3) := by decide +kernel
theorem dX10_standOf_22 : decode cX10_standOf 22 = .ok (.ireturn, 1) := by decide +kernel
set_option maxRecDepth 20000 in
theorem ggX10_standNow_X10_standOf : GoodIn wsX10_standNow wsX10_standOf := goodIn_r _ [7, 8, 9, 10, 6, 11, 12, 13, 14, 15, 16, 17, 18, 19, 20, 21, 22, 23, 24, 25, 26, 27, 28, 29, 30, 31, 32, 33, 34, 35, 36, 37, 38, 39, 40, 41, 42, 43, 44, 45, 46, 47, 48, 49, 50, 51, 52, 53, 54, 55, 56, 57, 58] (by decide +kernel) (by decide +kernel)
set_option maxRecDepth 20000 in
theorem gX10_standNow_X10_standOf : GoodIn wsX10_standNow (wsV RX10 185 RX10 yX10_standOf wsX10_standOf) := goodIn_app (goodIn_of _ (by decide +kernel)) ggX10_standNow_X10_standOf
theorem dX10_standNow_0 : decode cX10_standNow 0 = .ok (.iconst 0, 1) := by decide +kernel
theorem dX10_standNow_1 : decode cX10_standNow 1 = .ok (.istore_n 1, 1) := by decide +kernel
theorem dX10_standNow_2 : decode cX10_standNow 2 = .ok (.iconst 0, 1) := by decide +kernel
theorem dX10_standNow_3 : decode cX10_standNow 3 = .ok (.istore_n 2, 1) := by decide +kernel
theorem dX10_standNow_4 : decode cX10_standNow 4 = .ok (.iload_n 2, 1) := by decide +kernel
theorem dX10_standNow_5 : decode cX10_standNow 5 = .ok (.aload_n 0, 1) := by decide +kernel
theorem dX10_standNow_6 : decode cX10_standNow 6 = .ok (.getfield 98, 3) := by decide +kernel
theorem dX10_standNow_9 : decode cX10_standNow 9 = .ok (.if_icmp .ge 32, 3) := by decide +kernel
theorem dX10_standNow_12 : decode cX10_standNow 12 = .ok (.aload_n 0, 1) := by decide +kernel
theorem dX10_standNow_13 : decode cX10_standNow 13 = .ok (.getfield 50, 3) := by decide +kernel
theorem dX10_standNow_16 : decode cX10_standNow 16 = .ok (.iload_n 2, 1) := by decide +kernel
theorem dX10_standNow_17 : decode cX10_standNow 17 = .ok (.aload_n 0, 1) := by decide +kernel
theorem dX10_standNow_18 : decode cX10_standNow 18 = .ok (.iload_n 2, 1) := by decide +kernel
theorem dX10_standNow_19 : decode cX10_standNow 19 = .ok (.invokevirtual 185, 3) := by decide +kernel
theorem dX10_standNow_22 : decode cX10_standNow 22 = .ok (.iastore, 1) := by decide +kernel
theorem dX10_standNow_23 : decode cX10_standNow 23 = .ok (.bipush 10, 2) := by decide +kernel
theorem dX10_standNow_25 : decode cX10_standNow 25 = .ok (.iload_n 1, 1) := by decide +kernel
theorem dX10_standNow_26 : decode cX10_standNow 26 = .ok (.imul, 1) := by decide +kernel
theorem dX10_standNow_27 : decode cX10_standNow 27 = .ok (.aload_n 0, 1) := by decide +kernel
theorem dX10_standNow_28 : decode cX10_standNow 28 = .ok (.getfield 50, 3) := by decide +kernel
theorem dX10_standNow_31 : decode cX10_standNow 31 = .ok (.iload_n 2, 1) := by decide +kernel
theorem dX10_standNow_32 : decode cX10_standNow 32 = .ok (.iaload, 1) := by decide +kernel
theorem dX10_standNow_33 : decode cX10_standNow 33 = .ok (.iadd, 1) := by decide +kernel
theorem dX10_standNow_34 : decode cX10_standNow 34 = .ok (.istore_n 1, 1) := by decide +kernel
theorem dX10_standNow_35 : decode cX10_standNow 35 = .ok (.iinc 2 1, 3) := by decide +kernel
theorem dX10_standNow_38 : decode cX10_standNow 38 = .ok (.goto (-34), 3) := by decide +kernel
theorem dX10_standNow_41 : decode cX10_standNow 41 = .ok (.iload_n 1, 1) := by decide +kernel
theorem dX10_standNow_42 : decode cX10_standNow 42 = .ok (.ireturn, 1) := by decide +kernel
theorem dX10_standBy_0 : decode cX10_standBy 0 = .ok (.iload_n 1, 1) := by decide +kernel
theorem dX10_standBy_1 : decode cX10_standBy 1 = .ok (.istore_n 2, 1) := by decide +kernel
theorem dX10_standBy_2 : decode cX10_standBy 2 = .ok (.iconst 0, 1) := by decide +kernel
theorem dX10_standBy_3 : decode cX10_standBy 3 = .ok (.istore_n 3, 1) := by decide +kernel
theorem dX10_standBy_4 : decode cX10_standBy 4 = .ok (.iconst 1, 1) := by decide +kernel
theorem dX10_standBy_5 : decode cX10_standBy 5 = .ok (.istore 4, 2) := by decide +kernel
theorem dX10_standBy_7 : decode cX10_standBy 7 = .ok (.aload_n 0, 1) := by decide +kernel
theorem dX10_standBy_8 : decode cX10_standBy 8 = .ok (.getfield 98, 3) := by decide +kernel
theorem dX10_standBy_11 : decode cX10_standBy 11 = .ok (.iconst 1, 1) := by decide +kernel
theorem dX10_standBy_12 : decode cX10_standBy 12 = .ok (.isub, 1) := by decide +kernel
theorem dX10_standBy_13 : decode cX10_standBy 13 = .ok (.istore 5, 2) := by decide +kernel
theorem dX10_standBy_15 : decode cX10_standBy 15 = .ok (.iload 5, 2) := by decide +kernel
theorem dX10_standBy_17 : decode cX10_standBy 17 = .ok (.ifCond .lt 43, 3) := by decide +kernel
theorem dX10_standBy_20 : decode cX10_standBy 20 = .ok (.aload_n 0, 1) := by decide +kernel
theorem dX10_standBy_21 : decode cX10_standBy 21 = .ok (.getfield 50, 3) := by decide +kernel
theorem dX10_standBy_24 : decode cX10_standBy 24 = .ok (.iload 5, 2) := by decide +kernel
theorem dX10_standBy_26 : decode cX10_standBy 26 = .ok (.iload_n 2, 1) := by decide +kernel
theorem dX10_standBy_27 : decode cX10_standBy 27 = .ok (.iconst 3, 1) := by decide +kernel
theorem dX10_standBy_28 : decode cX10_standBy 28 = .ok (.irem, 1) := by decide +kernel
theorem dX10_standBy_29 : decode cX10_standBy 29 = .ok (.iastore, 1) := by decide +kernel
theorem dX10_standBy_30 : decode cX10_standBy 30 = .ok (.iload_n 2, 1) := by decide +kernel
theorem dX10_standBy_31 : decode cX10_standBy 31 = .ok (.iconst 3, 1) := by decide +kernel
theorem dX10_standBy_32 : decode cX10_standBy 32 = .ok (.idiv, 1) := by decide +kernel
theorem dX10_standBy_33 : decode cX10_standBy 33 = .ok (.istore_n 2, 1) := by decide +kernel
theorem dX10_standBy_34 : decode cX10_standBy 34 = .ok (.iload_n 3, 1) := by decide +kernel
theorem dX10_standBy_35 : decode cX10_standBy 35 = .ok (.iload 4, 2) := by decide +kernel
theorem dX10_standBy_37 : decode cX10_standBy 37 = .ok (.aload_n 0, 1) := by decide +kernel
theorem dX10_standBy_38 : decode cX10_standBy 38 = .ok (.getfield 50, 3) := by decide +kernel
theorem dX10_standBy_41 : decode cX10_standBy 41 = .ok (.iload 5, 2) := by decide +kernel
theorem dX10_standBy_43 : decode cX10_standBy 43 = .ok (.iaload, 1) := by decide +kernel
theorem dX10_standBy_44 : decode cX10_standBy 44 = .ok (.imul, 1) := by decide +kernel
theorem dX10_standBy_45 : decode cX10_standBy 45 = .ok (.iadd, 1) := by decide +kernel
theorem dX10_standBy_46 : decode cX10_standBy 46 = .ok (.istore_n 3, 1) := by decide +kernel
theorem dX10_standBy_47 : decode cX10_standBy 47 = .ok (.iload 4, 2) := by decide +kernel
theorem dX10_standBy_49 : decode cX10_standBy 49 = .ok (.bipush 10, 2) := by decide +kernel
theorem dX10_standBy_51 : decode cX10_standBy 51 = .ok (.imul, 1) := by decide +kernel
theorem dX10_standBy_52 : decode cX10_standBy 52 = .ok (.istore 4, 2) := by decide +kernel
theorem dX10_standBy_54 : decode cX10_standBy 54 = .ok (.iinc 5 (-1), 3) := by decide +kernel
theorem dX10_standBy_57 : decode cX10_standBy 57 = .ok (.goto (-42), 3) := by decide +kernel
theorem dX10_standBy_60 : decode cX10_standBy 60 = .ok (.iload_n 3, 1) := by decide +kernel
theorem dX10_standBy_61 : decode cX10_standBy 61 = .ok (.ireturn, 1) := by decide +kernel
theorem dX10_waysToStand_0 : decode cX10_waysToStand 0 = .ok (.iconst 1, 1) := by decide +kernel
theorem dX10_waysToStand_1 : decode cX10_waysToStand 1 = .ok (.istore_n 1, 1) := by decide +kernel
theorem dX10_waysToStand_2 : decode cX10_waysToStand 2 = .ok (.iconst 0, 1) := by decide +kernel
theorem dX10_waysToStand_3 : decode cX10_waysToStand 3 = .ok (.istore_n 2, 1) := by decide +kernel
theorem dX10_waysToStand_4 : decode cX10_waysToStand 4 = .ok (.iload_n 2, 1) := by decide +kernel
theorem dX10_waysToStand_5 : decode cX10_waysToStand 5 = .ok (.aload_n 0, 1) := by decide +kernel
theorem dX10_waysToStand_6 : decode cX10_waysToStand 6 = .ok (.getfield 98, 3) := by decide +kernel
theorem dX10_waysToStand_9 : decode cX10_waysToStand 9 = .ok (.if_icmp .ge 13, 3) := by decide +kernel
theorem dX10_waysToStand_12 : decode cX10_waysToStand 12 = .ok (.iload_n 1, 1) := by decide +kernel
theorem dX10_waysToStand_13 : decode cX10_waysToStand 13 = .ok (.iconst 3, 1) := by decide +kernel
theorem dX10_waysToStand_14 : decode cX10_waysToStand 14 = .ok (.imul, 1) := by decide +kernel
theorem dX10_waysToStand_15 : decode cX10_waysToStand 15 = .ok (.istore_n 1, 1) := by decide +kernel
theorem dX10_waysToStand_16 : decode cX10_waysToStand 16 = .ok (.iinc 2 1, 3) := by decide +kernel
theorem dX10_waysToStand_19 : decode cX10_waysToStand 19 = .ok (.goto (-15), 3) := by decide +kernel
theorem dX10_waysToStand_22 : decode cX10_waysToStand 22 = .ok (.iload_n 1, 1) := by decide +kernel
theorem dX10_waysToStand_23 : decode cX10_waysToStand 23 = .ok (.ireturn, 1) := by decide +kernel
set_option maxRecDepth 20000 in
theorem ggX10_isOf_X10_in : GoodIn wsX10_isOf wsX10_in := goodIn_r _ [7] (by decide +kernel) (by decide +kernel)
set_option maxRecDepth 20000 in
theorem gX10_isOf_X10_in : GoodIn wsX10_isOf (va_wsS RX10 94 yX10_in wsX10_in) := goodIn_app (goodIn_of _ (by decide +kernel)) ggX10_isOf_X10_in
theorem dX10_isOf_0 : decode cX10_isOf 0 = .ok (.iload_n 2, 1) := by decide +kernel
theorem dX10_isOf_1 : decode cX10_isOf 1 = .ok (.aload_n 0, 1) := by decide +kernel
theorem dX10_isOf_2 : decode cX10_isOf 2 = .ok (.getfield 84, 3) := by decide +kernel
theorem dX10_isOf_5 : decode cX10_isOf 5 = .ok (.idiv, 1) := by decide +kernel
theorem dX10_isOf_6 : decode cX10_isOf 6 = .ok (.istore_n 3, 1) := by decide +kernel
theorem dX10_isOf_7 : decode cX10_isOf 7 = .ok (.iload_n 2, 1) := by decide +kernel
theorem dX10_isOf_8 : decode cX10_isOf 8 = .ok (.aload_n 0, 1) := by decide +kernel
theorem dX10_isOf_9 : decode cX10_isOf 9 = .ok (.getfield 84, 3) := by decide +kernel
theorem dX10_isOf_12 : decode cX10_isOf 12 = .ok (.irem, 1) := by decide +kernel
theorem dX10_isOf_13 : decode cX10_isOf 13 = .ok (.istore 4, 2) := by decide +kernel
theorem dX10_isOf_15 : decode cX10_isOf 15 = .ok (.iload_n 3, 1) := by decide +kernel
theorem dX10_isOf_16 : decode cX10_isOf 16 = .ok (.i2l, 1) := by decide +kernel
theorem dX10_isOf_17 : decode cX10_isOf 17 = .ok (.aload_n 0, 1) := by decide +kernel
theorem dX10_isOf_18 : decode cX10_isOf 18 = .ok (.getfield 13, 3) := by decide +kernel
theorem dX10_isOf_21 : decode cX10_isOf 21 = .ok (.iload_n 1, 1) := by decide +kernel
theorem dX10_isOf_22 : decode cX10_isOf 22 = .ok (.iaload, 1) := by decide +kernel
theorem dX10_isOf_23 : decode cX10_isOf 23 = .ok (.aload_n 0, 1) := by decide +kernel
theorem dX10_isOf_24 : decode cX10_isOf 24 = .ok (.getfield 84, 3) := by decide +kernel
theorem dX10_isOf_27 : decode cX10_isOf 27 = .ok (.idiv, 1) := by decide +kernel
theorem dX10_isOf_28 : decode cX10_isOf 28 = .ok (.i2l, 1) := by decide +kernel
theorem dX10_isOf_29 : decode cX10_isOf 29 = .ok (.aload_n 0, 1) := by decide +kernel
theorem dX10_isOf_30 : decode cX10_isOf 30 = .ok (.getfield 16, 3) := by decide +kernel
theorem dX10_isOf_33 : decode cX10_isOf 33 = .ok (.iload_n 1, 1) := by decide +kernel
theorem dX10_isOf_34 : decode cX10_isOf 34 = .ok (.iaload, 1) := by decide +kernel
theorem dX10_isOf_35 : decode cX10_isOf 35 = .ok (.aload_n 0, 1) := by decide +kernel
theorem dX10_isOf_36 : decode cX10_isOf 36 = .ok (.getfield 84, 3) := by decide +kernel
theorem dX10_isOf_39 : decode cX10_isOf 39 = .ok (.idiv, 1) := by decide +kernel
theorem dX10_isOf_40 : decode cX10_isOf 40 = .ok (.i2l, 1) := by decide +kernel
theorem dX10_isOf_41 : decode cX10_isOf 41 = .ok (.invokestatic 94, 3) := by decide +kernel
theorem dX10_isOf_44 : decode cX10_isOf 44 = .ok (.istore 5, 2) := by decide +kernel
theorem dX10_isOf_46 : decode cX10_isOf 46 = .ok (.iload 5, 2) := by decide +kernel
theorem dX10_isOf_48 : decode cX10_isOf 48 = .ok (.ifCond .eq 40, 3) := by decide +kernel
theorem dX10_isOf_51 : decode cX10_isOf 51 = .ok (.iload 4, 2) := by decide +kernel
theorem dX10_isOf_53 : decode cX10_isOf 53 = .ok (.i2l, 1) := by decide +kernel
theorem dX10_isOf_54 : decode cX10_isOf 54 = .ok (.aload_n 0, 1) := by decide +kernel
theorem dX10_isOf_55 : decode cX10_isOf 55 = .ok (.getfield 13, 3) := by decide +kernel
theorem dX10_isOf_58 : decode cX10_isOf 58 = .ok (.iload_n 1, 1) := by decide +kernel
theorem dX10_isOf_59 : decode cX10_isOf 59 = .ok (.iaload, 1) := by decide +kernel
theorem dX10_isOf_60 : decode cX10_isOf 60 = .ok (.aload_n 0, 1) := by decide +kernel
theorem dX10_isOf_61 : decode cX10_isOf 61 = .ok (.getfield 84, 3) := by decide +kernel
theorem dX10_isOf_64 : decode cX10_isOf 64 = .ok (.irem, 1) := by decide +kernel
theorem dX10_isOf_65 : decode cX10_isOf 65 = .ok (.i2l, 1) := by decide +kernel
theorem dX10_isOf_66 : decode cX10_isOf 66 = .ok (.aload_n 0, 1) := by decide +kernel
theorem dX10_isOf_67 : decode cX10_isOf 67 = .ok (.getfield 16, 3) := by decide +kernel
theorem dX10_isOf_70 : decode cX10_isOf 70 = .ok (.iload_n 1, 1) := by decide +kernel
theorem dX10_isOf_71 : decode cX10_isOf 71 = .ok (.iaload, 1) := by decide +kernel
theorem dX10_isOf_72 : decode cX10_isOf 72 = .ok (.aload_n 0, 1) := by decide +kernel
theorem dX10_isOf_73 : decode cX10_isOf 73 = .ok (.getfield 84, 3) := by decide +kernel
theorem dX10_isOf_76 : decode cX10_isOf 76 = .ok (.irem, 1) := by decide +kernel
theorem dX10_isOf_77 : decode cX10_isOf 77 = .ok (.i2l, 1) := by decide +kernel
theorem dX10_isOf_78 : decode cX10_isOf 78 = .ok (.invokestatic 94, 3) := by decide +kernel
theorem dX10_isOf_81 : decode cX10_isOf 81 = .ok (.ifCond .eq 7, 3) := by decide +kernel
theorem dX10_isOf_84 : decode cX10_isOf 84 = .ok (.iconst 1, 1) := by decide +kernel
theorem dX10_isOf_85 : decode cX10_isOf 85 = .ok (.goto 4, 3) := by decide +kernel
theorem dX10_isOf_88 : decode cX10_isOf 88 = .ok (.iconst 0, 1) := by decide +kernel
theorem dX10_isOf_89 : decode cX10_isOf 89 = .ok (.ireturn, 1) := by decide +kernel
set_option maxRecDepth 20000 in
theorem ggX10_itemOf_X10_isOf : GoodIn wsX10_itemOf wsX10_isOf := goodIn_r _ [7, 8, 9, 10, 11, 12, 6, 13, 14, 15, 16, 17, 18, 19, 20, 21, 22, 23, 24, 25, 26, 27, 28, 29, 30, 31, 32, 33, 34, 35, 36, 37, 38, 39, 40, 41, 42, 43, 44, 45, 46, 47, 48, 49, 50, 51, 52] (by decide +kernel) (by decide +kernel)
set_option maxRecDepth 20000 in
theorem gX10_itemOf_X10_isOf : GoodIn wsX10_itemOf (wsV RX10 188 RX10 yX10_isOf wsX10_isOf) := goodIn_app (goodIn_of _ (by decide +kernel)) ggX10_itemOf_X10_isOf
theorem dX10_itemOf_0 : decode cX10_itemOf 0 = .ok (.iconst (-1), 1) := by decide +kernel
theorem dX10_itemOf_1 : decode cX10_itemOf 1 = .ok (.istore_n 2, 1) := by decide +kernel
theorem dX10_itemOf_2 : decode cX10_itemOf 2 = .ok (.iconst 0, 1) := by decide +kernel
theorem dX10_itemOf_3 : decode cX10_itemOf 3 = .ok (.istore_n 3, 1) := by decide +kernel
theorem dX10_itemOf_4 : decode cX10_itemOf 4 = .ok (.iload_n 3, 1) := by decide +kernel
theorem dX10_itemOf_5 : decode cX10_itemOf 5 = .ok (.aload_n 0, 1) := by decide +kernel
theorem dX10_itemOf_6 : decode cX10_itemOf 6 = .ok (.getfield 98, 3) := by decide +kernel
theorem dX10_itemOf_9 : decode cX10_itemOf 9 = .ok (.if_icmp .ge 33, 3) := by decide +kernel
theorem dX10_itemOf_12 : decode cX10_itemOf 12 = .ok (.aload_n 0, 1) := by decide +kernel
theorem dX10_itemOf_13 : decode cX10_itemOf 13 = .ok (.getfield 50, 3) := by decide +kernel
theorem dX10_itemOf_16 : decode cX10_itemOf 16 = .ok (.iload_n 3, 1) := by decide +kernel
theorem dX10_itemOf_17 : decode cX10_itemOf 17 = .ok (.iaload, 1) := by decide +kernel
theorem dX10_itemOf_18 : decode cX10_itemOf 18 = .ok (.ifCond .le 16, 3) := by decide +kernel
theorem dX10_itemOf_21 : decode cX10_itemOf 21 = .ok (.aload_n 0, 1) := by decide +kernel
theorem dX10_itemOf_22 : decode cX10_itemOf 22 = .ok (.iload_n 3, 1) := by decide +kernel
theorem dX10_itemOf_23 : decode cX10_itemOf 23 = .ok (.iload_n 1, 1) := by decide +kernel
theorem dX10_itemOf_24 : decode cX10_itemOf 24 = .ok (.invokevirtual 188, 3) := by decide +kernel
theorem dX10_itemOf_27 : decode cX10_itemOf 27 = .ok (.ifCond .eq 7, 3) := by decide +kernel
theorem dX10_itemOf_30 : decode cX10_itemOf 30 = .ok (.iload_n 3, 1) := by decide +kernel
theorem dX10_itemOf_31 : decode cX10_itemOf 31 = .ok (.goto 4, 3) := by decide +kernel
theorem dX10_itemOf_34 : decode cX10_itemOf 34 = .ok (.iload_n 2, 1) := by decide +kernel
theorem dX10_itemOf_35 : decode cX10_itemOf 35 = .ok (.istore_n 2, 1) := by decide +kernel
theorem dX10_itemOf_36 : decode cX10_itemOf 36 = .ok (.iinc 3 1, 3) := by decide +kernel
theorem dX10_itemOf_39 : decode cX10_itemOf 39 = .ok (.goto (-35), 3) := by decide +kernel
theorem dX10_itemOf_42 : decode cX10_itemOf 42 = .ok (.iload_n 2, 1) := by decide +kernel
theorem dX10_itemOf_43 : decode cX10_itemOf 43 = .ok (.ireturn, 1) := by decide +kernel
set_option maxRecDepth 20000 in
theorem ggX10_heightOf_X10_itemOf : GoodIn wsX10_heightOf wsX10_itemOf := goodIn_r _ [10, 11, 2, 12, 13, 14, 9, 15, 3, 4, 16, 17, 18, 19, 20, 21, 22, 23, 24, 25, 26, 27, 28, 29, 30, 31, 32, 33, 34, 35, 36, 37, 38, 39, 40, 41, 42, 43, 44, 45, 46, 47, 48, 49, 50, 51, 52, 53, 54, 55, 56, 57, 58] (by decide +kernel) (by decide +kernel)
set_option maxRecDepth 20000 in
theorem gX10_heightOf_X10_itemOf : GoodIn wsX10_heightOf (wsV RX10 192 RX10 yX10_itemOf wsX10_itemOf) := goodIn_app (goodIn_of _ (by decide +kernel)) ggX10_heightOf_X10_itemOf
theorem dX10_heightOf_0 : decode cX10_heightOf 0 = .ok (.aload_n 0, 1) := by decide +kernel
theorem dX10_heightOf_1 : decode cX10_heightOf 1 = .ok (.iload_n 1, 1) := by decide +kernel
theorem dX10_heightOf_2 : decode cX10_heightOf 2 = .ok (.invokevirtual 192, 3) := by decide +kernel
theorem dX10_heightOf_5 : decode cX10_heightOf 5 = .ok (.istore_n 2, 1) := by decide +kernel
theorem dX10_heightOf_6 : decode cX10_heightOf 6 = .ok (.iload_n 2, 1) := by decide +kernel
theorem dX10_heightOf_7 : decode cX10_heightOf 7 = .ok (.ifCond .ge 10, 3) := by decide +kernel
theorem dX10_heightOf_10 : decode cX10_heightOf 10 = .ok (.aload_n 0, 1) := by decide +kernel
theorem dX10_heightOf_11 : decode cX10_heightOf 11 = .ok (.getfield 7, 3) := by decide +kernel
theorem dX10_heightOf_14 : decode cX10_heightOf 14 = .ok (.iload_n 1, 1) := by decide +kernel
theorem dX10_heightOf_15 : decode cX10_heightOf 15 = .ok (.iaload, 1) := by decide +kernel
theorem dX10_heightOf_16 : decode cX10_heightOf 16 = .ok (.ireturn, 1) := by decide +kernel
theorem dX10_heightOf_17 : decode cX10_heightOf 17 = .ok (.aload_n 0, 1) := by decide +kernel
theorem dX10_heightOf_18 : decode cX10_heightOf 18 = .ok (.getfield 50, 3) := by decide +kernel
theorem dX10_heightOf_21 : decode cX10_heightOf 21 = .ok (.iload_n 2, 1) := by decide +kernel
theorem dX10_heightOf_22 : decode cX10_heightOf 22 = .ok (.iaload, 1) := by decide +kernel
theorem dX10_heightOf_23 : decode cX10_heightOf 23 = .ok (.iconst 1, 1) := by decide +kernel
theorem dX10_heightOf_24 : decode cX10_heightOf 24 = .ok (.if_icmp .ne 27, 3) := by decide +kernel
theorem dX10_heightOf_27 : decode cX10_heightOf 27 = .ok (.iload_n 1, 1) := by decide +kernel
theorem dX10_heightOf_28 : decode cX10_heightOf 28 = .ok (.aload_n 0, 1) := by decide +kernel
theorem dX10_heightOf_29 : decode cX10_heightOf 29 = .ok (.getfield 84, 3) := by decide +kernel
theorem dX10_heightOf_32 : decode cX10_heightOf 32 = .ok (.irem, 1) := by decide +kernel
theorem dX10_heightOf_33 : decode cX10_heightOf 33 = .ok (.aload_n 0, 1) := by decide +kernel
theorem dX10_heightOf_34 : decode cX10_heightOf 34 = .ok (.getfield 13, 3) := by decide +kernel
theorem dX10_heightOf_37 : decode cX10_heightOf 37 = .ok (.iload_n 2, 1) := by decide +kernel
theorem dX10_heightOf_38 : decode cX10_heightOf 38 = .ok (.iaload, 1) := by decide +kernel
theorem dX10_heightOf_39 : decode cX10_heightOf 39 = .ok (.aload_n 0, 1) := by decide +kernel
theorem dX10_heightOf_40 : decode cX10_heightOf 40 = .ok (.getfield 84, 3) := by decide +kernel
theorem dX10_heightOf_43 : decode cX10_heightOf 43 = .ok (.irem, 1) := by decide +kernel
theorem dX10_heightOf_44 : decode cX10_heightOf 44 = .ok (.if_icmp .eq 7, 3) := by decide +kernel
theorem dX10_heightOf_47 : decode cX10_heightOf 47 = .ok (.iconst 1, 1) := by decide +kernel
theorem dX10_heightOf_48 : decode cX10_heightOf 48 = .ok (.goto 4, 3) := by decide +kernel
theorem dX10_heightOf_51 : decode cX10_heightOf 51 = .ok (.iconst 0, 1) := by decide +kernel
theorem dX10_heightOf_52 : decode cX10_heightOf 52 = .ok (.istore_n 3, 1) := by decide +kernel
theorem dX10_heightOf_53 : decode cX10_heightOf 53 = .ok (.iload_n 3, 1) := by decide +kernel
theorem dX10_heightOf_54 : decode cX10_heightOf 54 = .ok (.ifCond .eq 23, 3) := by decide +kernel
theorem dX10_heightOf_57 : decode cX10_heightOf 57 = .ok (.aload_n 0, 1) := by decide +kernel
theorem dX10_heightOf_58 : decode cX10_heightOf 58 = .ok (.getfield 19, 3) := by decide +kernel
theorem dX10_heightOf_61 : decode cX10_heightOf 61 = .ok (.iload_n 2, 1) := by decide +kernel
theorem dX10_heightOf_62 : decode cX10_heightOf 62 = .ok (.iaload, 1) := by decide +kernel
theorem dX10_heightOf_63 : decode cX10_heightOf 63 = .ok (.ifCond .le 14, 3) := by decide +kernel
theorem dX10_heightOf_66 : decode cX10_heightOf 66 = .ok (.aload_n 0, 1) := by decide +kernel
theorem dX10_heightOf_67 : decode cX10_heightOf 67 = .ok (.getfield 19, 3) := by decide +kernel
theorem dX10_heightOf_70 : decode cX10_heightOf 70 = .ok (.iload_n 2, 1) := by decide +kernel
theorem dX10_heightOf_71 : decode cX10_heightOf 71 = .ok (.iaload, 1) := by decide +kernel
theorem dX10_heightOf_72 : decode cX10_heightOf 72 = .ok (.iconst 1, 1) := by decide +kernel
theorem dX10_heightOf_73 : decode cX10_heightOf 73 = .ok (.isub, 1) := by decide +kernel
theorem dX10_heightOf_74 : decode cX10_heightOf 74 = .ok (.goto 9, 3) := by decide +kernel
theorem dX10_heightOf_77 : decode cX10_heightOf 77 = .ok (.aload_n 0, 1) := by decide +kernel
theorem dX10_heightOf_78 : decode cX10_heightOf 78 = .ok (.getfield 19, 3) := by decide +kernel
theorem dX10_heightOf_81 : decode cX10_heightOf 81 = .ok (.iload_n 2, 1) := by decide +kernel
theorem dX10_heightOf_82 : decode cX10_heightOf 82 = .ok (.iaload, 1) := by decide +kernel
theorem dX10_heightOf_83 : decode cX10_heightOf 83 = .ok (.ireturn, 1) := by decide +kernel
set_option maxRecDepth 20000 in
theorem ggX10_findHeights_X10_cells : GoodIn wsX10_findHeights wsX10_cells := goodIn_r _ [6, 7, 8, 30, 31, 32, 33, 34, 35, 36, 37, 38, 39, 40, 41, 42, 43, 44, 45, 46, 47, 48, 49, 50, 51, 52, 53, 54, 55, 56, 57, 58, 59, 60, 61, 62, 63, 64, 65, 66, 67, 68] (by decide +kernel) (by decide +kernel)
set_option maxRecDepth 20000 in
theorem gX10_findHeights_X10_cells : GoodIn wsX10_findHeights (wsV RX10 90 RX10 yX10_cells wsX10_cells) := goodIn_app (goodIn_of _ (by decide +kernel)) ggX10_findHeights_X10_cells
set_option maxRecDepth 20000 in
theorem ggX10_findHeights_X10_heightOf : GoodIn wsX10_findHeights wsX10_heightOf := goodIn_r _ [12, 13, 14, 7, 15, 16, 17, 18, 19, 5, 20, 21, 22, 23, 24, 25, 26, 27, 28, 29, 30, 31, 32, 33, 34, 35, 36, 37, 38, 39, 40, 41, 42, 43, 44, 45, 46, 47, 48, 49, 50, 51, 52, 53, 54, 55, 56, 57, 58, 59, 60, 61, 62, 63, 64, 65, 66, 67, 68] (by decide +kernel) (by decide +kernel)
set_option maxRecDepth 20000 in
theorem gX10_findHeights_X10_heightOf : GoodIn wsX10_findHeights (wsV RX10 195 RX10 yX10_heightOf wsX10_heightOf) := goodIn_app (goodIn_of _ (by decide +kernel)) ggX10_findHeights_X10_heightOf
theorem dX10_findHeights_0 : decode cX10_findHeights 0 = .ok (.iconst 0, 1) := by decide +kernel
theorem dX10_findHeights_1 : decode cX10_findHeights 1 = .ok (.istore_n 1, 1) := by decide +kernel
theorem dX10_findHeights_2 : decode cX10_findHeights 2 = .ok (.iload_n 1, 1) := by decide +kernel
theorem dX10_findHeights_3 : decode cX10_findHeights 3 = .ok (.aload_n 0, 1) := by decide +kernel
theorem dX10_findHeights_4 : decode cX10_findHeights 4 = .ok (.invokevirtual 90, 3) := by decide +kernel
theorem dX10_findHeights_7 : decode cX10_findHeights 7 = .ok (.if_icmp .ge 20, 3) := by decide +kernel
theorem dX10_findHeights_10 : decode cX10_findHeights 10 = .ok (.aload_n 0, 1) := by decide +kernel
theorem dX10_findHeights_11 : decode cX10_findHeights 11 = .ok (.getfield 53, 3) := by decide +kernel
theorem dX10_findHeights_14 : decode cX10_findHeights 14 = .ok (.iload_n 1, 1) := by decide +kernel
theorem dX10_findHeights_15 : decode cX10_findHeights 15 = .ok (.aload_n 0, 1) := by decide +kernel
theorem dX10_findHeights_16 : decode cX10_findHeights 16 = .ok (.iload_n 1, 1) := by decide +kernel
theorem dX10_findHeights_17 : decode cX10_findHeights 17 = .ok (.invokevirtual 195, 3) := by decide +kernel
theorem dX10_findHeights_20 : decode cX10_findHeights 20 = .ok (.iastore, 1) := by decide +kernel
theorem dX10_findHeights_21 : decode cX10_findHeights 21 = .ok (.iinc 1 1, 3) := by decide +kernel
theorem dX10_findHeights_24 : decode cX10_findHeights 24 = .ok (.goto (-22), 3) := by decide +kernel
theorem dX10_findHeights_27 : decode cX10_findHeights 27 = .ok (.return_, 1) := by decide +kernel
theorem dX10_areNear_0 : decode cX10_areNear 0 = .ok (.iload_n 1, 1) := by decide +kernel
theorem dX10_areNear_1 : decode cX10_areNear 1 = .ok (.aload_n 0, 1) := by decide +kernel
theorem dX10_areNear_2 : decode cX10_areNear 2 = .ok (.getfield 84, 3) := by decide +kernel
theorem dX10_areNear_5 : decode cX10_areNear 5 = .ok (.idiv, 1) := by decide +kernel
theorem dX10_areNear_6 : decode cX10_areNear 6 = .ok (.iload_n 2, 1) := by decide +kernel
theorem dX10_areNear_7 : decode cX10_areNear 7 = .ok (.aload_n 0, 1) := by decide +kernel
theorem dX10_areNear_8 : decode cX10_areNear 8 = .ok (.getfield 84, 3) := by decide +kernel
theorem dX10_areNear_11 : decode cX10_areNear 11 = .ok (.idiv, 1) := by decide +kernel
theorem dX10_areNear_12 : decode cX10_areNear 12 = .ok (.isub, 1) := by decide +kernel
theorem dX10_areNear_13 : decode cX10_areNear 13 = .ok (.istore_n 3, 1) := by decide +kernel
theorem dX10_areNear_14 : decode cX10_areNear 14 = .ok (.iload_n 1, 1) := by decide +kernel
theorem dX10_areNear_15 : decode cX10_areNear 15 = .ok (.aload_n 0, 1) := by decide +kernel
theorem dX10_areNear_16 : decode cX10_areNear 16 = .ok (.getfield 84, 3) := by decide +kernel
theorem dX10_areNear_19 : decode cX10_areNear 19 = .ok (.irem, 1) := by decide +kernel
theorem dX10_areNear_20 : decode cX10_areNear 20 = .ok (.iload_n 2, 1) := by decide +kernel
theorem dX10_areNear_21 : decode cX10_areNear 21 = .ok (.aload_n 0, 1) := by decide +kernel
theorem dX10_areNear_22 : decode cX10_areNear 22 = .ok (.getfield 84, 3) := by decide +kernel
theorem dX10_areNear_25 : decode cX10_areNear 25 = .ok (.irem, 1) := by decide +kernel
theorem dX10_areNear_26 : decode cX10_areNear 26 = .ok (.isub, 1) := by decide +kernel
theorem dX10_areNear_27 : decode cX10_areNear 27 = .ok (.istore 4, 2) := by decide +kernel
theorem dX10_areNear_29 : decode cX10_areNear 29 = .ok (.iload_n 3, 1) := by decide +kernel
theorem dX10_areNear_30 : decode cX10_areNear 30 = .ok (.iload_n 3, 1) := by decide +kernel
theorem dX10_areNear_31 : decode cX10_areNear 31 = .ok (.imul, 1) := by decide +kernel
theorem dX10_areNear_32 : decode cX10_areNear 32 = .ok (.iload 4, 2) := by decide +kernel
theorem dX10_areNear_34 : decode cX10_areNear 34 = .ok (.iload 4, 2) := by decide +kernel
theorem dX10_areNear_36 : decode cX10_areNear 36 = .ok (.imul, 1) := by decide +kernel
theorem dX10_areNear_37 : decode cX10_areNear 37 = .ok (.iadd, 1) := by decide +kernel
theorem dX10_areNear_38 : decode cX10_areNear 38 = .ok (.iconst 1, 1) := by decide +kernel
theorem dX10_areNear_39 : decode cX10_areNear 39 = .ok (.if_icmp .ne 7, 3) := by decide +kernel
theorem dX10_areNear_42 : decode cX10_areNear 42 = .ok (.iconst 1, 1) := by decide +kernel
theorem dX10_areNear_43 : decode cX10_areNear 43 = .ok (.goto 4, 3) := by decide +kernel
theorem dX10_areNear_46 : decode cX10_areNear 46 = .ok (.iconst 0, 1) := by decide +kernel
theorem dX10_areNear_47 : decode cX10_areNear 47 = .ok (.ireturn, 1) := by decide +kernel
set_option maxRecDepth 20000 in
theorem ggX10_rollsTo_X10_cells : GoodIn wsX10_rollsTo wsX10_cells := goodIn_r _ [6, 7, 8, 13, 14, 15, 16, 17, 18, 19, 20, 21, 22, 23, 24, 25, 26, 27, 28, 29, 30, 31, 32, 33, 34, 35, 36, 37, 38, 39, 40, 41, 42, 43, 44, 45, 46, 47, 48, 49, 50, 51] (by decide +kernel) (by decide +kernel)
set_option maxRecDepth 20000 in
theorem gX10_rollsTo_X10_cells : GoodIn wsX10_rollsTo (wsV RX10 90 RX10 yX10_cells wsX10_cells) := goodIn_app (goodIn_of _ (by decide +kernel)) ggX10_rollsTo_X10_cells
set_option maxRecDepth 20000 in
theorem ggX10_rollsTo_X10_areNear : GoodIn wsX10_rollsTo wsX10_areNear := goodIn_r _ [12, 7, 13, 14, 15, 16, 17, 18, 19, 20, 21, 22, 23, 24, 25, 26, 27, 28, 29, 30, 31, 32, 33, 34, 35, 36, 37, 38, 39, 40, 41, 42, 43, 44, 45, 46, 47, 48, 49, 50, 51] (by decide +kernel) (by decide +kernel)
set_option maxRecDepth 20000 in
theorem gX10_rollsTo_X10_areNear : GoodIn wsX10_rollsTo (wsV RX10 198 RX10 yX10_areNear wsX10_areNear) := goodIn_app (goodIn_of _ (by decide +kernel)) ggX10_rollsTo_X10_areNear
theorem dX10_rollsTo_0 : decode cX10_rollsTo 0 = .ok (.iload_n 1, 1) := by decide +kernel
theorem dX10_rollsTo_1 : decode cX10_rollsTo 1 = .ok (.istore_n 2, 1) := by decide +kernel
theorem dX10_rollsTo_2 : decode cX10_rollsTo 2 = .ok (.iconst 0, 1) := by decide +kernel
theorem dX10_rollsTo_3 : decode cX10_rollsTo 3 = .ok (.istore_n 3, 1) := by decide +kernel
theorem dX10_rollsTo_4 : decode cX10_rollsTo 4 = .ok (.iload_n 3, 1) := by decide +kernel
theorem dX10_rollsTo_5 : decode cX10_rollsTo 5 = .ok (.aload_n 0, 1) := by decide +kernel
theorem dX10_rollsTo_6 : decode cX10_rollsTo 6 = .ok (.invokevirtual 90, 3) := by decide +kernel
theorem dX10_rollsTo_9 : decode cX10_rollsTo 9 = .ok (.if_icmp .ge 39, 3) := by decide +kernel
theorem dX10_rollsTo_12 : decode cX10_rollsTo 12 = .ok (.aload_n 0, 1) := by decide +kernel
theorem dX10_rollsTo_13 : decode cX10_rollsTo 13 = .ok (.iload_n 1, 1) := by decide +kernel
theorem dX10_rollsTo_14 : decode cX10_rollsTo 14 = .ok (.iload_n 3, 1) := by decide +kernel
theorem dX10_rollsTo_15 : decode cX10_rollsTo 15 = .ok (.invokevirtual 198, 3) := by decide +kernel
theorem dX10_rollsTo_18 : decode cX10_rollsTo 18 = .ok (.ifCond .eq 22, 3) := by decide +kernel
theorem dX10_rollsTo_21 : decode cX10_rollsTo 21 = .ok (.aload_n 0, 1) := by decide +kernel
theorem dX10_rollsTo_22 : decode cX10_rollsTo 22 = .ok (.getfield 53, 3) := by decide +kernel
theorem dX10_rollsTo_25 : decode cX10_rollsTo 25 = .ok (.iload_n 3, 1) := by decide +kernel
theorem dX10_rollsTo_26 : decode cX10_rollsTo 26 = .ok (.iaload, 1) := by decide +kernel
theorem dX10_rollsTo_27 : decode cX10_rollsTo 27 = .ok (.aload_n 0, 1) := by decide +kernel
theorem dX10_rollsTo_28 : decode cX10_rollsTo 28 = .ok (.getfield 53, 3) := by decide +kernel
theorem dX10_rollsTo_31 : decode cX10_rollsTo 31 = .ok (.iload_n 2, 1) := by decide +kernel
theorem dX10_rollsTo_32 : decode cX10_rollsTo 32 = .ok (.iaload, 1) := by decide +kernel
theorem dX10_rollsTo_33 : decode cX10_rollsTo 33 = .ok (.if_icmp .ge 7, 3) := by decide +kernel
theorem dX10_rollsTo_36 : decode cX10_rollsTo 36 = .ok (.iload_n 3, 1) := by decide +kernel
theorem dX10_rollsTo_37 : decode cX10_rollsTo 37 = .ok (.goto 4, 3) := by decide +kernel
theorem dX10_rollsTo_40 : decode cX10_rollsTo 40 = .ok (.iload_n 2, 1) := by decide +kernel
theorem dX10_rollsTo_41 : decode cX10_rollsTo 41 = .ok (.istore_n 2, 1) := by decide +kernel
theorem dX10_rollsTo_42 : decode cX10_rollsTo 42 = .ok (.iinc 3 1, 3) := by decide +kernel
theorem dX10_rollsTo_45 : decode cX10_rollsTo 45 = .ok (.goto (-41), 3) := by decide +kernel
theorem dX10_rollsTo_48 : decode cX10_rollsTo 48 = .ok (.iload_n 2, 1) := by decide +kernel
theorem dX10_rollsTo_49 : decode cX10_rollsTo 49 = .ok (.ireturn, 1) := by decide +kernel
set_option maxRecDepth 20000 in
theorem ggX10_restOf_X10_rollsTo : GoodIn wsX10_restOf wsX10_rollsTo := goodIn_r _ [5, 6, 7, 8, 9, 4, 10, 11, 12, 13, 14, 15, 16, 17, 18, 19, 20, 21, 22, 23, 24, 25, 26, 27, 28, 29, 30, 31, 32, 33, 34, 35, 36, 37, 38, 39, 40, 41, 42, 43, 44, 45, 46, 47, 48, 49, 50, 51, 52, 53, 54, 55] (by decide +kernel) (by decide +kernel)
set_option maxRecDepth 20000 in
theorem gX10_restOf_X10_rollsTo : GoodIn wsX10_restOf (wsV RX10 201 RX10 yX10_rollsTo wsX10_rollsTo) := goodIn_app (goodIn_of _ (by decide +kernel)) ggX10_restOf_X10_rollsTo
theorem dX10_restOf_0 : decode cX10_restOf 0 = .ok (.iload_n 1, 1) := by decide +kernel
theorem dX10_restOf_1 : decode cX10_restOf 1 = .ok (.istore_n 2, 1) := by decide +kernel
theorem dX10_restOf_2 : decode cX10_restOf 2 = .ok (.aload_n 0, 1) := by decide +kernel
theorem dX10_restOf_3 : decode cX10_restOf 3 = .ok (.iload_n 1, 1) := by decide +kernel
theorem dX10_restOf_4 : decode cX10_restOf 4 = .ok (.invokevirtual 201, 3) := by decide +kernel
theorem dX10_restOf_7 : decode cX10_restOf 7 = .ok (.istore_n 3, 1) := by decide +kernel
theorem dX10_restOf_8 : decode cX10_restOf 8 = .ok (.iload_n 3, 1) := by decide +kernel
theorem dX10_restOf_9 : decode cX10_restOf 9 = .ok (.iload_n 2, 1) := by decide +kernel
theorem dX10_restOf_10 : decode cX10_restOf 10 = .ok (.if_icmp .eq 14, 3) := by decide +kernel
theorem dX10_restOf_13 : decode cX10_restOf 13 = .ok (.iload_n 3, 1) := by decide +kernel
theorem dX10_restOf_14 : decode cX10_restOf 14 = .ok (.istore_n 2, 1) := by decide +kernel
theorem dX10_restOf_15 : decode cX10_restOf 15 = .ok (.aload_n 0, 1) := by decide +kernel
theorem dX10_restOf_16 : decode cX10_restOf 16 = .ok (.iload_n 2, 1) := by decide +kernel
theorem dX10_restOf_17 : decode cX10_restOf 17 = .ok (.invokevirtual 201, 3) := by decide +kernel
theorem dX10_restOf_20 : decode cX10_restOf 20 = .ok (.istore_n 3, 1) := by decide +kernel
theorem dX10_restOf_21 : decode cX10_restOf 21 = .ok (.goto (-13), 3) := by decide +kernel
theorem dX10_restOf_24 : decode cX10_restOf 24 = .ok (.iload_n 2, 1) := by decide +kernel
theorem dX10_restOf_25 : decode cX10_restOf 25 = .ok (.ireturn, 1) := by decide +kernel
set_option maxRecDepth 20000 in
theorem ggX10_lookNow_X10_standNow : GoodIn wsX10_lookNow wsX10_standNow := goodIn_r _ [5, 6, 7, 8, 9, 10, 4, 11, 12, 13, 14, 15, 16, 17, 18, 19, 20, 21, 22, 23, 54, 55, 56, 57, 58, 59, 60, 61, 62, 63, 64, 65, 66, 67, 68, 69, 70, 71, 72, 73, 74, 75, 76, 77, 78, 79, 80, 81, 82, 83, 84, 85, 86, 87, 88, 89, 90, 91, 92] (by decide +kernel) (by decide +kernel)
set_option maxRecDepth 20000 in
theorem gX10_lookNow_X10_standNow : GoodIn wsX10_lookNow (wsV RX10 204 RX10 yX10_standNow wsX10_standNow) := goodIn_app (goodIn_of _ (by decide +kernel)) ggX10_lookNow_X10_standNow
set_option maxRecDepth 20000 in
theorem ggX10_lookNow_X10_findHeights : GoodIn wsX10_lookNow wsX10_findHeights := goodIn_r _ [27, 28, 29, 30, 31, 4, 32, 33, 34, 35, 36, 37, 38, 39, 7, 40, 41, 42, 43, 44, 45, 6, 46, 47, 48, 49, 50, 51, 52, 53, 54, 55, 56, 57, 58, 59, 60, 61, 62, 63, 64, 65, 66, 67, 68, 69, 70, 71, 72, 73, 74, 75, 76, 77, 78, 79, 80, 81, 82, 83, 84, 85, 86, 87, 88, 89, 90, 91, 92] (by decide +kernel) (by decide +kernel)
set_option maxRecDepth 20000 in
theorem gX10_lookNow_X10_findHeights : GoodIn wsX10_lookNow (wsV RX10 207 RX10 yX10_findHeights wsX10_findHeights) := goodIn_app (goodIn_of _ (by decide +kernel)) ggX10_lookNow_X10_findHeights
theorem dX10_lookNow_0 : decode cX10_lookNow 0 = .ok (.aload_n 0, 1) := by decide +kernel
theorem dX10_lookNow_1 : decode cX10_lookNow 1 = .ok (.invokevirtual 204, 3) := by decide +kernel
theorem dX10_lookNow_4 : decode cX10_lookNow 4 = .ok (.istore_n 1, 1) := by decide +kernel
theorem dX10_lookNow_5 : decode cX10_lookNow 5 = .ok (.aload_n 0, 1) := by decide +kernel
theorem dX10_lookNow_6 : decode cX10_lookNow 6 = .ok (.invokevirtual 207, 3) := by decide +kernel
theorem dX10_lookNow_9 : decode cX10_lookNow 9 = .ok (.return_, 1) := by decide +kernel
set_option maxRecDepth 20000 in
theorem ggX10_pools_X10_lookNow : GoodIn wsX10_pools wsX10_lookNow := goodIn_r _ [5, 6, 7, 8, 4, 9, 10, 11, 12, 13, 14, 15, 16, 17, 18, 19, 20, 21, 22, 23, 24, 25, 26, 27, 28, 29, 30, 31, 32, 33, 34, 35, 36, 37, 38, 39, 40, 41, 42, 43, 44, 45, 46, 47, 48, 49, 50, 51, 52, 53, 54, 55, 56, 57, 70, 71, 72, 73, 74, 75, 76, 77, 78, 79, 80, 81, 82, 83, 84, 85, 86, 87, 88, 89, 90, 91, 92, 93, 94, 95, 96, 97, 98, 99, 100, 101, 102, 103, 104, 105, 106, 107, 108] (by decide +kernel) (by decide +kernel)
set_option maxRecDepth 20000 in
theorem gX10_pools_X10_lookNow : GoodIn wsX10_pools (wsV RX10 210 RX10 yX10_lookNow wsX10_lookNow) := goodIn_app (goodIn_of _ (by decide +kernel)) ggX10_pools_X10_lookNow
set_option maxRecDepth 20000 in
theorem ggX10_pools_X10_cells : GoodIn wsX10_pools wsX10_cells := goodIn_r _ [36, 37, 38, 70, 71, 72, 73, 74, 75, 76, 77, 78, 79, 80, 81, 82, 83, 84, 85, 86, 87, 88, 89, 90, 91, 92, 93, 94, 95, 96, 97, 98, 99, 100, 101, 102, 103, 104, 105, 106, 107, 108] (by decide +kernel) (by decide +kernel)
set_option maxRecDepth 20000 in
theorem gX10_pools_X10_cells : GoodIn wsX10_pools (wsV RX10 90 RX10 yX10_cells wsX10_cells) := goodIn_app (goodIn_of _ (by decide +kernel)) ggX10_pools_X10_cells
set_option maxRecDepth 20000 in
theorem ggX10_pools_X10_restOf : GoodIn wsX10_pools wsX10_restOf := goodIn_r _ [61, 62, 63, 64, 4, 65, 32, 33, 34, 35, 36, 37, 38, 66, 67, 68, 69, 70, 71, 72, 73, 74, 75, 76, 77, 78, 79, 80, 81, 82, 83, 84, 85, 86, 87, 88, 89, 90, 91, 92, 93, 94, 95, 96, 97, 98, 99, 100, 101, 102, 103, 104, 105, 106, 107, 108] (by decide +kernel) (by decide +kernel)
set_option maxRecDepth 20000 in
theorem gX10_pools_X10_restOf : GoodIn wsX10_pools (wsV RX10 213 RX10 yX10_restOf wsX10_restOf) := goodIn_app (goodIn_of _ (by decide +kernel)) ggX10_pools_X10_restOf
theorem dX10_pools_0 : decode cX10_pools 0 = .ok (.aload_n 0, 1) := by decide +kernel
theorem dX10_pools_1 : decode cX10_pools 1 = .ok (.invokevirtual 210, 3) := by decide +kernel
theorem dX10_pools_4 : decode cX10_pools 4 = .ok (.iconst 0, 1) := by decide +kernel
theorem dX10_pools_5 : decode cX10_pools 5 = .ok (.istore_n 1, 1) := by decide +kernel
theorem dX10_pools_6 : decode cX10_pools 6 = .ok (.iconst 0, 1) := by decide +kernel
theorem dX10_pools_7 : decode cX10_pools 7 = .ok (.istore_n 2, 1) := by decide +kernel
theorem dX10_pools_8 : decode cX10_pools 8 = .ok (.iload_n 2, 1) := by decide +kernel
theorem dX10_pools_9 : decode cX10_pools 9 = .ok (.aload_n 0, 1) := by decide +kernel
theorem dX10_pools_10 : decode cX10_pools 10 = .ok (.invokevirtual 90, 3) := by decide +kernel
theorem dX10_pools_13 : decode cX10_pools 13 = .ok (.if_icmp .ge 19, 3) := by decide +kernel
theorem dX10_pools_16 : decode cX10_pools 16 = .ok (.iload_n 1, 1) := by decide +kernel
theorem dX10_pools_17 : decode cX10_pools 17 = .ok (.iconst 1, 1) := by decide +kernel
theorem dX10_pools_18 : decode cX10_pools 18 = .ok (.aload_n 0, 1) := by decide +kernel
theorem dX10_pools_19 : decode cX10_pools 19 = .ok (.iload_n 2, 1) := by decide +kernel
theorem dX10_pools_20 : decode cX10_pools 20 = .ok (.invokevirtual 213, 3) := by decide +kernel
theorem dX10_pools_23 : decode cX10_pools 23 = .ok (.ishl, 1) := by decide +kernel
theorem dX10_pools_24 : decode cX10_pools 24 = .ok (.ior, 1) := by decide +kernel
theorem dX10_pools_25 : decode cX10_pools 25 = .ok (.istore_n 1, 1) := by decide +kernel
theorem dX10_pools_26 : decode cX10_pools 26 = .ok (.iinc 2 1, 3) := by decide +kernel
theorem dX10_pools_29 : decode cX10_pools 29 = .ok (.goto (-21), 3) := by decide +kernel
theorem dX10_pools_32 : decode cX10_pools 32 = .ok (.iload_n 1, 1) := by decide +kernel
theorem dX10_pools_33 : decode cX10_pools 33 = .ok (.ireturn, 1) := by decide +kernel
set_option maxRecDepth 20000 in
theorem ggX10_downhill_X10_standNow : GoodIn wsX10_downhill wsX10_standNow := goodIn_r _ [9, 2, 4, 10, 11, 12, 8, 13, 14, 15, 16, 17, 1, 3, 18, 19, 20, 21, 22, 23, 24, 25, 26, 27, 28, 29, 30, 31, 32, 33, 34, 35, 36, 37, 38, 39, 40, 41, 42, 43, 44, 45, 46, 47, 48, 49, 50, 51, 52, 53, 54, 55, 56, 57, 58, 59, 60, 61, 62] (by decide +kernel) (by decide +kernel)
set_option maxRecDepth 20000 in
theorem gX10_downhill_X10_standNow : GoodIn wsX10_downhill (wsV RX10 204 RX10 yX10_standNow wsX10_standNow) := goodIn_app (goodIn_of _ (by decide +kernel)) ggX10_downhill_X10_standNow
theorem dX10_downhill_0 : decode cX10_downhill 0 = .ok (.aload_n 0, 1) := by decide +kernel
theorem dX10_downhill_1 : decode cX10_downhill 1 = .ok (.invokevirtual 204, 3) := by decide +kernel
theorem dX10_downhill_4 : decode cX10_downhill 4 = .ok (.istore_n 1, 1) := by decide +kernel
theorem dX10_downhill_5 : decode cX10_downhill 5 = .ok (.iconst 0, 1) := by decide +kernel
theorem dX10_downhill_6 : decode cX10_downhill 6 = .ok (.istore_n 2, 1) := by decide +kernel
theorem dX10_downhill_7 : decode cX10_downhill 7 = .ok (.iconst 0, 1) := by decide +kernel
theorem dX10_downhill_8 : decode cX10_downhill 8 = .ok (.istore_n 3, 1) := by decide +kernel
theorem dX10_downhill_9 : decode cX10_downhill 9 = .ok (.iload_n 3, 1) := by decide +kernel
theorem dX10_downhill_10 : decode cX10_downhill 10 = .ok (.aload_n 0, 1) := by decide +kernel
theorem dX10_downhill_11 : decode cX10_downhill 11 = .ok (.getfield 101, 3) := by decide +kernel
theorem dX10_downhill_14 : decode cX10_downhill 14 = .ok (.if_icmp .ge 93, 3) := by decide +kernel
theorem dX10_downhill_17 : decode cX10_downhill 17 = .ok (.iconst 0, 1) := by decide +kernel
theorem dX10_downhill_18 : decode cX10_downhill 18 = .ok (.istore 4, 2) := by decide +kernel
theorem dX10_downhill_20 : decode cX10_downhill 20 = .ok (.iconst 0, 1) := by decide +kernel
theorem dX10_downhill_21 : decode cX10_downhill 21 = .ok (.istore 5, 2) := by decide +kernel
theorem dX10_downhill_23 : decode cX10_downhill 23 = .ok (.iload 5, 2) := by decide +kernel
theorem dX10_downhill_25 : decode cX10_downhill 25 = .ok (.aload_n 0, 1) := by decide +kernel
theorem dX10_downhill_26 : decode cX10_downhill 26 = .ok (.getfield 98, 3) := by decide +kernel
theorem dX10_downhill_29 : decode cX10_downhill 29 = .ok (.if_icmp .ge 57, 3) := by decide +kernel
theorem dX10_downhill_32 : decode cX10_downhill 32 = .ok (.aload_n 0, 1) := by decide +kernel
theorem dX10_downhill_33 : decode cX10_downhill 33 = .ok (.getfield 22, 3) := by decide +kernel
theorem dX10_downhill_36 : decode cX10_downhill 36 = .ok (.iconst 5, 1) := by decide +kernel
theorem dX10_downhill_37 : decode cX10_downhill 37 = .ok (.iload_n 3, 1) := by decide +kernel
theorem dX10_downhill_38 : decode cX10_downhill 38 = .ok (.imul, 1) := by decide +kernel
theorem dX10_downhill_39 : decode cX10_downhill 39 = .ok (.iload 5, 2) := by decide +kernel
theorem dX10_downhill_41 : decode cX10_downhill 41 = .ok (.iadd, 1) := by decide +kernel
theorem dX10_downhill_42 : decode cX10_downhill 42 = .ok (.iaload, 1) := by decide +kernel
theorem dX10_downhill_43 : decode cX10_downhill 43 = .ok (.istore 6, 2) := by decide +kernel
theorem dX10_downhill_45 : decode cX10_downhill 45 = .ok (.iload 4, 2) := by decide +kernel
theorem dX10_downhill_47 : decode cX10_downhill 47 = .ok (.aload_n 0, 1) := by decide +kernel
theorem dX10_downhill_48 : decode cX10_downhill 48 = .ok (.getfield 50, 3) := by decide +kernel
theorem dX10_downhill_51 : decode cX10_downhill 51 = .ok (.iload 5, 2) := by decide +kernel
theorem dX10_downhill_53 : decode cX10_downhill 53 = .ok (.iaload, 1) := by decide +kernel
theorem dX10_downhill_54 : decode cX10_downhill 54 = .ok (.ifCond .eq 9, 3) := by decide +kernel
theorem dX10_downhill_57 : decode cX10_downhill 57 = .ok (.iload 6, 2) := by decide +kernel
theorem dX10_downhill_59 : decode cX10_downhill 59 = .ok (.iconst 2, 1) := by decide +kernel
theorem dX10_downhill_60 : decode cX10_downhill 60 = .ok (.if_icmp .ne 7, 3) := by decide +kernel
theorem dX10_downhill_63 : decode cX10_downhill 63 = .ok (.iconst 0, 1) := by decide +kernel
theorem dX10_downhill_64 : decode cX10_downhill 64 = .ok (.goto 13, 3) := by decide +kernel
theorem dX10_downhill_67 : decode cX10_downhill 67 = .ok (.iload 6, 2) := by decide +kernel
theorem dX10_downhill_69 : decode cX10_downhill 69 = .ok (.ifCond .ne 7, 3) := by decide +kernel
theorem dX10_downhill_72 : decode cX10_downhill 72 = .ok (.iconst 1, 1) := by decide +kernel
theorem dX10_downhill_73 : decode cX10_downhill 73 = .ok (.goto 4, 3) := by decide +kernel
theorem dX10_downhill_76 : decode cX10_downhill 76 = .ok (.iconst (-1), 1) := by decide +kernel
theorem dX10_downhill_77 : decode cX10_downhill 77 = .ok (.iadd, 1) := by decide +kernel
theorem dX10_downhill_78 : decode cX10_downhill 78 = .ok (.istore 4, 2) := by decide +kernel
theorem dX10_downhill_80 : decode cX10_downhill 80 = .ok (.iinc 5 1, 3) := by decide +kernel
theorem dX10_downhill_83 : decode cX10_downhill 83 = .ok (.goto (-60), 3) := by decide +kernel
theorem dX10_downhill_86 : decode cX10_downhill 86 = .ok (.iload_n 2, 1) := by decide +kernel
theorem dX10_downhill_87 : decode cX10_downhill 87 = .ok (.iload 4, 2) := by decide +kernel
theorem dX10_downhill_89 : decode cX10_downhill 89 = .ok (.ifCond .le 9, 3) := by decide +kernel
theorem dX10_downhill_92 : decode cX10_downhill 92 = .ok (.iconst 1, 1) := by decide +kernel
theorem dX10_downhill_93 : decode cX10_downhill 93 = .ok (.iload_n 3, 1) := by decide +kernel
theorem dX10_downhill_94 : decode cX10_downhill 94 = .ok (.ishl, 1) := by decide +kernel
theorem dX10_downhill_95 : decode cX10_downhill 95 = .ok (.goto 4, 3) := by decide +kernel
theorem dX10_downhill_98 : decode cX10_downhill 98 = .ok (.iconst 0, 1) := by decide +kernel
theorem dX10_downhill_99 : decode cX10_downhill 99 = .ok (.ior, 1) := by decide +kernel
theorem dX10_downhill_100 : decode cX10_downhill 100 = .ok (.istore_n 2, 1) := by decide +kernel
theorem dX10_downhill_101 : decode cX10_downhill 101 = .ok (.iinc 3 1, 3) := by decide +kernel
theorem dX10_downhill_104 : decode cX10_downhill 104 = .ok (.goto (-95), 3) := by decide +kernel
theorem dX10_downhill_107 : decode cX10_downhill 107 = .ok (.iload_n 2, 1) := by decide +kernel
theorem dX10_downhill_108 : decode cX10_downhill 108 = .ok (.ireturn, 1) := by decide +kernel
set_option maxRecDepth 20000 in
theorem ggX10_told_X10_standNow : GoodIn wsX10_told wsX10_standNow := goodIn_r _ [15, 3, 16, 17, 18, 19, 14, 20, 21, 22, 23, 24, 4, 6, 25, 26, 27, 28, 29, 30, 83, 84, 85, 86, 87, 88, 89, 90, 91, 92, 93, 94, 95, 96, 97, 98, 99, 100, 101, 102, 103, 104, 105, 106, 107, 108, 109, 110, 111, 112, 113, 114, 115, 116, 117, 118, 119, 120, 121] (by decide +kernel) (by decide +kernel)
set_option maxRecDepth 20000 in
theorem gX10_told_X10_standNow : GoodIn wsX10_told (wsV RX10 204 RX10 yX10_standNow wsX10_standNow) := goodIn_app (goodIn_of _ (by decide +kernel)) ggX10_told_X10_standNow
set_option maxRecDepth 20000 in
theorem ggX10_told_X10_downhill : GoodIn wsX10_told wsX10_downhill := goodIn_r _ [34, 4, 3, 6, 16, 11, 12, 13, 14, 15, 17, 18, 19, 20, 21, 22, 23, 24, 25, 26, 27, 28, 29, 30, 83, 84, 85, 86, 87, 88, 89, 90, 91, 92, 93, 94, 95, 96, 97, 98, 99, 100, 101, 102, 103, 104, 105, 106, 107, 108, 109, 110, 111, 112, 113, 114, 115, 116, 117, 118, 119, 120, 121] (by decide +kernel) (by decide +kernel)
set_option maxRecDepth 20000 in
theorem gX10_told_X10_downhill : GoodIn wsX10_told (wsV RX10 216 RX10 yX10_downhill wsX10_downhill) := goodIn_app (goodIn_of _ (by decide +kernel)) ggX10_told_X10_downhill
set_option maxRecDepth 20000 in
theorem ggX10_told_X10_pools : GoodIn wsX10_told wsX10_pools := goodIn_r _ [38, 39, 40, 41, 14, 42, 11, 12, 13, 15, 3, 16, 17, 18, 19, 20, 21, 22, 23, 24, 4, 6, 25, 26, 27, 28, 29, 30, 43, 44, 45, 46, 47, 48, 49, 50, 51, 1, 2, 52, 53, 54, 55, 56, 57, 58, 59, 60, 61, 62, 63, 64, 65, 66, 67, 68, 69, 70, 71, 72, 73, 74, 75, 76, 77, 78, 79, 80, 81, 82, 83, 84, 85, 86, 87, 88, 89, 90, 91, 92, 93, 94, 95, 96, 97, 98, 99, 100, 101, 102, 103, 104, 105, 106, 107, 108, 109, 110, 111, 112, 113, 114, 115, 116, 117, 118, 119, 120, 121] (by decide +kernel) (by decide +kernel)
set_option maxRecDepth 20000 in
theorem gX10_told_X10_pools : GoodIn wsX10_told (wsV RX10 219 RX10 yX10_pools wsX10_pools) := goodIn_app (goodIn_of _ (by decide +kernel)) ggX10_told_X10_pools
theorem dX10_told_0 : decode cX10_told 0 = .ok (.iload_n 1, 1) := by decide +kernel
theorem dX10_told_1 : decode cX10_told 1 = .ok (.tableswitch 138 0 12 #[67, 72, 77, 82, 87, 92, 100, 105, 113, 118, 123, 128, 133], 67) := by decide +kernel
theorem dX10_told_68 : decode cX10_told 68 = .ok (.aload_n 0, 1) := by decide +kernel
theorem dX10_told_69 : decode cX10_told 69 = .ok (.getfield 84, 3) := by decide +kernel
theorem dX10_told_72 : decode cX10_told 72 = .ok (.ireturn, 1) := by decide +kernel
theorem dX10_told_73 : decode cX10_told 73 = .ok (.aload_n 0, 1) := by decide +kernel
theorem dX10_told_74 : decode cX10_told 74 = .ok (.getfield 87, 3) := by decide +kernel
theorem dX10_told_77 : decode cX10_told 77 = .ok (.ireturn, 1) := by decide +kernel
theorem dX10_told_78 : decode cX10_told 78 = .ok (.aload_n 0, 1) := by decide +kernel
theorem dX10_told_79 : decode cX10_told 79 = .ok (.getfield 98, 3) := by decide +kernel
theorem dX10_told_82 : decode cX10_told 82 = .ok (.ireturn, 1) := by decide +kernel
theorem dX10_told_83 : decode cX10_told 83 = .ok (.aload_n 0, 1) := by decide +kernel
theorem dX10_told_84 : decode cX10_told 84 = .ok (.getfield 101, 3) := by decide +kernel
theorem dX10_told_87 : decode cX10_told 87 = .ok (.ireturn, 1) := by decide +kernel
theorem dX10_told_88 : decode cX10_told 88 = .ok (.aload_n 0, 1) := by decide +kernel
theorem dX10_told_89 : decode cX10_told 89 = .ok (.getfield 107, 3) := by decide +kernel
theorem dX10_told_92 : decode cX10_told 92 = .ok (.ireturn, 1) := by decide +kernel
theorem dX10_told_93 : decode cX10_told 93 = .ok (.aload_n 0, 1) := by decide +kernel
theorem dX10_told_94 : decode cX10_told 94 = .ok (.getfield 22, 3) := by decide +kernel
theorem dX10_told_97 : decode cX10_told 97 = .ok (.bipush 35, 2) := by decide +kernel
theorem dX10_told_99 : decode cX10_told 99 = .ok (.iaload, 1) := by decide +kernel
theorem dX10_told_100 : decode cX10_told 100 = .ok (.ireturn, 1) := by decide +kernel
theorem dX10_told_101 : decode cX10_told 101 = .ok (.aload_n 0, 1) := by decide +kernel
theorem dX10_told_102 : decode cX10_told 102 = .ok (.invokevirtual 204, 3) := by decide +kernel
theorem dX10_told_105 : decode cX10_told 105 = .ok (.ireturn, 1) := by decide +kernel
theorem dX10_told_106 : decode cX10_told 106 = .ok (.aload_n 0, 1) := by decide +kernel
theorem dX10_told_107 : decode cX10_told 107 = .ok (.getfield 22, 3) := by decide +kernel
theorem dX10_told_110 : decode cX10_told 110 = .ok (.bipush 36, 2) := by decide +kernel
theorem dX10_told_112 : decode cX10_told 112 = .ok (.iaload, 1) := by decide +kernel
theorem dX10_told_113 : decode cX10_told 113 = .ok (.ireturn, 1) := by decide +kernel
theorem dX10_told_114 : decode cX10_told 114 = .ok (.aload_n 0, 1) := by decide +kernel
theorem dX10_told_115 : decode cX10_told 115 = .ok (.invokevirtual 216, 3) := by decide +kernel
theorem dX10_told_118 : decode cX10_told 118 = .ok (.ireturn, 1) := by decide +kernel
theorem dX10_told_119 : decode cX10_told 119 = .ok (.aload_n 0, 1) := by decide +kernel
theorem dX10_told_120 : decode cX10_told 120 = .ok (.invokevirtual 219, 3) := by decide +kernel
theorem dX10_told_123 : decode cX10_told 123 = .ok (.ireturn, 1) := by decide +kernel
theorem dX10_told_124 : decode cX10_told 124 = .ok (.aload_n 0, 1) := by decide +kernel
theorem dX10_told_125 : decode cX10_told 125 = .ok (.getfield 166, 3) := by decide +kernel
theorem dX10_told_128 : decode cX10_told 128 = .ok (.ireturn, 1) := by decide +kernel
theorem dX10_told_129 : decode cX10_told 129 = .ok (.aload_n 0, 1) := by decide +kernel
theorem dX10_told_130 : decode cX10_told 130 = .ok (.getfield 169, 3) := by decide +kernel
theorem dX10_told_133 : decode cX10_told 133 = .ok (.ireturn, 1) := by decide +kernel
theorem dX10_told_134 : decode cX10_told 134 = .ok (.aload_n 0, 1) := by decide +kernel
theorem dX10_told_135 : decode cX10_told 135 = .ok (.getfield 172, 3) := by decide +kernel
theorem dX10_told_138 : decode cX10_told 138 = .ok (.ireturn, 1) := by decide +kernel
theorem dX10_told_139 : decode cX10_told 139 = .ok (.ldc 106, 2) := by decide +kernel
theorem dX10_told_141 : decode cX10_told 141 = .ok (.ireturn, 1) := by decide +kernel
set_option maxRecDepth 20000 in
theorem ggX10_cell_X10_isCell : GoodIn wsX10_cell wsX10_isCell := goodIn_r _ [9, 10, 11, 12, 8, 13, 14, 15, 16, 17, 18, 64, 65, 66, 67, 68, 69, 70, 71, 72, 73, 74, 75, 76, 77, 78, 79, 80, 81, 82, 83, 84, 85, 86, 87, 88, 89, 90, 91, 92, 93, 94, 95, 96, 97, 98, 99, 100, 101, 102] (by decide +kernel) (by decide +kernel)
set_option maxRecDepth 20000 in
theorem gX10_cell_X10_isCell : GoodIn wsX10_cell (wsV RX10 222 RX10 yX10_isCell wsX10_isCell) := goodIn_app (goodIn_of _ (by decide +kernel)) ggX10_cell_X10_isCell
set_option maxRecDepth 20000 in
theorem ggX10_cell_X10_lookNow : GoodIn wsX10_cell wsX10_lookNow := goodIn_r _ [22, 23, 24, 25, 8, 26, 27, 28, 29, 30, 31, 32, 33, 34, 35, 36, 37, 38, 39, 40, 41, 42, 43, 44, 45, 46, 47, 48, 2, 10, 11, 12, 13, 14, 15, 49, 50, 51, 52, 3, 53, 54, 55, 56, 57, 58, 59, 60, 61, 62, 63, 16, 17, 18, 64, 65, 66, 67, 68, 69, 70, 71, 72, 73, 74, 75, 76, 77, 78, 79, 80, 81, 82, 83, 84, 85, 86, 87, 88, 89, 90, 91, 92, 93, 94, 95, 96, 97, 98, 99, 100, 101, 102] (by decide +kernel) (by decide +kernel)
set_option maxRecDepth 20000 in
theorem gX10_cell_X10_lookNow : GoodIn wsX10_cell (wsV RX10 210 RX10 yX10_lookNow wsX10_lookNow) := goodIn_app (goodIn_of _ (by decide +kernel)) ggX10_cell_X10_lookNow
set_option maxRecDepth 20000 in
theorem ggX10_cell_X10_itemOf : GoodIn wsX10_cell wsX10_itemOf := goodIn_r _ [58, 27, 28, 59, 60, 61, 8, 62, 14, 53, 63, 16, 17, 18, 64, 65, 66, 67, 68, 69, 70, 71, 72, 73, 74, 75, 76, 77, 78, 79, 80, 81, 82, 83, 84, 85, 86, 87, 88, 89, 90, 91, 92, 93, 94, 95, 96, 97, 98, 99, 100, 101, 102] (by decide +kernel) (by decide +kernel)
set_option maxRecDepth 20000 in
theorem gX10_cell_X10_itemOf : GoodIn wsX10_cell (wsV RX10 192 RX10 yX10_itemOf wsX10_itemOf) := goodIn_app (goodIn_of _ (by decide +kernel)) ggX10_cell_X10_itemOf
