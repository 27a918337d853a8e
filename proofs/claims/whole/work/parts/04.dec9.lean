set_option maxRecDepth 20000 in
theorem ggX9_init_X7_init : GoodIn wsX9_init wsX7_init := goodIn_r _ [46, 47, 2, 3, 40, 48, 49, 96, 97, 98, 99, 100, 101] (by decide +kernel) (by decide +kernel)
set_option maxRecDepth 20000 in
theorem gX9_init_X7_init_n9 : GoodIn wsX9_init (wsX7_init) := ggX9_init_X7_init
set_option maxRecDepth 20000 in
theorem ggX9_init_X4_init : GoodIn wsX9_init wsX4_init := goodIn_r _ [51, 52, 2, 3, 40, 53, 54, 55, 56, 57, 15, 16, 58, 59, 60, 61, 62, 63, 64, 115, 116, 117, 118, 119, 120, 121, 122, 123, 124, 125, 126, 127, 128, 129] (by decide +kernel) (by decide +kernel)
set_option maxRecDepth 20000 in
theorem gX9_init_X4_init_n18 : GoodIn wsX9_init (wsX4_init) := ggX9_init_X4_init
set_option maxRecDepth 20000 in
theorem ggX9_init_X0_init : GoodIn wsX9_init wsX0_init := goodIn_r _ [60, 61, 2, 3, 40, 62, 63, 64, 126, 127, 128, 129] (by decide +kernel) (by decide +kernel)
set_option maxRecDepth 20000 in
theorem gX9_init_X0_init_n32 : GoodIn wsX9_init (wsX0_init) := ggX9_init_X0_init
set_option maxRecDepth 20000 in
theorem ggX9_init_X3_init : GoodIn wsX9_init wsX3_init := goodIn_r _ [67, 68, 2, 3, 69, 70, 15, 16, 59, 60, 61, 40, 62, 63, 64, 130, 131, 132, 126, 127, 128, 129] (by decide +kernel) (by decide +kernel)
set_option maxRecDepth 20000 in
theorem gX9_init_X3_init : GoodIn wsX9_init (wsX3_init) := ggX9_init_X3_init
set_option maxRecDepth 20000 in
theorem ggX9_init_X1_init : GoodIn wsX9_init wsX1_init := goodIn_r _ [72, 73, 2, 3] (by decide +kernel) (by decide +kernel)
set_option maxRecDepth 20000 in
theorem gX9_init_X1_init_n52 : GoodIn wsX9_init (wsX1_init) := ggX9_init_X1_init
set_option maxRecDepth 20000 in
theorem ggX9_init_X6_init : GoodIn wsX9_init wsX6_init := goodIn_r _ [75, 76, 2, 3, 40, 77, 78, 79, 80, 134, 135, 136, 137, 138, 139] (by decide +kernel) (by decide +kernel)
set_option maxRecDepth 20000 in
theorem gX9_init_X6_init_n59 : GoodIn wsX9_init (wsX6_init) := ggX9_init_X6_init
set_option maxRecDepth 20000 in
theorem ggX9_init_X8_init : GoodIn wsX9_init wsX8_init := goodIn_r _ [82, 83, 2, 3, 40, 84, 140, 141] (by decide +kernel) (by decide +kernel)
set_option maxRecDepth 20000 in
theorem gX9_init_X8_init_n66 : GoodIn wsX9_init (wsX8_init) := ggX9_init_X8_init
set_option maxRecDepth 20000 in
theorem ggX9_init_X2_init : GoodIn wsX9_init wsX2_init := goodIn_r _ [86, 87, 2, 3, 40, 88, 89, 90, 142, 143, 144, 145, 146] (by decide +kernel) (by decide +kernel)
set_option maxRecDepth 20000 in
theorem gX9_init_X2_init_n73 : GoodIn wsX9_init (wsX2_init) := ggX9_init_X2_init
set_option maxRecDepth 20000 in
theorem ggX9_init_X5_init : GoodIn wsX9_init wsX5_init := goodIn_r _ [92, 93, 2, 3, 94, 15, 16, 95, 59, 60, 61, 40, 62, 63, 64, 126, 127, 128, 129, 147, 148, 149] (by decide +kernel) (by decide +kernel)
set_option maxRecDepth 20000 in
theorem gX9_init_X5_init_n85 : GoodIn wsX9_init (wsX5_init) := ggX9_init_X5_init
theorem dX9_init_0 : decode cX9_init 0 = .ok (.aload_n 0, 1) := by decide +kernel
theorem dX9_init_1 : decode cX9_init 1 = .ok (.invokespecial 1, 3) := by decide +kernel
theorem dX9_init_4 : decode cX9_init 4 = .ok (.aload_n 0, 1) := by decide +kernel
theorem dX9_init_5 : decode cX9_init 5 = .ok (.new 7, 3) := by decide +kernel
theorem dX9_init_8 : decode cX9_init 8 = .ok (.dup, 1) := by decide +kernel
theorem dX9_init_9 : decode cX9_init 9 = .ok (.invokespecial 9, 3) := by decide +kernel
theorem dX9_init_12 : decode cX9_init 12 = .ok (.putfield 10, 3) := by decide +kernel
theorem dX9_init_15 : decode cX9_init 15 = .ok (.aload_n 0, 1) := by decide +kernel
theorem dX9_init_16 : decode cX9_init 16 = .ok (.new 16, 3) := by decide +kernel
theorem dX9_init_19 : decode cX9_init 19 = .ok (.dup, 1) := by decide +kernel
theorem dX9_init_20 : decode cX9_init 20 = .ok (.invokespecial 18, 3) := by decide +kernel
theorem dX9_init_23 : decode cX9_init 23 = .ok (.putfield 19, 3) := by decide +kernel
theorem dX9_init_26 : decode cX9_init 26 = .ok (.aload_n 0, 1) := by decide +kernel
theorem dX9_init_27 : decode cX9_init 27 = .ok (.new 16, 3) := by decide +kernel
theorem dX9_init_30 : decode cX9_init 30 = .ok (.dup, 1) := by decide +kernel
theorem dX9_init_31 : decode cX9_init 31 = .ok (.invokespecial 18, 3) := by decide +kernel
theorem dX9_init_34 : decode cX9_init 34 = .ok (.putfield 23, 3) := by decide +kernel
theorem dX9_init_37 : decode cX9_init 37 = .ok (.aload_n 0, 1) := by decide +kernel
theorem dX9_init_38 : decode cX9_init 38 = .ok (.iconst (-1), 1) := by decide +kernel
theorem dX9_init_39 : decode cX9_init 39 = .ok (.putfield 26, 3) := by decide +kernel
theorem dX9_init_42 : decode cX9_init 42 = .ok (.aload_n 0, 1) := by decide +kernel
theorem dX9_init_43 : decode cX9_init 43 = .ok (.new 30, 3) := by decide +kernel
theorem dX9_init_46 : decode cX9_init 46 = .ok (.dup, 1) := by decide +kernel
theorem dX9_init_47 : decode cX9_init 47 = .ok (.invokespecial 32, 3) := by decide +kernel
theorem dX9_init_50 : decode cX9_init 50 = .ok (.putfield 33, 3) := by decide +kernel
theorem dX9_init_53 : decode cX9_init 53 = .ok (.aload_n 0, 1) := by decide +kernel
theorem dX9_init_54 : decode cX9_init 54 = .ok (.new 37, 3) := by decide +kernel
theorem dX9_init_57 : decode cX9_init 57 = .ok (.dup, 1) := by decide +kernel
theorem dX9_init_58 : decode cX9_init 58 = .ok (.invokespecial 39, 3) := by decide +kernel
theorem dX9_init_61 : decode cX9_init 61 = .ok (.putfield 40, 3) := by decide +kernel
theorem dX9_init_64 : decode cX9_init 64 = .ok (.aload_n 0, 1) := by decide +kernel
theorem dX9_init_65 : decode cX9_init 65 = .ok (.iconst 2, 1) := by decide +kernel
theorem dX9_init_66 : decode cX9_init 66 = .ok (.anewarray 44, 3) := by decide +kernel
theorem dX9_init_69 : decode cX9_init 69 = .ok (.putfield 46, 3) := by decide +kernel
theorem dX9_init_72 : decode cX9_init 72 = .ok (.aload_n 0, 1) := by decide +kernel
theorem dX9_init_73 : decode cX9_init 73 = .ok (.new 50, 3) := by decide +kernel
theorem dX9_init_76 : decode cX9_init 76 = .ok (.dup, 1) := by decide +kernel
theorem dX9_init_77 : decode cX9_init 77 = .ok (.invokespecial 52, 3) := by decide +kernel
theorem dX9_init_80 : decode cX9_init 80 = .ok (.putfield 53, 3) := by decide +kernel
theorem dX9_init_83 : decode cX9_init 83 = .ok (.aload_n 0, 1) := by decide +kernel
theorem dX9_init_84 : decode cX9_init 84 = .ok (.new 57, 3) := by decide +kernel
theorem dX9_init_87 : decode cX9_init 87 = .ok (.dup, 1) := by decide +kernel
theorem dX9_init_88 : decode cX9_init 88 = .ok (.invokespecial 59, 3) := by decide +kernel
theorem dX9_init_91 : decode cX9_init 91 = .ok (.putfield 60, 3) := by decide +kernel
theorem dX9_init_94 : decode cX9_init 94 = .ok (.aload_n 0, 1) := by decide +kernel
theorem dX9_init_95 : decode cX9_init 95 = .ok (.new 64, 3) := by decide +kernel
theorem dX9_init_98 : decode cX9_init 98 = .ok (.dup, 1) := by decide +kernel
theorem dX9_init_99 : decode cX9_init 99 = .ok (.invokespecial 66, 3) := by decide +kernel
theorem dX9_init_102 : decode cX9_init 102 = .ok (.putfield 67, 3) := by decide +kernel
theorem dX9_init_105 : decode cX9_init 105 = .ok (.aload_n 0, 1) := by decide +kernel
theorem dX9_init_106 : decode cX9_init 106 = .ok (.new 71, 3) := by decide +kernel
theorem dX9_init_109 : decode cX9_init 109 = .ok (.dup, 1) := by decide +kernel
theorem dX9_init_110 : decode cX9_init 110 = .ok (.invokespecial 73, 3) := by decide +kernel
theorem dX9_init_113 : decode cX9_init 113 = .ok (.putfield 74, 3) := by decide +kernel
theorem dX9_init_116 : decode cX9_init 116 = .ok (.aload_n 0, 1) := by decide +kernel
theorem dX9_init_117 : decode cX9_init 117 = .ok (.bipush 15, 2) := by decide +kernel
theorem dX9_init_119 : decode cX9_init 119 = .ok (.newarray .int, 2) := by decide +kernel
theorem dX9_init_121 : decode cX9_init 121 = .ok (.putfield 78, 3) := by decide +kernel
theorem dX9_init_124 : decode cX9_init 124 = .ok (.aload_n 0, 1) := by decide +kernel
theorem dX9_init_125 : decode cX9_init 125 = .ok (.sipush 400, 3) := by decide +kernel
theorem dX9_init_128 : decode cX9_init 128 = .ok (.newarray .int, 2) := by decide +kernel
theorem dX9_init_130 : decode cX9_init 130 = .ok (.putfield 82, 3) := by decide +kernel
theorem dX9_init_133 : decode cX9_init 133 = .ok (.iconst 0, 1) := by decide +kernel
theorem dX9_init_134 : decode cX9_init 134 = .ok (.istore_n 1, 1) := by decide +kernel
theorem dX9_init_135 : decode cX9_init 135 = .ok (.iload_n 1, 1) := by decide +kernel
theorem dX9_init_136 : decode cX9_init 136 = .ok (.aload_n 0, 1) := by decide +kernel
theorem dX9_init_137 : decode cX9_init 137 = .ok (.getfield 46, 3) := by decide +kernel
theorem dX9_init_140 : decode cX9_init 140 = .ok (.arraylength, 1) := by decide +kernel
theorem dX9_init_141 : decode cX9_init 141 = .ok (.if_icmp .ge 22, 3) := by decide +kernel
theorem dX9_init_144 : decode cX9_init 144 = .ok (.aload_n 0, 1) := by decide +kernel
theorem dX9_init_145 : decode cX9_init 145 = .ok (.getfield 46, 3) := by decide +kernel
theorem dX9_init_148 : decode cX9_init 148 = .ok (.iload_n 1, 1) := by decide +kernel
theorem dX9_init_149 : decode cX9_init 149 = .ok (.new 44, 3) := by decide +kernel
theorem dX9_init_152 : decode cX9_init 152 = .ok (.dup, 1) := by decide +kernel
theorem dX9_init_153 : decode cX9_init 153 = .ok (.invokespecial 85, 3) := by decide +kernel
theorem dX9_init_156 : decode cX9_init 156 = .ok (.aastore, 1) := by decide +kernel
theorem dX9_init_157 : decode cX9_init 157 = .ok (.iinc 1 1, 3) := by decide +kernel
theorem dX9_init_160 : decode cX9_init 160 = .ok (.goto (-25), 3) := by decide +kernel
theorem dX9_init_163 : decode cX9_init 163 = .ok (.return_, 1) := by decide +kernel
set_option maxRecDepth 20000 in
theorem ggX9_feed_X7_isFull : GoodIn wsX9_feed wsX7_isFull := goodIn_r _ [9, 10, 11, 29, 30, 31, 32, 33, 34] (by decide +kernel) (by decide +kernel)
set_option maxRecDepth 20000 in
theorem gX9_feed_X7_isFull : GoodIn wsX9_feed (wsV RX9 87 RX7 yX7_isFull wsX7_isFull) := goodIn_app (goodIn_of _ (by decide +kernel)) ggX9_feed_X7_isFull
set_option maxRecDepth 20000 in
theorem ggX9_feed_X7_add : GoodIn wsX9_feed wsX7_add := goodIn_r _ [15, 10, 11, 29, 30, 31, 32, 33, 34] (by decide +kernel) (by decide +kernel)
set_option maxRecDepth 20000 in
theorem gX9_feed_X7_add : GoodIn wsX9_feed (wsV RX9 92 RX7 yX7_add wsX7_add) := goodIn_app (goodIn_of _ (by decide +kernel)) ggX9_feed_X7_add
theorem dX9_feed_0 : decode cX9_feed 0 = .ok (.iload_n 1, 1) := by decide +kernel
theorem dX9_feed_1 : decode cX9_feed 1 = .ok (.ifCond .lt 10, 3) := by decide +kernel
theorem dX9_feed_4 : decode cX9_feed 4 = .ok (.iload_n 1, 1) := by decide +kernel
theorem dX9_feed_5 : decode cX9_feed 5 = .ok (.sipush 255, 3) := by decide +kernel
theorem dX9_feed_8 : decode cX9_feed 8 = .ok (.if_icmp .le 6, 3) := by decide +kernel
theorem dX9_feed_11 : decode cX9_feed 11 = .ok (.ldc 86, 2) := by decide +kernel
theorem dX9_feed_13 : decode cX9_feed 13 = .ok (.ireturn, 1) := by decide +kernel
theorem dX9_feed_14 : decode cX9_feed 14 = .ok (.aload_n 0, 1) := by decide +kernel
theorem dX9_feed_15 : decode cX9_feed 15 = .ok (.getfield 10, 3) := by decide +kernel
theorem dX9_feed_18 : decode cX9_feed 18 = .ok (.invokevirtual 87, 3) := by decide +kernel
theorem dX9_feed_21 : decode cX9_feed 21 = .ok (.ifCond .eq 6, 3) := by decide +kernel
theorem dX9_feed_24 : decode cX9_feed 24 = .ok (.ldc 91, 2) := by decide +kernel
theorem dX9_feed_26 : decode cX9_feed 26 = .ok (.ireturn, 1) := by decide +kernel
theorem dX9_feed_27 : decode cX9_feed 27 = .ok (.aload_n 0, 1) := by decide +kernel
theorem dX9_feed_28 : decode cX9_feed 28 = .ok (.getfield 10, 3) := by decide +kernel
theorem dX9_feed_31 : decode cX9_feed 31 = .ok (.iload_n 1, 1) := by decide +kernel
theorem dX9_feed_32 : decode cX9_feed 32 = .ok (.invokevirtual 92, 3) := by decide +kernel
theorem dX9_feed_35 : decode cX9_feed 35 = .ok (.aload_n 0, 1) := by decide +kernel
theorem dX9_feed_36 : decode cX9_feed 36 = .ok (.getfield 10, 3) := by decide +kernel
theorem dX9_feed_39 : decode cX9_feed 39 = .ok (.getfield 96, 3) := by decide +kernel
theorem dX9_feed_42 : decode cX9_feed 42 = .ok (.ireturn, 1) := by decide +kernel
set_option maxRecDepth 20000 in
theorem ggX9_house_X7_readInto : GoodIn wsX9_house wsX7_readInto := goodIn_r _ [11, 12, 13, 14, 15, 16, 17, 18, 19, 20, 21, 22, 23, 24, 25, 26, 27, 28, 29, 30, 31, 32, 33, 34, 35, 36, 37, 38, 39, 40, 41, 42, 43, 10, 44, 45, 46, 47, 48, 49, 50, 51, 52, 53, 54, 55, 56, 57, 58, 59, 60, 61, 62, 63, 64, 65, 66, 67, 68, 69, 70, 71, 72, 73, 74, 75, 76, 77, 78, 79, 80, 81, 82, 83, 84, 85, 86, 87, 88, 89, 90, 91, 92, 93, 94, 95, 96, 97, 98, 99, 100, 101, 102, 103, 104, 105, 106, 107, 108, 109, 110, 111, 112, 113, 114, 115, 116, 117, 118, 119, 120, 121, 122, 123, 124, 125, 126, 127, 128, 129, 130, 131, 132, 133, 134, 135, 136, 137, 138, 193, 194, 195, 196, 197, 198, 199, 200, 201, 202, 203, 204, 205, 206, 207, 208, 209, 210, 211, 212, 213] (by decide +kernel) (by decide +kernel)
set_option maxRecDepth 20000 in
theorem gX9_house_X7_readInto : GoodIn wsX9_house (wsV RX9 99 RX7 yX7_readInto wsX7_readInto) := goodIn_app (goodIn_of _ (by decide +kernel)) ggX9_house_X7_readInto
set_option maxRecDepth 20000 in
theorem ggX9_house_X9_moveIn : GoodIn wsX9_house wsX9_moveIn := goodIn_r _ [143, 144, 5, 145, 146, 147, 148, 149, 150, 151, 152, 31, 153, 33, 34, 35, 36, 154, 155, 156, 157, 158, 159, 160, 161, 162, 163, 164, 165, 166, 167, 168, 169, 170, 171, 172, 173, 174, 175, 176, 177, 178, 142, 179, 180, 181, 182, 183, 184, 185, 186, 187, 188, 189, 190, 191, 192, 199, 200, 201, 202, 203, 204, 205, 206, 207, 208, 209, 214, 215, 216, 210, 211, 212, 213, 217, 218, 219, 220, 221, 222, 223, 224, 225] (by decide +kernel) (by decide +kernel)
set_option maxRecDepth 20000 in
theorem gX9_house_X9_moveIn : GoodIn wsX9_house (wsV RX9 106 RX9 yX9_moveIn wsX9_moveIn) := goodIn_app (goodIn_of _ (by decide +kernel)) ggX9_house_X9_moveIn
theorem dX9_house_0 : decode cX9_house 0 = .ok (.aload_n 0, 1) := by decide +kernel
theorem dX9_house_1 : decode cX9_house 1 = .ok (.getfield 10, 3) := by decide +kernel
theorem dX9_house_4 : decode cX9_house 4 = .ok (.aload_n 0, 1) := by decide +kernel
theorem dX9_house_5 : decode cX9_house 5 = .ok (.getfield 23, 3) := by decide +kernel
theorem dX9_house_8 : decode cX9_house 8 = .ok (.invokevirtual 99, 3) := by decide +kernel
theorem dX9_house_11 : decode cX9_house 11 = .ok (.istore_n 1, 1) := by decide +kernel
theorem dX9_house_12 : decode cX9_house 12 = .ok (.aload_n 0, 1) := by decide +kernel
theorem dX9_house_13 : decode cX9_house 13 = .ok (.aload_n 0, 1) := by decide +kernel
theorem dX9_house_14 : decode cX9_house 14 = .ok (.getfield 10, 3) := by decide +kernel
theorem dX9_house_17 : decode cX9_house 17 = .ok (.getfield 103, 3) := by decide +kernel
theorem dX9_house_20 : decode cX9_house 20 = .ok (.putfield 26, 3) := by decide +kernel
theorem dX9_house_23 : decode cX9_house 23 = .ok (.iload_n 1, 1) := by decide +kernel
theorem dX9_house_24 : decode cX9_house 24 = .ok (.ifCond .eq 8, 3) := by decide +kernel
theorem dX9_house_27 : decode cX9_house 27 = .ok (.bipush (-10), 2) := by decide +kernel
theorem dX9_house_29 : decode cX9_house 29 = .ok (.iload_n 1, 1) := by decide +kernel
theorem dX9_house_30 : decode cX9_house 30 = .ok (.isub, 1) := by decide +kernel
theorem dX9_house_31 : decode cX9_house 31 = .ok (.ireturn, 1) := by decide +kernel
theorem dX9_house_32 : decode cX9_house 32 = .ok (.aload_n 0, 1) := by decide +kernel
theorem dX9_house_33 : decode cX9_house 33 = .ok (.getfield 19, 3) := by decide +kernel
theorem dX9_house_36 : decode cX9_house 36 = .ok (.astore_n 2, 1) := by decide +kernel
theorem dX9_house_37 : decode cX9_house 37 = .ok (.aload_n 0, 1) := by decide +kernel
theorem dX9_house_38 : decode cX9_house 38 = .ok (.aload_n 0, 1) := by decide +kernel
theorem dX9_house_39 : decode cX9_house 39 = .ok (.getfield 23, 3) := by decide +kernel
theorem dX9_house_42 : decode cX9_house 42 = .ok (.putfield 19, 3) := by decide +kernel
theorem dX9_house_45 : decode cX9_house 45 = .ok (.aload_n 0, 1) := by decide +kernel
theorem dX9_house_46 : decode cX9_house 46 = .ok (.aload_n 2, 1) := by decide +kernel
theorem dX9_house_47 : decode cX9_house 47 = .ok (.putfield 23, 3) := by decide +kernel
theorem dX9_house_50 : decode cX9_house 50 = .ok (.aload_n 0, 1) := by decide +kernel
theorem dX9_house_51 : decode cX9_house 51 = .ok (.invokevirtual 106, 3) := by decide +kernel
theorem dX9_house_54 : decode cX9_house 54 = .ok (.aload_n 0, 1) := by decide +kernel
theorem dX9_house_55 : decode cX9_house 55 = .ok (.getfield 19, 3) := by decide +kernel
theorem dX9_house_58 : decode cX9_house 58 = .ok (.getfield 109, 3) := by decide +kernel
theorem dX9_house_61 : decode cX9_house 61 = .ok (.ireturn, 1) := by decide +kernel
theorem dX9_fault_0 : decode cX9_fault 0 = .ok (.aload_n 0, 1) := by decide +kernel
theorem dX9_fault_1 : decode cX9_fault 1 = .ok (.getfield 26, 3) := by decide +kernel
theorem dX9_fault_4 : decode cX9_fault 4 = .ok (.ireturn, 1) := by decide +kernel
set_option maxRecDepth 20000 in
theorem ggX9_told_X9_standNow : GoodIn wsX9_told wsX9_standNow := goodIn_r _ [21, 22, 8, 1, 4, 23, 24, 25, 26, 27, 28, 29, 30, 31, 32, 33, 34, 35, 36, 37, 38, 39, 40, 41, 42, 43, 44, 45, 46, 47, 48, 49, 50, 51, 52, 53, 54, 55, 56, 57, 58, 59, 60, 20, 61, 62, 63, 64, 65, 66, 67, 68, 69, 161, 162, 163, 164, 165, 166, 167, 168, 169, 170, 171, 172, 173, 174, 175, 176, 177, 178, 179, 180, 181, 182, 183, 184, 204, 205, 191, 192, 193, 194] (by decide +kernel) (by decide +kernel)
set_option maxRecDepth 20000 in
theorem gX9_told_X9_standNow : GoodIn wsX9_told (wsV RX9 124 RX9 yX9_standNow wsX9_standNow) := goodIn_app (goodIn_of _ (by decide +kernel)) ggX9_told_X9_standNow
set_option maxRecDepth 20000 in
theorem ggX9_told_X9_downhill : GoodIn wsX9_told wsX9_downhill := goodIn_r _ [73, 1, 5, 74, 75, 76, 20, 77, 4, 8, 78, 35, 36, 37, 38, 39, 40, 41, 42, 43, 44, 45, 46, 47, 48, 49, 50, 51, 52, 53, 54, 55, 56, 57, 58, 59, 60, 61, 79, 80, 81, 82, 83, 84, 85, 161, 162, 163, 164, 165, 166, 167, 168, 169, 170, 171, 172, 173, 174, 175, 176, 177, 178, 179, 180, 181, 182, 183, 184, 191, 192, 193, 194] (by decide +kernel) (by decide +kernel)
set_option maxRecDepth 20000 in
theorem gX9_told_X9_downhill : GoodIn wsX9_told (wsV RX9 131 RX9 yX9_downhill wsX9_downhill) := goodIn_app (goodIn_of _ (by decide +kernel)) ggX9_told_X9_downhill
set_option maxRecDepth 20000 in
theorem ggX9_told_X9_pools : GoodIn wsX9_told wsX9_pools := goodIn_r _ [89, 1, 90, 91, 92, 93, 94, 20, 95, 22, 8, 4, 23, 24, 25, 26, 27, 28, 29, 30, 31, 32, 33, 34, 35, 36, 37, 38, 39, 40, 41, 42, 43, 44, 45, 46, 47, 48, 49, 50, 51, 52, 53, 54, 55, 56, 57, 58, 59, 60, 61, 96, 97, 98, 99, 100, 101, 102, 103, 104, 105, 106, 107, 108, 109, 110, 111, 112, 113, 114, 115, 116, 117, 67, 68, 69, 118, 119, 120, 121, 122, 123, 124, 125, 126, 127, 128, 129, 130, 131, 132, 133, 134, 135, 136, 137, 138, 139, 140, 141, 142, 143, 144, 145, 146, 147, 148, 149, 150, 151, 152, 153, 154, 155, 156, 157, 158, 159, 160, 161, 162, 163, 164, 165, 166, 167, 168, 169, 170, 171, 172, 173, 174, 175, 176, 177, 178, 179, 180, 181, 182, 183, 184, 204, 205, 191, 192, 193, 194, 206, 207, 208, 209, 210] (by decide +kernel) (by decide +kernel)
set_option maxRecDepth 20000 in
theorem gX9_told_X9_pools : GoodIn wsX9_told (wsV RX9 134 RX9 yX9_pools wsX9_pools) := goodIn_app (goodIn_of _ (by decide +kernel)) ggX9_told_X9_pools
theorem dX9_told_0 : decode cX9_told 0 = .ok (.iload_n 1, 1) := by decide +kernel
theorem dX9_told_1 : decode cX9_told 1 = .ok (.tableswitch 162 0 12 #[67, 75, 83, 91, 99, 107, 115, 120, 128, 133, 138, 146, 154], 67) := by decide +kernel
theorem dX9_told_68 : decode cX9_told 68 = .ok (.aload_n 0, 1) := by decide +kernel
theorem dX9_told_69 : decode cX9_told 69 = .ok (.getfield 19, 3) := by decide +kernel
theorem dX9_told_72 : decode cX9_told 72 = .ok (.getfield 112, 3) := by decide +kernel
theorem dX9_told_75 : decode cX9_told 75 = .ok (.ireturn, 1) := by decide +kernel
theorem dX9_told_76 : decode cX9_told 76 = .ok (.aload_n 0, 1) := by decide +kernel
theorem dX9_told_77 : decode cX9_told 77 = .ok (.getfield 19, 3) := by decide +kernel
theorem dX9_told_80 : decode cX9_told 80 = .ok (.getfield 115, 3) := by decide +kernel
theorem dX9_told_83 : decode cX9_told 83 = .ok (.ireturn, 1) := by decide +kernel
theorem dX9_told_84 : decode cX9_told 84 = .ok (.aload_n 0, 1) := by decide +kernel
theorem dX9_told_85 : decode cX9_told 85 = .ok (.getfield 19, 3) := by decide +kernel
theorem dX9_told_88 : decode cX9_told 88 = .ok (.getfield 109, 3) := by decide +kernel
theorem dX9_told_91 : decode cX9_told 91 = .ok (.ireturn, 1) := by decide +kernel
theorem dX9_told_92 : decode cX9_told 92 = .ok (.aload_n 0, 1) := by decide +kernel
theorem dX9_told_93 : decode cX9_told 93 = .ok (.getfield 19, 3) := by decide +kernel
theorem dX9_told_96 : decode cX9_told 96 = .ok (.getfield 118, 3) := by decide +kernel
theorem dX9_told_99 : decode cX9_told 99 = .ok (.ireturn, 1) := by decide +kernel
theorem dX9_told_100 : decode cX9_told 100 = .ok (.aload_n 0, 1) := by decide +kernel
theorem dX9_told_101 : decode cX9_told 101 = .ok (.getfield 10, 3) := by decide +kernel
theorem dX9_told_104 : decode cX9_told 104 = .ok (.getfield 96, 3) := by decide +kernel
theorem dX9_told_107 : decode cX9_told 107 = .ok (.ireturn, 1) := by decide +kernel
theorem dX9_told_108 : decode cX9_told 108 = .ok (.aload_n 0, 1) := by decide +kernel
theorem dX9_told_109 : decode cX9_told 109 = .ok (.getfield 33, 3) := by decide +kernel
theorem dX9_told_112 : decode cX9_told 112 = .ok (.getfield 121, 3) := by decide +kernel
theorem dX9_told_115 : decode cX9_told 115 = .ok (.ireturn, 1) := by decide +kernel
theorem dX9_told_116 : decode cX9_told 116 = .ok (.aload_n 0, 1) := by decide +kernel
theorem dX9_told_117 : decode cX9_told 117 = .ok (.invokevirtual 124, 3) := by decide +kernel
theorem dX9_told_120 : decode cX9_told 120 = .ok (.ireturn, 1) := by decide +kernel
theorem dX9_told_121 : decode cX9_told 121 = .ok (.aload_n 0, 1) := by decide +kernel
theorem dX9_told_122 : decode cX9_told 122 = .ok (.getfield 33, 3) := by decide +kernel
theorem dX9_told_125 : decode cX9_told 125 = .ok (.getfield 128, 3) := by decide +kernel
theorem dX9_told_128 : decode cX9_told 128 = .ok (.ireturn, 1) := by decide +kernel
theorem dX9_told_129 : decode cX9_told 129 = .ok (.aload_n 0, 1) := by decide +kernel
theorem dX9_told_130 : decode cX9_told 130 = .ok (.invokevirtual 131, 3) := by decide +kernel
theorem dX9_told_133 : decode cX9_told 133 = .ok (.ireturn, 1) := by decide +kernel
theorem dX9_told_134 : decode cX9_told 134 = .ok (.aload_n 0, 1) := by decide +kernel
theorem dX9_told_135 : decode cX9_told 135 = .ok (.invokevirtual 134, 3) := by decide +kernel
theorem dX9_told_138 : decode cX9_told 138 = .ok (.ireturn, 1) := by decide +kernel
theorem dX9_told_139 : decode cX9_told 139 = .ok (.aload_n 0, 1) := by decide +kernel
theorem dX9_told_140 : decode cX9_told 140 = .ok (.getfield 60, 3) := by decide +kernel
theorem dX9_told_143 : decode cX9_told 143 = .ok (.getfield 137, 3) := by decide +kernel
theorem dX9_told_146 : decode cX9_told 146 = .ok (.ireturn, 1) := by decide +kernel
theorem dX9_told_147 : decode cX9_told 147 = .ok (.aload_n 0, 1) := by decide +kernel
theorem dX9_told_148 : decode cX9_told 148 = .ok (.getfield 60, 3) := by decide +kernel
theorem dX9_told_151 : decode cX9_told 151 = .ok (.getfield 140, 3) := by decide +kernel
theorem dX9_told_154 : decode cX9_told 154 = .ok (.ireturn, 1) := by decide +kernel
theorem dX9_told_155 : decode cX9_told 155 = .ok (.aload_n 0, 1) := by decide +kernel
theorem dX9_told_156 : decode cX9_told 156 = .ok (.getfield 40, 3) := by decide +kernel
theorem dX9_told_159 : decode cX9_told 159 = .ok (.getfield 143, 3) := by decide +kernel
theorem dX9_told_162 : decode cX9_told 162 = .ok (.ireturn, 1) := by decide +kernel
theorem dX9_told_163 : decode cX9_told 163 = .ok (.ldc 86, 2) := by decide +kernel
theorem dX9_told_165 : decode cX9_told 165 = .ok (.ireturn, 1) := by decide +kernel
set_option maxRecDepth 20000 in
theorem ggX9_cell_X4_hasCell : GoodIn wsX9_cell wsX4_hasCell := goodIn_r _ [9, 10, 131, 132, 133, 134, 135, 136, 137, 138, 139, 140, 141] (by decide +kernel) (by decide +kernel)
set_option maxRecDepth 20000 in
theorem gX9_cell_X4_hasCell : GoodIn wsX9_cell (wsV RX9 146 RX4 yX4_hasCell wsX4_hasCell) := goodIn_app (goodIn_of _ (by decide +kernel)) ggX9_cell_X4_hasCell
set_option maxRecDepth 20000 in
theorem ggX9_cell_X4_ownHeight : GoodIn wsX9_cell wsX4_ownHeight := goodIn_r _ [14, 15, 16, 131, 132, 133, 134, 135, 136, 137, 138, 139, 140, 141] (by decide +kernel) (by decide +kernel)
set_option maxRecDepth 20000 in
theorem gX9_cell_X4_ownHeight : GoodIn wsX9_cell (wsV RX9 151 RX4 yX4_ownHeight wsX4_ownHeight) := goodIn_app (goodIn_of _ (by decide +kernel)) ggX9_cell_X4_ownHeight
set_option maxRecDepth 20000 in
theorem ggX9_cell_X9_shapeNow : GoodIn wsX9_cell wsX9_shapeNow := goodIn_r _ [21, 22, 23, 1, 24, 4, 25, 26, 27, 28, 29, 30, 31, 32, 33, 34, 35, 36, 37, 38, 39, 40, 41, 42, 43, 44, 45, 46, 47, 48, 49, 50, 51, 52, 53, 54, 55, 56, 57, 58, 59, 60, 61, 62, 20, 63, 64, 65, 66, 67, 68, 69, 70, 71, 72, 73, 74, 75, 76, 77, 78, 12, 13, 8, 14, 15, 16, 79, 80, 81, 82, 83, 84, 85, 86, 87, 88, 89, 90, 91, 92, 93, 94, 95, 96, 97, 98, 99, 100, 101, 102, 103, 104, 105, 106, 107, 108, 109, 118, 119, 120, 121, 122, 123, 124, 125, 126, 127, 128, 129, 130, 131, 132, 133, 134, 135, 136, 137, 138, 139, 140, 141, 142, 143, 144, 145, 146, 147, 148, 149, 150, 151, 152] (by decide +kernel) (by decide +kernel)
set_option maxRecDepth 20000 in
theorem gX9_cell_X9_shapeNow : GoodIn wsX9_cell (wsV RX9 155 RX9 yX9_shapeNow wsX9_shapeNow) := goodIn_app (goodIn_of _ (by decide +kernel)) ggX9_cell_X9_shapeNow
set_option maxRecDepth 20000 in
theorem ggX9_cell_X2_heightOf : GoodIn wsX9_cell wsX2_heightOf := goodIn_r _ [113, 74, 148, 149, 150, 151, 152] (by decide +kernel) (by decide +kernel)
set_option maxRecDepth 20000 in
theorem gX9_cell_X2_heightOf : GoodIn wsX9_cell (wsV RX9 158 RX2 yX2_heightOf wsX2_heightOf) := goodIn_app (goodIn_of _ (by decide +kernel)) ggX9_cell_X2_heightOf
set_option maxRecDepth 20000 in
theorem ggX9_cell_X2_itemOf : GoodIn wsX9_cell wsX2_itemOf := goodIn_r _ [117, 75, 148, 149, 150, 151, 152] (by decide +kernel) (by decide +kernel)
set_option maxRecDepth 20000 in
theorem gX9_cell_X2_itemOf : GoodIn wsX9_cell (wsV RX9 161 RX2 yX2_itemOf wsX2_itemOf) := goodIn_app (goodIn_of _ (by decide +kernel)) ggX9_cell_X2_itemOf
theorem dX9_cell_0 : decode cX9_cell 0 = .ok (.aload_n 0, 1) := by decide +kernel
theorem dX9_cell_1 : decode cX9_cell 1 = .ok (.getfield 19, 3) := by decide +kernel
theorem dX9_cell_4 : decode cX9_cell 4 = .ok (.iload_n 1, 1) := by decide +kernel
theorem dX9_cell_5 : decode cX9_cell 5 = .ok (.invokevirtual 146, 3) := by decide +kernel
theorem dX9_cell_8 : decode cX9_cell 8 = .ok (.ifCond .ne 6, 3) := by decide +kernel
theorem dX9_cell_11 : decode cX9_cell 11 = .ok (.ldc 150, 2) := by decide +kernel
theorem dX9_cell_13 : decode cX9_cell 13 = .ok (.ireturn, 1) := by decide +kernel
theorem dX9_cell_14 : decode cX9_cell 14 = .ok (.iload_n 2, 1) := by decide +kernel
theorem dX9_cell_15 : decode cX9_cell 15 = .ok (.ifCond .lt 8, 3) := by decide +kernel
theorem dX9_cell_18 : decode cX9_cell 18 = .ok (.iload_n 2, 1) := by decide +kernel
theorem dX9_cell_19 : decode cX9_cell 19 = .ok (.iconst 2, 1) := by decide +kernel
theorem dX9_cell_20 : decode cX9_cell 20 = .ok (.if_icmp .le 6, 3) := by decide +kernel
theorem dX9_cell_23 : decode cX9_cell 23 = .ok (.ldc 86, 2) := by decide +kernel
theorem dX9_cell_25 : decode cX9_cell 25 = .ok (.ireturn, 1) := by decide +kernel
theorem dX9_cell_26 : decode cX9_cell 26 = .ok (.iload_n 2, 1) := by decide +kernel
theorem dX9_cell_27 : decode cX9_cell 27 = .ok (.iconst 1, 1) := by decide +kernel
theorem dX9_cell_28 : decode cX9_cell 28 = .ok (.if_icmp .ne 12, 3) := by decide +kernel
theorem dX9_cell_31 : decode cX9_cell 31 = .ok (.aload_n 0, 1) := by decide +kernel
theorem dX9_cell_32 : decode cX9_cell 32 = .ok (.getfield 19, 3) := by decide +kernel
theorem dX9_cell_35 : decode cX9_cell 35 = .ok (.iload_n 1, 1) := by decide +kernel
theorem dX9_cell_36 : decode cX9_cell 36 = .ok (.invokevirtual 151, 3) := by decide +kernel
theorem dX9_cell_39 : decode cX9_cell 39 = .ok (.ireturn, 1) := by decide +kernel
theorem dX9_cell_40 : decode cX9_cell 40 = .ok (.aload_n 0, 1) := by decide +kernel
theorem dX9_cell_41 : decode cX9_cell 41 = .ok (.invokevirtual 155, 3) := by decide +kernel
theorem dX9_cell_44 : decode cX9_cell 44 = .ok (.iload_n 2, 1) := by decide +kernel
theorem dX9_cell_45 : decode cX9_cell 45 = .ok (.ifCond .ne 14, 3) := by decide +kernel
theorem dX9_cell_48 : decode cX9_cell 48 = .ok (.aload_n 0, 1) := by decide +kernel
theorem dX9_cell_49 : decode cX9_cell 49 = .ok (.getfield 74, 3) := by decide +kernel
theorem dX9_cell_52 : decode cX9_cell 52 = .ok (.iload_n 1, 1) := by decide +kernel
theorem dX9_cell_53 : decode cX9_cell 53 = .ok (.invokevirtual 158, 3) := by decide +kernel
theorem dX9_cell_56 : decode cX9_cell 56 = .ok (.goto 11, 3) := by decide +kernel
theorem dX9_cell_59 : decode cX9_cell 59 = .ok (.aload_n 0, 1) := by decide +kernel
theorem dX9_cell_60 : decode cX9_cell 60 = .ok (.getfield 74, 3) := by decide +kernel
theorem dX9_cell_63 : decode cX9_cell 63 = .ok (.iload_n 1, 1) := by decide +kernel
theorem dX9_cell_64 : decode cX9_cell 64 = .ok (.invokevirtual 161, 3) := by decide +kernel
theorem dX9_cell_67 : decode cX9_cell 67 = .ok (.ireturn, 1) := by decide +kernel
set_option maxRecDepth 20000 in
theorem ggX9_item_X4_hasItem : GoodIn wsX9_item wsX4_hasItem := goodIn_r _ [9, 10, 142, 143, 144, 145, 146, 147, 148, 149, 150, 151, 152] (by decide +kernel) (by decide +kernel)
set_option maxRecDepth 20000 in
theorem gX9_item_X4_hasItem : GoodIn wsX9_item (wsV RX9 164 RX4 yX4_hasItem wsX4_hasItem) := goodIn_app (goodIn_of _ (by decide +kernel)) ggX9_item_X4_hasItem
set_option maxRecDepth 20000 in
theorem ggX9_item_X4_cellsOf : GoodIn wsX9_item wsX4_cellsOf := goodIn_r _ [14, 15, 142, 143, 144, 145, 146, 147, 148, 149, 150, 151, 152] (by decide +kernel) (by decide +kernel)
set_option maxRecDepth 20000 in
theorem gX9_item_X4_cellsOf : GoodIn wsX9_item (wsV RX9 167 RX4 yX4_cellsOf wsX4_cellsOf) := goodIn_app (goodIn_of _ (by decide +kernel)) ggX9_item_X4_cellsOf
set_option maxRecDepth 20000 in
theorem ggX9_item_X4_levelOf : GoodIn wsX9_item wsX4_levelOf := goodIn_r _ [19, 20, 142, 143, 144, 145, 146, 147, 148, 149, 150, 151, 152] (by decide +kernel) (by decide +kernel)
set_option maxRecDepth 20000 in
theorem gX9_item_X4_levelOf : GoodIn wsX9_item (wsV RX9 170 RX4 yX4_levelOf wsX4_levelOf) := goodIn_app (goodIn_of _ (by decide +kernel)) ggX9_item_X4_levelOf
set_option maxRecDepth 20000 in
theorem ggX9_item_X0_standOf : GoodIn wsX9_item wsX0_standOf := goodIn_r _ [25, 26, 27, 28, 24, 29, 30, 31, 32, 33, 34, 35, 36, 37, 38, 39, 40, 41, 42, 43, 44, 45, 46, 47, 48, 49, 153, 154, 155, 156] (by decide +kernel) (by decide +kernel)
set_option maxRecDepth 20000 in
theorem gX9_item_X0_standOf : GoodIn wsX9_item (wsV RX9 173 RX0 yX0_standOf wsX0_standOf) := goodIn_app (goodIn_of _ (by decide +kernel)) ggX9_item_X0_standOf
set_option maxRecDepth 20000 in
theorem ggX9_item_X0_yesOf : GoodIn wsX9_item wsX0_yesOf := goodIn_r _ [33, 34, 153, 154, 155, 156] (by decide +kernel) (by decide +kernel)
set_option maxRecDepth 20000 in
theorem gX9_item_X0_yesOf : GoodIn wsX9_item (wsV RX9 176 RX0 yX0_yesOf wsX0_yesOf) := goodIn_app (goodIn_of _ (by decide +kernel)) ggX9_item_X0_yesOf
set_option maxRecDepth 20000 in
theorem ggX9_item_X0_noOf : GoodIn wsX9_item wsX0_noOf := goodIn_r _ [45, 46, 153, 154, 155, 156] (by decide +kernel) (by decide +kernel)
set_option maxRecDepth 20000 in
theorem gX9_item_X0_noOf : GoodIn wsX9_item (wsV RX9 179 RX0 yX0_noOf wsX0_noOf) := goodIn_app (goodIn_of _ (by decide +kernel)) ggX9_item_X0_noOf
set_option maxRecDepth 20000 in
theorem ggX9_item_X9_isLevel : GoodIn wsX9_item wsX9_isLevel := goodIn_r _ [55, 1, 56, 57, 58, 48, 59, 60, 3, 61, 62, 63, 64, 65, 66, 67, 68, 69, 70, 71, 72, 73, 74, 22, 23, 24, 25, 26, 27, 28, 29, 30, 31, 32, 33, 34, 35, 36, 37, 38, 39, 40, 41, 42, 43, 44, 45, 46, 47, 49, 75, 76, 77, 78, 79, 80, 81, 82, 83, 84, 85, 86, 87, 88, 89, 90, 91, 8, 92, 93, 94, 95, 96, 97, 98, 99, 100, 101, 102, 103, 104, 105, 106, 12, 13, 14, 15, 107, 17, 18, 19, 20, 108, 109, 110, 111, 112, 113, 114, 115, 116, 117, 11, 118, 119, 120, 121, 122, 123, 124, 125, 126, 127, 128, 129, 130, 131, 132, 133, 134, 135, 136, 137, 138, 139, 140, 141, 142, 143, 144, 145, 146, 147, 148, 149, 150, 151, 152, 157, 158, 153, 154, 155, 156, 159, 160, 161, 162, 163] (by decide +kernel) (by decide +kernel)
set_option maxRecDepth 20000 in
theorem gX9_item_X9_isLevel : GoodIn wsX9_item (wsV RX9 182 RX9 yX9_isLevel wsX9_isLevel) := goodIn_app (goodIn_of _ (by decide +kernel)) ggX9_item_X9_isLevel
theorem dX9_item_0 : decode cX9_item 0 = .ok (.aload_n 0, 1) := by decide +kernel
theorem dX9_item_1 : decode cX9_item 1 = .ok (.getfield 19, 3) := by decide +kernel
theorem dX9_item_4 : decode cX9_item 4 = .ok (.iload_n 1, 1) := by decide +kernel
theorem dX9_item_5 : decode cX9_item 5 = .ok (.invokevirtual 164, 3) := by decide +kernel
theorem dX9_item_8 : decode cX9_item 8 = .ok (.ifCond .ne 6, 3) := by decide +kernel
theorem dX9_item_11 : decode cX9_item 11 = .ok (.ldc 150, 2) := by decide +kernel
theorem dX9_item_13 : decode cX9_item 13 = .ok (.ireturn, 1) := by decide +kernel
theorem dX9_item_14 : decode cX9_item 14 = .ok (.iload_n 2, 1) := by decide +kernel
theorem dX9_item_15 : decode cX9_item 15 = .ok (.tableswitch 96 0 5 #[37, 46, 55, 64, 73, 82], 37) := by decide +kernel
theorem dX9_item_52 : decode cX9_item 52 = .ok (.aload_n 0, 1) := by decide +kernel
theorem dX9_item_53 : decode cX9_item 53 = .ok (.getfield 19, 3) := by decide +kernel
theorem dX9_item_56 : decode cX9_item 56 = .ok (.iload_n 1, 1) := by decide +kernel
theorem dX9_item_57 : decode cX9_item 57 = .ok (.invokevirtual 167, 3) := by decide +kernel
theorem dX9_item_60 : decode cX9_item 60 = .ok (.ireturn, 1) := by decide +kernel
theorem dX9_item_61 : decode cX9_item 61 = .ok (.aload_n 0, 1) := by decide +kernel
theorem dX9_item_62 : decode cX9_item 62 = .ok (.getfield 19, 3) := by decide +kernel
theorem dX9_item_65 : decode cX9_item 65 = .ok (.iload_n 1, 1) := by decide +kernel
theorem dX9_item_66 : decode cX9_item 66 = .ok (.invokevirtual 170, 3) := by decide +kernel
theorem dX9_item_69 : decode cX9_item 69 = .ok (.ireturn, 1) := by decide +kernel
theorem dX9_item_70 : decode cX9_item 70 = .ok (.aload_n 0, 1) := by decide +kernel
theorem dX9_item_71 : decode cX9_item 71 = .ok (.getfield 33, 3) := by decide +kernel
theorem dX9_item_74 : decode cX9_item 74 = .ok (.iload_n 1, 1) := by decide +kernel
theorem dX9_item_75 : decode cX9_item 75 = .ok (.invokevirtual 173, 3) := by decide +kernel
theorem dX9_item_78 : decode cX9_item 78 = .ok (.ireturn, 1) := by decide +kernel
theorem dX9_item_79 : decode cX9_item 79 = .ok (.aload_n 0, 1) := by decide +kernel
theorem dX9_item_80 : decode cX9_item 80 = .ok (.getfield 33, 3) := by decide +kernel
theorem dX9_item_83 : decode cX9_item 83 = .ok (.iload_n 1, 1) := by decide +kernel
theorem dX9_item_84 : decode cX9_item 84 = .ok (.invokevirtual 176, 3) := by decide +kernel
theorem dX9_item_87 : decode cX9_item 87 = .ok (.ireturn, 1) := by decide +kernel
theorem dX9_item_88 : decode cX9_item 88 = .ok (.aload_n 0, 1) := by decide +kernel
theorem dX9_item_89 : decode cX9_item 89 = .ok (.getfield 33, 3) := by decide +kernel
theorem dX9_item_92 : decode cX9_item 92 = .ok (.iload_n 1, 1) := by decide +kernel
theorem dX9_item_93 : decode cX9_item 93 = .ok (.invokevirtual 179, 3) := by decide +kernel
theorem dX9_item_96 : decode cX9_item 96 = .ok (.ireturn, 1) := by decide +kernel
theorem dX9_item_97 : decode cX9_item 97 = .ok (.aload_n 0, 1) := by decide +kernel
theorem dX9_item_98 : decode cX9_item 98 = .ok (.iload_n 1, 1) := by decide +kernel
theorem dX9_item_99 : decode cX9_item 99 = .ok (.invokevirtual 182, 3) := by decide +kernel
theorem dX9_item_102 : decode cX9_item 102 = .ok (.ifCond .eq 7, 3) := by decide +kernel
theorem dX9_item_105 : decode cX9_item 105 = .ok (.iconst 1, 1) := by decide +kernel
theorem dX9_item_106 : decode cX9_item 106 = .ok (.goto 4, 3) := by decide +kernel
theorem dX9_item_109 : decode cX9_item 109 = .ok (.iconst 0, 1) := by decide +kernel
theorem dX9_item_110 : decode cX9_item 110 = .ok (.ireturn, 1) := by decide +kernel
theorem dX9_item_111 : decode cX9_item 111 = .ok (.ldc 86, 2) := by decide +kernel
theorem dX9_item_113 : decode cX9_item 113 = .ok (.ireturn, 1) := by decide +kernel
set_option maxRecDepth 20000 in
theorem ggX9_votes_X4_hasPerson : GoodIn wsX9_votes wsX4_hasPerson := goodIn_r _ [8, 9, 43, 44, 45, 46, 47, 48, 49, 50, 51, 52, 53] (by decide +kernel) (by decide +kernel)
set_option maxRecDepth 20000 in
theorem gX9_votes_X4_hasPerson : GoodIn wsX9_votes (wsV RX9 185 RX4 yX4_hasPerson wsX4_hasPerson) := goodIn_app (goodIn_of _ (by decide +kernel)) ggX9_votes_X4_hasPerson
set_option maxRecDepth 20000 in
theorem ggX9_votes_X4_hasItem : GoodIn wsX9_votes wsX4_hasItem := goodIn_r _ [13, 14, 43, 44, 45, 46, 47, 48, 49, 50, 51, 52, 53] (by decide +kernel) (by decide +kernel)
set_option maxRecDepth 20000 in
theorem gX9_votes_X4_hasItem : GoodIn wsX9_votes (wsV RX9 164 RX4 yX4_hasItem wsX4_hasItem) := goodIn_app (goodIn_of _ (by decide +kernel)) ggX9_votes_X4_hasItem
set_option maxRecDepth 20000 in
theorem ggX9_votes_X0_howOf : GoodIn wsX9_votes wsX0_howOf := goodIn_r _ [19, 20, 21, 22, 18, 23, 24, 25, 26, 27, 28, 29, 54, 55, 56, 57] (by decide +kernel) (by decide +kernel)
set_option maxRecDepth 20000 in
theorem gX9_votes_X0_howOf : GoodIn wsX9_votes (wsV RX9 188 RX0 yX0_howOf wsX0_howOf) := goodIn_app (goodIn_of _ (by decide +kernel)) ggX9_votes_X0_howOf
theorem dX9_votes_0 : decode cX9_votes 0 = .ok (.aload_n 0, 1) := by decide +kernel
theorem dX9_votes_1 : decode cX9_votes 1 = .ok (.getfield 19, 3) := by decide +kernel
theorem dX9_votes_4 : decode cX9_votes 4 = .ok (.iload_n 1, 1) := by decide +kernel
theorem dX9_votes_5 : decode cX9_votes 5 = .ok (.invokevirtual 185, 3) := by decide +kernel
theorem dX9_votes_8 : decode cX9_votes 8 = .ok (.ifCond .eq 14, 3) := by decide +kernel
theorem dX9_votes_11 : decode cX9_votes 11 = .ok (.aload_n 0, 1) := by decide +kernel
theorem dX9_votes_12 : decode cX9_votes 12 = .ok (.getfield 19, 3) := by decide +kernel
theorem dX9_votes_15 : decode cX9_votes 15 = .ok (.iload_n 2, 1) := by decide +kernel
theorem dX9_votes_16 : decode cX9_votes 16 = .ok (.invokevirtual 164, 3) := by decide +kernel
theorem dX9_votes_19 : decode cX9_votes 19 = .ok (.ifCond .ne 6, 3) := by decide +kernel
theorem dX9_votes_22 : decode cX9_votes 22 = .ok (.ldc 150, 2) := by decide +kernel
theorem dX9_votes_24 : decode cX9_votes 24 = .ok (.ireturn, 1) := by decide +kernel
theorem dX9_votes_25 : decode cX9_votes 25 = .ok (.aload_n 0, 1) := by decide +kernel
theorem dX9_votes_26 : decode cX9_votes 26 = .ok (.getfield 33, 3) := by decide +kernel
theorem dX9_votes_29 : decode cX9_votes 29 = .ok (.iload_n 1, 1) := by decide +kernel
theorem dX9_votes_30 : decode cX9_votes 30 = .ok (.iload_n 2, 1) := by decide +kernel
theorem dX9_votes_31 : decode cX9_votes 31 = .ok (.invokevirtual 188, 3) := by decide +kernel
theorem dX9_votes_34 : decode cX9_votes 34 = .ok (.ireturn, 1) := by decide +kernel
set_option maxRecDepth 20000 in
theorem ggX9_vote_X4_hasPerson : GoodIn wsX9_vote wsX4_hasPerson := goodIn_r _ [10, 11, 85, 86, 87, 88, 89, 90, 91, 92, 93, 94, 95] (by decide +kernel) (by decide +kernel)
set_option maxRecDepth 20000 in
theorem gX9_vote_X4_hasPerson : GoodIn wsX9_vote (wsV RX9 185 RX4 yX4_hasPerson wsX4_hasPerson) := goodIn_app (goodIn_of _ (by decide +kernel)) ggX9_vote_X4_hasPerson
set_option maxRecDepth 20000 in
theorem ggX9_vote_X4_hasItem : GoodIn wsX9_vote wsX4_hasItem := goodIn_r _ [15, 16, 85, 86, 87, 88, 89, 90, 91, 92, 93, 94, 95] (by decide +kernel) (by decide +kernel)
set_option maxRecDepth 20000 in
theorem gX9_vote_X4_hasItem : GoodIn wsX9_vote (wsV RX9 164 RX4 yX4_hasItem wsX4_hasItem) := goodIn_app (goodIn_of _ (by decide +kernel)) ggX9_vote_X4_hasItem
set_option maxRecDepth 20000 in
theorem ggX9_vote_X3_remember : GoodIn wsX9_vote wsX3_remember := goodIn_r _ [21, 22, 23, 24, 25, 26, 27, 28, 29, 30, 20, 31, 32, 33, 34, 35, 36, 37, 38, 39, 40, 41, 42, 43, 44, 45, 46, 47, 48, 49, 96, 97, 98, 99, 100, 101, 102] (by decide +kernel) (by decide +kernel)
set_option maxRecDepth 20000 in
theorem gX9_vote_X3_remember : GoodIn wsX9_vote (wsV RX9 192 RX3 yX3_remember wsX3_remember) := goodIn_app (goodIn_of _ (by decide +kernel)) ggX9_vote_X3_remember
set_option maxRecDepth 20000 in
theorem ggX9_vote_X0_put : GoodIn wsX9_vote wsX0_put := goodIn_r _ [53, 38, 39, 99, 100, 101, 102] (by decide +kernel) (by decide +kernel)
set_option maxRecDepth 20000 in
theorem gX9_vote_X0_put : GoodIn wsX9_vote (wsV RX9 196 RX0 yX0_put wsX0_put) := goodIn_app (goodIn_of _ (by decide +kernel)) ggX9_vote_X0_put
set_option maxRecDepth 20000 in
theorem ggX9_vote_X0_standOf : GoodIn wsX9_vote wsX0_standOf := goodIn_r _ [57, 58, 59, 60, 36, 61, 42, 43, 44, 45, 38, 62, 63, 64, 65, 66, 67, 68, 46, 47, 48, 49, 39, 69, 70, 71, 99, 100, 101, 102] (by decide +kernel) (by decide +kernel)
set_option maxRecDepth 20000 in
theorem gX9_vote_X0_standOf : GoodIn wsX9_vote (wsV RX9 173 RX0 yX0_standOf wsX0_standOf) := goodIn_app (goodIn_of _ (by decide +kernel)) ggX9_vote_X0_standOf
theorem dX9_vote_0 : decode cX9_vote 0 = .ok (.aload_n 0, 1) := by decide +kernel
theorem dX9_vote_1 : decode cX9_vote 1 = .ok (.getfield 19, 3) := by decide +kernel
theorem dX9_vote_4 : decode cX9_vote 4 = .ok (.iload_n 1, 1) := by decide +kernel
theorem dX9_vote_5 : decode cX9_vote 5 = .ok (.invokevirtual 185, 3) := by decide +kernel
theorem dX9_vote_8 : decode cX9_vote 8 = .ok (.ifCond .eq 14, 3) := by decide +kernel
theorem dX9_vote_11 : decode cX9_vote 11 = .ok (.aload_n 0, 1) := by decide +kernel
theorem dX9_vote_12 : decode cX9_vote 12 = .ok (.getfield 19, 3) := by decide +kernel
theorem dX9_vote_15 : decode cX9_vote 15 = .ok (.iload_n 2, 1) := by decide +kernel
theorem dX9_vote_16 : decode cX9_vote 16 = .ok (.invokevirtual 164, 3) := by decide +kernel
theorem dX9_vote_19 : decode cX9_vote 19 = .ok (.ifCond .ne 6, 3) := by decide +kernel
theorem dX9_vote_22 : decode cX9_vote 22 = .ok (.ldc 150, 2) := by decide +kernel
theorem dX9_vote_24 : decode cX9_vote 24 = .ok (.ireturn, 1) := by decide +kernel
theorem dX9_vote_25 : decode cX9_vote 25 = .ok (.iload_n 3, 1) := by decide +kernel
theorem dX9_vote_26 : decode cX9_vote 26 = .ok (.ifCond .lt 8, 3) := by decide +kernel
theorem dX9_vote_29 : decode cX9_vote 29 = .ok (.iload_n 3, 1) := by decide +kernel
theorem dX9_vote_30 : decode cX9_vote 30 = .ok (.iconst 2, 1) := by decide +kernel
theorem dX9_vote_31 : decode cX9_vote 31 = .ok (.if_icmp .le 6, 3) := by decide +kernel
theorem dX9_vote_34 : decode cX9_vote 34 = .ok (.ldc 86, 2) := by decide +kernel
theorem dX9_vote_36 : decode cX9_vote 36 = .ok (.ireturn, 1) := by decide +kernel
theorem dX9_vote_37 : decode cX9_vote 37 = .ok (.aload_n 0, 1) := by decide +kernel
theorem dX9_vote_38 : decode cX9_vote 38 = .ok (.getfield 40, 3) := by decide +kernel
theorem dX9_vote_41 : decode cX9_vote 41 = .ok (.aload_n 0, 1) := by decide +kernel
theorem dX9_vote_42 : decode cX9_vote 42 = .ok (.getfield 33, 3) := by decide +kernel
theorem dX9_vote_45 : decode cX9_vote 45 = .ok (.invokevirtual 192, 3) := by decide +kernel
theorem dX9_vote_48 : decode cX9_vote 48 = .ok (.aload_n 0, 1) := by decide +kernel
theorem dX9_vote_49 : decode cX9_vote 49 = .ok (.getfield 33, 3) := by decide +kernel
theorem dX9_vote_52 : decode cX9_vote 52 = .ok (.iload_n 1, 1) := by decide +kernel
theorem dX9_vote_53 : decode cX9_vote 53 = .ok (.iload_n 2, 1) := by decide +kernel
theorem dX9_vote_54 : decode cX9_vote 54 = .ok (.iload_n 3, 1) := by decide +kernel
theorem dX9_vote_55 : decode cX9_vote 55 = .ok (.invokevirtual 196, 3) := by decide +kernel
theorem dX9_vote_58 : decode cX9_vote 58 = .ok (.aload_n 0, 1) := by decide +kernel
theorem dX9_vote_59 : decode cX9_vote 59 = .ok (.getfield 33, 3) := by decide +kernel
theorem dX9_vote_62 : decode cX9_vote 62 = .ok (.iload_n 2, 1) := by decide +kernel
theorem dX9_vote_63 : decode cX9_vote 63 = .ok (.invokevirtual 173, 3) := by decide +kernel
theorem dX9_vote_66 : decode cX9_vote 66 = .ok (.ireturn, 1) := by decide +kernel
set_option maxRecDepth 20000 in
theorem ggX9_session_X4_isThere : GoodIn wsX9_session wsX4_isThere := goodIn_r _ [11, 12, 108, 109, 110, 111, 112, 113, 114, 115, 116, 117, 118] (by decide +kernel) (by decide +kernel)
set_option maxRecDepth 20000 in
theorem gX9_session_X4_isThere : GoodIn wsX9_session (wsV RX9 200 RX4 yX4_isThere wsX4_isThere) := goodIn_app (goodIn_of _ (by decide +kernel)) ggX9_session_X4_isThere
set_option maxRecDepth 20000 in
theorem ggX9_session_X3_remember : GoodIn wsX9_session wsX3_remember := goodIn_r _ [17, 18, 19, 20, 21, 22, 23, 24, 25, 26, 16, 27, 28, 29, 30, 31, 32, 33, 34, 35, 36, 37, 38, 39, 40, 41, 42, 43, 44, 45, 119, 120, 121, 104, 105, 106, 107] (by decide +kernel) (by decide +kernel)
set_option maxRecDepth 20000 in
theorem gX9_session_X3_remember : GoodIn wsX9_session (wsV RX9 192 RX3 yX3_remember wsX3_remember) := goodIn_app (goodIn_of _ (by decide +kernel)) ggX9_session_X3_remember
set_option maxRecDepth 20000 in
theorem ggX9_session_X9_holdSession : GoodIn wsX9_session wsX9_holdSession := goodIn_r _ [50, 3, 4, 51, 52, 53, 54, 49, 55, 56, 1, 57, 58, 59, 60, 61, 62, 63, 21, 22, 23, 64, 65, 66, 67, 68, 32, 69, 70, 71, 72, 73, 38, 39, 40, 41, 34, 74, 75, 76, 77, 78, 79, 80, 42, 43, 44, 45, 35, 81, 82, 83, 84, 85, 86, 87, 88, 89, 90, 91, 92, 93, 94, 95, 96, 97, 98, 99, 100, 101, 102, 103, 104, 105, 106, 107, 108, 109, 110, 111, 112, 113, 114, 115, 116, 117, 118, 122, 123] (by decide +kernel) (by decide +kernel)
set_option maxRecDepth 20000 in
theorem gX9_session_X9_holdSession : GoodIn wsX9_session (wsV RX9 204 RX9 yX9_holdSession wsX9_holdSession) := goodIn_app (goodIn_of _ (by decide +kernel)) ggX9_session_X9_holdSession
theorem dX9_session_0 : decode cX9_session 0 = .ok (.aload_n 0, 1) := by decide +kernel
theorem dX9_session_1 : decode cX9_session 1 = .ok (.getfield 19, 3) := by decide +kernel
theorem dX9_session_4 : decode cX9_session 4 = .ok (.invokevirtual 200, 3) := by decide +kernel
theorem dX9_session_7 : decode cX9_session 7 = .ok (.ifCond .ne 6, 3) := by decide +kernel
theorem dX9_session_10 : decode cX9_session 10 = .ok (.ldc 203, 2) := by decide +kernel
theorem dX9_session_12 : decode cX9_session 12 = .ok (.ireturn, 1) := by decide +kernel
theorem dX9_session_13 : decode cX9_session 13 = .ok (.aload_n 0, 1) := by decide +kernel
theorem dX9_session_14 : decode cX9_session 14 = .ok (.getfield 33, 3) := by decide +kernel
theorem dX9_session_17 : decode cX9_session 17 = .ok (.getfield 121, 3) := by decide +kernel
theorem dX9_session_20 : decode cX9_session 20 = .ok (.sipush 9000, 3) := by decide +kernel
theorem dX9_session_23 : decode cX9_session 23 = .ok (.if_icmp .le 6, 3) := by decide +kernel
theorem dX9_session_26 : decode cX9_session 26 = .ok (.ldc 91, 2) := by decide +kernel
theorem dX9_session_28 : decode cX9_session 28 = .ok (.ireturn, 1) := by decide +kernel
theorem dX9_session_29 : decode cX9_session 29 = .ok (.aload_n 0, 1) := by decide +kernel
theorem dX9_session_30 : decode cX9_session 30 = .ok (.getfield 40, 3) := by decide +kernel
theorem dX9_session_33 : decode cX9_session 33 = .ok (.aload_n 0, 1) := by decide +kernel
theorem dX9_session_34 : decode cX9_session 34 = .ok (.getfield 33, 3) := by decide +kernel
theorem dX9_session_37 : decode cX9_session 37 = .ok (.invokevirtual 192, 3) := by decide +kernel
theorem dX9_session_40 : decode cX9_session 40 = .ok (.aload_n 0, 1) := by decide +kernel
theorem dX9_session_41 : decode cX9_session 41 = .ok (.invokevirtual 204, 3) := by decide +kernel
theorem dX9_session_44 : decode cX9_session 44 = .ok (.ireturn, 1) := by decide +kernel
set_option maxRecDepth 20000 in
theorem ggX9_drift_X4_isThere : GoodIn wsX9_drift wsX4_isThere := goodIn_r _ [12, 13, 135, 136, 137, 138, 139, 140, 141, 142, 143, 144, 145] (by decide +kernel) (by decide +kernel)
set_option maxRecDepth 20000 in
theorem gX9_drift_X4_isThere : GoodIn wsX9_drift (wsV RX9 200 RX4 yX4_isThere wsX4_isThere) := goodIn_app (goodIn_of _ (by decide +kernel)) ggX9_drift_X4_isThere
set_option maxRecDepth 20000 in
theorem ggX9_drift_X3_remember : GoodIn wsX9_drift wsX3_remember := goodIn_r _ [18, 19, 20, 21, 22, 23, 24, 25, 26, 27, 17, 28, 29, 30, 31, 32, 33, 34, 35, 36, 37, 38, 39, 40, 41, 42, 43, 44, 45, 46, 146, 147, 148, 131, 132, 133, 134] (by decide +kernel) (by decide +kernel)
set_option maxRecDepth 20000 in
theorem gX9_drift_X3_remember : GoodIn wsX9_drift (wsV RX9 192 RX3 yX3_remember wsX3_remember) := goodIn_app (goodIn_of _ (by decide +kernel)) ggX9_drift_X3_remember
set_option maxRecDepth 20000 in
theorem ggX9_drift_X4_hasVotes : GoodIn wsX9_drift wsX4_hasVotes := goodIn_r _ [50, 51, 52, 135, 136, 137, 138, 139, 140, 141, 142, 143, 144, 145] (by decide +kernel) (by decide +kernel)
set_option maxRecDepth 20000 in
theorem gX9_drift_X4_hasVotes : GoodIn wsX9_drift (wsV RX9 207 RX4 yX4_hasVotes wsX4_hasVotes) := goodIn_app (goodIn_of _ (by decide +kernel)) ggX9_drift_X4_hasVotes
set_option maxRecDepth 20000 in
theorem ggX9_drift_X9_voteByDraw : GoodIn wsX9_drift wsX9_voteByDraw := goodIn_r _ [57, 58, 2, 59, 60, 4, 61, 62, 63, 64, 65, 66, 67, 68, 69, 70, 71, 72, 73, 33, 74, 35, 36, 118, 119, 120, 121, 122, 123, 124, 125, 126, 127, 128, 129, 130, 135, 136, 137, 138, 139, 140, 141, 142, 143, 144, 145, 149, 131, 132, 133, 134] (by decide +kernel) (by decide +kernel)
set_option maxRecDepth 20000 in
theorem gX9_drift_X9_voteByDraw : GoodIn wsX9_drift (wsV RX9 210 RX9 yX9_voteByDraw wsX9_voteByDraw) := goodIn_app (goodIn_of _ (by decide +kernel)) ggX9_drift_X9_voteByDraw
set_option maxRecDepth 20000 in
theorem ggX9_drift_X9_holdSession : GoodIn wsX9_drift wsX9_holdSession := goodIn_r _ [78, 4, 5, 79, 80, 81, 82, 56, 83, 84, 2, 60, 85, 86, 87, 88, 89, 90, 22, 23, 24, 91, 92, 93, 94, 95, 33, 96, 97, 98, 99, 100, 39, 40, 41, 42, 35, 101, 102, 103, 104, 105, 106, 107, 43, 44, 45, 46, 36, 108, 109, 110, 111, 112, 113, 114, 115, 116, 117, 118, 119, 120, 121, 122, 123, 124, 125, 126, 127, 128, 129, 130, 131, 132, 133, 134, 135, 136, 137, 138, 139, 140, 141, 142, 143, 144, 145, 150, 151] (by decide +kernel) (by decide +kernel)
set_option maxRecDepth 20000 in
theorem gX9_drift_X9_holdSession : GoodIn wsX9_drift (wsV RX9 204 RX9 yX9_holdSession wsX9_holdSession) := goodIn_app (goodIn_of _ (by decide +kernel)) ggX9_drift_X9_holdSession
set_option maxRecDepth 20000 in
theorem ggX9_drift_X9_standNow : GoodIn wsX9_drift wsX9_standNow := goodIn_r _ [83, 84, 4, 2, 60, 85, 86, 87, 88, 89, 90, 22, 23, 24, 91, 92, 93, 94, 95, 33, 96, 97, 98, 99, 100, 39, 40, 41, 42, 35, 101, 102, 103, 104, 105, 106, 107, 43, 44, 45, 46, 36, 108, 56, 109, 110, 111, 112, 113, 114, 115, 116, 117, 118, 119, 120, 121, 122, 123, 124, 125, 126, 127, 128, 129, 130, 135, 136, 137, 138, 139, 140, 141, 142, 143, 144, 145, 150, 151, 131, 132, 133, 134] (by decide +kernel) (by decide +kernel)
set_option maxRecDepth 20000 in
theorem gX9_drift_X9_standNow : GoodIn wsX9_drift (wsV RX9 124 RX9 yX9_standNow wsX9_standNow) := goodIn_app (goodIn_of _ (by decide +kernel)) ggX9_drift_X9_standNow
theorem dX9_drift_0 : decode cX9_drift 0 = .ok (.iload_n 1, 1) := by decide +kernel
theorem dX9_drift_1 : decode cX9_drift 1 = .ok (.iconst 1, 1) := by decide +kernel
theorem dX9_drift_2 : decode cX9_drift 2 = .ok (.if_icmp .lt 9, 3) := by decide +kernel
theorem dX9_drift_5 : decode cX9_drift 5 = .ok (.iload_n 1, 1) := by decide +kernel
theorem dX9_drift_6 : decode cX9_drift 6 = .ok (.bipush 60, 2) := by decide +kernel
theorem dX9_drift_8 : decode cX9_drift 8 = .ok (.if_icmp .le 6, 3) := by decide +kernel
theorem dX9_drift_11 : decode cX9_drift 11 = .ok (.ldc 86, 2) := by decide +kernel
theorem dX9_drift_13 : decode cX9_drift 13 = .ok (.ireturn, 1) := by decide +kernel
theorem dX9_drift_14 : decode cX9_drift 14 = .ok (.aload_n 0, 1) := by decide +kernel
theorem dX9_drift_15 : decode cX9_drift 15 = .ok (.getfield 19, 3) := by decide +kernel
theorem dX9_drift_18 : decode cX9_drift 18 = .ok (.invokevirtual 200, 3) := by decide +kernel
theorem dX9_drift_21 : decode cX9_drift 21 = .ok (.ifCond .ne 6, 3) := by decide +kernel
theorem dX9_drift_24 : decode cX9_drift 24 = .ok (.ldc 203, 2) := by decide +kernel
theorem dX9_drift_26 : decode cX9_drift 26 = .ok (.ireturn, 1) := by decide +kernel
theorem dX9_drift_27 : decode cX9_drift 27 = .ok (.aload_n 0, 1) := by decide +kernel
theorem dX9_drift_28 : decode cX9_drift 28 = .ok (.getfield 33, 3) := by decide +kernel
theorem dX9_drift_31 : decode cX9_drift 31 = .ok (.getfield 121, 3) := by decide +kernel
theorem dX9_drift_34 : decode cX9_drift 34 = .ok (.sipush 9000, 3) := by decide +kernel
theorem dX9_drift_37 : decode cX9_drift 37 = .ok (.if_icmp .le 6, 3) := by decide +kernel
theorem dX9_drift_40 : decode cX9_drift 40 = .ok (.ldc 91, 2) := by decide +kernel
theorem dX9_drift_42 : decode cX9_drift 42 = .ok (.ireturn, 1) := by decide +kernel
theorem dX9_drift_43 : decode cX9_drift 43 = .ok (.aload_n 0, 1) := by decide +kernel
theorem dX9_drift_44 : decode cX9_drift 44 = .ok (.getfield 40, 3) := by decide +kernel
theorem dX9_drift_47 : decode cX9_drift 47 = .ok (.aload_n 0, 1) := by decide +kernel
theorem dX9_drift_48 : decode cX9_drift 48 = .ok (.getfield 33, 3) := by decide +kernel
theorem dX9_drift_51 : decode cX9_drift 51 = .ok (.invokevirtual 192, 3) := by decide +kernel
theorem dX9_drift_54 : decode cX9_drift 54 = .ok (.iconst 0, 1) := by decide +kernel
theorem dX9_drift_55 : decode cX9_drift 55 = .ok (.istore_n 2, 1) := by decide +kernel
theorem dX9_drift_56 : decode cX9_drift 56 = .ok (.iload_n 2, 1) := by decide +kernel
theorem dX9_drift_57 : decode cX9_drift 57 = .ok (.iload_n 1, 1) := by decide +kernel
theorem dX9_drift_58 : decode cX9_drift 58 = .ok (.if_icmp .ge 28, 3) := by decide +kernel
theorem dX9_drift_61 : decode cX9_drift 61 = .ok (.aload_n 0, 1) := by decide +kernel
theorem dX9_drift_62 : decode cX9_drift 62 = .ok (.getfield 19, 3) := by decide +kernel
theorem dX9_drift_65 : decode cX9_drift 65 = .ok (.invokevirtual 207, 3) := by decide +kernel
theorem dX9_drift_68 : decode cX9_drift 68 = .ok (.ifCond .eq 18, 3) := by decide +kernel
theorem dX9_drift_71 : decode cX9_drift 71 = .ok (.aload_n 0, 1) := by decide +kernel
theorem dX9_drift_72 : decode cX9_drift 72 = .ok (.invokevirtual 210, 3) := by decide +kernel
theorem dX9_drift_75 : decode cX9_drift 75 = .ok (.aload_n 0, 1) := by decide +kernel
theorem dX9_drift_76 : decode cX9_drift 76 = .ok (.invokevirtual 204, 3) := by decide +kernel
theorem dX9_drift_79 : decode cX9_drift 79 = .ok (.pop, 1) := by decide +kernel
theorem dX9_drift_80 : decode cX9_drift 80 = .ok (.iinc 2 1, 3) := by decide +kernel
theorem dX9_drift_83 : decode cX9_drift 83 = .ok (.goto (-27), 3) := by decide +kernel
theorem dX9_drift_86 : decode cX9_drift 86 = .ok (.aload_n 0, 1) := by decide +kernel
theorem dX9_drift_87 : decode cX9_drift 87 = .ok (.invokevirtual 124, 3) := by decide +kernel
theorem dX9_drift_90 : decode cX9_drift 90 = .ok (.ireturn, 1) := by decide +kernel
set_option maxRecDepth 20000 in
theorem ggX9_undo_X3_takeBack : GoodIn wsX9_undo wsX3_takeBack := goodIn_r _ [9, 10, 11, 12, 13, 14, 8, 15, 16, 17, 18, 19, 20, 21, 22, 23, 24, 25, 26, 27, 28, 29, 30, 31, 32, 33, 47, 48, 49, 50, 51, 52, 53] (by decide +kernel) (by decide +kernel)
set_option maxRecDepth 20000 in
theorem gX9_undo_X3_takeBack : GoodIn wsX9_undo (wsV RX9 213 RX3 yX3_takeBack wsX3_takeBack) := goodIn_app (goodIn_of _ (by decide +kernel)) ggX9_undo_X3_takeBack
theorem dX9_undo_0 : decode cX9_undo 0 = .ok (.aload_n 0, 1) := by decide +kernel
theorem dX9_undo_1 : decode cX9_undo 1 = .ok (.getfield 40, 3) := by decide +kernel
theorem dX9_undo_4 : decode cX9_undo 4 = .ok (.getfield 143, 3) := by decide +kernel
theorem dX9_undo_7 : decode cX9_undo 7 = .ok (.ifCond .gt 6, 3) := by decide +kernel
theorem dX9_undo_10 : decode cX9_undo 10 = .ok (.ldc 203, 2) := by decide +kernel
theorem dX9_undo_12 : decode cX9_undo 12 = .ok (.ireturn, 1) := by decide +kernel
theorem dX9_undo_13 : decode cX9_undo 13 = .ok (.aload_n 0, 1) := by decide +kernel
theorem dX9_undo_14 : decode cX9_undo 14 = .ok (.getfield 40, 3) := by decide +kernel
theorem dX9_undo_17 : decode cX9_undo 17 = .ok (.aload_n 0, 1) := by decide +kernel
theorem dX9_undo_18 : decode cX9_undo 18 = .ok (.getfield 33, 3) := by decide +kernel
theorem dX9_undo_21 : decode cX9_undo 21 = .ok (.invokevirtual 213, 3) := by decide +kernel
theorem dX9_undo_24 : decode cX9_undo 24 = .ok (.aload_n 0, 1) := by decide +kernel
theorem dX9_undo_25 : decode cX9_undo 25 = .ok (.getfield 40, 3) := by decide +kernel
theorem dX9_undo_28 : decode cX9_undo 28 = .ok (.getfield 143, 3) := by decide +kernel
theorem dX9_undo_31 : decode cX9_undo 31 = .ok (.ireturn, 1) := by decide +kernel
set_option maxRecDepth 20000 in
theorem ggX9_rests_X4_hasCell : GoodIn wsX9_rests wsX4_hasCell := goodIn_r _ [9, 10, 142, 143, 144, 145, 146, 147, 148, 149, 150, 151, 152] (by decide +kernel) (by decide +kernel)
set_option maxRecDepth 20000 in
theorem gX9_rests_X4_hasCell : GoodIn wsX9_rests (wsV RX9 146 RX4 yX4_hasCell wsX4_hasCell) := goodIn_app (goodIn_of _ (by decide +kernel)) ggX9_rests_X4_hasCell
set_option maxRecDepth 20000 in
theorem ggX9_rests_X9_shapeNow : GoodIn wsX9_rests wsX9_shapeNow := goodIn_r _ [15, 16, 17, 1, 18, 4, 19, 20, 21, 22, 23, 24, 25, 26, 27, 28, 29, 30, 31, 32, 33, 34, 35, 36, 37, 38, 39, 40, 41, 42, 43, 44, 45, 46, 47, 48, 49, 50, 51, 52, 53, 54, 55, 56, 14, 57, 58, 59, 60, 61, 62, 63, 64, 65, 66, 67, 68, 69, 70, 71, 72, 73, 74, 8, 75, 76, 77, 78, 79, 80, 81, 82, 83, 84, 85, 86, 87, 88, 89, 90, 91, 92, 93, 94, 95, 96, 97, 98, 99, 100, 101, 102, 103, 104, 105, 106, 107, 108, 129, 130, 131, 132, 133, 134, 135, 136, 137, 138, 139, 140, 141, 142, 143, 144, 145, 146, 147, 148, 149, 150, 151, 152, 153, 154, 155, 156, 157, 158, 159, 160, 161, 162, 163] (by decide +kernel) (by decide +kernel)
set_option maxRecDepth 20000 in
theorem gX9_rests_X9_shapeNow : GoodIn wsX9_rests (wsV RX9 155 RX9 yX9_shapeNow wsX9_shapeNow) := goodIn_app (goodIn_of _ (by decide +kernel)) ggX9_rests_X9_shapeNow
set_option maxRecDepth 20000 in
theorem ggX9_rests_X2_restFrom : GoodIn wsX9_rests wsX2_restFrom := goodIn_r _ [112, 113, 114, 115, 61, 116, 70, 117, 118, 119, 120, 67, 65, 121, 122, 123, 124, 68, 159, 160, 161, 162, 163] (by decide +kernel) (by decide +kernel)
set_option maxRecDepth 20000 in
theorem gX9_rests_X2_restFrom : GoodIn wsX9_rests (wsV RX9 216 RX2 yX2_restFrom wsX2_restFrom) := goodIn_app (goodIn_of _ (by decide +kernel)) ggX9_rests_X2_restFrom
set_option maxRecDepth 20000 in
theorem ggX9_rests_X2_rollsFrom : GoodIn wsX9_rests wsX2_rollsFrom := goodIn_r _ [128, 113, 114, 115, 61, 116, 70, 117, 118, 119, 120, 67, 65, 121, 122, 123, 124, 68, 159, 160, 161, 162, 163] (by decide +kernel) (by decide +kernel)
set_option maxRecDepth 20000 in
theorem gX9_rests_X2_rollsFrom : GoodIn wsX9_rests (wsV RX9 219 RX2 yX2_rollsFrom wsX2_rollsFrom) := goodIn_app (goodIn_of _ (by decide +kernel)) ggX9_rests_X2_rollsFrom
theorem dX9_rests_0 : decode cX9_rests 0 = .ok (.aload_n 0, 1) := by decide +kernel
theorem dX9_rests_1 : decode cX9_rests 1 = .ok (.getfield 19, 3) := by decide +kernel
theorem dX9_rests_4 : decode cX9_rests 4 = .ok (.iload_n 1, 1) := by decide +kernel
theorem dX9_rests_5 : decode cX9_rests 5 = .ok (.invokevirtual 146, 3) := by decide +kernel
theorem dX9_rests_8 : decode cX9_rests 8 = .ok (.ifCond .ne 6, 3) := by decide +kernel
theorem dX9_rests_11 : decode cX9_rests 11 = .ok (.ldc 150, 2) := by decide +kernel
theorem dX9_rests_13 : decode cX9_rests 13 = .ok (.ireturn, 1) := by decide +kernel
theorem dX9_rests_14 : decode cX9_rests 14 = .ok (.iload_n 2, 1) := by decide +kernel
theorem dX9_rests_15 : decode cX9_rests 15 = .ok (.ifCond .lt 8, 3) := by decide +kernel
theorem dX9_rests_18 : decode cX9_rests 18 = .ok (.iload_n 2, 1) := by decide +kernel
theorem dX9_rests_19 : decode cX9_rests 19 = .ok (.iconst 1, 1) := by decide +kernel
theorem dX9_rests_20 : decode cX9_rests 20 = .ok (.if_icmp .le 6, 3) := by decide +kernel
theorem dX9_rests_23 : decode cX9_rests 23 = .ok (.ldc 86, 2) := by decide +kernel
theorem dX9_rests_25 : decode cX9_rests 25 = .ok (.ireturn, 1) := by decide +kernel
theorem dX9_rests_26 : decode cX9_rests 26 = .ok (.aload_n 0, 1) := by decide +kernel
theorem dX9_rests_27 : decode cX9_rests 27 = .ok (.invokevirtual 155, 3) := by decide +kernel
theorem dX9_rests_30 : decode cX9_rests 30 = .ok (.iload_n 2, 1) := by decide +kernel
theorem dX9_rests_31 : decode cX9_rests 31 = .ok (.ifCond .ne 14, 3) := by decide +kernel
theorem dX9_rests_34 : decode cX9_rests 34 = .ok (.aload_n 0, 1) := by decide +kernel
theorem dX9_rests_35 : decode cX9_rests 35 = .ok (.getfield 74, 3) := by decide +kernel
theorem dX9_rests_38 : decode cX9_rests 38 = .ok (.iload_n 1, 1) := by decide +kernel
theorem dX9_rests_39 : decode cX9_rests 39 = .ok (.invokevirtual 216, 3) := by decide +kernel
theorem dX9_rests_42 : decode cX9_rests 42 = .ok (.goto 11, 3) := by decide +kernel
theorem dX9_rests_45 : decode cX9_rests 45 = .ok (.aload_n 0, 1) := by decide +kernel
theorem dX9_rests_46 : decode cX9_rests 46 = .ok (.getfield 74, 3) := by decide +kernel
theorem dX9_rests_49 : decode cX9_rests 49 = .ok (.iload_n 1, 1) := by decide +kernel
theorem dX9_rests_50 : decode cX9_rests 50 = .ok (.invokevirtual 219, 3) := by decide +kernel
theorem dX9_rests_53 : decode cX9_rests 53 = .ok (.ireturn, 1) := by decide +kernel
set_option maxRecDepth 20000 in
theorem ggX9_pool_X4_hasCell : GoodIn wsX9_pool wsX4_hasCell := goodIn_r _ [9, 10, 138, 139, 140, 141, 142, 143, 144, 145, 146, 147, 148] (by decide +kernel) (by decide +kernel)
set_option maxRecDepth 20000 in
theorem gX9_pool_X4_hasCell : GoodIn wsX9_pool (wsV RX9 146 RX4 yX4_hasCell wsX4_hasCell) := goodIn_app (goodIn_of _ (by decide +kernel)) ggX9_pool_X4_hasCell
set_option maxRecDepth 20000 in
theorem ggX9_pool_X9_shapeNow : GoodIn wsX9_pool wsX9_shapeNow := goodIn_r _ [15, 16, 17, 1, 18, 4, 19, 20, 21, 22, 23, 24, 25, 26, 27, 28, 29, 30, 31, 32, 33, 34, 35, 36, 37, 38, 39, 40, 41, 42, 43, 44, 45, 46, 47, 48, 49, 50, 51, 52, 53, 54, 55, 56, 14, 57, 58, 59, 60, 61, 62, 63, 64, 65, 66, 67, 68, 69, 70, 71, 72, 73, 74, 8, 75, 76, 77, 78, 79, 80, 81, 82, 83, 84, 85, 86, 87, 88, 89, 90, 91, 92, 93, 94, 95, 96, 97, 98, 99, 100, 101, 102, 103, 104, 105, 106, 107, 108, 125, 126, 127, 128, 129, 130, 131, 132, 133, 134, 135, 136, 137, 138, 139, 140, 141, 142, 143, 144, 145, 146, 147, 148, 149, 150, 151, 152, 153, 154, 155, 156, 157, 158, 159] (by decide +kernel) (by decide +kernel)
set_option maxRecDepth 20000 in
theorem gX9_pool_X9_shapeNow : GoodIn wsX9_pool (wsV RX9 155 RX9 yX9_shapeNow wsX9_shapeNow) := goodIn_app (goodIn_of _ (by decide +kernel)) ggX9_pool_X9_shapeNow
set_option maxRecDepth 20000 in
theorem ggX9_pool_X2_restFrom : GoodIn wsX9_pool wsX2_restFrom := goodIn_r _ [112, 113, 114, 115, 61, 116, 70, 117, 118, 119, 120, 67, 65, 121, 122, 123, 124, 68, 155, 156, 157, 158, 159] (by decide +kernel) (by decide +kernel)
set_option maxRecDepth 20000 in
theorem gX9_pool_X2_restFrom : GoodIn wsX9_pool (wsV RX9 216 RX2 yX2_restFrom wsX2_restFrom) := goodIn_app (goodIn_of _ (by decide +kernel)) ggX9_pool_X2_restFrom
theorem dX9_pool_0 : decode cX9_pool 0 = .ok (.aload_n 0, 1) := by decide +kernel
theorem dX9_pool_1 : decode cX9_pool 1 = .ok (.getfield 19, 3) := by decide +kernel
theorem dX9_pool_4 : decode cX9_pool 4 = .ok (.iload_n 1, 1) := by decide +kernel
theorem dX9_pool_5 : decode cX9_pool 5 = .ok (.invokevirtual 146, 3) := by decide +kernel
theorem dX9_pool_8 : decode cX9_pool 8 = .ok (.ifCond .ne 6, 3) := by decide +kernel
theorem dX9_pool_11 : decode cX9_pool 11 = .ok (.ldc 150, 2) := by decide +kernel
theorem dX9_pool_13 : decode cX9_pool 13 = .ok (.ireturn, 1) := by decide +kernel
theorem dX9_pool_14 : decode cX9_pool 14 = .ok (.aload_n 0, 1) := by decide +kernel
theorem dX9_pool_15 : decode cX9_pool 15 = .ok (.invokevirtual 155, 3) := by decide +kernel
theorem dX9_pool_18 : decode cX9_pool 18 = .ok (.iconst 0, 1) := by decide +kernel
theorem dX9_pool_19 : decode cX9_pool 19 = .ok (.istore_n 2, 1) := by decide +kernel
theorem dX9_pool_20 : decode cX9_pool 20 = .ok (.iconst 0, 1) := by decide +kernel
theorem dX9_pool_21 : decode cX9_pool 21 = .ok (.istore_n 3, 1) := by decide +kernel
theorem dX9_pool_22 : decode cX9_pool 22 = .ok (.iload_n 3, 1) := by decide +kernel
theorem dX9_pool_23 : decode cX9_pool 23 = .ok (.aload_n 0, 1) := by decide +kernel
theorem dX9_pool_24 : decode cX9_pool 24 = .ok (.getfield 19, 3) := by decide +kernel
theorem dX9_pool_27 : decode cX9_pool 27 = .ok (.getfield 222, 3) := by decide +kernel
theorem dX9_pool_30 : decode cX9_pool 30 = .ok (.if_icmp .ge 24, 3) := by decide +kernel
theorem dX9_pool_33 : decode cX9_pool 33 = .ok (.aload_n 0, 1) := by decide +kernel
theorem dX9_pool_34 : decode cX9_pool 34 = .ok (.getfield 74, 3) := by decide +kernel
theorem dX9_pool_37 : decode cX9_pool 37 = .ok (.iload_n 3, 1) := by decide +kernel
theorem dX9_pool_38 : decode cX9_pool 38 = .ok (.invokevirtual 216, 3) := by decide +kernel
theorem dX9_pool_41 : decode cX9_pool 41 = .ok (.iload_n 1, 1) := by decide +kernel
theorem dX9_pool_42 : decode cX9_pool 42 = .ok (.if_icmp .ne 6, 3) := by decide +kernel
theorem dX9_pool_45 : decode cX9_pool 45 = .ok (.iinc 2 1, 3) := by decide +kernel
theorem dX9_pool_48 : decode cX9_pool 48 = .ok (.iinc 3 1, 3) := by decide +kernel
theorem dX9_pool_51 : decode cX9_pool 51 = .ok (.goto (-29), 3) := by decide +kernel
theorem dX9_pool_54 : decode cX9_pool 54 = .ok (.iload_n 2, 1) := by decide +kernel
theorem dX9_pool_55 : decode cX9_pool 55 = .ok (.ireturn, 1) := by decide +kernel
set_option maxRecDepth 20000 in
theorem ggX9_tips_X4_hasItem : GoodIn wsX9_tips wsX4_hasItem := goodIn_r _ [8, 9, 66, 67, 68, 69, 70, 71, 72, 73, 74, 75, 76] (by decide +kernel) (by decide +kernel)
set_option maxRecDepth 20000 in
theorem gX9_tips_X4_hasItem : GoodIn wsX9_tips (wsV RX9 164 RX4 yX4_hasItem wsX4_hasItem) := goodIn_app (goodIn_of _ (by decide +kernel)) ggX9_tips_X4_hasItem
set_option maxRecDepth 20000 in
theorem ggX9_tips_X9_canTip : GoodIn wsX9_tips wsX9_canTip := goodIn_r _ [14, 15, 16, 17, 18, 19, 20, 21, 22, 23, 24, 25, 26, 27, 28, 29, 30, 31, 32, 33, 34, 35, 36, 37, 38, 39, 40, 41, 42, 13, 43, 44, 45, 46, 47, 48, 49, 50, 51, 52, 53, 54, 55, 56, 57, 58, 59, 60, 61, 62, 63, 64, 65, 77, 78, 79, 80] (by decide +kernel) (by decide +kernel)
set_option maxRecDepth 20000 in
theorem gX9_tips_X9_canTip : GoodIn wsX9_tips (wsV RX9 225 RX9 yX9_canTip wsX9_canTip) := goodIn_app (goodIn_of _ (by decide +kernel)) ggX9_tips_X9_canTip
theorem dX9_tips_0 : decode cX9_tips 0 = .ok (.aload_n 0, 1) := by decide +kernel
theorem dX9_tips_1 : decode cX9_tips 1 = .ok (.getfield 19, 3) := by decide +kernel
theorem dX9_tips_4 : decode cX9_tips 4 = .ok (.iload_n 1, 1) := by decide +kernel
theorem dX9_tips_5 : decode cX9_tips 5 = .ok (.invokevirtual 164, 3) := by decide +kernel
theorem dX9_tips_8 : decode cX9_tips 8 = .ok (.ifCond .ne 6, 3) := by decide +kernel
theorem dX9_tips_11 : decode cX9_tips 11 = .ok (.ldc 150, 2) := by decide +kernel
theorem dX9_tips_13 : decode cX9_tips 13 = .ok (.ireturn, 1) := by decide +kernel
theorem dX9_tips_14 : decode cX9_tips 14 = .ok (.iconst 0, 1) := by decide +kernel
theorem dX9_tips_15 : decode cX9_tips 15 = .ok (.istore_n 2, 1) := by decide +kernel
theorem dX9_tips_16 : decode cX9_tips 16 = .ok (.iconst 0, 1) := by decide +kernel
theorem dX9_tips_17 : decode cX9_tips 17 = .ok (.istore_n 3, 1) := by decide +kernel
theorem dX9_tips_18 : decode cX9_tips 18 = .ok (.iload_n 3, 1) := by decide +kernel
theorem dX9_tips_19 : decode cX9_tips 19 = .ok (.aload_n 0, 1) := by decide +kernel
theorem dX9_tips_20 : decode cX9_tips 20 = .ok (.getfield 19, 3) := by decide +kernel
theorem dX9_tips_23 : decode cX9_tips 23 = .ok (.getfield 118, 3) := by decide +kernel
theorem dX9_tips_26 : decode cX9_tips 26 = .ok (.if_icmp .ge 24, 3) := by decide +kernel
theorem dX9_tips_29 : decode cX9_tips 29 = .ok (.aload_n 0, 1) := by decide +kernel
theorem dX9_tips_30 : decode cX9_tips 30 = .ok (.iload_n 3, 1) := by decide +kernel
theorem dX9_tips_31 : decode cX9_tips 31 = .ok (.iload_n 1, 1) := by decide +kernel
theorem dX9_tips_32 : decode cX9_tips 32 = .ok (.invokevirtual 225, 3) := by decide +kernel
theorem dX9_tips_35 : decode cX9_tips 35 = .ok (.ifCond .eq 9, 3) := by decide +kernel
theorem dX9_tips_38 : decode cX9_tips 38 = .ok (.iload_n 2, 1) := by decide +kernel
theorem dX9_tips_39 : decode cX9_tips 39 = .ok (.iconst 1, 1) := by decide +kernel
theorem dX9_tips_40 : decode cX9_tips 40 = .ok (.iload_n 3, 1) := by decide +kernel
theorem dX9_tips_41 : decode cX9_tips 41 = .ok (.ishl, 1) := by decide +kernel
theorem dX9_tips_42 : decode cX9_tips 42 = .ok (.ior, 1) := by decide +kernel
theorem dX9_tips_43 : decode cX9_tips 43 = .ok (.istore_n 2, 1) := by decide +kernel
theorem dX9_tips_44 : decode cX9_tips 44 = .ok (.iinc 3 1, 3) := by decide +kernel
theorem dX9_tips_47 : decode cX9_tips 47 = .ok (.goto (-29), 3) := by decide +kernel
theorem dX9_tips_50 : decode cX9_tips 50 = .ok (.iload_n 2, 1) := by decide +kernel
theorem dX9_tips_51 : decode cX9_tips 51 = .ok (.ireturn, 1) := by decide +kernel
set_option maxRecDepth 20000 in
theorem ggX9_fewest_X4_hasCell : GoodIn wsX9_fewest wsX4_hasCell := goodIn_r _ [10, 11, 161, 162, 163, 164, 165, 166, 167, 168, 169, 170, 171] (by decide +kernel) (by decide +kernel)
set_option maxRecDepth 20000 in
theorem gX9_fewest_X4_hasCell : GoodIn wsX9_fewest (wsV RX9 146 RX4 yX4_hasCell wsX4_hasCell) := goodIn_app (goodIn_of _ (by decide +kernel)) ggX9_fewest_X4_hasCell
set_option maxRecDepth 20000 in
theorem ggX9_fewest_X9_fillPrices : GoodIn wsX9_fewest wsX9_fillPrices := goodIn_r _ [16, 17, 18, 19, 20, 15, 21, 1, 22, 23, 24, 25, 26, 27, 28, 29, 30, 31, 32, 33, 34, 35, 36, 37, 38, 39, 40, 41, 42, 43, 44, 45, 46, 47, 48, 49, 50, 51, 52, 53, 54, 55, 148, 149, 150, 151, 152, 153, 154, 155, 156, 157, 158, 159, 160, 161, 162, 163, 164, 165, 166, 167, 168, 169, 170, 171, 172, 173, 174, 175] (by decide +kernel) (by decide +kernel)
set_option maxRecDepth 20000 in
theorem gX9_fewest_X9_fillPrices : GoodIn wsX9_fewest (wsV RX9 229 RX9 yX9_fillPrices wsX9_fillPrices) := goodIn_app (goodIn_of _ (by decide +kernel)) ggX9_fewest_X9_fillPrices
set_option maxRecDepth 20000 in
theorem ggX9_fewest_X8_countFor : GoodIn wsX9_fewest wsX8_countFor := goodIn_r _ [60] (by decide +kernel) (by decide +kernel)
set_option maxRecDepth 20000 in
theorem gX9_fewest_X8_countFor : GoodIn wsX9_fewest (wsV RX9 232 RX8 yX8_countFor wsX8_countFor) := goodIn_app (goodIn_of _ (by decide +kernel)) ggX9_fewest_X8_countFor
set_option maxRecDepth 20000 in
theorem ggX9_fewest_X8_become : GoodIn wsX9_fewest wsX8_become := goodIn_r _ [64, 65, 24, 25, 26, 66, 67, 176, 177] (by decide +kernel) (by decide +kernel)
set_option maxRecDepth 20000 in
theorem gX9_fewest_X8_become : GoodIn wsX9_fewest (wsV RX9 235 RX8 yX8_become wsX8_become) := goodIn_app (goodIn_of _ (by decide +kernel)) ggX9_fewest_X8_become
set_option maxRecDepth 20000 in
theorem ggX9_fewest_X9_priceOfWay : GoodIn wsX9_fewest wsX9_priceOfWay := goodIn_r _ [71, 1, 5, 4, 17, 72, 73, 74, 59, 75, 66, 67, 148, 149, 150, 151, 152, 153, 154, 155, 156, 157, 158, 159, 160, 161, 162, 163, 164, 165, 166, 167, 168, 169, 170, 171, 176, 177] (by decide +kernel) (by decide +kernel)
set_option maxRecDepth 20000 in
theorem gX9_fewest_X9_priceOfWay : GoodIn wsX9_fewest (wsV RX9 239 RX9 yX9_priceOfWay wsX9_priceOfWay) := goodIn_app (goodIn_of _ (by decide +kernel)) ggX9_fewest_X9_priceOfWay
set_option maxRecDepth 20000 in
theorem ggX9_fewest_X9_restsByWay : GoodIn wsX9_fewest wsX9_restsByWay := goodIn_r _ [79, 80, 1, 4, 81, 82, 83, 84, 85, 86, 87, 24, 25, 26, 88, 89, 90, 91, 92, 93, 94, 95, 96, 97, 9, 98, 99, 100, 101, 73, 74, 59, 75, 66, 67, 102, 103, 104, 105, 106, 36, 37, 107, 108, 109, 110, 111, 112, 113, 114, 115, 116, 117, 118, 119, 120, 121, 122, 123, 124, 125, 126, 127, 128, 129, 130, 131, 132, 133, 134, 135, 136, 137, 138, 139, 140, 141, 142, 148, 149, 150, 151, 152, 153, 154, 155, 156, 157, 158, 159, 160, 161, 162, 163, 164, 165, 166, 167, 168, 169, 170, 171, 178, 179, 180, 181, 182, 176, 177] (by decide +kernel) (by decide +kernel)
set_option maxRecDepth 20000 in
theorem gX9_fewest_X9_restsByWay : GoodIn wsX9_fewest (wsV RX9 242 RX9 yX9_restsByWay wsX9_restsByWay) := goodIn_app (goodIn_of _ (by decide +kernel)) ggX9_fewest_X9_restsByWay
set_option maxRecDepth 20000 in
theorem ggX9_fewest_X8_figures : GoodIn wsX9_fewest wsX8_figures := goodIn_r _ [146, 66, 147, 73, 74, 59, 75, 67, 176, 177] (by decide +kernel) (by decide +kernel)
set_option maxRecDepth 20000 in
theorem gX9_fewest_X8_figures : GoodIn wsX9_fewest (wsV RX9 245 RX8 yX8_figures wsX8_figures) := goodIn_app (goodIn_of _ (by decide +kernel)) ggX9_fewest_X8_figures
theorem dX9_fewest_0 : decode cX9_fewest 0 = .ok (.aload_n 0, 1) := by decide +kernel
theorem dX9_fewest_1 : decode cX9_fewest 1 = .ok (.getfield 19, 3) := by decide +kernel
theorem dX9_fewest_4 : decode cX9_fewest 4 = .ok (.iload_n 1, 1) := by decide +kernel
theorem dX9_fewest_5 : decode cX9_fewest 5 = .ok (.invokevirtual 146, 3) := by decide +kernel
theorem dX9_fewest_8 : decode cX9_fewest 8 = .ok (.ifCond .eq 14, 3) := by decide +kernel
theorem dX9_fewest_11 : decode cX9_fewest 11 = .ok (.aload_n 0, 1) := by decide +kernel
theorem dX9_fewest_12 : decode cX9_fewest 12 = .ok (.getfield 19, 3) := by decide +kernel
theorem dX9_fewest_15 : decode cX9_fewest 15 = .ok (.iload_n 2, 1) := by decide +kernel
theorem dX9_fewest_16 : decode cX9_fewest 16 = .ok (.invokevirtual 146, 3) := by decide +kernel
theorem dX9_fewest_19 : decode cX9_fewest 19 = .ok (.ifCond .ne 6, 3) := by decide +kernel
theorem dX9_fewest_22 : decode cX9_fewest 22 = .ok (.ldc 150, 2) := by decide +kernel
theorem dX9_fewest_24 : decode cX9_fewest 24 = .ok (.ireturn, 1) := by decide +kernel
theorem dX9_fewest_25 : decode cX9_fewest 25 = .ok (.iload_n 3, 1) := by decide +kernel
theorem dX9_fewest_26 : decode cX9_fewest 26 = .ok (.ifCond .lt 8, 3) := by decide +kernel
theorem dX9_fewest_29 : decode cX9_fewest 29 = .ok (.iload_n 3, 1) := by decide +kernel
theorem dX9_fewest_30 : decode cX9_fewest 30 = .ok (.iconst 1, 1) := by decide +kernel
theorem dX9_fewest_31 : decode cX9_fewest 31 = .ok (.if_icmp .le 6, 3) := by decide +kernel
theorem dX9_fewest_34 : decode cX9_fewest 34 = .ok (.ldc 86, 2) := by decide +kernel
theorem dX9_fewest_36 : decode cX9_fewest 36 = .ok (.ireturn, 1) := by decide +kernel
theorem dX9_fewest_37 : decode cX9_fewest 37 = .ok (.aload_n 0, 1) := by decide +kernel
theorem dX9_fewest_38 : decode cX9_fewest 38 = .ok (.invokevirtual 229, 3) := by decide +kernel
theorem dX9_fewest_41 : decode cX9_fewest 41 = .ok (.sipush 1000, 3) := by decide +kernel
theorem dX9_fewest_44 : decode cX9_fewest 44 = .ok (.istore 4, 2) := by decide +kernel
theorem dX9_fewest_46 : decode cX9_fewest 46 = .ok (.iconst (-1), 1) := by decide +kernel
theorem dX9_fewest_47 : decode cX9_fewest 47 = .ok (.istore 5, 2) := by decide +kernel
theorem dX9_fewest_49 : decode cX9_fewest 49 = .ok (.aload_n 0, 1) := by decide +kernel
theorem dX9_fewest_50 : decode cX9_fewest 50 = .ok (.getfield 67, 3) := by decide +kernel
theorem dX9_fewest_53 : decode cX9_fewest 53 = .ok (.aload_n 0, 1) := by decide +kernel
theorem dX9_fewest_54 : decode cX9_fewest 54 = .ok (.getfield 19, 3) := by decide +kernel
theorem dX9_fewest_57 : decode cX9_fewest 57 = .ok (.getfield 109, 3) := by decide +kernel
theorem dX9_fewest_60 : decode cX9_fewest 60 = .ok (.invokevirtual 232, 3) := by decide +kernel
theorem dX9_fewest_63 : decode cX9_fewest 63 = .ok (.istore 6, 2) := by decide +kernel
theorem dX9_fewest_65 : decode cX9_fewest 65 = .ok (.iconst 0, 1) := by decide +kernel
theorem dX9_fewest_66 : decode cX9_fewest 66 = .ok (.istore 7, 2) := by decide +kernel
theorem dX9_fewest_68 : decode cX9_fewest 68 = .ok (.iload 7, 2) := by decide +kernel
theorem dX9_fewest_70 : decode cX9_fewest 70 = .ok (.iload 6, 2) := by decide +kernel
theorem dX9_fewest_72 : decode cX9_fewest 72 = .ok (.if_icmp .ge 60, 3) := by decide +kernel
theorem dX9_fewest_75 : decode cX9_fewest 75 = .ok (.aload_n 0, 1) := by decide +kernel
theorem dX9_fewest_76 : decode cX9_fewest 76 = .ok (.getfield 67, 3) := by decide +kernel
theorem dX9_fewest_79 : decode cX9_fewest 79 = .ok (.iload 7, 2) := by decide +kernel
theorem dX9_fewest_81 : decode cX9_fewest 81 = .ok (.aload_n 0, 1) := by decide +kernel
theorem dX9_fewest_82 : decode cX9_fewest 82 = .ok (.getfield 19, 3) := by decide +kernel
theorem dX9_fewest_85 : decode cX9_fewest 85 = .ok (.getfield 109, 3) := by decide +kernel
theorem dX9_fewest_88 : decode cX9_fewest 88 = .ok (.invokevirtual 235, 3) := by decide +kernel
theorem dX9_fewest_91 : decode cX9_fewest 91 = .ok (.aload_n 0, 1) := by decide +kernel
theorem dX9_fewest_92 : decode cX9_fewest 92 = .ok (.invokevirtual 239, 3) := by decide +kernel
theorem dX9_fewest_95 : decode cX9_fewest 95 = .ok (.istore 8, 2) := by decide +kernel
theorem dX9_fewest_97 : decode cX9_fewest 97 = .ok (.iload 8, 2) := by decide +kernel
theorem dX9_fewest_99 : decode cX9_fewest 99 = .ok (.iload 4, 2) := by decide +kernel
theorem dX9_fewest_101 : decode cX9_fewest 101 = .ok (.if_icmp .ge 25, 3) := by decide +kernel
theorem dX9_fewest_104 : decode cX9_fewest 104 = .ok (.aload_n 0, 1) := by decide +kernel
theorem dX9_fewest_105 : decode cX9_fewest 105 = .ok (.iload_n 1, 1) := by decide +kernel
theorem dX9_fewest_106 : decode cX9_fewest 106 = .ok (.iload_n 2, 1) := by decide +kernel
theorem dX9_fewest_107 : decode cX9_fewest 107 = .ok (.invokevirtual 242, 3) := by decide +kernel
theorem dX9_fewest_110 : decode cX9_fewest 110 = .ok (.ifCond .eq 16, 3) := by decide +kernel
theorem dX9_fewest_113 : decode cX9_fewest 113 = .ok (.iload 8, 2) := by decide +kernel
theorem dX9_fewest_115 : decode cX9_fewest 115 = .ok (.istore 4, 2) := by decide +kernel
theorem dX9_fewest_117 : decode cX9_fewest 117 = .ok (.aload_n 0, 1) := by decide +kernel
theorem dX9_fewest_118 : decode cX9_fewest 118 = .ok (.getfield 67, 3) := by decide +kernel
theorem dX9_fewest_121 : decode cX9_fewest 121 = .ok (.invokevirtual 245, 3) := by decide +kernel
theorem dX9_fewest_124 : decode cX9_fewest 124 = .ok (.istore 5, 2) := by decide +kernel
theorem dX9_fewest_126 : decode cX9_fewest 126 = .ok (.iinc 7 1, 3) := by decide +kernel
theorem dX9_fewest_129 : decode cX9_fewest 129 = .ok (.goto (-61), 3) := by decide +kernel
theorem dX9_fewest_132 : decode cX9_fewest 132 = .ok (.iload 4, 2) := by decide +kernel
theorem dX9_fewest_134 : decode cX9_fewest 134 = .ok (.sipush 1000, 3) := by decide +kernel
theorem dX9_fewest_137 : decode cX9_fewest 137 = .ok (.if_icmp .lt 5, 3) := by decide +kernel
theorem dX9_fewest_140 : decode cX9_fewest 140 = .ok (.iconst (-1), 1) := by decide +kernel
theorem dX9_fewest_141 : decode cX9_fewest 141 = .ok (.ireturn, 1) := by decide +kernel
theorem dX9_fewest_142 : decode cX9_fewest 142 = .ok (.iload_n 3, 1) := by decide +kernel
theorem dX9_fewest_143 : decode cX9_fewest 143 = .ok (.ifCond .ne 8, 3) := by decide +kernel
theorem dX9_fewest_146 : decode cX9_fewest 146 = .ok (.iload 4, 2) := by decide +kernel
theorem dX9_fewest_148 : decode cX9_fewest 148 = .ok (.goto 5, 3) := by decide +kernel
theorem dX9_fewest_151 : decode cX9_fewest 151 = .ok (.iload 5, 2) := by decide +kernel
theorem dX9_fewest_153 : decode cX9_fewest 153 = .ok (.ireturn, 1) := by decide +kernel
set_option maxRecDepth 20000 in
theorem ggX9_carry_J6_bitCount_0f7a4 : GoodIn wsX9_carry wsJ6_bitCount_0f7a4 := goodIn_r _ [6, 7, 8, 9] (by decide +kernel) (by decide +kernel)
set_option maxRecDepth 20000 in
theorem gX9_carry_J6_bitCount_0f7a4 : GoodIn wsX9_carry (va_wsS RX9 248 yJ6_bitCount_0f7a4 wsJ6_bitCount_0f7a4) := goodIn_app (goodIn_of _ (by decide +kernel)) ggX9_carry_J6_bitCount_0f7a4
set_option maxRecDepth 20000 in
theorem ggX9_carry_X9_carriesAll : GoodIn wsX9_carry wsX9_carriesAll := goodIn_r _ [14, 1, 15, 16, 17, 18, 19, 20, 21, 22, 3, 4, 5, 6, 7, 8, 9, 23, 24, 25, 26, 27, 28, 29, 13, 30, 31, 32, 33, 34, 35, 36, 37, 38, 39, 40, 41, 42, 43, 44, 45, 46, 47, 48, 49, 50, 51, 52, 53, 54, 55, 56, 57, 58] (by decide +kernel) (by decide +kernel)
set_option maxRecDepth 20000 in
theorem gX9_carry_X9_carriesAll : GoodIn wsX9_carry (wsV RX9 253 RX9 yX9_carriesAll wsX9_carriesAll) := goodIn_app (goodIn_of _ (by decide +kernel)) ggX9_carry_X9_carriesAll
theorem dX9_carry_0 : decode cX9_carry 0 = .ok (.iconst (-1), 1) := by decide +kernel
theorem dX9_carry_1 : decode cX9_carry 1 = .ok (.istore_n 1, 1) := by decide +kernel
theorem dX9_carry_2 : decode cX9_carry 2 = .ok (.bipush 8, 2) := by decide +kernel
theorem dX9_carry_4 : decode cX9_carry 4 = .ok (.istore_n 2, 1) := by decide +kernel
theorem dX9_carry_5 : decode cX9_carry 5 = .ok (.iconst 0, 1) := by decide +kernel
theorem dX9_carry_6 : decode cX9_carry 6 = .ok (.istore_n 3, 1) := by decide +kernel
theorem dX9_carry_7 : decode cX9_carry 7 = .ok (.iload_n 3, 1) := by decide +kernel
theorem dX9_carry_8 : decode cX9_carry 8 = .ok (.iconst 1, 1) := by decide +kernel
theorem dX9_carry_9 : decode cX9_carry 9 = .ok (.aload_n 0, 1) := by decide +kernel
theorem dX9_carry_10 : decode cX9_carry 10 = .ok (.getfield 19, 3) := by decide +kernel
theorem dX9_carry_13 : decode cX9_carry 13 = .ok (.getfield 118, 3) := by decide +kernel
theorem dX9_carry_16 : decode cX9_carry 16 = .ok (.ishl, 1) := by decide +kernel
theorem dX9_carry_17 : decode cX9_carry 17 = .ok (.if_icmp .ge 34, 3) := by decide +kernel
theorem dX9_carry_20 : decode cX9_carry 20 = .ok (.iload_n 3, 1) := by decide +kernel
theorem dX9_carry_21 : decode cX9_carry 21 = .ok (.invokestatic 248, 3) := by decide +kernel
theorem dX9_carry_24 : decode cX9_carry 24 = .ok (.istore 4, 2) := by decide +kernel
theorem dX9_carry_26 : decode cX9_carry 26 = .ok (.iload 4, 2) := by decide +kernel
theorem dX9_carry_28 : decode cX9_carry 28 = .ok (.iload_n 2, 1) := by decide +kernel
theorem dX9_carry_29 : decode cX9_carry 29 = .ok (.if_icmp .ge 16, 3) := by decide +kernel
theorem dX9_carry_32 : decode cX9_carry 32 = .ok (.aload_n 0, 1) := by decide +kernel
theorem dX9_carry_33 : decode cX9_carry 33 = .ok (.iload_n 3, 1) := by decide +kernel
theorem dX9_carry_34 : decode cX9_carry 34 = .ok (.invokevirtual 253, 3) := by decide +kernel
theorem dX9_carry_37 : decode cX9_carry 37 = .ok (.ifCond .eq 8, 3) := by decide +kernel
theorem dX9_carry_40 : decode cX9_carry 40 = .ok (.iload 4, 2) := by decide +kernel
theorem dX9_carry_42 : decode cX9_carry 42 = .ok (.istore_n 2, 1) := by decide +kernel
theorem dX9_carry_43 : decode cX9_carry 43 = .ok (.iload_n 3, 1) := by decide +kernel
theorem dX9_carry_44 : decode cX9_carry 44 = .ok (.istore_n 1, 1) := by decide +kernel
theorem dX9_carry_45 : decode cX9_carry 45 = .ok (.iinc 3 1, 3) := by decide +kernel
theorem dX9_carry_48 : decode cX9_carry 48 = .ok (.goto (-41), 3) := by decide +kernel
theorem dX9_carry_51 : decode cX9_carry 51 = .ok (.iload_n 1, 1) := by decide +kernel
theorem dX9_carry_52 : decode cX9_carry 52 = .ok (.ireturn, 1) := by decide +kernel
set_option maxRecDepth 20000 in
theorem ggX9_waltz_X4_allCells : GoodIn wsX9_waltz wsX4_allCells := goodIn_r _ [7, 8, 132, 133, 134, 135, 136, 137, 138, 139, 140, 141, 142] (by decide +kernel) (by decide +kernel)
set_option maxRecDepth 20000 in
theorem gX9_waltz_X4_allCells : GoodIn wsX9_waltz (wsV RX9 256 RX4 yX4_allCells wsX4_allCells) := goodIn_app (goodIn_of _ (by decide +kernel)) ggX9_waltz_X4_allCells
set_option maxRecDepth 20000 in
theorem ggX9_waltz_X9_shapeNow : GoodIn wsX9_waltz wsX9_shapeNow := goodIn_r _ [13, 14, 15, 1, 16, 17, 18, 19, 20, 21, 22, 23, 24, 25, 26, 27, 28, 29, 30, 31, 32, 33, 34, 35, 36, 37, 38, 39, 40, 41, 42, 43, 44, 45, 46, 47, 48, 49, 50, 51, 52, 53, 54, 55, 12, 56, 57, 58, 59, 60, 61, 62, 63, 64, 65, 66, 67, 68, 69, 70, 71, 72, 73, 6, 74, 75, 76, 77, 78, 79, 80, 81, 82, 83, 84, 85, 86, 87, 88, 89, 90, 91, 92, 93, 94, 95, 96, 97, 98, 99, 100, 101, 102, 103, 104, 105, 106, 107, 119, 120, 121, 122, 123, 124, 125, 126, 127, 128, 129, 130, 131, 132, 133, 134, 135, 136, 137, 138, 139, 140, 141, 142, 143, 144, 145, 146, 147, 148, 149, 150, 151, 152, 153] (by decide +kernel) (by decide +kernel)
set_option maxRecDepth 20000 in
theorem gX9_waltz_X9_shapeNow : GoodIn wsX9_waltz (wsV RX9 155 RX9 yX9_shapeNow wsX9_shapeNow) := goodIn_app (goodIn_of _ (by decide +kernel)) ggX9_waltz_X9_shapeNow
set_option maxRecDepth 20000 in
theorem ggX9_waltz_X9_spread : GoodIn wsX9_waltz wsX9_spread := goodIn_r _ [111, 1, 112, 17, 113, 24, 25, 26, 114, 86, 87, 115, 116, 117, 60, 118, 67, 119, 120, 121, 122, 123, 124, 125, 126, 127, 128, 129, 130, 131, 132, 133, 134, 135, 136, 137, 138, 139, 140, 141, 142, 149, 150, 151, 152, 153] (by decide +kernel) (by decide +kernel)
set_option maxRecDepth 20000 in
theorem gX9_waltz_X9_spread : GoodIn wsX9_waltz (wsV RX9 259 RX9 yX9_spread wsX9_spread) := goodIn_app (goodIn_of _ (by decide +kernel)) ggX9_waltz_X9_spread
theorem dX9_waltz_0 : decode cX9_waltz 0 = .ok (.iload_n 1, 1) := by decide +kernel
theorem dX9_waltz_1 : decode cX9_waltz 1 = .ok (.aload_n 0, 1) := by decide +kernel
theorem dX9_waltz_2 : decode cX9_waltz 2 = .ok (.getfield 19, 3) := by decide +kernel
theorem dX9_waltz_5 : decode cX9_waltz 5 = .ok (.invokevirtual 256, 3) := by decide +kernel
theorem dX9_waltz_8 : decode cX9_waltz 8 = .ok (.iconst (-1), 1) := by decide +kernel
theorem dX9_waltz_9 : decode cX9_waltz 9 = .ok (.ixor, 1) := by decide +kernel
theorem dX9_waltz_10 : decode cX9_waltz 10 = .ok (.iand, 1) := by decide +kernel
theorem dX9_waltz_11 : decode cX9_waltz 11 = .ok (.ifCond .eq 6, 3) := by decide +kernel
theorem dX9_waltz_14 : decode cX9_waltz 14 = .ok (.ldc 150, 2) := by decide +kernel
theorem dX9_waltz_16 : decode cX9_waltz 16 = .ok (.ireturn, 1) := by decide +kernel
theorem dX9_waltz_17 : decode cX9_waltz 17 = .ok (.aload_n 0, 1) := by decide +kernel
theorem dX9_waltz_18 : decode cX9_waltz 18 = .ok (.invokevirtual 155, 3) := by decide +kernel
theorem dX9_waltz_21 : decode cX9_waltz 21 = .ok (.aload_n 0, 1) := by decide +kernel
theorem dX9_waltz_22 : decode cX9_waltz 22 = .ok (.iload_n 1, 1) := by decide +kernel
theorem dX9_waltz_23 : decode cX9_waltz 23 = .ok (.invokevirtual 259, 3) := by decide +kernel
theorem dX9_waltz_26 : decode cX9_waltz 26 = .ok (.ireturn, 1) := by decide +kernel
theorem dX9_recount_0 : decode cX9_recount 0 = .ok (.iload_n 1, 1) := by decide +kernel
theorem dX9_recount_1 : decode cX9_recount 1 = .ok (.ifCond .lt 19, 3) := by decide +kernel
theorem dX9_recount_4 : decode cX9_recount 4 = .ok (.iload_n 1, 1) := by decide +kernel
theorem dX9_recount_5 : decode cX9_recount 5 = .ok (.bipush 60, 2) := by decide +kernel
theorem dX9_recount_7 : decode cX9_recount 7 = .ok (.if_icmp .gt 13, 3) := by decide +kernel
theorem dX9_recount_10 : decode cX9_recount 10 = .ok (.iload_n 2, 1) := by decide +kernel
theorem dX9_recount_11 : decode cX9_recount 11 = .ok (.ifCond .lt 9, 3) := by decide +kernel
theorem dX9_recount_14 : decode cX9_recount 14 = .ok (.iload_n 2, 1) := by decide +kernel
theorem dX9_recount_15 : decode cX9_recount 15 = .ok (.bipush 100, 2) := by decide +kernel
theorem dX9_recount_17 : decode cX9_recount 17 = .ok (.if_icmp .le 6, 3) := by decide +kernel
theorem dX9_recount_20 : decode cX9_recount 20 = .ok (.ldc 86, 2) := by decide +kernel
theorem dX9_recount_22 : decode cX9_recount 22 = .ok (.ireturn, 1) := by decide +kernel
theorem dX9_recount_23 : decode cX9_recount 23 = .ok (.ldc2_w 262, 3) := by decide +kernel
theorem dX9_recount_26 : decode cX9_recount 26 = .ok (.lstore_n 3, 1) := by decide +kernel
theorem dX9_recount_27 : decode cX9_recount 27 = .ok (.iconst 0, 1) := by decide +kernel
theorem dX9_recount_28 : decode cX9_recount 28 = .ok (.istore 5, 2) := by decide +kernel
theorem dX9_recount_30 : decode cX9_recount 30 = .ok (.iload 5, 2) := by decide +kernel
theorem dX9_recount_32 : decode cX9_recount 32 = .ok (.iload_n 1, 1) := by decide +kernel
theorem dX9_recount_33 : decode cX9_recount 33 = .ok (.if_icmp .ge 21, 3) := by decide +kernel
theorem dX9_recount_36 : decode cX9_recount 36 = .ok (.lload_n 3, 1) := by decide +kernel
theorem dX9_recount_37 : decode cX9_recount 37 = .ok (.bipush 100, 2) := by decide +kernel
theorem dX9_recount_39 : decode cX9_recount 39 = .ok (.iload_n 2, 1) := by decide +kernel
theorem dX9_recount_40 : decode cX9_recount 40 = .ok (.isub, 1) := by decide +kernel
theorem dX9_recount_41 : decode cX9_recount 41 = .ok (.i2l, 1) := by decide +kernel
theorem dX9_recount_42 : decode cX9_recount 42 = .ok (.lmul, 1) := by decide +kernel
theorem dX9_recount_43 : decode cX9_recount 43 = .ok (.ldc2_w 264, 3) := by decide +kernel
theorem dX9_recount_46 : decode cX9_recount 46 = .ok (.ldiv, 1) := by decide +kernel
theorem dX9_recount_47 : decode cX9_recount 47 = .ok (.lstore_n 3, 1) := by decide +kernel
theorem dX9_recount_48 : decode cX9_recount 48 = .ok (.iinc 5 1, 3) := by decide +kernel
theorem dX9_recount_51 : decode cX9_recount 51 = .ok (.goto (-21), 3) := by decide +kernel
theorem dX9_recount_54 : decode cX9_recount 54 = .ok (.lload_n 3, 1) := by decide +kernel
theorem dX9_recount_55 : decode cX9_recount 55 = .ok (.l2i, 1) := by decide +kernel
theorem dX9_recount_56 : decode cX9_recount 56 = .ok (.ireturn, 1) := by decide +kernel
set_option maxRecDepth 20000 in
theorem ggX9_see_X4_hasCell : GoodIn wsX9_see wsX4_hasCell := goodIn_r _ [10, 11, 39, 40, 41, 42, 43, 44, 45, 46, 47, 48, 49] (by decide +kernel) (by decide +kernel)
set_option maxRecDepth 20000 in
theorem gX9_see_X4_hasCell : GoodIn wsX9_see (wsV RX9 146 RX4 yX4_hasCell wsX4_hasCell) := goodIn_app (goodIn_of _ (by decide +kernel)) ggX9_see_X4_hasCell
set_option maxRecDepth 20000 in
theorem ggX9_see_X6_addSeen : GoodIn wsX9_see wsX6_addSeen := goodIn_r _ [16, 17, 18, 19, 33, 34, 35, 36, 37, 38] (by decide +kernel) (by decide +kernel)
set_option maxRecDepth 20000 in
theorem gX9_see_X6_addSeen : GoodIn wsX9_see (wsV RX9 266 RX6 yX6_addSeen wsX6_addSeen) := goodIn_app (goodIn_of _ (by decide +kernel)) ggX9_see_X6_addSeen
theorem dX9_see_0 : decode cX9_see 0 = .ok (.aload_n 0, 1) := by decide +kernel
theorem dX9_see_1 : decode cX9_see 1 = .ok (.getfield 19, 3) := by decide +kernel
theorem dX9_see_4 : decode cX9_see 4 = .ok (.iload_n 1, 1) := by decide +kernel
theorem dX9_see_5 : decode cX9_see 5 = .ok (.invokevirtual 146, 3) := by decide +kernel
theorem dX9_see_8 : decode cX9_see 8 = .ok (.ifCond .eq 14, 3) := by decide +kernel
theorem dX9_see_11 : decode cX9_see 11 = .ok (.aload_n 0, 1) := by decide +kernel
theorem dX9_see_12 : decode cX9_see 12 = .ok (.getfield 19, 3) := by decide +kernel
theorem dX9_see_15 : decode cX9_see 15 = .ok (.iload_n 2, 1) := by decide +kernel
theorem dX9_see_16 : decode cX9_see 16 = .ok (.invokevirtual 146, 3) := by decide +kernel
theorem dX9_see_19 : decode cX9_see 19 = .ok (.ifCond .ne 6, 3) := by decide +kernel
theorem dX9_see_22 : decode cX9_see 22 = .ok (.ldc 150, 2) := by decide +kernel
theorem dX9_see_24 : decode cX9_see 24 = .ok (.ireturn, 1) := by decide +kernel
theorem dX9_see_25 : decode cX9_see 25 = .ok (.aload_n 0, 1) := by decide +kernel
theorem dX9_see_26 : decode cX9_see 26 = .ok (.getfield 60, 3) := by decide +kernel
theorem dX9_see_29 : decode cX9_see 29 = .ok (.getfield 137, 3) := by decide +kernel
theorem dX9_see_32 : decode cX9_see 32 = .ok (.bipush 6, 2) := by decide +kernel
theorem dX9_see_34 : decode cX9_see 34 = .ok (.if_icmp .lt 6, 3) := by decide +kernel
theorem dX9_see_37 : decode cX9_see 37 = .ok (.ldc 91, 2) := by decide +kernel
theorem dX9_see_39 : decode cX9_see 39 = .ok (.ireturn, 1) := by decide +kernel
theorem dX9_see_40 : decode cX9_see 40 = .ok (.aload_n 0, 1) := by decide +kernel
theorem dX9_see_41 : decode cX9_see 41 = .ok (.getfield 60, 3) := by decide +kernel
theorem dX9_see_44 : decode cX9_see 44 = .ok (.iload_n 1, 1) := by decide +kernel
theorem dX9_see_45 : decode cX9_see 45 = .ok (.iload_n 2, 1) := by decide +kernel
theorem dX9_see_46 : decode cX9_see 46 = .ok (.invokevirtual 266, 3) := by decide +kernel
theorem dX9_see_49 : decode cX9_see 49 = .ok (.aload_n 0, 1) := by decide +kernel
theorem dX9_see_50 : decode cX9_see 50 = .ok (.getfield 60, 3) := by decide +kernel
theorem dX9_see_53 : decode cX9_see 53 = .ok (.getfield 137, 3) := by decide +kernel
theorem dX9_see_56 : decode cX9_see 56 = .ok (.ireturn, 1) := by decide +kernel
set_option maxRecDepth 20000 in
theorem ggX9_stood_X8_countFor : GoodIn wsX9_stood wsX8_countFor := goodIn_r _ [8] (by decide +kernel) (by decide +kernel)
set_option maxRecDepth 20000 in
theorem gX9_stood_X8_countFor : GoodIn wsX9_stood (wsV RX9 232 RX8 yX8_countFor wsX8_countFor) := goodIn_app (goodIn_of _ (by decide +kernel)) ggX9_stood_X8_countFor
set_option maxRecDepth 20000 in
theorem ggX9_stood_X8_become : GoodIn wsX9_stood wsX8_become := goodIn_r _ [12, 13, 14, 15, 16, 17, 18, 135, 136] (by decide +kernel) (by decide +kernel)
set_option maxRecDepth 20000 in
theorem gX9_stood_X8_become : GoodIn wsX9_stood (wsV RX9 235 RX8 yX8_become wsX8_become) := goodIn_app (goodIn_of _ (by decide +kernel)) ggX9_stood_X8_become
set_option maxRecDepth 20000 in
theorem ggX9_stood_X9_fitsSeen : GoodIn wsX9_stood wsX9_fitsSeen := goodIn_r _ [23, 24, 2, 1, 25, 26, 27, 28, 29, 30, 31, 32, 33, 14, 15, 16, 34, 35, 36, 37, 38, 39, 40, 41, 42, 43, 44, 45, 46, 47, 48, 49, 50, 7, 51, 17, 18, 52, 53, 54, 55, 56, 57, 58, 59, 60, 61, 62, 63, 64, 65, 66, 67, 68, 69, 70, 71, 72, 73, 74, 75, 76, 77, 78, 79, 80, 81, 82, 83, 84, 85, 86, 87, 88, 89, 90, 91, 92, 93, 94, 95, 96, 97, 98, 99, 100, 101, 102, 103, 104, 105, 111, 112, 113, 114, 115, 116, 117, 118, 119, 120, 121, 122, 123, 137, 138, 139, 140, 141, 142, 124, 125, 126, 127, 128, 129, 130, 131, 132, 133, 134, 143, 144, 145, 146, 147, 135, 136] (by decide +kernel) (by decide +kernel)
set_option maxRecDepth 20000 in
theorem gX9_stood_X9_fitsSeen : GoodIn wsX9_stood (wsV RX9 269 RX9 yX9_fitsSeen wsX9_fitsSeen) := goodIn_app (goodIn_of _ (by decide +kernel)) ggX9_stood_X9_fitsSeen
set_option maxRecDepth 20000 in
theorem ggX9_stood_X8_figures : GoodIn wsX9_stood wsX8_figures := goodIn_r _ [109, 17, 110, 49, 50, 7, 51, 18, 135, 136] (by decide +kernel) (by decide +kernel)
set_option maxRecDepth 20000 in
theorem gX9_stood_X8_figures : GoodIn wsX9_stood (wsV RX9 245 RX8 yX8_figures wsX8_figures) := goodIn_app (goodIn_of _ (by decide +kernel)) ggX9_stood_X8_figures
theorem dX9_stood_0 : decode cX9_stood 0 = .ok (.iload_n 1, 1) := by decide +kernel
theorem dX9_stood_1 : decode cX9_stood 1 = .ok (.iconst (-1), 1) := by decide +kernel
theorem dX9_stood_2 : decode cX9_stood 2 = .ok (.if_icmp .ge 5, 3) := by decide +kernel
theorem dX9_stood_5 : decode cX9_stood 5 = .ok (.iconst (-1), 1) := by decide +kernel
theorem dX9_stood_6 : decode cX9_stood 6 = .ok (.ireturn, 1) := by decide +kernel
theorem dX9_stood_7 : decode cX9_stood 7 = .ok (.iconst 0, 1) := by decide +kernel
theorem dX9_stood_8 : decode cX9_stood 8 = .ok (.istore_n 2, 1) := by decide +kernel
theorem dX9_stood_9 : decode cX9_stood 9 = .ok (.aload_n 0, 1) := by decide +kernel
theorem dX9_stood_10 : decode cX9_stood 10 = .ok (.getfield 67, 3) := by decide +kernel
theorem dX9_stood_13 : decode cX9_stood 13 = .ok (.aload_n 0, 1) := by decide +kernel
theorem dX9_stood_14 : decode cX9_stood 14 = .ok (.getfield 19, 3) := by decide +kernel
theorem dX9_stood_17 : decode cX9_stood 17 = .ok (.getfield 109, 3) := by decide +kernel
theorem dX9_stood_20 : decode cX9_stood 20 = .ok (.invokevirtual 232, 3) := by decide +kernel
theorem dX9_stood_23 : decode cX9_stood 23 = .ok (.istore_n 3, 1) := by decide +kernel
theorem dX9_stood_24 : decode cX9_stood 24 = .ok (.iconst 0, 1) := by decide +kernel
theorem dX9_stood_25 : decode cX9_stood 25 = .ok (.istore 4, 2) := by decide +kernel
theorem dX9_stood_27 : decode cX9_stood 27 = .ok (.iload 4, 2) := by decide +kernel
theorem dX9_stood_29 : decode cX9_stood 29 = .ok (.iload_n 3, 1) := by decide +kernel
theorem dX9_stood_30 : decode cX9_stood 30 = .ok (.if_icmp .ge 48, 3) := by decide +kernel
theorem dX9_stood_33 : decode cX9_stood 33 = .ok (.aload_n 0, 1) := by decide +kernel
theorem dX9_stood_34 : decode cX9_stood 34 = .ok (.getfield 67, 3) := by decide +kernel
theorem dX9_stood_37 : decode cX9_stood 37 = .ok (.iload 4, 2) := by decide +kernel
theorem dX9_stood_39 : decode cX9_stood 39 = .ok (.aload_n 0, 1) := by decide +kernel
theorem dX9_stood_40 : decode cX9_stood 40 = .ok (.getfield 19, 3) := by decide +kernel
theorem dX9_stood_43 : decode cX9_stood 43 = .ok (.getfield 109, 3) := by decide +kernel
theorem dX9_stood_46 : decode cX9_stood 46 = .ok (.invokevirtual 235, 3) := by decide +kernel
theorem dX9_stood_49 : decode cX9_stood 49 = .ok (.aload_n 0, 1) := by decide +kernel
theorem dX9_stood_50 : decode cX9_stood 50 = .ok (.invokevirtual 269, 3) := by decide +kernel
theorem dX9_stood_53 : decode cX9_stood 53 = .ok (.ifCond .eq 19, 3) := by decide +kernel
theorem dX9_stood_56 : decode cX9_stood 56 = .ok (.iload_n 2, 1) := by decide +kernel
theorem dX9_stood_57 : decode cX9_stood 57 = .ok (.iload_n 1, 1) := by decide +kernel
theorem dX9_stood_58 : decode cX9_stood 58 = .ok (.if_icmp .ne 11, 3) := by decide +kernel
theorem dX9_stood_61 : decode cX9_stood 61 = .ok (.aload_n 0, 1) := by decide +kernel
theorem dX9_stood_62 : decode cX9_stood 62 = .ok (.getfield 67, 3) := by decide +kernel
theorem dX9_stood_65 : decode cX9_stood 65 = .ok (.invokevirtual 245, 3) := by decide +kernel
theorem dX9_stood_68 : decode cX9_stood 68 = .ok (.ireturn, 1) := by decide +kernel
theorem dX9_stood_69 : decode cX9_stood 69 = .ok (.iinc 2 1, 3) := by decide +kernel
theorem dX9_stood_72 : decode cX9_stood 72 = .ok (.iinc 4 1, 3) := by decide +kernel
theorem dX9_stood_75 : decode cX9_stood 75 = .ok (.goto (-48), 3) := by decide +kernel
theorem dX9_stood_78 : decode cX9_stood 78 = .ok (.iload_n 1, 1) := by decide +kernel
theorem dX9_stood_79 : decode cX9_stood 79 = .ok (.iconst (-1), 1) := by decide +kernel
theorem dX9_stood_80 : decode cX9_stood 80 = .ok (.if_icmp .ne 7, 3) := by decide +kernel
theorem dX9_stood_83 : decode cX9_stood 83 = .ok (.iload_n 2, 1) := by decide +kernel
theorem dX9_stood_84 : decode cX9_stood 84 = .ok (.goto 4, 3) := by decide +kernel
theorem dX9_stood_87 : decode cX9_stood 87 = .ok (.iconst (-1), 1) := by decide +kernel
theorem dX9_stood_88 : decode cX9_stood 88 = .ok (.ireturn, 1) := by decide +kernel
set_option maxRecDepth 20000 in
theorem ggX9_look_X9_countAlike : GoodIn wsX9_look wsX9_countAlike := goodIn_r _ [7, 8, 9, 1, 10, 11, 12, 13, 14, 15, 16, 17, 18, 19, 20, 21, 22, 23, 24, 25, 26, 27, 28, 29, 30, 31, 32, 6, 33, 34, 35, 36, 37, 38, 39, 40, 41, 42, 43, 44, 45, 46, 47, 48, 49, 50, 51, 52, 53, 54, 55, 56, 57, 58, 59, 60, 61, 62, 63, 64, 65, 66, 67, 68, 69, 70, 71, 72, 73, 74, 75, 76, 77, 78, 79, 80, 81, 82, 83, 84, 85, 86, 87, 88, 89, 90, 91, 92, 93, 94, 95, 96, 97, 98, 99, 100, 101, 102, 103, 104, 105, 106, 107, 108, 109, 110, 111, 112, 113, 114, 115, 116, 117, 118, 119, 2, 125, 126, 127, 128, 129, 130, 131, 132, 133, 134, 135, 136, 137, 138, 139, 140, 141, 142, 143, 144, 145, 146, 147, 148, 149, 150, 151, 152, 153, 154, 155, 156, 157, 158, 159, 160, 161] (by decide +kernel) (by decide +kernel)
set_option maxRecDepth 20000 in
theorem gX9_look_X9_countAlike : GoodIn wsX9_look (wsV RX9 272 RX9 yX9_countAlike wsX9_countAlike) := goodIn_app (goodIn_of _ (by decide +kernel)) ggX9_look_X9_countAlike
set_option maxRecDepth 20000 in
theorem ggX9_look_X9_greatestPart : GoodIn wsX9_look wsX9_greatestPart := goodIn_r _ [123, 1, 2, 8, 124, 67, 26, 68, 125, 126, 127, 128, 129, 130, 131, 132, 133, 134, 135, 136, 137, 138, 139, 140, 141, 142, 143, 144, 145, 146, 147, 148] (by decide +kernel) (by decide +kernel)
set_option maxRecDepth 20000 in
theorem gX9_look_X9_greatestPart : GoodIn wsX9_look (wsV RX9 275 RX9 yX9_greatestPart wsX9_greatestPart) := goodIn_app (goodIn_of _ (by decide +kernel)) ggX9_look_X9_greatestPart
theorem dX9_look_0 : decode cX9_look 0 = .ok (.aload_n 0, 1) := by decide +kernel
theorem dX9_look_1 : decode cX9_look 1 = .ok (.invokevirtual 272, 3) := by decide +kernel
theorem dX9_look_4 : decode cX9_look 4 = .ok (.istore_n 1, 1) := by decide +kernel
theorem dX9_look_5 : decode cX9_look 5 = .ok (.iconst (-1), 1) := by decide +kernel
theorem dX9_look_6 : decode cX9_look 6 = .ok (.istore_n 2, 1) := by decide +kernel
theorem dX9_look_7 : decode cX9_look 7 = .ok (.iload_n 1, 1) := by decide +kernel
theorem dX9_look_8 : decode cX9_look 8 = .ok (.istore_n 3, 1) := by decide +kernel
theorem dX9_look_9 : decode cX9_look 9 = .ok (.iconst 0, 1) := by decide +kernel
theorem dX9_look_10 : decode cX9_look 10 = .ok (.istore 4, 2) := by decide +kernel
theorem dX9_look_12 : decode cX9_look 12 = .ok (.iload 4, 2) := by decide +kernel
theorem dX9_look_14 : decode cX9_look 14 = .ok (.aload_n 0, 1) := by decide +kernel
theorem dX9_look_15 : decode cX9_look 15 = .ok (.getfield 19, 3) := by decide +kernel
theorem dX9_look_18 : decode cX9_look 18 = .ok (.getfield 222, 3) := by decide +kernel
theorem dX9_look_21 : decode cX9_look 21 = .ok (.if_icmp .ge 29, 3) := by decide +kernel
theorem dX9_look_24 : decode cX9_look 24 = .ok (.aload_n 0, 1) := by decide +kernel
theorem dX9_look_25 : decode cX9_look 25 = .ok (.iload 4, 2) := by decide +kernel
theorem dX9_look_27 : decode cX9_look 27 = .ok (.invokevirtual 275, 3) := by decide +kernel
theorem dX9_look_30 : decode cX9_look 30 = .ok (.istore 5, 2) := by decide +kernel
theorem dX9_look_32 : decode cX9_look 32 = .ok (.iload 5, 2) := by decide +kernel
theorem dX9_look_34 : decode cX9_look 34 = .ok (.iload_n 3, 1) := by decide +kernel
theorem dX9_look_35 : decode cX9_look 35 = .ok (.if_icmp .ge 9, 3) := by decide +kernel
theorem dX9_look_38 : decode cX9_look 38 = .ok (.iload 5, 2) := by decide +kernel
theorem dX9_look_40 : decode cX9_look 40 = .ok (.istore_n 3, 1) := by decide +kernel
theorem dX9_look_41 : decode cX9_look 41 = .ok (.iload 4, 2) := by decide +kernel
theorem dX9_look_43 : decode cX9_look 43 = .ok (.istore_n 2, 1) := by decide +kernel
theorem dX9_look_44 : decode cX9_look 44 = .ok (.iinc 4 1, 3) := by decide +kernel
theorem dX9_look_47 : decode cX9_look 47 = .ok (.goto (-35), 3) := by decide +kernel
theorem dX9_look_50 : decode cX9_look 50 = .ok (.iload_n 2, 1) := by decide +kernel
theorem dX9_look_51 : decode cX9_look 51 = .ok (.ireturn, 1) := by decide +kernel
set_option maxRecDepth 20000 in
theorem ggX9_write_X4_hasCell : GoodIn wsX9_write wsX4_hasCell := goodIn_r _ [11, 12, 40, 41, 42, 43, 44, 45, 46, 47, 48, 49, 50] (by decide +kernel) (by decide +kernel)
set_option maxRecDepth 20000 in
theorem gX9_write_X4_hasCell : GoodIn wsX9_write (wsV RX9 146 RX4 yX4_hasCell wsX4_hasCell) := goodIn_app (goodIn_of _ (by decide +kernel)) ggX9_write_X4_hasCell
set_option maxRecDepth 20000 in
theorem ggX9_write_X6_addEntry : GoodIn wsX9_write wsX6_addEntry := goodIn_r _ [17, 18, 19, 20, 34, 35, 36, 37, 38, 39] (by decide +kernel) (by decide +kernel)
set_option maxRecDepth 20000 in
theorem gX9_write_X6_addEntry : GoodIn wsX9_write (wsV RX9 278 RX6 yX6_addEntry wsX6_addEntry) := goodIn_app (goodIn_of _ (by decide +kernel)) ggX9_write_X6_addEntry
theorem dX9_write_0 : decode cX9_write 0 = .ok (.aload_n 0, 1) := by decide +kernel
theorem dX9_write_1 : decode cX9_write 1 = .ok (.getfield 19, 3) := by decide +kernel
theorem dX9_write_4 : decode cX9_write 4 = .ok (.iload_n 1, 1) := by decide +kernel
theorem dX9_write_5 : decode cX9_write 5 = .ok (.invokevirtual 146, 3) := by decide +kernel
theorem dX9_write_8 : decode cX9_write 8 = .ok (.ifCond .ne 6, 3) := by decide +kernel
theorem dX9_write_11 : decode cX9_write 11 = .ok (.ldc 150, 2) := by decide +kernel
theorem dX9_write_13 : decode cX9_write 13 = .ok (.ireturn, 1) := by decide +kernel
theorem dX9_write_14 : decode cX9_write 14 = .ok (.iload_n 2, 1) := by decide +kernel
theorem dX9_write_15 : decode cX9_write 15 = .ok (.ifCond .lt 9, 3) := by decide +kernel
theorem dX9_write_18 : decode cX9_write 18 = .ok (.iload_n 2, 1) := by decide +kernel
theorem dX9_write_19 : decode cX9_write 19 = .ok (.bipush 9, 2) := by decide +kernel
theorem dX9_write_21 : decode cX9_write 21 = .ok (.if_icmp .le 6, 3) := by decide +kernel
theorem dX9_write_24 : decode cX9_write 24 = .ok (.ldc 86, 2) := by decide +kernel
theorem dX9_write_26 : decode cX9_write 26 = .ok (.ireturn, 1) := by decide +kernel
theorem dX9_write_27 : decode cX9_write 27 = .ok (.aload_n 0, 1) := by decide +kernel
theorem dX9_write_28 : decode cX9_write 28 = .ok (.getfield 60, 3) := by decide +kernel
theorem dX9_write_31 : decode cX9_write 31 = .ok (.getfield 140, 3) := by decide +kernel
theorem dX9_write_34 : decode cX9_write 34 = .ok (.bipush 15, 2) := by decide +kernel
theorem dX9_write_36 : decode cX9_write 36 = .ok (.if_icmp .lt 6, 3) := by decide +kernel
theorem dX9_write_39 : decode cX9_write 39 = .ok (.ldc 91, 2) := by decide +kernel
theorem dX9_write_41 : decode cX9_write 41 = .ok (.ireturn, 1) := by decide +kernel
theorem dX9_write_42 : decode cX9_write 42 = .ok (.aload_n 0, 1) := by decide +kernel
theorem dX9_write_43 : decode cX9_write 43 = .ok (.getfield 60, 3) := by decide +kernel
theorem dX9_write_46 : decode cX9_write 46 = .ok (.iload_n 1, 1) := by decide +kernel
theorem dX9_write_47 : decode cX9_write 47 = .ok (.iload_n 2, 1) := by decide +kernel
theorem dX9_write_48 : decode cX9_write 48 = .ok (.invokevirtual 278, 3) := by decide +kernel
theorem dX9_write_51 : decode cX9_write 51 = .ok (.aload_n 0, 1) := by decide +kernel
theorem dX9_write_52 : decode cX9_write 52 = .ok (.getfield 60, 3) := by decide +kernel
theorem dX9_write_55 : decode cX9_write 55 = .ok (.getfield 140, 3) := by decide +kernel
theorem dX9_write_58 : decode cX9_write 58 = .ok (.ireturn, 1) := by decide +kernel
set_option maxRecDepth 20000 in
theorem ggX9_tear_X6_clear : GoodIn wsX9_tear wsX6_clear := goodIn_r _ [8, 9, 10, 24, 25, 26, 27, 28, 29] (by decide +kernel) (by decide +kernel)
set_option maxRecDepth 20000 in
theorem gX9_tear_X6_clear : GoodIn wsX9_tear (wsV RX9 281 RX6 yX6_clear wsX6_clear) := goodIn_app (goodIn_of _ (by decide +kernel)) ggX9_tear_X6_clear
theorem dX9_tear_0 : decode cX9_tear 0 = .ok (.aload_n 0, 1) := by decide +kernel
theorem dX9_tear_1 : decode cX9_tear 1 = .ok (.getfield 60, 3) := by decide +kernel
theorem dX9_tear_4 : decode cX9_tear 4 = .ok (.getfield 137, 3) := by decide +kernel
theorem dX9_tear_7 : decode cX9_tear 7 = .ok (.aload_n 0, 1) := by decide +kernel
theorem dX9_tear_8 : decode cX9_tear 8 = .ok (.getfield 60, 3) := by decide +kernel
theorem dX9_tear_11 : decode cX9_tear 11 = .ok (.getfield 140, 3) := by decide +kernel
theorem dX9_tear_14 : decode cX9_tear 14 = .ok (.iadd, 1) := by decide +kernel
theorem dX9_tear_15 : decode cX9_tear 15 = .ok (.istore_n 1, 1) := by decide +kernel
theorem dX9_tear_16 : decode cX9_tear 16 = .ok (.aload_n 0, 1) := by decide +kernel
theorem dX9_tear_17 : decode cX9_tear 17 = .ok (.getfield 60, 3) := by decide +kernel
theorem dX9_tear_20 : decode cX9_tear 20 = .ok (.invokevirtual 281, 3) := by decide +kernel
theorem dX9_tear_23 : decode cX9_tear 23 = .ok (.iload_n 1, 1) := by decide +kernel
theorem dX9_tear_24 : decode cX9_tear 24 = .ok (.ireturn, 1) := by decide +kernel
set_option maxRecDepth 20000 in
theorem ggX9_judge_X9_shapeNow : GoodIn wsX9_judge wsX9_shapeNow := goodIn_r _ [8, 9, 10, 11, 12, 3, 13, 14, 15, 16, 17, 18, 19, 20, 21, 22, 23, 24, 25, 26, 27, 28, 29, 30, 31, 32, 33, 34, 35, 36, 37, 38, 39, 40, 41, 42, 43, 44, 45, 46, 47, 48, 49, 50, 7, 51, 52, 53, 54, 55, 56, 57, 58, 59, 60, 61, 62, 63, 64, 65, 66, 67, 68, 69, 70, 71, 72, 73, 74, 75, 76, 77, 78, 79, 80, 81, 82, 83, 84, 85, 86, 87, 88, 89, 90, 91, 92, 93, 94, 95, 96, 97, 98, 99, 100, 101, 102, 103, 119, 120, 121, 122, 123, 124, 125, 126, 127, 128, 129, 130, 131, 138, 139, 140, 141, 142, 143, 144, 145, 146, 147, 148, 149, 150, 151, 152, 153, 154, 155, 156, 157, 158, 159] (by decide +kernel) (by decide +kernel)
set_option maxRecDepth 20000 in
theorem gX9_judge_X9_shapeNow : GoodIn wsX9_judge (wsV RX9 155 RX9 yX9_shapeNow wsX9_shapeNow) := goodIn_app (goodIn_of _ (by decide +kernel)) ggX9_judge_X9_shapeNow
set_option maxRecDepth 20000 in
theorem ggX9_judge_X6_entryCell : GoodIn wsX9_judge wsX6_entryCell := goodIn_r _ [108, 109, 132, 133, 134, 135, 136, 137] (by decide +kernel) (by decide +kernel)
set_option maxRecDepth 20000 in
theorem gX9_judge_X6_entryCell : GoodIn wsX9_judge (wsV RX9 284 RX6 yX6_entryCell wsX6_entryCell) := goodIn_app (goodIn_of _ (by decide +kernel)) ggX9_judge_X6_entryCell
set_option maxRecDepth 20000 in
theorem ggX9_judge_X2_heightOf : GoodIn wsX9_judge wsX2_heightOf := goodIn_r _ [113, 62, 155, 156, 157, 158, 159] (by decide +kernel) (by decide +kernel)
set_option maxRecDepth 20000 in
theorem gX9_judge_X2_heightOf : GoodIn wsX9_judge (wsV RX9 158 RX2 yX2_heightOf wsX2_heightOf) := goodIn_app (goodIn_of _ (by decide +kernel)) ggX9_judge_X2_heightOf
set_option maxRecDepth 20000 in
theorem ggX9_judge_X6_entryHeight : GoodIn wsX9_judge wsX6_entryHeight := goodIn_r _ [117, 118, 132, 133, 134, 135, 136, 137] (by decide +kernel) (by decide +kernel)
set_option maxRecDepth 20000 in
theorem gX9_judge_X6_entryHeight : GoodIn wsX9_judge (wsV RX9 287 RX6 yX6_entryHeight wsX6_entryHeight) := goodIn_app (goodIn_of _ (by decide +kernel)) ggX9_judge_X6_entryHeight
theorem dX9_judge_0 : decode cX9_judge 0 = .ok (.aload_n 0, 1) := by decide +kernel
theorem dX9_judge_1 : decode cX9_judge 1 = .ok (.invokevirtual 155, 3) := by decide +kernel
theorem dX9_judge_4 : decode cX9_judge 4 = .ok (.iconst 0, 1) := by decide +kernel
theorem dX9_judge_5 : decode cX9_judge 5 = .ok (.istore_n 1, 1) := by decide +kernel
theorem dX9_judge_6 : decode cX9_judge 6 = .ok (.iload_n 1, 1) := by decide +kernel
theorem dX9_judge_7 : decode cX9_judge 7 = .ok (.aload_n 0, 1) := by decide +kernel
theorem dX9_judge_8 : decode cX9_judge 8 = .ok (.getfield 60, 3) := by decide +kernel
theorem dX9_judge_11 : decode cX9_judge 11 = .ok (.getfield 140, 3) := by decide +kernel
theorem dX9_judge_14 : decode cX9_judge 14 = .ok (.if_icmp .ge 37, 3) := by decide +kernel
theorem dX9_judge_17 : decode cX9_judge 17 = .ok (.aload_n 0, 1) := by decide +kernel
theorem dX9_judge_18 : decode cX9_judge 18 = .ok (.getfield 74, 3) := by decide +kernel
theorem dX9_judge_21 : decode cX9_judge 21 = .ok (.aload_n 0, 1) := by decide +kernel
theorem dX9_judge_22 : decode cX9_judge 22 = .ok (.getfield 60, 3) := by decide +kernel
theorem dX9_judge_25 : decode cX9_judge 25 = .ok (.iload_n 1, 1) := by decide +kernel
theorem dX9_judge_26 : decode cX9_judge 26 = .ok (.invokevirtual 284, 3) := by decide +kernel
theorem dX9_judge_29 : decode cX9_judge 29 = .ok (.invokevirtual 158, 3) := by decide +kernel
theorem dX9_judge_32 : decode cX9_judge 32 = .ok (.aload_n 0, 1) := by decide +kernel
theorem dX9_judge_33 : decode cX9_judge 33 = .ok (.getfield 60, 3) := by decide +kernel
theorem dX9_judge_36 : decode cX9_judge 36 = .ok (.iload_n 1, 1) := by decide +kernel
theorem dX9_judge_37 : decode cX9_judge 37 = .ok (.invokevirtual 287, 3) := by decide +kernel
theorem dX9_judge_40 : decode cX9_judge 40 = .ok (.if_icmp .eq 5, 3) := by decide +kernel
theorem dX9_judge_43 : decode cX9_judge 43 = .ok (.iload_n 1, 1) := by decide +kernel
theorem dX9_judge_44 : decode cX9_judge 44 = .ok (.ireturn, 1) := by decide +kernel
theorem dX9_judge_45 : decode cX9_judge 45 = .ok (.iinc 1 1, 3) := by decide +kernel
theorem dX9_judge_48 : decode cX9_judge 48 = .ok (.goto (-42), 3) := by decide +kernel
theorem dX9_judge_51 : decode cX9_judge 51 = .ok (.iconst (-1), 1) := by decide +kernel
theorem dX9_judge_52 : decode cX9_judge 52 = .ok (.ireturn, 1) := by decide +kernel
theorem dX9_seed_0 : decode cX9_seed 0 = .ok (.iload_n 1, 1) := by decide +kernel
theorem dX9_seed_1 : decode cX9_seed 1 = .ok (.ifCond .ge 6, 3) := by decide +kernel
theorem dX9_seed_4 : decode cX9_seed 4 = .ok (.ldc 86, 2) := by decide +kernel
theorem dX9_seed_6 : decode cX9_seed 6 = .ok (.ireturn, 1) := by decide +kernel
theorem dX9_seed_7 : decode cX9_seed 7 = .ok (.aload_n 0, 1) := by decide +kernel
theorem dX9_seed_8 : decode cX9_seed 8 = .ok (.getfield 53, 3) := by decide +kernel
theorem dX9_seed_11 : decode cX9_seed 11 = .ok (.getfield 290, 3) := by decide +kernel
theorem dX9_seed_14 : decode cX9_seed 14 = .ok (.istore_n 2, 1) := by decide +kernel
theorem dX9_seed_15 : decode cX9_seed 15 = .ok (.aload_n 0, 1) := by decide +kernel
theorem dX9_seed_16 : decode cX9_seed 16 = .ok (.getfield 53, 3) := by decide +kernel
theorem dX9_seed_19 : decode cX9_seed 19 = .ok (.iload_n 1, 1) := by decide +kernel
theorem dX9_seed_20 : decode cX9_seed 20 = .ok (.putfield 290, 3) := by decide +kernel
theorem dX9_seed_23 : decode cX9_seed 23 = .ok (.iload_n 2, 1) := by decide +kernel
theorem dX9_seed_24 : decode cX9_seed 24 = .ok (.ireturn, 1) := by decide +kernel
set_option maxRecDepth 20000 in
theorem ggX9_keep_X9_imageAt : GoodIn wsX9_keep wsX9_imageAt := goodIn_r _ [13, 14, 42, 43, 44, 45, 46, 47, 48, 49, 50, 51, 52, 53, 54] (by decide +kernel) (by decide +kernel)
set_option maxRecDepth 20000 in
theorem gX9_keep_X9_imageAt : GoodIn wsX9_keep (wsV RX9 293 RX9 yX9_imageAt wsX9_imageAt) := goodIn_app (goodIn_of _ (by decide +kernel)) ggX9_keep_X9_imageAt
set_option maxRecDepth 20000 in
theorem ggX9_keep_X0_copy : GoodIn wsX9_keep wsX0_copy := goodIn_r _ [19, 20, 21, 22, 23, 24, 25, 26, 18, 27, 28, 29, 30, 31, 56, 57, 58, 59] (by decide +kernel) (by decide +kernel)
set_option maxRecDepth 20000 in
theorem gX9_keep_X0_copy : GoodIn wsX9_keep (wsV RX9 300 RX0 yX0_copy wsX0_copy) := goodIn_app (goodIn_of _ (by decide +kernel)) ggX9_keep_X0_copy
set_option maxRecDepth 20000 in
theorem ggX9_keep_X3_clear : GoodIn wsX9_keep wsX3_clear := goodIn_r _ [36, 37, 38, 60, 61, 62] (by decide +kernel) (by decide +kernel)
set_option maxRecDepth 20000 in
theorem gX9_keep_X3_clear : GoodIn wsX9_keep (wsV RX9 310 RX3 yX3_clear wsX3_clear) := goodIn_app (goodIn_of _ (by decide +kernel)) ggX9_keep_X3_clear
theorem dX9_keep_0 : decode cX9_keep 0 = .ok (.aload_n 0, 1) := by decide +kernel
theorem dX9_keep_1 : decode cX9_keep 1 = .ok (.iload_n 1, 1) := by decide +kernel
theorem dX9_keep_2 : decode cX9_keep 2 = .ok (.invokevirtual 293, 3) := by decide +kernel
theorem dX9_keep_5 : decode cX9_keep 5 = .ok (.astore_n 2, 1) := by decide +kernel
theorem dX9_keep_6 : decode cX9_keep 6 = .ok (.aload_n 2, 1) := by decide +kernel
theorem dX9_keep_7 : decode cX9_keep 7 = .ok (.ifnonnull 6, 3) := by decide +kernel
theorem dX9_keep_10 : decode cX9_keep 10 = .ok (.ldc 150, 2) := by decide +kernel
theorem dX9_keep_12 : decode cX9_keep 12 = .ok (.ireturn, 1) := by decide +kernel
theorem dX9_keep_13 : decode cX9_keep 13 = .ok (.aload_n 2, 1) := by decide +kernel
theorem dX9_keep_14 : decode cX9_keep 14 = .ok (.getfield 297, 3) := by decide +kernel
theorem dX9_keep_17 : decode cX9_keep 17 = .ok (.aload_n 0, 1) := by decide +kernel
theorem dX9_keep_18 : decode cX9_keep 18 = .ok (.getfield 33, 3) := by decide +kernel
theorem dX9_keep_21 : decode cX9_keep 21 = .ok (.invokevirtual 300, 3) := by decide +kernel
theorem dX9_keep_24 : decode cX9_keep 24 = .ok (.aload_n 2, 1) := by decide +kernel
theorem dX9_keep_25 : decode cX9_keep 25 = .ok (.aload_n 0, 1) := by decide +kernel
theorem dX9_keep_26 : decode cX9_keep 26 = .ok (.getfield 53, 3) := by decide +kernel
theorem dX9_keep_29 : decode cX9_keep 29 = .ok (.getfield 290, 3) := by decide +kernel
theorem dX9_keep_32 : decode cX9_keep 32 = .ok (.putfield 303, 3) := by decide +kernel
theorem dX9_keep_35 : decode cX9_keep 35 = .ok (.aload_n 2, 1) := by decide +kernel
theorem dX9_keep_36 : decode cX9_keep 36 = .ok (.iconst 1, 1) := by decide +kernel
theorem dX9_keep_37 : decode cX9_keep 37 = .ok (.putfield 306, 3) := by decide +kernel
theorem dX9_keep_40 : decode cX9_keep 40 = .ok (.aload_n 0, 1) := by decide +kernel
theorem dX9_keep_41 : decode cX9_keep 41 = .ok (.getfield 40, 3) := by decide +kernel
theorem dX9_keep_44 : decode cX9_keep 44 = .ok (.invokevirtual 310, 3) := by decide +kernel
theorem dX9_keep_47 : decode cX9_keep 47 = .ok (.iconst 1, 1) := by decide +kernel
theorem dX9_keep_48 : decode cX9_keep 48 = .ok (.ireturn, 1) := by decide +kernel
set_option maxRecDepth 20000 in
theorem ggX9_goBack_X9_imageAt : GoodIn wsX9_goBack wsX9_imageAt := goodIn_r _ [14, 15, 43, 44, 45, 46, 47, 48, 49, 50, 51, 52, 53, 54, 55] (by decide +kernel) (by decide +kernel)
set_option maxRecDepth 20000 in
theorem gX9_goBack_X9_imageAt : GoodIn wsX9_goBack (wsV RX9 293 RX9 yX9_imageAt wsX9_imageAt) := goodIn_app (goodIn_of _ (by decide +kernel)) ggX9_goBack_X9_imageAt
set_option maxRecDepth 20000 in
theorem ggX9_goBack_X0_copy : GoodIn wsX9_goBack wsX0_copy := goodIn_r _ [20, 21, 22, 23, 24, 25, 26, 27, 19, 28, 29, 30, 31, 32, 57, 58, 59, 60] (by decide +kernel) (by decide +kernel)
set_option maxRecDepth 20000 in
theorem gX9_goBack_X0_copy : GoodIn wsX9_goBack (wsV RX9 300 RX0 yX0_copy wsX0_copy) := goodIn_app (goodIn_of _ (by decide +kernel)) ggX9_goBack_X0_copy
set_option maxRecDepth 20000 in
theorem ggX9_goBack_X3_clear : GoodIn wsX9_goBack wsX3_clear := goodIn_r _ [37, 38, 39, 61, 62, 63] (by decide +kernel) (by decide +kernel)
set_option maxRecDepth 20000 in
theorem gX9_goBack_X3_clear : GoodIn wsX9_goBack (wsV RX9 310 RX3 yX3_clear wsX3_clear) := goodIn_app (goodIn_of _ (by decide +kernel)) ggX9_goBack_X3_clear
theorem dX9_goBack_0 : decode cX9_goBack 0 = .ok (.aload_n 0, 1) := by decide +kernel
theorem dX9_goBack_1 : decode cX9_goBack 1 = .ok (.iload_n 1, 1) := by decide +kernel
theorem dX9_goBack_2 : decode cX9_goBack 2 = .ok (.invokevirtual 293, 3) := by decide +kernel
theorem dX9_goBack_5 : decode cX9_goBack 5 = .ok (.astore_n 2, 1) := by decide +kernel
theorem dX9_goBack_6 : decode cX9_goBack 6 = .ok (.aload_n 2, 1) := by decide +kernel
theorem dX9_goBack_7 : decode cX9_goBack 7 = .ok (.ifnonnull 6, 3) := by decide +kernel
theorem dX9_goBack_10 : decode cX9_goBack 10 = .ok (.ldc 150, 2) := by decide +kernel
theorem dX9_goBack_12 : decode cX9_goBack 12 = .ok (.ireturn, 1) := by decide +kernel
theorem dX9_goBack_13 : decode cX9_goBack 13 = .ok (.aload_n 2, 1) := by decide +kernel
theorem dX9_goBack_14 : decode cX9_goBack 14 = .ok (.getfield 306, 3) := by decide +kernel
theorem dX9_goBack_17 : decode cX9_goBack 17 = .ok (.ifCond .ne 6, 3) := by decide +kernel
theorem dX9_goBack_20 : decode cX9_goBack 20 = .ok (.ldc 203, 2) := by decide +kernel
theorem dX9_goBack_22 : decode cX9_goBack 22 = .ok (.ireturn, 1) := by decide +kernel
theorem dX9_goBack_23 : decode cX9_goBack 23 = .ok (.aload_n 0, 1) := by decide +kernel
theorem dX9_goBack_24 : decode cX9_goBack 24 = .ok (.getfield 33, 3) := by decide +kernel
theorem dX9_goBack_27 : decode cX9_goBack 27 = .ok (.aload_n 2, 1) := by decide +kernel
theorem dX9_goBack_28 : decode cX9_goBack 28 = .ok (.getfield 297, 3) := by decide +kernel
theorem dX9_goBack_31 : decode cX9_goBack 31 = .ok (.invokevirtual 300, 3) := by decide +kernel
theorem dX9_goBack_34 : decode cX9_goBack 34 = .ok (.aload_n 0, 1) := by decide +kernel
theorem dX9_goBack_35 : decode cX9_goBack 35 = .ok (.getfield 53, 3) := by decide +kernel
theorem dX9_goBack_38 : decode cX9_goBack 38 = .ok (.aload_n 2, 1) := by decide +kernel
theorem dX9_goBack_39 : decode cX9_goBack 39 = .ok (.getfield 303, 3) := by decide +kernel
theorem dX9_goBack_42 : decode cX9_goBack 42 = .ok (.putfield 290, 3) := by decide +kernel
theorem dX9_goBack_45 : decode cX9_goBack 45 = .ok (.aload_n 0, 1) := by decide +kernel
theorem dX9_goBack_46 : decode cX9_goBack 46 = .ok (.getfield 40, 3) := by decide +kernel
theorem dX9_goBack_49 : decode cX9_goBack 49 = .ok (.invokevirtual 310, 3) := by decide +kernel
theorem dX9_goBack_52 : decode cX9_goBack 52 = .ok (.iconst 1, 1) := by decide +kernel
theorem dX9_goBack_53 : decode cX9_goBack 53 = .ok (.ireturn, 1) := by decide +kernel
set_option maxRecDepth 20000 in
theorem ggX9_moveIn_X0_copy : GoodIn wsX9_moveIn wsX0_copy := goodIn_r _ [12, 13, 14, 15, 16, 17, 18, 19, 11, 20, 21, 22, 23, 24, 71, 72, 73, 74] (by decide +kernel) (by decide +kernel)
set_option maxRecDepth 20000 in
theorem gX9_moveIn_X0_copy : GoodIn wsX9_moveIn (wsV RX9 300 RX0 yX0_copy wsX0_copy) := goodIn_app (goodIn_of _ (by decide +kernel)) ggX9_moveIn_X0_copy
set_option maxRecDepth 20000 in
theorem ggX9_moveIn_X3_clear : GoodIn wsX9_moveIn wsX3_clear := goodIn_r _ [29, 30, 31, 75, 76, 77] (by decide +kernel) (by decide +kernel)
set_option maxRecDepth 20000 in
theorem gX9_moveIn_X3_clear : GoodIn wsX9_moveIn (wsV RX9 310 RX3 yX3_clear wsX3_clear) := goodIn_app (goodIn_of _ (by decide +kernel)) ggX9_moveIn_X3_clear
set_option maxRecDepth 20000 in
theorem ggX9_moveIn_X6_clear : GoodIn wsX9_moveIn wsX6_clear := goodIn_r _ [36, 37, 38, 78, 79, 80, 81, 82, 83] (by decide +kernel) (by decide +kernel)
set_option maxRecDepth 20000 in
theorem gX9_moveIn_X6_clear : GoodIn wsX9_moveIn (wsV RX9 281 RX6 yX6_clear wsX6_clear) := goodIn_app (goodIn_of _ (by decide +kernel)) ggX9_moveIn_X6_clear
set_option maxRecDepth 20000 in
theorem ggX9_moveIn_X9_imageAt : GoodIn wsX9_moveIn wsX9_imageAt := goodIn_r _ [43, 6, 44, 45, 46, 47, 48, 49, 50, 51, 52, 53, 54, 55, 56] (by decide +kernel) (by decide +kernel)
set_option maxRecDepth 20000 in
theorem gX9_moveIn_X9_imageAt : GoodIn wsX9_moveIn (wsV RX9 293 RX9 yX9_imageAt wsX9_imageAt) := goodIn_app (goodIn_of _ (by decide +kernel)) ggX9_moveIn_X9_imageAt
theorem dX9_moveIn_0 : decode cX9_moveIn 0 = .ok (.aload_n 0, 1) := by decide +kernel
theorem dX9_moveIn_1 : decode cX9_moveIn 1 = .ok (.getfield 33, 3) := by decide +kernel
theorem dX9_moveIn_4 : decode cX9_moveIn 4 = .ok (.aload_n 0, 1) := by decide +kernel
theorem dX9_moveIn_5 : decode cX9_moveIn 5 = .ok (.getfield 19, 3) := by decide +kernel
theorem dX9_moveIn_8 : decode cX9_moveIn 8 = .ok (.getfield 311, 3) := by decide +kernel
theorem dX9_moveIn_11 : decode cX9_moveIn 11 = .ok (.invokevirtual 300, 3) := by decide +kernel
theorem dX9_moveIn_14 : decode cX9_moveIn 14 = .ok (.aload_n 0, 1) := by decide +kernel
theorem dX9_moveIn_15 : decode cX9_moveIn 15 = .ok (.getfield 40, 3) := by decide +kernel
theorem dX9_moveIn_18 : decode cX9_moveIn 18 = .ok (.invokevirtual 310, 3) := by decide +kernel
theorem dX9_moveIn_21 : decode cX9_moveIn 21 = .ok (.aload_n 0, 1) := by decide +kernel
theorem dX9_moveIn_22 : decode cX9_moveIn 22 = .ok (.getfield 60, 3) := by decide +kernel
theorem dX9_moveIn_25 : decode cX9_moveIn 25 = .ok (.invokevirtual 281, 3) := by decide +kernel
theorem dX9_moveIn_28 : decode cX9_moveIn 28 = .ok (.iconst 0, 1) := by decide +kernel
theorem dX9_moveIn_29 : decode cX9_moveIn 29 = .ok (.istore_n 1, 1) := by decide +kernel
theorem dX9_moveIn_30 : decode cX9_moveIn 30 = .ok (.iload_n 1, 1) := by decide +kernel
theorem dX9_moveIn_31 : decode cX9_moveIn 31 = .ok (.aload_n 0, 1) := by decide +kernel
theorem dX9_moveIn_32 : decode cX9_moveIn 32 = .ok (.getfield 46, 3) := by decide +kernel
theorem dX9_moveIn_35 : decode cX9_moveIn 35 = .ok (.arraylength, 1) := by decide +kernel
theorem dX9_moveIn_36 : decode cX9_moveIn 36 = .ok (.if_icmp .ge 24, 3) := by decide +kernel
theorem dX9_moveIn_39 : decode cX9_moveIn 39 = .ok (.aload_n 0, 1) := by decide +kernel
theorem dX9_moveIn_40 : decode cX9_moveIn 40 = .ok (.iload_n 1, 1) := by decide +kernel
theorem dX9_moveIn_41 : decode cX9_moveIn 41 = .ok (.invokevirtual 293, 3) := by decide +kernel
theorem dX9_moveIn_44 : decode cX9_moveIn 44 = .ok (.astore_n 2, 1) := by decide +kernel
theorem dX9_moveIn_45 : decode cX9_moveIn 45 = .ok (.aload_n 2, 1) := by decide +kernel
theorem dX9_moveIn_46 : decode cX9_moveIn 46 = .ok (.ifnull 8, 3) := by decide +kernel
theorem dX9_moveIn_49 : decode cX9_moveIn 49 = .ok (.aload_n 2, 1) := by decide +kernel
theorem dX9_moveIn_50 : decode cX9_moveIn 50 = .ok (.iconst 0, 1) := by decide +kernel
theorem dX9_moveIn_51 : decode cX9_moveIn 51 = .ok (.putfield 306, 3) := by decide +kernel
theorem dX9_moveIn_54 : decode cX9_moveIn 54 = .ok (.iinc 1 1, 3) := by decide +kernel
theorem dX9_moveIn_57 : decode cX9_moveIn 57 = .ok (.goto (-27), 3) := by decide +kernel
theorem dX9_moveIn_60 : decode cX9_moveIn 60 = .ok (.return_, 1) := by decide +kernel
theorem dX9_imageAt_0 : decode cX9_imageAt 0 = .ok (.iload_n 1, 1) := by decide +kernel
theorem dX9_imageAt_1 : decode cX9_imageAt 1 = .ok (.ifCond .lt 21, 3) := by decide +kernel
theorem dX9_imageAt_4 : decode cX9_imageAt 4 = .ok (.iload_n 1, 1) := by decide +kernel
theorem dX9_imageAt_5 : decode cX9_imageAt 5 = .ok (.aload_n 0, 1) := by decide +kernel
theorem dX9_imageAt_6 : decode cX9_imageAt 6 = .ok (.getfield 46, 3) := by decide +kernel
theorem dX9_imageAt_9 : decode cX9_imageAt 9 = .ok (.arraylength, 1) := by decide +kernel
theorem dX9_imageAt_10 : decode cX9_imageAt 10 = .ok (.if_icmp .ge 12, 3) := by decide +kernel
theorem dX9_imageAt_13 : decode cX9_imageAt 13 = .ok (.aload_n 0, 1) := by decide +kernel
theorem dX9_imageAt_14 : decode cX9_imageAt 14 = .ok (.getfield 46, 3) := by decide +kernel
theorem dX9_imageAt_17 : decode cX9_imageAt 17 = .ok (.iload_n 1, 1) := by decide +kernel
theorem dX9_imageAt_18 : decode cX9_imageAt 18 = .ok (.aaload, 1) := by decide +kernel
theorem dX9_imageAt_19 : decode cX9_imageAt 19 = .ok (.goto 4, 3) := by decide +kernel
theorem dX9_imageAt_22 : decode cX9_imageAt 22 = .ok (.aconst_null, 1) := by decide +kernel
theorem dX9_imageAt_23 : decode cX9_imageAt 23 = .ok (.areturn, 1) := by decide +kernel
set_option maxRecDepth 20000 in
theorem ggX9_standNow_X8_follow : GoodIn wsX9_standNow wsX8_follow := goodIn_r _ [9, 10, 11, 12, 13, 14, 15, 16, 17, 18, 19, 20, 21, 22, 23, 24, 25, 26, 27, 28, 29, 30, 31, 32, 33, 34, 35, 36, 37, 38, 39, 40, 41, 42, 43, 44, 77, 78, 79, 80, 81, 82] (by decide +kernel) (by decide +kernel)
set_option maxRecDepth 20000 in
theorem gX9_standNow_X8_follow : GoodIn wsX9_standNow (wsV RX9 314 RX8 yX8_follow wsX8_follow) := goodIn_app (goodIn_of _ (by decide +kernel)) ggX9_standNow_X8_follow
set_option maxRecDepth 20000 in
theorem ggX9_standNow_X8_figures : GoodIn wsX9_standNow wsX8_figures := goodIn_r _ [48, 14, 49, 50, 51, 8, 52, 15, 77, 78] (by decide +kernel) (by decide +kernel)
set_option maxRecDepth 20000 in
theorem gX9_standNow_X8_figures : GoodIn wsX9_standNow (wsV RX9 245 RX8 yX8_figures wsX8_figures) := goodIn_app (goodIn_of _ (by decide +kernel)) ggX9_standNow_X8_figures
theorem dX9_standNow_0 : decode cX9_standNow 0 = .ok (.aload_n 0, 1) := by decide +kernel
theorem dX9_standNow_1 : decode cX9_standNow 1 = .ok (.getfield 67, 3) := by decide +kernel
theorem dX9_standNow_4 : decode cX9_standNow 4 = .ok (.aload_n 0, 1) := by decide +kernel
theorem dX9_standNow_5 : decode cX9_standNow 5 = .ok (.getfield 33, 3) := by decide +kernel
theorem dX9_standNow_8 : decode cX9_standNow 8 = .ok (.aload_n 0, 1) := by decide +kernel
theorem dX9_standNow_9 : decode cX9_standNow 9 = .ok (.getfield 19, 3) := by decide +kernel
theorem dX9_standNow_12 : decode cX9_standNow 12 = .ok (.getfield 109, 3) := by decide +kernel
theorem dX9_standNow_15 : decode cX9_standNow 15 = .ok (.invokevirtual 314, 3) := by decide +kernel
theorem dX9_standNow_18 : decode cX9_standNow 18 = .ok (.aload_n 0, 1) := by decide +kernel
theorem dX9_standNow_19 : decode cX9_standNow 19 = .ok (.getfield 67, 3) := by decide +kernel
theorem dX9_standNow_22 : decode cX9_standNow 22 = .ok (.invokevirtual 245, 3) := by decide +kernel
theorem dX9_standNow_25 : decode cX9_standNow 25 = .ok (.ireturn, 1) := by decide +kernel
set_option maxRecDepth 20000 in
theorem ggX9_shapeNow_X8_follow : GoodIn wsX9_shapeNow wsX8_follow := goodIn_r _ [10, 11, 12, 13, 14, 15, 16, 17, 18, 19, 20, 21, 22, 23, 24, 25, 26, 27, 28, 29, 30, 31, 32, 33, 34, 35, 36, 37, 38, 39, 40, 41, 42, 43, 44, 45, 122, 123, 124, 125, 126, 127] (by decide +kernel) (by decide +kernel)
set_option maxRecDepth 20000 in
theorem gX9_shapeNow_X8_follow : GoodIn wsX9_shapeNow (wsV RX9 314 RX8 yX8_follow wsX8_follow) := goodIn_app (goodIn_of _ (by decide +kernel)) ggX9_shapeNow_X8_follow
set_option maxRecDepth 20000 in
theorem ggX9_shapeNow_X2_shape : GoodIn wsX9_shapeNow wsX2_shape := goodIn_r _ [50, 51, 52, 12, 13, 14, 53, 54, 55, 56, 57, 58, 59, 60, 61, 62, 63, 64, 65, 66, 67, 68, 69, 9, 70, 15, 16, 71, 72, 73, 49, 74, 75, 76, 77, 78, 79, 80, 81, 82, 83, 84, 85, 86, 87, 88, 89, 90, 91, 92, 93, 94, 95, 96, 97, 111, 112, 113, 114, 115, 116, 117, 118, 119, 120, 121, 128, 129, 130, 131, 132, 122, 123] (by decide +kernel) (by decide +kernel)
set_option maxRecDepth 20000 in
theorem gX9_shapeNow_X2_shape : GoodIn wsX9_shapeNow (wsV RX9 318 RX2 yX2_shape wsX2_shape) := goodIn_app (goodIn_of _ (by decide +kernel)) ggX9_shapeNow_X2_shape
theorem dX9_shapeNow_0 : decode cX9_shapeNow 0 = .ok (.aload_n 0, 1) := by decide +kernel
theorem dX9_shapeNow_1 : decode cX9_shapeNow 1 = .ok (.getfield 67, 3) := by decide +kernel
theorem dX9_shapeNow_4 : decode cX9_shapeNow 4 = .ok (.aload_n 0, 1) := by decide +kernel
theorem dX9_shapeNow_5 : decode cX9_shapeNow 5 = .ok (.getfield 33, 3) := by decide +kernel
theorem dX9_shapeNow_8 : decode cX9_shapeNow 8 = .ok (.aload_n 0, 1) := by decide +kernel
theorem dX9_shapeNow_9 : decode cX9_shapeNow 9 = .ok (.getfield 19, 3) := by decide +kernel
theorem dX9_shapeNow_12 : decode cX9_shapeNow 12 = .ok (.getfield 109, 3) := by decide +kernel
theorem dX9_shapeNow_15 : decode cX9_shapeNow 15 = .ok (.invokevirtual 314, 3) := by decide +kernel
theorem dX9_shapeNow_18 : decode cX9_shapeNow 18 = .ok (.aload_n 0, 1) := by decide +kernel
theorem dX9_shapeNow_19 : decode cX9_shapeNow 19 = .ok (.getfield 74, 3) := by decide +kernel
theorem dX9_shapeNow_22 : decode cX9_shapeNow 22 = .ok (.aload_n 0, 1) := by decide +kernel
theorem dX9_shapeNow_23 : decode cX9_shapeNow 23 = .ok (.getfield 19, 3) := by decide +kernel
theorem dX9_shapeNow_26 : decode cX9_shapeNow 26 = .ok (.aload_n 0, 1) := by decide +kernel
theorem dX9_shapeNow_27 : decode cX9_shapeNow 27 = .ok (.getfield 67, 3) := by decide +kernel
theorem dX9_shapeNow_30 : decode cX9_shapeNow 30 = .ok (.invokevirtual 318, 3) := by decide +kernel
theorem dX9_shapeNow_33 : decode cX9_shapeNow 33 = .ok (.return_, 1) := by decide +kernel
set_option maxRecDepth 20000 in
theorem ggX9_holdSession_X9_standNow : GoodIn wsX9_holdSession wsX9_standNow := goodIn_r _ [8, 9, 1, 10, 11, 12, 13, 14, 15, 16, 17, 18, 19, 20, 21, 22, 23, 24, 25, 26, 27, 28, 29, 30, 31, 32, 33, 34, 35, 36, 37, 38, 39, 40, 41, 42, 43, 44, 45, 46, 47, 48, 49, 7, 50, 51, 52, 53, 54, 55, 56, 57, 58, 59, 60, 61, 62, 63, 64, 65, 66, 67, 68, 69, 70, 71, 76, 77, 78, 79, 80, 81, 82, 83, 84, 85, 86, 87, 88, 72, 73, 74, 75] (by decide +kernel) (by decide +kernel)
set_option maxRecDepth 20000 in
theorem gX9_holdSession_X9_standNow : GoodIn wsX9_holdSession (wsV RX9 124 RX9 yX9_standNow wsX9_standNow) := goodIn_app (goodIn_of _ (by decide +kernel)) ggX9_holdSession_X9_standNow
theorem dX9_holdSession_0 : decode cX9_holdSession 0 = .ok (.aload_n 0, 1) := by decide +kernel
theorem dX9_holdSession_1 : decode cX9_holdSession 1 = .ok (.invokevirtual 124, 3) := by decide +kernel
theorem dX9_holdSession_4 : decode cX9_holdSession 4 = .ok (.istore_n 1, 1) := by decide +kernel
theorem dX9_holdSession_5 : decode cX9_holdSession 5 = .ok (.aload_n 0, 1) := by decide +kernel
theorem dX9_holdSession_6 : decode cX9_holdSession 6 = .ok (.getfield 33, 3) := by decide +kernel
theorem dX9_holdSession_9 : decode cX9_holdSession 9 = .ok (.dup, 1) := by decide +kernel
theorem dX9_holdSession_10 : decode cX9_holdSession 10 = .ok (.getfield 121, 3) := by decide +kernel
theorem dX9_holdSession_13 : decode cX9_holdSession 13 = .ok (.iconst 1, 1) := by decide +kernel
theorem dX9_holdSession_14 : decode cX9_holdSession 14 = .ok (.iadd, 1) := by decide +kernel
theorem dX9_holdSession_15 : decode cX9_holdSession 15 = .ok (.putfield 121, 3) := by decide +kernel
theorem dX9_holdSession_18 : decode cX9_holdSession 18 = .ok (.aload_n 0, 1) := by decide +kernel
theorem dX9_holdSession_19 : decode cX9_holdSession 19 = .ok (.getfield 33, 3) := by decide +kernel
theorem dX9_holdSession_22 : decode cX9_holdSession 22 = .ok (.iload_n 1, 1) := by decide +kernel
theorem dX9_holdSession_23 : decode cX9_holdSession 23 = .ok (.putfield 128, 3) := by decide +kernel
theorem dX9_holdSession_26 : decode cX9_holdSession 26 = .ok (.iload_n 1, 1) := by decide +kernel
theorem dX9_holdSession_27 : decode cX9_holdSession 27 = .ok (.ireturn, 1) := by decide +kernel
set_option maxRecDepth 20000 in
theorem ggX9_voteByDraw_X1_next : GoodIn wsX9_voteByDraw wsX1_next := goodIn_r _ [10, 11, 12, 13, 14, 15, 47] (by decide +kernel) (by decide +kernel)
set_option maxRecDepth 20000 in
theorem gX9_voteByDraw_X1_next : GoodIn wsX9_voteByDraw (wsV RX9 322 RX1 yX1_next wsX1_next) := goodIn_app (goodIn_of _ (by decide +kernel)) ggX9_voteByDraw_X1_next
set_option maxRecDepth 20000 in
theorem ggX9_voteByDraw_X0_put : GoodIn wsX9_voteByDraw wsX0_put := goodIn_r _ [20, 21, 22, 48, 49, 50, 51] (by decide +kernel) (by decide +kernel)
set_option maxRecDepth 20000 in
theorem gX9_voteByDraw_X0_put : GoodIn wsX9_voteByDraw (wsV RX9 196 RX0 yX0_put wsX0_put) := goodIn_app (goodIn_of _ (by decide +kernel)) ggX9_voteByDraw_X0_put
theorem dX9_voteByDraw_0 : decode cX9_voteByDraw 0 = .ok (.aload_n 0, 1) := by decide +kernel
theorem dX9_voteByDraw_1 : decode cX9_voteByDraw 1 = .ok (.getfield 53, 3) := by decide +kernel
theorem dX9_voteByDraw_4 : decode cX9_voteByDraw 4 = .ok (.aload_n 0, 1) := by decide +kernel
theorem dX9_voteByDraw_5 : decode cX9_voteByDraw 5 = .ok (.getfield 19, 3) := by decide +kernel
theorem dX9_voteByDraw_8 : decode cX9_voteByDraw 8 = .ok (.getfield 118, 3) := by decide +kernel
theorem dX9_voteByDraw_11 : decode cX9_voteByDraw 11 = .ok (.invokevirtual 322, 3) := by decide +kernel
theorem dX9_voteByDraw_14 : decode cX9_voteByDraw 14 = .ok (.istore_n 1, 1) := by decide +kernel
theorem dX9_voteByDraw_15 : decode cX9_voteByDraw 15 = .ok (.aload_n 0, 1) := by decide +kernel
theorem dX9_voteByDraw_16 : decode cX9_voteByDraw 16 = .ok (.getfield 53, 3) := by decide +kernel
theorem dX9_voteByDraw_19 : decode cX9_voteByDraw 19 = .ok (.aload_n 0, 1) := by decide +kernel
theorem dX9_voteByDraw_20 : decode cX9_voteByDraw 20 = .ok (.getfield 19, 3) := by decide +kernel
theorem dX9_voteByDraw_23 : decode cX9_voteByDraw 23 = .ok (.getfield 109, 3) := by decide +kernel
theorem dX9_voteByDraw_26 : decode cX9_voteByDraw 26 = .ok (.invokevirtual 322, 3) := by decide +kernel
theorem dX9_voteByDraw_29 : decode cX9_voteByDraw 29 = .ok (.istore_n 2, 1) := by decide +kernel
theorem dX9_voteByDraw_30 : decode cX9_voteByDraw 30 = .ok (.aload_n 0, 1) := by decide +kernel
theorem dX9_voteByDraw_31 : decode cX9_voteByDraw 31 = .ok (.getfield 53, 3) := by decide +kernel
theorem dX9_voteByDraw_34 : decode cX9_voteByDraw 34 = .ok (.iconst 3, 1) := by decide +kernel
theorem dX9_voteByDraw_35 : decode cX9_voteByDraw 35 = .ok (.invokevirtual 322, 3) := by decide +kernel
theorem dX9_voteByDraw_38 : decode cX9_voteByDraw 38 = .ok (.istore_n 3, 1) := by decide +kernel
theorem dX9_voteByDraw_39 : decode cX9_voteByDraw 39 = .ok (.aload_n 0, 1) := by decide +kernel
theorem dX9_voteByDraw_40 : decode cX9_voteByDraw 40 = .ok (.getfield 33, 3) := by decide +kernel
theorem dX9_voteByDraw_43 : decode cX9_voteByDraw 43 = .ok (.iload_n 1, 1) := by decide +kernel
theorem dX9_voteByDraw_44 : decode cX9_voteByDraw 44 = .ok (.iload_n 2, 1) := by decide +kernel
theorem dX9_voteByDraw_45 : decode cX9_voteByDraw 45 = .ok (.iload_n 3, 1) := by decide +kernel
theorem dX9_voteByDraw_46 : decode cX9_voteByDraw 46 = .ok (.invokevirtual 196, 3) := by decide +kernel
theorem dX9_voteByDraw_49 : decode cX9_voteByDraw 49 = .ok (.return_, 1) := by decide +kernel
set_option maxRecDepth 20000 in
theorem ggX9_downhill_X9_lostMore : GoodIn wsX9_downhill wsX9_lostMore := goodIn_r _ [7, 1, 8, 9, 10, 11, 12, 13, 14, 15, 16, 17, 18, 19, 20, 21, 22, 23, 24, 25, 26, 27, 28, 29, 30, 31, 32, 33, 34, 35, 36, 6, 37, 38, 39, 40, 41, 42, 43, 44, 45, 46, 47, 48, 49, 50, 51, 52, 53, 54, 55, 56, 57, 58, 59, 60, 61, 62, 63, 64, 65, 66, 67, 68, 69, 70, 71, 72] (by decide +kernel) (by decide +kernel)
set_option maxRecDepth 20000 in
theorem gX9_downhill_X9_lostMore : GoodIn wsX9_downhill (wsV RX9 325 RX9 yX9_lostMore wsX9_lostMore) := goodIn_app (goodIn_of _ (by decide +kernel)) ggX9_downhill_X9_lostMore
theorem dX9_downhill_0 : decode cX9_downhill 0 = .ok (.iconst 0, 1) := by decide +kernel
theorem dX9_downhill_1 : decode cX9_downhill 1 = .ok (.istore_n 1, 1) := by decide +kernel
theorem dX9_downhill_2 : decode cX9_downhill 2 = .ok (.iconst 0, 1) := by decide +kernel
theorem dX9_downhill_3 : decode cX9_downhill 3 = .ok (.istore_n 2, 1) := by decide +kernel
theorem dX9_downhill_4 : decode cX9_downhill 4 = .ok (.iload_n 2, 1) := by decide +kernel
theorem dX9_downhill_5 : decode cX9_downhill 5 = .ok (.aload_n 0, 1) := by decide +kernel
theorem dX9_downhill_6 : decode cX9_downhill 6 = .ok (.getfield 19, 3) := by decide +kernel
theorem dX9_downhill_9 : decode cX9_downhill 9 = .ok (.getfield 118, 3) := by decide +kernel
theorem dX9_downhill_12 : decode cX9_downhill 12 = .ok (.if_icmp .ge 23, 3) := by decide +kernel
theorem dX9_downhill_15 : decode cX9_downhill 15 = .ok (.aload_n 0, 1) := by decide +kernel
theorem dX9_downhill_16 : decode cX9_downhill 16 = .ok (.iload_n 2, 1) := by decide +kernel
theorem dX9_downhill_17 : decode cX9_downhill 17 = .ok (.invokevirtual 325, 3) := by decide +kernel
theorem dX9_downhill_20 : decode cX9_downhill 20 = .ok (.ifCond .eq 9, 3) := by decide +kernel
theorem dX9_downhill_23 : decode cX9_downhill 23 = .ok (.iload_n 1, 1) := by decide +kernel
theorem dX9_downhill_24 : decode cX9_downhill 24 = .ok (.iconst 1, 1) := by decide +kernel
theorem dX9_downhill_25 : decode cX9_downhill 25 = .ok (.iload_n 2, 1) := by decide +kernel
theorem dX9_downhill_26 : decode cX9_downhill 26 = .ok (.ishl, 1) := by decide +kernel
theorem dX9_downhill_27 : decode cX9_downhill 27 = .ok (.ior, 1) := by decide +kernel
theorem dX9_downhill_28 : decode cX9_downhill 28 = .ok (.istore_n 1, 1) := by decide +kernel
theorem dX9_downhill_29 : decode cX9_downhill 29 = .ok (.iinc 2 1, 3) := by decide +kernel
theorem dX9_downhill_32 : decode cX9_downhill 32 = .ok (.goto (-28), 3) := by decide +kernel
theorem dX9_downhill_35 : decode cX9_downhill 35 = .ok (.iload_n 1, 1) := by decide +kernel
theorem dX9_downhill_36 : decode cX9_downhill 36 = .ok (.ireturn, 1) := by decide +kernel
set_option maxRecDepth 20000 in
theorem ggX9_lostMore_X0_standOf : GoodIn wsX9_lostMore wsX0_standOf := goodIn_r _ [8, 9, 10, 11, 7, 12, 13, 14, 15, 16, 17, 18, 19, 20, 21, 22, 23, 24, 25, 26, 27, 28, 29, 30, 31, 32, 64, 65, 66, 67] (by decide +kernel) (by decide +kernel)
set_option maxRecDepth 20000 in
theorem gX9_lostMore_X0_standOf : GoodIn wsX9_lostMore (wsV RX9 173 RX0 yX0_standOf wsX0_standOf) := goodIn_app (goodIn_of _ (by decide +kernel)) ggX9_lostMore_X0_standOf
set_option maxRecDepth 20000 in
theorem ggX9_lostMore_X0_howOf : GoodIn wsX9_lostMore wsX0_howOf := goodIn_r _ [36, 13, 14, 15, 7, 16, 17, 25, 26, 27, 28, 29, 64, 65, 66, 67] (by decide +kernel) (by decide +kernel)
set_option maxRecDepth 20000 in
theorem gX9_lostMore_X0_howOf : GoodIn wsX9_lostMore (wsV RX9 188 RX0 yX0_howOf wsX0_howOf) := goodIn_app (goodIn_of _ (by decide +kernel)) ggX9_lostMore_X0_howOf
set_option maxRecDepth 20000 in
theorem ggX9_lostMore_X9_weightOf : GoodIn wsX9_lostMore wsX9_weightOf := goodIn_r _ [39] (by decide +kernel) (by decide +kernel)
set_option maxRecDepth 20000 in
theorem gX9_lostMore_X9_weightOf : GoodIn wsX9_lostMore (va_wsS RX9 328 yX9_weightOf wsX9_weightOf) := goodIn_app (goodIn_of _ (by decide +kernel)) ggX9_lostMore_X9_weightOf
theorem dX9_lostMore_0 : decode cX9_lostMore 0 = .ok (.iconst 0, 1) := by decide +kernel
theorem dX9_lostMore_1 : decode cX9_lostMore 1 = .ok (.istore_n 2, 1) := by decide +kernel
theorem dX9_lostMore_2 : decode cX9_lostMore 2 = .ok (.iconst 0, 1) := by decide +kernel
theorem dX9_lostMore_3 : decode cX9_lostMore 3 = .ok (.istore_n 3, 1) := by decide +kernel
theorem dX9_lostMore_4 : decode cX9_lostMore 4 = .ok (.iload_n 3, 1) := by decide +kernel
theorem dX9_lostMore_5 : decode cX9_lostMore 5 = .ok (.aload_n 0, 1) := by decide +kernel
theorem dX9_lostMore_6 : decode cX9_lostMore 6 = .ok (.getfield 19, 3) := by decide +kernel
theorem dX9_lostMore_9 : decode cX9_lostMore 9 = .ok (.getfield 109, 3) := by decide +kernel
theorem dX9_lostMore_12 : decode cX9_lostMore 12 = .ok (.if_icmp .ge 35, 3) := by decide +kernel
theorem dX9_lostMore_15 : decode cX9_lostMore 15 = .ok (.aload_n 0, 1) := by decide +kernel
theorem dX9_lostMore_16 : decode cX9_lostMore 16 = .ok (.getfield 33, 3) := by decide +kernel
theorem dX9_lostMore_19 : decode cX9_lostMore 19 = .ok (.iload_n 3, 1) := by decide +kernel
theorem dX9_lostMore_20 : decode cX9_lostMore 20 = .ok (.invokevirtual 173, 3) := by decide +kernel
theorem dX9_lostMore_23 : decode cX9_lostMore 23 = .ok (.ifCond .eq 18, 3) := by decide +kernel
theorem dX9_lostMore_26 : decode cX9_lostMore 26 = .ok (.iload_n 2, 1) := by decide +kernel
theorem dX9_lostMore_27 : decode cX9_lostMore 27 = .ok (.aload_n 0, 1) := by decide +kernel
theorem dX9_lostMore_28 : decode cX9_lostMore 28 = .ok (.getfield 33, 3) := by decide +kernel
theorem dX9_lostMore_31 : decode cX9_lostMore 31 = .ok (.iload_n 1, 1) := by decide +kernel
theorem dX9_lostMore_32 : decode cX9_lostMore 32 = .ok (.iload_n 3, 1) := by decide +kernel
theorem dX9_lostMore_33 : decode cX9_lostMore 33 = .ok (.invokevirtual 188, 3) := by decide +kernel
theorem dX9_lostMore_36 : decode cX9_lostMore 36 = .ok (.invokestatic 328, 3) := by decide +kernel
theorem dX9_lostMore_39 : decode cX9_lostMore 39 = .ok (.isub, 1) := by decide +kernel
theorem dX9_lostMore_40 : decode cX9_lostMore 40 = .ok (.istore_n 2, 1) := by decide +kernel
theorem dX9_lostMore_41 : decode cX9_lostMore 41 = .ok (.iinc 3 1, 3) := by decide +kernel
theorem dX9_lostMore_44 : decode cX9_lostMore 44 = .ok (.goto (-40), 3) := by decide +kernel
theorem dX9_lostMore_47 : decode cX9_lostMore 47 = .ok (.iload_n 2, 1) := by decide +kernel
theorem dX9_lostMore_48 : decode cX9_lostMore 48 = .ok (.ifCond .le 7, 3) := by decide +kernel
theorem dX9_lostMore_51 : decode cX9_lostMore 51 = .ok (.iconst 1, 1) := by decide +kernel
theorem dX9_lostMore_52 : decode cX9_lostMore 52 = .ok (.goto 4, 3) := by decide +kernel
theorem dX9_lostMore_55 : decode cX9_lostMore 55 = .ok (.iconst 0, 1) := by decide +kernel
theorem dX9_lostMore_56 : decode cX9_lostMore 56 = .ok (.ireturn, 1) := by decide +kernel
set_option maxRecDepth 20000 in
theorem ggX9_pools_X9_shapeNow : GoodIn wsX9_pools wsX9_shapeNow := goodIn_r _ [8, 9, 10, 1, 11, 3, 12, 13, 14, 15, 16, 17, 18, 19, 20, 21, 22, 23, 24, 25, 26, 27, 28, 29, 30, 31, 32, 33, 34, 35, 36, 37, 38, 39, 40, 41, 42, 43, 44, 45, 46, 47, 48, 49, 7, 50, 51, 52, 53, 54, 55, 56, 57, 58, 59, 60, 61, 62, 63, 64, 65, 66, 67, 68, 69, 70, 71, 72, 73, 74, 75, 76, 77, 78, 79, 80, 81, 82, 83, 84, 85, 86, 87, 88, 89, 90, 91, 92, 93, 94, 95, 96, 97, 98, 99, 100, 101, 102, 119, 120, 121, 122, 123, 124, 125, 126, 127, 128, 129, 130, 131, 132, 133, 134, 135, 136, 137, 138, 139, 140, 141, 142, 143, 144, 145, 146, 147, 148, 149, 150, 151, 152, 153] (by decide +kernel) (by decide +kernel)
set_option maxRecDepth 20000 in
theorem gX9_pools_X9_shapeNow : GoodIn wsX9_pools (wsV RX9 155 RX9 yX9_shapeNow wsX9_shapeNow) := goodIn_app (goodIn_of _ (by decide +kernel)) ggX9_pools_X9_shapeNow
set_option maxRecDepth 20000 in
theorem ggX9_pools_X2_restFrom : GoodIn wsX9_pools wsX2_restFrom := goodIn_r _ [106, 107, 108, 109, 54, 110, 63, 111, 112, 113, 114, 60, 58, 115, 116, 117, 118, 61, 149, 150, 151, 152, 153] (by decide +kernel) (by decide +kernel)
set_option maxRecDepth 20000 in
theorem gX9_pools_X2_restFrom : GoodIn wsX9_pools (wsV RX9 216 RX2 yX2_restFrom wsX2_restFrom) := goodIn_app (goodIn_of _ (by decide +kernel)) ggX9_pools_X2_restFrom
theorem dX9_pools_0 : decode cX9_pools 0 = .ok (.aload_n 0, 1) := by decide +kernel
theorem dX9_pools_1 : decode cX9_pools 1 = .ok (.invokevirtual 155, 3) := by decide +kernel
theorem dX9_pools_4 : decode cX9_pools 4 = .ok (.iconst 0, 1) := by decide +kernel
theorem dX9_pools_5 : decode cX9_pools 5 = .ok (.istore_n 1, 1) := by decide +kernel
theorem dX9_pools_6 : decode cX9_pools 6 = .ok (.iconst 0, 1) := by decide +kernel
theorem dX9_pools_7 : decode cX9_pools 7 = .ok (.istore_n 2, 1) := by decide +kernel
theorem dX9_pools_8 : decode cX9_pools 8 = .ok (.iload_n 2, 1) := by decide +kernel
theorem dX9_pools_9 : decode cX9_pools 9 = .ok (.aload_n 0, 1) := by decide +kernel
theorem dX9_pools_10 : decode cX9_pools 10 = .ok (.getfield 19, 3) := by decide +kernel
theorem dX9_pools_13 : decode cX9_pools 13 = .ok (.getfield 222, 3) := by decide +kernel
theorem dX9_pools_16 : decode cX9_pools 16 = .ok (.if_icmp .ge 22, 3) := by decide +kernel
theorem dX9_pools_19 : decode cX9_pools 19 = .ok (.iload_n 1, 1) := by decide +kernel
theorem dX9_pools_20 : decode cX9_pools 20 = .ok (.iconst 1, 1) := by decide +kernel
theorem dX9_pools_21 : decode cX9_pools 21 = .ok (.aload_n 0, 1) := by decide +kernel
theorem dX9_pools_22 : decode cX9_pools 22 = .ok (.getfield 74, 3) := by decide +kernel
theorem dX9_pools_25 : decode cX9_pools 25 = .ok (.iload_n 2, 1) := by decide +kernel
theorem dX9_pools_26 : decode cX9_pools 26 = .ok (.invokevirtual 216, 3) := by decide +kernel
theorem dX9_pools_29 : decode cX9_pools 29 = .ok (.ishl, 1) := by decide +kernel
theorem dX9_pools_30 : decode cX9_pools 30 = .ok (.ior, 1) := by decide +kernel
theorem dX9_pools_31 : decode cX9_pools 31 = .ok (.istore_n 1, 1) := by decide +kernel
theorem dX9_pools_32 : decode cX9_pools 32 = .ok (.iinc 2 1, 3) := by decide +kernel
theorem dX9_pools_35 : decode cX9_pools 35 = .ok (.goto (-27), 3) := by decide +kernel
theorem dX9_pools_38 : decode cX9_pools 38 = .ok (.iload_n 1, 1) := by decide +kernel
theorem dX9_pools_39 : decode cX9_pools 39 = .ok (.ireturn, 1) := by decide +kernel
set_option maxRecDepth 20000 in
theorem ggX9_isLevel_X9_shapeNow : GoodIn wsX9_isLevel wsX9_shapeNow := goodIn_r _ [6, 7, 8, 1, 9, 10, 11, 12, 13, 14, 15, 16, 17, 18, 19, 20, 21, 22, 23, 24, 25, 26, 27, 28, 29, 30, 31, 32, 33, 34, 35, 36, 37, 38, 39, 40, 41, 42, 43, 44, 45, 46, 47, 48, 5, 49, 50, 51, 52, 53, 54, 55, 56, 57, 58, 59, 60, 61, 62, 63, 64, 65, 66, 67, 68, 69, 70, 71, 72, 73, 74, 75, 76, 77, 78, 79, 80, 81, 82, 83, 84, 85, 86, 87, 88, 89, 90, 91, 92, 93, 94, 95, 96, 97, 98, 99, 100, 101, 114, 115, 116, 117, 118, 119, 120, 121, 122, 123, 124, 125, 126, 127, 128, 129, 130, 131, 132, 133, 134, 135, 136, 137, 138, 139, 140, 141, 142, 143, 144, 145, 146, 147, 148] (by decide +kernel) (by decide +kernel)
set_option maxRecDepth 20000 in
theorem gX9_isLevel_X9_shapeNow : GoodIn wsX9_isLevel (wsV RX9 155 RX9 yX9_shapeNow wsX9_shapeNow) := goodIn_app (goodIn_of _ (by decide +kernel)) ggX9_isLevel_X9_shapeNow
set_option maxRecDepth 20000 in
theorem ggX9_isLevel_X4_cellsOf : GoodIn wsX9_isLevel wsX4_cellsOf := goodIn_r _ [85, 86, 127, 128, 129, 130, 131, 132, 133, 134, 135, 136, 137] (by decide +kernel) (by decide +kernel)
set_option maxRecDepth 20000 in
theorem gX9_isLevel_X4_cellsOf : GoodIn wsX9_isLevel (wsV RX9 167 RX4 yX4_cellsOf wsX4_cellsOf) := goodIn_app (goodIn_of _ (by decide +kernel)) ggX9_isLevel_X4_cellsOf
set_option maxRecDepth 20000 in
theorem ggX9_isLevel_X9_spread : GoodIn wsX9_isLevel wsX9_spread := goodIn_r _ [106, 1, 107, 10, 108, 17, 18, 19, 109, 80, 81, 110, 111, 112, 53, 113, 60, 114, 115, 116, 117, 118, 119, 120, 121, 122, 123, 124, 125, 126, 127, 128, 129, 130, 131, 132, 133, 134, 135, 136, 137, 144, 145, 146, 147, 148] (by decide +kernel) (by decide +kernel)
set_option maxRecDepth 20000 in
theorem gX9_isLevel_X9_spread : GoodIn wsX9_isLevel (wsV RX9 259 RX9 yX9_spread wsX9_spread) := goodIn_app (goodIn_of _ (by decide +kernel)) ggX9_isLevel_X9_spread
theorem dX9_isLevel_0 : decode cX9_isLevel 0 = .ok (.aload_n 0, 1) := by decide +kernel
theorem dX9_isLevel_1 : decode cX9_isLevel 1 = .ok (.invokevirtual 155, 3) := by decide +kernel
theorem dX9_isLevel_4 : decode cX9_isLevel 4 = .ok (.aload_n 0, 1) := by decide +kernel
theorem dX9_isLevel_5 : decode cX9_isLevel 5 = .ok (.aload_n 0, 1) := by decide +kernel
theorem dX9_isLevel_6 : decode cX9_isLevel 6 = .ok (.getfield 19, 3) := by decide +kernel
theorem dX9_isLevel_9 : decode cX9_isLevel 9 = .ok (.iload_n 1, 1) := by decide +kernel
theorem dX9_isLevel_10 : decode cX9_isLevel 10 = .ok (.invokevirtual 167, 3) := by decide +kernel
theorem dX9_isLevel_13 : decode cX9_isLevel 13 = .ok (.invokevirtual 259, 3) := by decide +kernel
theorem dX9_isLevel_16 : decode cX9_isLevel 16 = .ok (.ifCond .ne 7, 3) := by decide +kernel
theorem dX9_isLevel_19 : decode cX9_isLevel 19 = .ok (.iconst 1, 1) := by decide +kernel
theorem dX9_isLevel_20 : decode cX9_isLevel 20 = .ok (.goto 4, 3) := by decide +kernel
theorem dX9_isLevel_23 : decode cX9_isLevel 23 = .ok (.iconst 0, 1) := by decide +kernel
theorem dX9_isLevel_24 : decode cX9_isLevel 24 = .ok (.ireturn, 1) := by decide +kernel
set_option maxRecDepth 20000 in
theorem ggX9_spread_X2_heightOf : GoodIn wsX9_spread wsX2_heightOf := goodIn_r _ [15, 16, 41, 42, 43, 44, 45] (by decide +kernel) (by decide +kernel)
set_option maxRecDepth 20000 in
theorem gX9_spread_X2_heightOf : GoodIn wsX9_spread (wsV RX9 158 RX2 yX2_heightOf wsX2_heightOf) := goodIn_app (goodIn_of _ (by decide +kernel)) ggX9_spread_X2_heightOf
theorem dX9_spread_0 : decode cX9_spread 0 = .ok (.bipush 9, 2) := by decide +kernel
theorem dX9_spread_2 : decode cX9_spread 2 = .ok (.istore_n 2, 1) := by decide +kernel
theorem dX9_spread_3 : decode cX9_spread 3 = .ok (.iconst 0, 1) := by decide +kernel
theorem dX9_spread_4 : decode cX9_spread 4 = .ok (.istore_n 3, 1) := by decide +kernel
theorem dX9_spread_5 : decode cX9_spread 5 = .ok (.iconst 0, 1) := by decide +kernel
theorem dX9_spread_6 : decode cX9_spread 6 = .ok (.istore 4, 2) := by decide +kernel
theorem dX9_spread_8 : decode cX9_spread 8 = .ok (.iload 4, 2) := by decide +kernel
theorem dX9_spread_10 : decode cX9_spread 10 = .ok (.aload_n 0, 1) := by decide +kernel
theorem dX9_spread_11 : decode cX9_spread 11 = .ok (.getfield 19, 3) := by decide +kernel
theorem dX9_spread_14 : decode cX9_spread 14 = .ok (.getfield 222, 3) := by decide +kernel
theorem dX9_spread_17 : decode cX9_spread 17 = .ok (.if_icmp .ge 46, 3) := by decide +kernel
theorem dX9_spread_20 : decode cX9_spread 20 = .ok (.iload_n 1, 1) := by decide +kernel
theorem dX9_spread_21 : decode cX9_spread 21 = .ok (.iload 4, 2) := by decide +kernel
theorem dX9_spread_23 : decode cX9_spread 23 = .ok (.ishr, 1) := by decide +kernel
theorem dX9_spread_24 : decode cX9_spread 24 = .ok (.iconst 1, 1) := by decide +kernel
theorem dX9_spread_25 : decode cX9_spread 25 = .ok (.iand, 1) := by decide +kernel
theorem dX9_spread_26 : decode cX9_spread 26 = .ok (.ifCond .eq 31, 3) := by decide +kernel
theorem dX9_spread_29 : decode cX9_spread 29 = .ok (.iload_n 2, 1) := by decide +kernel
theorem dX9_spread_30 : decode cX9_spread 30 = .ok (.aload_n 0, 1) := by decide +kernel
theorem dX9_spread_31 : decode cX9_spread 31 = .ok (.getfield 74, 3) := by decide +kernel
theorem dX9_spread_34 : decode cX9_spread 34 = .ok (.iload 4, 2) := by decide +kernel
theorem dX9_spread_36 : decode cX9_spread 36 = .ok (.invokevirtual 158, 3) := by decide +kernel
theorem dX9_spread_39 : decode cX9_spread 39 = .ok (.invokestatic 331, 3) := by decide +kernel
theorem dX9_spread_42 : decode cX9_spread 42 = .ok (.istore_n 2, 1) := by decide +kernel
theorem dX9_spread_43 : decode cX9_spread 43 = .ok (.iload_n 3, 1) := by decide +kernel
theorem dX9_spread_44 : decode cX9_spread 44 = .ok (.aload_n 0, 1) := by decide +kernel
theorem dX9_spread_45 : decode cX9_spread 45 = .ok (.getfield 74, 3) := by decide +kernel
theorem dX9_spread_48 : decode cX9_spread 48 = .ok (.iload 4, 2) := by decide +kernel
theorem dX9_spread_50 : decode cX9_spread 50 = .ok (.invokevirtual 158, 3) := by decide +kernel
theorem dX9_spread_53 : decode cX9_spread 53 = .ok (.invokestatic 336, 3) := by decide +kernel
theorem dX9_spread_56 : decode cX9_spread 56 = .ok (.istore_n 3, 1) := by decide +kernel
theorem dX9_spread_57 : decode cX9_spread 57 = .ok (.iinc 4 1, 3) := by decide +kernel
theorem dX9_spread_60 : decode cX9_spread 60 = .ok (.goto (-52), 3) := by decide +kernel
theorem dX9_spread_63 : decode cX9_spread 63 = .ok (.iconst 0, 1) := by decide +kernel
theorem dX9_spread_64 : decode cX9_spread 64 = .ok (.iload_n 3, 1) := by decide +kernel
theorem dX9_spread_65 : decode cX9_spread 65 = .ok (.iload_n 2, 1) := by decide +kernel
theorem dX9_spread_66 : decode cX9_spread 66 = .ok (.isub, 1) := by decide +kernel
theorem dX9_spread_67 : decode cX9_spread 67 = .ok (.invokestatic 336, 3) := by decide +kernel
theorem dX9_spread_70 : decode cX9_spread 70 = .ok (.ireturn, 1) := by decide +kernel
set_option maxRecDepth 20000 in
theorem ggX9_canTip_X0_standOf : GoodIn wsX9_canTip wsX0_standOf := goodIn_r _ [6, 7, 8, 9, 5, 10, 11, 12, 13, 14, 15, 16, 17, 18, 19, 20, 21, 22, 23, 24, 25, 26, 27, 28, 29, 30, 53, 54, 55, 56] (by decide +kernel) (by decide +kernel)
set_option maxRecDepth 20000 in
theorem gX9_canTip_X0_standOf : GoodIn wsX9_canTip (wsV RX9 173 RX0 yX0_standOf wsX0_standOf) := goodIn_app (goodIn_of _ (by decide +kernel)) ggX9_canTip_X0_standOf
set_option maxRecDepth 20000 in
theorem ggX9_canTip_X0_leadOf : GoodIn wsX9_canTip wsX0_leadOf := goodIn_r _ [10, 11, 12, 13, 5, 14, 15, 16, 17, 18, 19, 20, 21, 22, 23, 24, 25, 26, 27, 53, 54, 55, 56] (by decide +kernel) (by decide +kernel)
set_option maxRecDepth 20000 in
theorem gX9_canTip_X0_leadOf : GoodIn wsX9_canTip (wsV RX9 339 RX0 yX0_leadOf wsX0_leadOf) := goodIn_app (goodIn_of _ (by decide +kernel)) ggX9_canTip_X0_leadOf
set_option maxRecDepth 20000 in
theorem ggX9_canTip_X0_howOf : GoodIn wsX9_canTip wsX0_howOf := goodIn_r _ [35, 11, 12, 13, 5, 14, 15, 23, 24, 25, 26, 27, 53, 54, 55, 56] (by decide +kernel) (by decide +kernel)
set_option maxRecDepth 20000 in
theorem gX9_canTip_X0_howOf : GoodIn wsX9_canTip (wsV RX9 188 RX0 yX0_howOf wsX0_howOf) := goodIn_app (goodIn_of _ (by decide +kernel)) ggX9_canTip_X0_howOf
set_option maxRecDepth 20000 in
theorem ggX9_canTip_X9_weightOf : GoodIn wsX9_canTip wsX9_weightOf := goodIn_r _ [38] (by decide +kernel) (by decide +kernel)
set_option maxRecDepth 20000 in
theorem gX9_canTip_X9_weightOf : GoodIn wsX9_canTip (va_wsS RX9 328 yX9_weightOf wsX9_weightOf) := goodIn_app (goodIn_of _ (by decide +kernel)) ggX9_canTip_X9_weightOf
set_option maxRecDepth 20000 in
theorem ggX9_canTip_X9_standBy : GoodIn wsX9_canTip wsX9_standBy := goodIn_r _ [30] (by decide +kernel) (by decide +kernel)
set_option maxRecDepth 20000 in
theorem gX9_canTip_X9_standBy : GoodIn wsX9_canTip (va_wsS RX9 342 yX9_standBy wsX9_standBy) := goodIn_app (goodIn_of _ (by decide +kernel)) ggX9_canTip_X9_standBy
theorem dX9_canTip_0 : decode cX9_canTip 0 = .ok (.aload_n 0, 1) := by decide +kernel
theorem dX9_canTip_1 : decode cX9_canTip 1 = .ok (.getfield 33, 3) := by decide +kernel
theorem dX9_canTip_4 : decode cX9_canTip 4 = .ok (.iload_n 2, 1) := by decide +kernel
theorem dX9_canTip_5 : decode cX9_canTip 5 = .ok (.invokevirtual 173, 3) := by decide +kernel
theorem dX9_canTip_8 : decode cX9_canTip 8 = .ok (.istore_n 3, 1) := by decide +kernel
theorem dX9_canTip_9 : decode cX9_canTip 9 = .ok (.aload_n 0, 1) := by decide +kernel
theorem dX9_canTip_10 : decode cX9_canTip 10 = .ok (.getfield 33, 3) := by decide +kernel
theorem dX9_canTip_13 : decode cX9_canTip 13 = .ok (.iload_n 2, 1) := by decide +kernel
theorem dX9_canTip_14 : decode cX9_canTip 14 = .ok (.invokevirtual 339, 3) := by decide +kernel
theorem dX9_canTip_17 : decode cX9_canTip 17 = .ok (.aload_n 0, 1) := by decide +kernel
theorem dX9_canTip_18 : decode cX9_canTip 18 = .ok (.getfield 33, 3) := by decide +kernel
theorem dX9_canTip_21 : decode cX9_canTip 21 = .ok (.iload_n 1, 1) := by decide +kernel
theorem dX9_canTip_22 : decode cX9_canTip 22 = .ok (.iload_n 2, 1) := by decide +kernel
theorem dX9_canTip_23 : decode cX9_canTip 23 = .ok (.invokevirtual 188, 3) := by decide +kernel
theorem dX9_canTip_26 : decode cX9_canTip 26 = .ok (.invokestatic 328, 3) := by decide +kernel
theorem dX9_canTip_29 : decode cX9_canTip 29 = .ok (.isub, 1) := by decide +kernel
theorem dX9_canTip_30 : decode cX9_canTip 30 = .ok (.istore 4, 2) := by decide +kernel
theorem dX9_canTip_32 : decode cX9_canTip 32 = .ok (.iload 4, 2) := by decide +kernel
theorem dX9_canTip_34 : decode cX9_canTip 34 = .ok (.iconst 1, 1) := by decide +kernel
theorem dX9_canTip_35 : decode cX9_canTip 35 = .ok (.isub, 1) := by decide +kernel
theorem dX9_canTip_36 : decode cX9_canTip 36 = .ok (.invokestatic 342, 3) := by decide +kernel
theorem dX9_canTip_39 : decode cX9_canTip 39 = .ok (.iload_n 3, 1) := by decide +kernel
theorem dX9_canTip_40 : decode cX9_canTip 40 = .ok (.if_icmp .ne 23, 3) := by decide +kernel
theorem dX9_canTip_43 : decode cX9_canTip 43 = .ok (.iload 4, 2) := by decide +kernel
theorem dX9_canTip_45 : decode cX9_canTip 45 = .ok (.invokestatic 342, 3) := by decide +kernel
theorem dX9_canTip_48 : decode cX9_canTip 48 = .ok (.iload_n 3, 1) := by decide +kernel
theorem dX9_canTip_49 : decode cX9_canTip 49 = .ok (.if_icmp .ne 14, 3) := by decide +kernel
theorem dX9_canTip_52 : decode cX9_canTip 52 = .ok (.iload 4, 2) := by decide +kernel
theorem dX9_canTip_54 : decode cX9_canTip 54 = .ok (.iconst 1, 1) := by decide +kernel
theorem dX9_canTip_55 : decode cX9_canTip 55 = .ok (.iadd, 1) := by decide +kernel
theorem dX9_canTip_56 : decode cX9_canTip 56 = .ok (.invokestatic 342, 3) := by decide +kernel
theorem dX9_canTip_59 : decode cX9_canTip 59 = .ok (.iload_n 3, 1) := by decide +kernel
theorem dX9_canTip_60 : decode cX9_canTip 60 = .ok (.if_icmp .eq 7, 3) := by decide +kernel
theorem dX9_canTip_63 : decode cX9_canTip 63 = .ok (.iconst 1, 1) := by decide +kernel
theorem dX9_canTip_64 : decode cX9_canTip 64 = .ok (.goto 4, 3) := by decide +kernel
theorem dX9_canTip_67 : decode cX9_canTip 67 = .ok (.iconst 0, 1) := by decide +kernel
theorem dX9_canTip_68 : decode cX9_canTip 68 = .ok (.ireturn, 1) := by decide +kernel
theorem dX9_weightOf_0 : decode cX9_weightOf 0 = .ok (.iload_n 0, 1) := by decide +kernel
theorem dX9_weightOf_1 : decode cX9_weightOf 1 = .ok (.iconst 1, 1) := by decide +kernel
theorem dX9_weightOf_2 : decode cX9_weightOf 2 = .ok (.if_icmp .ne 7, 3) := by decide +kernel
theorem dX9_weightOf_5 : decode cX9_weightOf 5 = .ok (.iconst 1, 1) := by decide +kernel
theorem dX9_weightOf_6 : decode cX9_weightOf 6 = .ok (.goto 12, 3) := by decide +kernel
theorem dX9_weightOf_9 : decode cX9_weightOf 9 = .ok (.iload_n 0, 1) := by decide +kernel
theorem dX9_weightOf_10 : decode cX9_weightOf 10 = .ok (.ifCond .ne 7, 3) := by decide +kernel
theorem dX9_weightOf_13 : decode cX9_weightOf 13 = .ok (.iconst (-1), 1) := by decide +kernel
theorem dX9_weightOf_14 : decode cX9_weightOf 14 = .ok (.goto 4, 3) := by decide +kernel
theorem dX9_weightOf_17 : decode cX9_weightOf 17 = .ok (.iconst 0, 1) := by decide +kernel
theorem dX9_weightOf_18 : decode cX9_weightOf 18 = .ok (.ireturn, 1) := by decide +kernel
theorem dX9_standBy_0 : decode cX9_standBy 0 = .ok (.iload_n 0, 1) := by decide +kernel
theorem dX9_standBy_1 : decode cX9_standBy 1 = .ok (.ifCond .gt 7, 3) := by decide +kernel
theorem dX9_standBy_4 : decode cX9_standBy 4 = .ok (.iconst 0, 1) := by decide +kernel
theorem dX9_standBy_5 : decode cX9_standBy 5 = .ok (.goto 13, 3) := by decide +kernel
theorem dX9_standBy_8 : decode cX9_standBy 8 = .ok (.iload_n 0, 1) := by decide +kernel
theorem dX9_standBy_9 : decode cX9_standBy 9 = .ok (.iconst 1, 1) := by decide +kernel
theorem dX9_standBy_10 : decode cX9_standBy 10 = .ok (.if_icmp .ne 7, 3) := by decide +kernel
theorem dX9_standBy_13 : decode cX9_standBy 13 = .ok (.iconst 1, 1) := by decide +kernel
theorem dX9_standBy_14 : decode cX9_standBy 14 = .ok (.goto 4, 3) := by decide +kernel
theorem dX9_standBy_17 : decode cX9_standBy 17 = .ok (.iconst 2, 1) := by decide +kernel
theorem dX9_standBy_18 : decode cX9_standBy 18 = .ok (.ireturn, 1) := by decide +kernel
set_option maxRecDepth 20000 in
theorem ggX9_fillPrices_X9_priceOf : GoodIn wsX9_fillPrices wsX9_priceOf := goodIn_r _ [6, 7, 8, 9, 10, 11, 12, 13, 14, 5, 15, 16, 17, 18, 19, 20, 21, 22, 23, 24, 25, 26, 27, 28, 29, 30, 31, 32, 33, 34, 35, 36, 37, 38, 39, 40, 41, 42, 43, 44, 45, 46, 47, 48, 49, 50, 51, 52, 53, 54, 55, 56, 57, 58, 59, 60, 61, 62, 63, 64, 65, 66, 67, 68, 69] (by decide +kernel) (by decide +kernel)
set_option maxRecDepth 20000 in
theorem gX9_fillPrices_X9_priceOf : GoodIn wsX9_fillPrices (wsV RX9 345 RX9 yX9_priceOf wsX9_priceOf) := goodIn_app (goodIn_of _ (by decide +kernel)) ggX9_fillPrices_X9_priceOf
theorem dX9_fillPrices_0 : decode cX9_fillPrices 0 = .ok (.iconst 0, 1) := by decide +kernel
theorem dX9_fillPrices_1 : decode cX9_fillPrices 1 = .ok (.istore_n 1, 1) := by decide +kernel
theorem dX9_fillPrices_2 : decode cX9_fillPrices 2 = .ok (.iload_n 1, 1) := by decide +kernel
theorem dX9_fillPrices_3 : decode cX9_fillPrices 3 = .ok (.iconst 5, 1) := by decide +kernel
theorem dX9_fillPrices_4 : decode cX9_fillPrices 4 = .ok (.if_icmp .ge 38, 3) := by decide +kernel
theorem dX9_fillPrices_7 : decode cX9_fillPrices 7 = .ok (.iconst 0, 1) := by decide +kernel
theorem dX9_fillPrices_8 : decode cX9_fillPrices 8 = .ok (.istore_n 2, 1) := by decide +kernel
theorem dX9_fillPrices_9 : decode cX9_fillPrices 9 = .ok (.iload_n 2, 1) := by decide +kernel
theorem dX9_fillPrices_10 : decode cX9_fillPrices 10 = .ok (.iconst 3, 1) := by decide +kernel
theorem dX9_fillPrices_11 : decode cX9_fillPrices 11 = .ok (.if_icmp .ge 25, 3) := by decide +kernel
theorem dX9_fillPrices_14 : decode cX9_fillPrices 14 = .ok (.aload_n 0, 1) := by decide +kernel
theorem dX9_fillPrices_15 : decode cX9_fillPrices 15 = .ok (.getfield 78, 3) := by decide +kernel
theorem dX9_fillPrices_18 : decode cX9_fillPrices 18 = .ok (.iload_n 1, 1) := by decide +kernel
theorem dX9_fillPrices_19 : decode cX9_fillPrices 19 = .ok (.iconst 3, 1) := by decide +kernel
theorem dX9_fillPrices_20 : decode cX9_fillPrices 20 = .ok (.imul, 1) := by decide +kernel
theorem dX9_fillPrices_21 : decode cX9_fillPrices 21 = .ok (.iload_n 2, 1) := by decide +kernel
theorem dX9_fillPrices_22 : decode cX9_fillPrices 22 = .ok (.iadd, 1) := by decide +kernel
theorem dX9_fillPrices_23 : decode cX9_fillPrices 23 = .ok (.aload_n 0, 1) := by decide +kernel
theorem dX9_fillPrices_24 : decode cX9_fillPrices 24 = .ok (.iload_n 1, 1) := by decide +kernel
theorem dX9_fillPrices_25 : decode cX9_fillPrices 25 = .ok (.iload_n 2, 1) := by decide +kernel
theorem dX9_fillPrices_26 : decode cX9_fillPrices 26 = .ok (.invokevirtual 345, 3) := by decide +kernel
theorem dX9_fillPrices_29 : decode cX9_fillPrices 29 = .ok (.iastore, 1) := by decide +kernel
theorem dX9_fillPrices_30 : decode cX9_fillPrices 30 = .ok (.iinc 2 1, 3) := by decide +kernel
theorem dX9_fillPrices_33 : decode cX9_fillPrices 33 = .ok (.goto (-24), 3) := by decide +kernel
theorem dX9_fillPrices_36 : decode cX9_fillPrices 36 = .ok (.iinc 1 1, 3) := by decide +kernel
theorem dX9_fillPrices_39 : decode cX9_fillPrices 39 = .ok (.goto (-37), 3) := by decide +kernel
theorem dX9_fillPrices_42 : decode cX9_fillPrices 42 = .ok (.return_, 1) := by decide +kernel
set_option maxRecDepth 20000 in
theorem ggX9_priceOf_X9_standBy : GoodIn wsX9_priceOf wsX9_standBy := goodIn_r _ [10] (by decide +kernel) (by decide +kernel)
set_option maxRecDepth 20000 in
theorem gX9_priceOf_X9_standBy : GoodIn wsX9_priceOf (va_wsS RX9 342 yX9_standBy wsX9_standBy) := goodIn_app (goodIn_of _ (by decide +kernel)) ggX9_priceOf_X9_standBy
set_option maxRecDepth 20000 in
theorem ggX9_priceOf_X9_changesTo : GoodIn wsX9_priceOf wsX9_changesTo := goodIn_r _ [14, 15, 16, 17, 5, 18, 19, 20, 21, 22, 23, 24, 25, 26, 27, 28, 29, 30, 31, 32, 33, 34, 35, 36, 37, 38, 39, 40, 41, 42, 43, 44, 45, 46, 47, 48, 49, 61, 62, 63, 64] (by decide +kernel) (by decide +kernel)
set_option maxRecDepth 20000 in
theorem gX9_priceOf_X9_changesTo : GoodIn wsX9_priceOf (wsV RX9 348 RX9 yX9_changesTo wsX9_changesTo) := goodIn_app (goodIn_of _ (by decide +kernel)) ggX9_priceOf_X9_changesTo
theorem dX9_priceOf_0 : decode cX9_priceOf 0 = .ok (.sipush 1000, 3) := by decide +kernel
theorem dX9_priceOf_3 : decode cX9_priceOf 3 = .ok (.istore_n 3, 1) := by decide +kernel
theorem dX9_priceOf_4 : decode cX9_priceOf 4 = .ok (.iconst 0, 1) := by decide +kernel
theorem dX9_priceOf_5 : decode cX9_priceOf 5 = .ok (.istore 4, 2) := by decide +kernel
theorem dX9_priceOf_7 : decode cX9_priceOf 7 = .ok (.iload 4, 2) := by decide +kernel
theorem dX9_priceOf_9 : decode cX9_priceOf 9 = .ok (.aload_n 0, 1) := by decide +kernel
theorem dX9_priceOf_10 : decode cX9_priceOf 10 = .ok (.getfield 19, 3) := by decide +kernel
theorem dX9_priceOf_13 : decode cX9_priceOf 13 = .ok (.getfield 118, 3) := by decide +kernel
theorem dX9_priceOf_16 : decode cX9_priceOf 16 = .ok (.if_icmp .gt 59, 3) := by decide +kernel
theorem dX9_priceOf_19 : decode cX9_priceOf 19 = .ok (.iconst 0, 1) := by decide +kernel
theorem dX9_priceOf_20 : decode cX9_priceOf 20 = .ok (.istore 5, 2) := by decide +kernel
theorem dX9_priceOf_22 : decode cX9_priceOf 22 = .ok (.iload 5, 2) := by decide +kernel
theorem dX9_priceOf_24 : decode cX9_priceOf 24 = .ok (.aload_n 0, 1) := by decide +kernel
theorem dX9_priceOf_25 : decode cX9_priceOf 25 = .ok (.getfield 19, 3) := by decide +kernel
theorem dX9_priceOf_28 : decode cX9_priceOf 28 = .ok (.getfield 118, 3) := by decide +kernel
theorem dX9_priceOf_31 : decode cX9_priceOf 31 = .ok (.iload 4, 2) := by decide +kernel
theorem dX9_priceOf_33 : decode cX9_priceOf 33 = .ok (.isub, 1) := by decide +kernel
theorem dX9_priceOf_34 : decode cX9_priceOf 34 = .ok (.if_icmp .gt 35, 3) := by decide +kernel
theorem dX9_priceOf_37 : decode cX9_priceOf 37 = .ok (.iload 4, 2) := by decide +kernel
theorem dX9_priceOf_39 : decode cX9_priceOf 39 = .ok (.iload 5, 2) := by decide +kernel
theorem dX9_priceOf_41 : decode cX9_priceOf 41 = .ok (.isub, 1) := by decide +kernel
theorem dX9_priceOf_42 : decode cX9_priceOf 42 = .ok (.invokestatic 342, 3) := by decide +kernel
theorem dX9_priceOf_45 : decode cX9_priceOf 45 = .ok (.iload_n 2, 1) := by decide +kernel
theorem dX9_priceOf_46 : decode cX9_priceOf 46 = .ok (.if_icmp .ne 17, 3) := by decide +kernel
theorem dX9_priceOf_49 : decode cX9_priceOf 49 = .ok (.iload_n 3, 1) := by decide +kernel
theorem dX9_priceOf_50 : decode cX9_priceOf 50 = .ok (.aload_n 0, 1) := by decide +kernel
theorem dX9_priceOf_51 : decode cX9_priceOf 51 = .ok (.iload_n 1, 1) := by decide +kernel
theorem dX9_priceOf_52 : decode cX9_priceOf 52 = .ok (.iload 4, 2) := by decide +kernel
theorem dX9_priceOf_54 : decode cX9_priceOf 54 = .ok (.iload 5, 2) := by decide +kernel
theorem dX9_priceOf_56 : decode cX9_priceOf 56 = .ok (.invokevirtual 348, 3) := by decide +kernel
theorem dX9_priceOf_59 : decode cX9_priceOf 59 = .ok (.invokestatic 331, 3) := by decide +kernel
theorem dX9_priceOf_62 : decode cX9_priceOf 62 = .ok (.istore_n 3, 1) := by decide +kernel
theorem dX9_priceOf_63 : decode cX9_priceOf 63 = .ok (.iinc 5 1, 3) := by decide +kernel
theorem dX9_priceOf_66 : decode cX9_priceOf 66 = .ok (.goto (-44), 3) := by decide +kernel
theorem dX9_priceOf_69 : decode cX9_priceOf 69 = .ok (.iinc 4 1, 3) := by decide +kernel
theorem dX9_priceOf_72 : decode cX9_priceOf 72 = .ok (.goto (-65), 3) := by decide +kernel
theorem dX9_priceOf_75 : decode cX9_priceOf 75 = .ok (.iload_n 3, 1) := by decide +kernel
theorem dX9_priceOf_76 : decode cX9_priceOf 76 = .ok (.ireturn, 1) := by decide +kernel
set_option maxRecDepth 20000 in
theorem ggX9_changesTo_X0_yesOf : GoodIn wsX9_changesTo wsX0_yesOf := goodIn_r _ [10, 11, 37, 38, 39, 40] (by decide +kernel) (by decide +kernel)
set_option maxRecDepth 20000 in
theorem gX9_changesTo_X0_yesOf : GoodIn wsX9_changesTo (wsV RX9 176 RX0 yX0_yesOf wsX0_yesOf) := goodIn_app (goodIn_of _ (by decide +kernel)) ggX9_changesTo_X0_yesOf
set_option maxRecDepth 20000 in
theorem ggX9_changesTo_J6_bitCount_0f7a4 : GoodIn wsX9_changesTo wsJ6_bitCount_0f7a4 := goodIn_r _ [15, 16, 17, 18] (by decide +kernel) (by decide +kernel)
set_option maxRecDepth 20000 in
theorem gX9_changesTo_J6_bitCount_0f7a4 : GoodIn wsX9_changesTo (va_wsS RX9 248 yJ6_bitCount_0f7a4 wsJ6_bitCount_0f7a4) := goodIn_app (goodIn_of _ (by decide +kernel)) ggX9_changesTo_J6_bitCount_0f7a4
set_option maxRecDepth 20000 in
theorem ggX9_changesTo_X0_noOf : GoodIn wsX9_changesTo wsX0_noOf := goodIn_r _ [22, 23, 37, 38, 39, 40] (by decide +kernel) (by decide +kernel)
set_option maxRecDepth 20000 in
theorem gX9_changesTo_X0_noOf : GoodIn wsX9_changesTo (wsV RX9 179 RX0 yX0_noOf wsX0_noOf) := goodIn_app (goodIn_of _ (by decide +kernel)) ggX9_changesTo_X0_noOf
theorem dX9_changesTo_0 : decode cX9_changesTo 0 = .ok (.aload_n 0, 1) := by decide +kernel
theorem dX9_changesTo_1 : decode cX9_changesTo 1 = .ok (.getfield 33, 3) := by decide +kernel
theorem dX9_changesTo_4 : decode cX9_changesTo 4 = .ok (.iload_n 1, 1) := by decide +kernel
theorem dX9_changesTo_5 : decode cX9_changesTo 5 = .ok (.invokevirtual 176, 3) := by decide +kernel
theorem dX9_changesTo_8 : decode cX9_changesTo 8 = .ok (.invokestatic 248, 3) := by decide +kernel
theorem dX9_changesTo_11 : decode cX9_changesTo 11 = .ok (.istore 4, 2) := by decide +kernel
theorem dX9_changesTo_13 : decode cX9_changesTo 13 = .ok (.aload_n 0, 1) := by decide +kernel
theorem dX9_changesTo_14 : decode cX9_changesTo 14 = .ok (.getfield 33, 3) := by decide +kernel
theorem dX9_changesTo_17 : decode cX9_changesTo 17 = .ok (.iload_n 1, 1) := by decide +kernel
theorem dX9_changesTo_18 : decode cX9_changesTo 18 = .ok (.invokevirtual 179, 3) := by decide +kernel
theorem dX9_changesTo_21 : decode cX9_changesTo 21 = .ok (.invokestatic 248, 3) := by decide +kernel
theorem dX9_changesTo_24 : decode cX9_changesTo 24 = .ok (.istore 5, 2) := by decide +kernel
theorem dX9_changesTo_26 : decode cX9_changesTo 26 = .ok (.iload 4, 2) := by decide +kernel
theorem dX9_changesTo_28 : decode cX9_changesTo 28 = .ok (.iload 5, 2) := by decide +kernel
theorem dX9_changesTo_30 : decode cX9_changesTo 30 = .ok (.iadd, 1) := by decide +kernel
theorem dX9_changesTo_31 : decode cX9_changesTo 31 = .ok (.iload_n 2, 1) := by decide +kernel
theorem dX9_changesTo_32 : decode cX9_changesTo 32 = .ok (.isub, 1) := by decide +kernel
theorem dX9_changesTo_33 : decode cX9_changesTo 33 = .ok (.iload_n 3, 1) := by decide +kernel
theorem dX9_changesTo_34 : decode cX9_changesTo 34 = .ok (.isub, 1) := by decide +kernel
theorem dX9_changesTo_35 : decode cX9_changesTo 35 = .ok (.istore 6, 2) := by decide +kernel
theorem dX9_changesTo_37 : decode cX9_changesTo 37 = .ok (.iconst 0, 1) := by decide +kernel
theorem dX9_changesTo_38 : decode cX9_changesTo 38 = .ok (.iload_n 2, 1) := by decide +kernel
theorem dX9_changesTo_39 : decode cX9_changesTo 39 = .ok (.iload 4, 2) := by decide +kernel
theorem dX9_changesTo_41 : decode cX9_changesTo 41 = .ok (.isub, 1) := by decide +kernel
theorem dX9_changesTo_42 : decode cX9_changesTo 42 = .ok (.invokestatic 336, 3) := by decide +kernel
theorem dX9_changesTo_45 : decode cX9_changesTo 45 = .ok (.iconst 0, 1) := by decide +kernel
theorem dX9_changesTo_46 : decode cX9_changesTo 46 = .ok (.iload_n 3, 1) := by decide +kernel
theorem dX9_changesTo_47 : decode cX9_changesTo 47 = .ok (.iload 5, 2) := by decide +kernel
theorem dX9_changesTo_49 : decode cX9_changesTo 49 = .ok (.isub, 1) := by decide +kernel
theorem dX9_changesTo_50 : decode cX9_changesTo 50 = .ok (.invokestatic 336, 3) := by decide +kernel
theorem dX9_changesTo_53 : decode cX9_changesTo 53 = .ok (.iadd, 1) := by decide +kernel
theorem dX9_changesTo_54 : decode cX9_changesTo 54 = .ok (.iconst 0, 1) := by decide +kernel
theorem dX9_changesTo_55 : decode cX9_changesTo 55 = .ok (.iload 6, 2) := by decide +kernel
theorem dX9_changesTo_57 : decode cX9_changesTo 57 = .ok (.invokestatic 336, 3) := by decide +kernel
theorem dX9_changesTo_60 : decode cX9_changesTo 60 = .ok (.iadd, 1) := by decide +kernel
theorem dX9_changesTo_61 : decode cX9_changesTo 61 = .ok (.ireturn, 1) := by decide +kernel
set_option maxRecDepth 20000 in
theorem ggX9_priceOfWay_X8_standOf : GoodIn wsX9_priceOfWay wsX8_standOf := goodIn_r _ [9, 10, 11, 36, 37] (by decide +kernel) (by decide +kernel)
set_option maxRecDepth 20000 in
theorem gX9_priceOfWay_X8_standOf : GoodIn wsX9_priceOfWay (wsV RX9 352 RX8 yX8_standOf wsX8_standOf) := goodIn_app (goodIn_of _ (by decide +kernel)) ggX9_priceOfWay_X8_standOf
theorem dX9_priceOfWay_0 : decode cX9_priceOfWay 0 = .ok (.iconst 0, 1) := by decide +kernel
theorem dX9_priceOfWay_1 : decode cX9_priceOfWay 1 = .ok (.istore_n 1, 1) := by decide +kernel
theorem dX9_priceOfWay_2 : decode cX9_priceOfWay 2 = .ok (.iconst 0, 1) := by decide +kernel
theorem dX9_priceOfWay_3 : decode cX9_priceOfWay 3 = .ok (.istore_n 2, 1) := by decide +kernel
theorem dX9_priceOfWay_4 : decode cX9_priceOfWay 4 = .ok (.iload_n 2, 1) := by decide +kernel
theorem dX9_priceOfWay_5 : decode cX9_priceOfWay 5 = .ok (.aload_n 0, 1) := by decide +kernel
theorem dX9_priceOfWay_6 : decode cX9_priceOfWay 6 = .ok (.getfield 19, 3) := by decide +kernel
theorem dX9_priceOfWay_9 : decode cX9_priceOfWay 9 = .ok (.getfield 109, 3) := by decide +kernel
theorem dX9_priceOfWay_12 : decode cX9_priceOfWay 12 = .ok (.if_icmp .ge 50, 3) := by decide +kernel
theorem dX9_priceOfWay_15 : decode cX9_priceOfWay 15 = .ok (.iload_n 2, 1) := by decide +kernel
theorem dX9_priceOfWay_16 : decode cX9_priceOfWay 16 = .ok (.iconst 3, 1) := by decide +kernel
theorem dX9_priceOfWay_17 : decode cX9_priceOfWay 17 = .ok (.imul, 1) := by decide +kernel
theorem dX9_priceOfWay_18 : decode cX9_priceOfWay 18 = .ok (.aload_n 0, 1) := by decide +kernel
theorem dX9_priceOfWay_19 : decode cX9_priceOfWay 19 = .ok (.getfield 67, 3) := by decide +kernel
theorem dX9_priceOfWay_22 : decode cX9_priceOfWay 22 = .ok (.iload_n 2, 1) := by decide +kernel
theorem dX9_priceOfWay_23 : decode cX9_priceOfWay 23 = .ok (.invokevirtual 352, 3) := by decide +kernel
theorem dX9_priceOfWay_26 : decode cX9_priceOfWay 26 = .ok (.iadd, 1) := by decide +kernel
theorem dX9_priceOfWay_27 : decode cX9_priceOfWay 27 = .ok (.istore_n 3, 1) := by decide +kernel
theorem dX9_priceOfWay_28 : decode cX9_priceOfWay 28 = .ok (.iload_n 1, 1) := by decide +kernel
theorem dX9_priceOfWay_29 : decode cX9_priceOfWay 29 = .ok (.iload_n 3, 1) := by decide +kernel
theorem dX9_priceOfWay_30 : decode cX9_priceOfWay 30 = .ok (.ifCond .lt 21, 3) := by decide +kernel
theorem dX9_priceOfWay_33 : decode cX9_priceOfWay 33 = .ok (.iload_n 3, 1) := by decide +kernel
theorem dX9_priceOfWay_34 : decode cX9_priceOfWay 34 = .ok (.aload_n 0, 1) := by decide +kernel
theorem dX9_priceOfWay_35 : decode cX9_priceOfWay 35 = .ok (.getfield 78, 3) := by decide +kernel
theorem dX9_priceOfWay_38 : decode cX9_priceOfWay 38 = .ok (.arraylength, 1) := by decide +kernel
theorem dX9_priceOfWay_39 : decode cX9_priceOfWay 39 = .ok (.if_icmp .ge 12, 3) := by decide +kernel
theorem dX9_priceOfWay_42 : decode cX9_priceOfWay 42 = .ok (.aload_n 0, 1) := by decide +kernel
theorem dX9_priceOfWay_43 : decode cX9_priceOfWay 43 = .ok (.getfield 78, 3) := by decide +kernel
theorem dX9_priceOfWay_46 : decode cX9_priceOfWay 46 = .ok (.iload_n 3, 1) := by decide +kernel
theorem dX9_priceOfWay_47 : decode cX9_priceOfWay 47 = .ok (.iaload, 1) := by decide +kernel
theorem dX9_priceOfWay_48 : decode cX9_priceOfWay 48 = .ok (.goto 6, 3) := by decide +kernel
theorem dX9_priceOfWay_51 : decode cX9_priceOfWay 51 = .ok (.sipush 1000, 3) := by decide +kernel
theorem dX9_priceOfWay_54 : decode cX9_priceOfWay 54 = .ok (.iadd, 1) := by decide +kernel
theorem dX9_priceOfWay_55 : decode cX9_priceOfWay 55 = .ok (.istore_n 1, 1) := by decide +kernel
theorem dX9_priceOfWay_56 : decode cX9_priceOfWay 56 = .ok (.iinc 2 1, 3) := by decide +kernel
theorem dX9_priceOfWay_59 : decode cX9_priceOfWay 59 = .ok (.goto (-55), 3) := by decide +kernel
theorem dX9_priceOfWay_62 : decode cX9_priceOfWay 62 = .ok (.iload_n 1, 1) := by decide +kernel
theorem dX9_priceOfWay_63 : decode cX9_priceOfWay 63 = .ok (.ireturn, 1) := by decide +kernel
set_option maxRecDepth 20000 in
theorem ggX9_restsByWay_X2_shape : GoodIn wsX9_restsByWay wsX2_shape := goodIn_r _ [8, 9, 10, 11, 12, 13, 14, 15, 16, 17, 18, 19, 20, 21, 22, 23, 24, 25, 26, 27, 28, 29, 30, 31, 32, 33, 34, 35, 36, 37, 7, 38, 39, 40, 41, 42, 43, 44, 45, 46, 47, 48, 49, 50, 51, 52, 53, 54, 55, 56, 57, 58, 59, 60, 61, 91, 92, 93, 94, 95, 96, 97, 98, 99, 100, 101, 102, 103, 104, 105, 106, 107, 108] (by decide +kernel) (by decide +kernel)
set_option maxRecDepth 20000 in
theorem gX9_restsByWay_X2_shape : GoodIn wsX9_restsByWay (wsV RX9 318 RX2 yX2_shape wsX2_shape) := goodIn_app (goodIn_of _ (by decide +kernel)) ggX9_restsByWay_X2_shape
set_option maxRecDepth 20000 in
theorem ggX9_restsByWay_X2_restFrom : GoodIn wsX9_restsByWay wsX2_restFrom := goodIn_r _ [65, 66, 67, 68, 7, 69, 19, 70, 71, 72, 73, 16, 14, 74, 75, 76, 77, 17, 102, 103, 104, 105, 106] (by decide +kernel) (by decide +kernel)
set_option maxRecDepth 20000 in
theorem gX9_restsByWay_X2_restFrom : GoodIn wsX9_restsByWay (wsV RX9 216 RX2 yX2_restFrom wsX2_restFrom) := goodIn_app (goodIn_of _ (by decide +kernel)) ggX9_restsByWay_X2_restFrom
theorem dX9_restsByWay_0 : decode cX9_restsByWay 0 = .ok (.aload_n 0, 1) := by decide +kernel
theorem dX9_restsByWay_1 : decode cX9_restsByWay 1 = .ok (.getfield 74, 3) := by decide +kernel
theorem dX9_restsByWay_4 : decode cX9_restsByWay 4 = .ok (.aload_n 0, 1) := by decide +kernel
theorem dX9_restsByWay_5 : decode cX9_restsByWay 5 = .ok (.getfield 19, 3) := by decide +kernel
theorem dX9_restsByWay_8 : decode cX9_restsByWay 8 = .ok (.aload_n 0, 1) := by decide +kernel
theorem dX9_restsByWay_9 : decode cX9_restsByWay 9 = .ok (.getfield 67, 3) := by decide +kernel
theorem dX9_restsByWay_12 : decode cX9_restsByWay 12 = .ok (.invokevirtual 318, 3) := by decide +kernel
theorem dX9_restsByWay_15 : decode cX9_restsByWay 15 = .ok (.aload_n 0, 1) := by decide +kernel
theorem dX9_restsByWay_16 : decode cX9_restsByWay 16 = .ok (.getfield 74, 3) := by decide +kernel
theorem dX9_restsByWay_19 : decode cX9_restsByWay 19 = .ok (.iload_n 1, 1) := by decide +kernel
theorem dX9_restsByWay_20 : decode cX9_restsByWay 20 = .ok (.invokevirtual 216, 3) := by decide +kernel
theorem dX9_restsByWay_23 : decode cX9_restsByWay 23 = .ok (.iload_n 2, 1) := by decide +kernel
theorem dX9_restsByWay_24 : decode cX9_restsByWay 24 = .ok (.if_icmp .ne 7, 3) := by decide +kernel
theorem dX9_restsByWay_27 : decode cX9_restsByWay 27 = .ok (.iconst 1, 1) := by decide +kernel
theorem dX9_restsByWay_28 : decode cX9_restsByWay 28 = .ok (.goto 4, 3) := by decide +kernel
theorem dX9_restsByWay_31 : decode cX9_restsByWay 31 = .ok (.iconst 0, 1) := by decide +kernel
theorem dX9_restsByWay_32 : decode cX9_restsByWay 32 = .ok (.ireturn, 1) := by decide +kernel
set_option maxRecDepth 20000 in
theorem ggX9_carriesAll_X0_yesOf : GoodIn wsX9_carriesAll wsX0_yesOf := goodIn_r _ [8, 9, 50, 51, 52, 53] (by decide +kernel) (by decide +kernel)
set_option maxRecDepth 20000 in
theorem gX9_carriesAll_X0_yesOf : GoodIn wsX9_carriesAll (wsV RX9 176 RX0 yX0_yesOf wsX0_yesOf) := goodIn_app (goodIn_of _ (by decide +kernel)) ggX9_carriesAll_X0_yesOf
set_option maxRecDepth 20000 in
theorem ggX9_carriesAll_J6_bitCount_0f7a4 : GoodIn wsX9_carriesAll wsJ6_bitCount_0f7a4 := goodIn_r _ [13, 14, 15, 16] (by decide +kernel) (by decide +kernel)
set_option maxRecDepth 20000 in
theorem gX9_carriesAll_J6_bitCount_0f7a4 : GoodIn wsX9_carriesAll (va_wsS RX9 248 yJ6_bitCount_0f7a4 wsJ6_bitCount_0f7a4) := goodIn_app (goodIn_of _ (by decide +kernel)) ggX9_carriesAll_J6_bitCount_0f7a4
set_option maxRecDepth 20000 in
theorem ggX9_carriesAll_X0_noOf : GoodIn wsX9_carriesAll wsX0_noOf := goodIn_r _ [20, 21, 50, 51, 52, 53] (by decide +kernel) (by decide +kernel)
set_option maxRecDepth 20000 in
theorem gX9_carriesAll_X0_noOf : GoodIn wsX9_carriesAll (wsV RX9 179 RX0 yX0_noOf wsX0_noOf) := goodIn_app (goodIn_of _ (by decide +kernel)) ggX9_carriesAll_X0_noOf
set_option maxRecDepth 20000 in
theorem ggX9_carriesAll_X9_standBy : GoodIn wsX9_carriesAll wsX9_standBy := goodIn_r _ [25] (by decide +kernel) (by decide +kernel)
set_option maxRecDepth 20000 in
theorem gX9_carriesAll_X9_standBy : GoodIn wsX9_carriesAll (va_wsS RX9 342 yX9_standBy wsX9_standBy) := goodIn_app (goodIn_of _ (by decide +kernel)) ggX9_carriesAll_X9_standBy
theorem dX9_carriesAll_0 : decode cX9_carriesAll 0 = .ok (.iconst 0, 1) := by decide +kernel
theorem dX9_carriesAll_1 : decode cX9_carriesAll 1 = .ok (.istore_n 2, 1) := by decide +kernel
theorem dX9_carriesAll_2 : decode cX9_carriesAll 2 = .ok (.iload_n 2, 1) := by decide +kernel
theorem dX9_carriesAll_3 : decode cX9_carriesAll 3 = .ok (.aload_n 0, 1) := by decide +kernel
theorem dX9_carriesAll_4 : decode cX9_carriesAll 4 = .ok (.getfield 19, 3) := by decide +kernel
theorem dX9_carriesAll_7 : decode cX9_carriesAll 7 = .ok (.getfield 109, 3) := by decide +kernel
theorem dX9_carriesAll_10 : decode cX9_carriesAll 10 = .ok (.if_icmp .ge 53, 3) := by decide +kernel
theorem dX9_carriesAll_13 : decode cX9_carriesAll 13 = .ok (.aload_n 0, 1) := by decide +kernel
theorem dX9_carriesAll_14 : decode cX9_carriesAll 14 = .ok (.getfield 33, 3) := by decide +kernel
theorem dX9_carriesAll_17 : decode cX9_carriesAll 17 = .ok (.iload_n 2, 1) := by decide +kernel
theorem dX9_carriesAll_18 : decode cX9_carriesAll 18 = .ok (.invokevirtual 176, 3) := by decide +kernel
theorem dX9_carriesAll_21 : decode cX9_carriesAll 21 = .ok (.iload_n 1, 1) := by decide +kernel
theorem dX9_carriesAll_22 : decode cX9_carriesAll 22 = .ok (.ior, 1) := by decide +kernel
theorem dX9_carriesAll_23 : decode cX9_carriesAll 23 = .ok (.invokestatic 248, 3) := by decide +kernel
theorem dX9_carriesAll_26 : decode cX9_carriesAll 26 = .ok (.istore_n 3, 1) := by decide +kernel
theorem dX9_carriesAll_27 : decode cX9_carriesAll 27 = .ok (.aload_n 0, 1) := by decide +kernel
theorem dX9_carriesAll_28 : decode cX9_carriesAll 28 = .ok (.getfield 33, 3) := by decide +kernel
theorem dX9_carriesAll_31 : decode cX9_carriesAll 31 = .ok (.iload_n 2, 1) := by decide +kernel
theorem dX9_carriesAll_32 : decode cX9_carriesAll 32 = .ok (.invokevirtual 179, 3) := by decide +kernel
theorem dX9_carriesAll_35 : decode cX9_carriesAll 35 = .ok (.iload_n 1, 1) := by decide +kernel
theorem dX9_carriesAll_36 : decode cX9_carriesAll 36 = .ok (.iconst (-1), 1) := by decide +kernel
theorem dX9_carriesAll_37 : decode cX9_carriesAll 37 = .ok (.ixor, 1) := by decide +kernel
theorem dX9_carriesAll_38 : decode cX9_carriesAll 38 = .ok (.iand, 1) := by decide +kernel
theorem dX9_carriesAll_39 : decode cX9_carriesAll 39 = .ok (.invokestatic 248, 3) := by decide +kernel
theorem dX9_carriesAll_42 : decode cX9_carriesAll 42 = .ok (.istore 4, 2) := by decide +kernel
theorem dX9_carriesAll_44 : decode cX9_carriesAll 44 = .ok (.iload_n 3, 1) := by decide +kernel
theorem dX9_carriesAll_45 : decode cX9_carriesAll 45 = .ok (.iload 4, 2) := by decide +kernel
theorem dX9_carriesAll_47 : decode cX9_carriesAll 47 = .ok (.isub, 1) := by decide +kernel
theorem dX9_carriesAll_48 : decode cX9_carriesAll 48 = .ok (.invokestatic 342, 3) := by decide +kernel
theorem dX9_carriesAll_51 : decode cX9_carriesAll 51 = .ok (.iconst 2, 1) := by decide +kernel
theorem dX9_carriesAll_52 : decode cX9_carriesAll 52 = .ok (.if_icmp .eq 5, 3) := by decide +kernel
theorem dX9_carriesAll_55 : decode cX9_carriesAll 55 = .ok (.iconst 0, 1) := by decide +kernel
theorem dX9_carriesAll_56 : decode cX9_carriesAll 56 = .ok (.ireturn, 1) := by decide +kernel
theorem dX9_carriesAll_57 : decode cX9_carriesAll 57 = .ok (.iinc 2 1, 3) := by decide +kernel
theorem dX9_carriesAll_60 : decode cX9_carriesAll 60 = .ok (.goto (-58), 3) := by decide +kernel
theorem dX9_carriesAll_63 : decode cX9_carriesAll 63 = .ok (.iconst 1, 1) := by decide +kernel
theorem dX9_carriesAll_64 : decode cX9_carriesAll 64 = .ok (.ireturn, 1) := by decide +kernel
set_option maxRecDepth 20000 in
theorem ggX9_fitsSeen_X2_shape : GoodIn wsX9_fitsSeen wsX2_shape := goodIn_r _ [10, 11, 12, 13, 14, 15, 16, 17, 18, 19, 20, 21, 22, 23, 24, 25, 26, 27, 28, 29, 30, 31, 32, 33, 34, 35, 36, 37, 38, 39, 9, 40, 41, 42, 43, 44, 45, 46, 47, 48, 49, 50, 51, 52, 53, 54, 55, 56, 57, 58, 59, 60, 61, 62, 63, 110, 111, 112, 113, 114, 115, 116, 117, 118, 119, 120, 121, 122, 123, 124, 125, 126, 127] (by decide +kernel) (by decide +kernel)
set_option maxRecDepth 20000 in
theorem gX9_fitsSeen_X2_shape : GoodIn wsX9_fitsSeen (wsV RX9 318 RX2 yX2_shape wsX2_shape) := goodIn_app (goodIn_of _ (by decide +kernel)) ggX9_fitsSeen_X2_shape
set_option maxRecDepth 20000 in
theorem ggX9_fitsSeen_X6_seenFrom : GoodIn wsX9_fitsSeen wsX6_seenFrom := goodIn_r _ [68, 69, 104, 105, 106, 107, 108, 109] (by decide +kernel) (by decide +kernel)
set_option maxRecDepth 20000 in
theorem gX9_fitsSeen_X6_seenFrom : GoodIn wsX9_fitsSeen (wsV RX9 353 RX6 yX6_seenFrom wsX6_seenFrom) := goodIn_app (goodIn_of _ (by decide +kernel)) ggX9_fitsSeen_X6_seenFrom
set_option maxRecDepth 20000 in
theorem ggX9_fitsSeen_X2_restFrom : GoodIn wsX9_fitsSeen wsX2_restFrom := goodIn_r _ [73, 74, 75, 76, 9, 77, 21, 78, 79, 80, 81, 18, 16, 82, 83, 84, 85, 19, 121, 122, 123, 124, 125] (by decide +kernel) (by decide +kernel)
set_option maxRecDepth 20000 in
theorem gX9_fitsSeen_X2_restFrom : GoodIn wsX9_fitsSeen (wsV RX9 216 RX2 yX2_restFrom wsX2_restFrom) := goodIn_app (goodIn_of _ (by decide +kernel)) ggX9_fitsSeen_X2_restFrom
set_option maxRecDepth 20000 in
theorem ggX9_fitsSeen_X6_seenTo : GoodIn wsX9_fitsSeen wsX6_seenTo := goodIn_r _ [89, 90, 104, 105, 106, 107, 108, 109] (by decide +kernel) (by decide +kernel)
set_option maxRecDepth 20000 in
theorem gX9_fitsSeen_X6_seenTo : GoodIn wsX9_fitsSeen (wsV RX9 356 RX6 yX6_seenTo wsX6_seenTo) := goodIn_app (goodIn_of _ (by decide +kernel)) ggX9_fitsSeen_X6_seenTo
theorem dX9_fitsSeen_0 : decode cX9_fitsSeen 0 = .ok (.aload_n 0, 1) := by decide +kernel
theorem dX9_fitsSeen_1 : decode cX9_fitsSeen 1 = .ok (.getfield 74, 3) := by decide +kernel
theorem dX9_fitsSeen_4 : decode cX9_fitsSeen 4 = .ok (.aload_n 0, 1) := by decide +kernel
theorem dX9_fitsSeen_5 : decode cX9_fitsSeen 5 = .ok (.getfield 19, 3) := by decide +kernel
theorem dX9_fitsSeen_8 : decode cX9_fitsSeen 8 = .ok (.aload_n 0, 1) := by decide +kernel
theorem dX9_fitsSeen_9 : decode cX9_fitsSeen 9 = .ok (.getfield 67, 3) := by decide +kernel
theorem dX9_fitsSeen_12 : decode cX9_fitsSeen 12 = .ok (.invokevirtual 318, 3) := by decide +kernel
theorem dX9_fitsSeen_15 : decode cX9_fitsSeen 15 = .ok (.iconst 0, 1) := by decide +kernel
theorem dX9_fitsSeen_16 : decode cX9_fitsSeen 16 = .ok (.istore_n 1, 1) := by decide +kernel
theorem dX9_fitsSeen_17 : decode cX9_fitsSeen 17 = .ok (.iload_n 1, 1) := by decide +kernel
theorem dX9_fitsSeen_18 : decode cX9_fitsSeen 18 = .ok (.aload_n 0, 1) := by decide +kernel
theorem dX9_fitsSeen_19 : decode cX9_fitsSeen 19 = .ok (.getfield 60, 3) := by decide +kernel
theorem dX9_fitsSeen_22 : decode cX9_fitsSeen 22 = .ok (.getfield 137, 3) := by decide +kernel
theorem dX9_fitsSeen_25 : decode cX9_fitsSeen 25 = .ok (.if_icmp .ge 37, 3) := by decide +kernel
theorem dX9_fitsSeen_28 : decode cX9_fitsSeen 28 = .ok (.aload_n 0, 1) := by decide +kernel
theorem dX9_fitsSeen_29 : decode cX9_fitsSeen 29 = .ok (.getfield 74, 3) := by decide +kernel
theorem dX9_fitsSeen_32 : decode cX9_fitsSeen 32 = .ok (.aload_n 0, 1) := by decide +kernel
theorem dX9_fitsSeen_33 : decode cX9_fitsSeen 33 = .ok (.getfield 60, 3) := by decide +kernel
theorem dX9_fitsSeen_36 : decode cX9_fitsSeen 36 = .ok (.iload_n 1, 1) := by decide +kernel
theorem dX9_fitsSeen_37 : decode cX9_fitsSeen 37 = .ok (.invokevirtual 353, 3) := by decide +kernel
theorem dX9_fitsSeen_40 : decode cX9_fitsSeen 40 = .ok (.invokevirtual 216, 3) := by decide +kernel
theorem dX9_fitsSeen_43 : decode cX9_fitsSeen 43 = .ok (.aload_n 0, 1) := by decide +kernel
theorem dX9_fitsSeen_44 : decode cX9_fitsSeen 44 = .ok (.getfield 60, 3) := by decide +kernel
theorem dX9_fitsSeen_47 : decode cX9_fitsSeen 47 = .ok (.iload_n 1, 1) := by decide +kernel
theorem dX9_fitsSeen_48 : decode cX9_fitsSeen 48 = .ok (.invokevirtual 356, 3) := by decide +kernel
theorem dX9_fitsSeen_51 : decode cX9_fitsSeen 51 = .ok (.if_icmp .eq 5, 3) := by decide +kernel
theorem dX9_fitsSeen_54 : decode cX9_fitsSeen 54 = .ok (.iconst 0, 1) := by decide +kernel
theorem dX9_fitsSeen_55 : decode cX9_fitsSeen 55 = .ok (.ireturn, 1) := by decide +kernel
theorem dX9_fitsSeen_56 : decode cX9_fitsSeen 56 = .ok (.iinc 1 1, 3) := by decide +kernel
theorem dX9_fitsSeen_59 : decode cX9_fitsSeen 59 = .ok (.goto (-42), 3) := by decide +kernel
theorem dX9_fitsSeen_62 : decode cX9_fitsSeen 62 = .ok (.iconst 1, 1) := by decide +kernel
theorem dX9_fitsSeen_63 : decode cX9_fitsSeen 63 = .ok (.ireturn, 1) := by decide +kernel
set_option maxRecDepth 20000 in
theorem ggX9_countAlike_J7_fill_53178 : GoodIn wsX9_countAlike wsJ7_fill_53178 := goodIn_r _ [8] (by decide +kernel) (by decide +kernel)
set_option maxRecDepth 20000 in
theorem gX9_countAlike_J7_fill_53178 : GoodIn wsX9_countAlike (va_wsS RX9 359 yJ7_fill_53178 wsJ7_fill_53178) := goodIn_app (goodIn_of _ (by decide +kernel)) ggX9_countAlike_J7_fill_53178
set_option maxRecDepth 20000 in
theorem ggX9_countAlike_X8_countFor : GoodIn wsX9_countAlike wsX8_countFor := goodIn_r _ [13] (by decide +kernel) (by decide +kernel)
set_option maxRecDepth 20000 in
theorem gX9_countAlike_X8_countFor : GoodIn wsX9_countAlike (wsV RX9 232 RX8 yX8_countFor wsX8_countFor) := goodIn_app (goodIn_of _ (by decide +kernel)) ggX9_countAlike_X8_countFor
set_option maxRecDepth 20000 in
theorem ggX9_countAlike_X8_become : GoodIn wsX9_countAlike wsX8_become := goodIn_r _ [17, 18, 19, 20, 21, 22, 23, 140, 141] (by decide +kernel) (by decide +kernel)
set_option maxRecDepth 20000 in
theorem gX9_countAlike_X8_become : GoodIn wsX9_countAlike (wsV RX9 235 RX8 yX8_become wsX8_become) := goodIn_app (goodIn_of _ (by decide +kernel)) ggX9_countAlike_X8_become
set_option maxRecDepth 20000 in
theorem ggX9_countAlike_X9_fitsSeen : GoodIn wsX9_countAlike wsX9_fitsSeen := goodIn_r _ [28, 29, 3, 2, 30, 31, 32, 33, 34, 35, 36, 37, 38, 19, 20, 21, 39, 40, 41, 42, 43, 44, 45, 46, 47, 48, 49, 50, 51, 52, 53, 54, 55, 12, 56, 22, 23, 57, 58, 59, 60, 61, 62, 63, 64, 65, 66, 67, 68, 69, 70, 71, 72, 73, 74, 75, 76, 77, 78, 79, 80, 81, 82, 83, 84, 85, 86, 87, 88, 89, 90, 91, 92, 93, 94, 95, 96, 97, 98, 99, 100, 101, 102, 103, 104, 105, 106, 107, 108, 109, 110, 116, 117, 118, 119, 120, 121, 122, 123, 124, 125, 126, 127, 128, 142, 143, 144, 145, 146, 147, 129, 130, 131, 132, 133, 134, 135, 136, 137, 138, 139, 148, 149, 150, 151, 152, 140, 141] (by decide +kernel) (by decide +kernel)
set_option maxRecDepth 20000 in
theorem gX9_countAlike_X9_fitsSeen : GoodIn wsX9_countAlike (wsV RX9 269 RX9 yX9_fitsSeen wsX9_fitsSeen) := goodIn_app (goodIn_of _ (by decide +kernel)) ggX9_countAlike_X9_fitsSeen
set_option maxRecDepth 20000 in
theorem ggX9_countAlike_X9_countRests : GoodIn wsX9_countAlike wsX9_countRests := goodIn_r _ [114, 3, 115, 29, 1, 90, 91, 92, 35, 93, 94, 95, 96, 97, 44, 98, 99, 100, 101, 41, 39, 102, 103, 104, 105, 42, 116, 117, 118, 119, 120, 121, 122, 123, 124, 125, 126, 127, 128, 129, 130, 131, 132, 133, 134, 135, 136, 137, 138, 139, 148, 149, 150, 151, 152] (by decide +kernel) (by decide +kernel)
set_option maxRecDepth 20000 in
theorem gX9_countAlike_X9_countRests : GoodIn wsX9_countAlike (wsV RX9 365 RX9 yX9_countRests wsX9_countRests) := goodIn_app (goodIn_of _ (by decide +kernel)) ggX9_countAlike_X9_countRests
theorem dX9_countAlike_0 : decode cX9_countAlike 0 = .ok (.aload_n 0, 1) := by decide +kernel
theorem dX9_countAlike_1 : decode cX9_countAlike 1 = .ok (.getfield 82, 3) := by decide +kernel
theorem dX9_countAlike_4 : decode cX9_countAlike 4 = .ok (.iconst 0, 1) := by decide +kernel
theorem dX9_countAlike_5 : decode cX9_countAlike 5 = .ok (.invokestatic 359, 3) := by decide +kernel
theorem dX9_countAlike_8 : decode cX9_countAlike 8 = .ok (.iconst 0, 1) := by decide +kernel
theorem dX9_countAlike_9 : decode cX9_countAlike 9 = .ok (.istore_n 1, 1) := by decide +kernel
theorem dX9_countAlike_10 : decode cX9_countAlike 10 = .ok (.aload_n 0, 1) := by decide +kernel
theorem dX9_countAlike_11 : decode cX9_countAlike 11 = .ok (.getfield 67, 3) := by decide +kernel
theorem dX9_countAlike_14 : decode cX9_countAlike 14 = .ok (.aload_n 0, 1) := by decide +kernel
theorem dX9_countAlike_15 : decode cX9_countAlike 15 = .ok (.getfield 19, 3) := by decide +kernel
theorem dX9_countAlike_18 : decode cX9_countAlike 18 = .ok (.getfield 109, 3) := by decide +kernel
theorem dX9_countAlike_21 : decode cX9_countAlike 21 = .ok (.invokevirtual 232, 3) := by decide +kernel
theorem dX9_countAlike_24 : decode cX9_countAlike 24 = .ok (.istore_n 2, 1) := by decide +kernel
theorem dX9_countAlike_25 : decode cX9_countAlike 25 = .ok (.iconst 0, 1) := by decide +kernel
theorem dX9_countAlike_26 : decode cX9_countAlike 26 = .ok (.istore_n 3, 1) := by decide +kernel
theorem dX9_countAlike_27 : decode cX9_countAlike 27 = .ok (.iload_n 3, 1) := by decide +kernel
theorem dX9_countAlike_28 : decode cX9_countAlike 28 = .ok (.iload_n 2, 1) := by decide +kernel
theorem dX9_countAlike_29 : decode cX9_countAlike 29 = .ok (.if_icmp .ge 38, 3) := by decide +kernel
theorem dX9_countAlike_32 : decode cX9_countAlike 32 = .ok (.aload_n 0, 1) := by decide +kernel
theorem dX9_countAlike_33 : decode cX9_countAlike 33 = .ok (.getfield 67, 3) := by decide +kernel
theorem dX9_countAlike_36 : decode cX9_countAlike 36 = .ok (.iload_n 3, 1) := by decide +kernel
theorem dX9_countAlike_37 : decode cX9_countAlike 37 = .ok (.aload_n 0, 1) := by decide +kernel
theorem dX9_countAlike_38 : decode cX9_countAlike 38 = .ok (.getfield 19, 3) := by decide +kernel
theorem dX9_countAlike_41 : decode cX9_countAlike 41 = .ok (.getfield 109, 3) := by decide +kernel
theorem dX9_countAlike_44 : decode cX9_countAlike 44 = .ok (.invokevirtual 235, 3) := by decide +kernel
theorem dX9_countAlike_47 : decode cX9_countAlike 47 = .ok (.aload_n 0, 1) := by decide +kernel
theorem dX9_countAlike_48 : decode cX9_countAlike 48 = .ok (.invokevirtual 269, 3) := by decide +kernel
theorem dX9_countAlike_51 : decode cX9_countAlike 51 = .ok (.ifCond .eq 10, 3) := by decide +kernel
theorem dX9_countAlike_54 : decode cX9_countAlike 54 = .ok (.iinc 1 1, 3) := by decide +kernel
theorem dX9_countAlike_57 : decode cX9_countAlike 57 = .ok (.aload_n 0, 1) := by decide +kernel
theorem dX9_countAlike_58 : decode cX9_countAlike 58 = .ok (.invokevirtual 365, 3) := by decide +kernel
theorem dX9_countAlike_61 : decode cX9_countAlike 61 = .ok (.iinc 3 1, 3) := by decide +kernel
theorem dX9_countAlike_64 : decode cX9_countAlike 64 = .ok (.goto (-37), 3) := by decide +kernel
theorem dX9_countAlike_67 : decode cX9_countAlike 67 = .ok (.iload_n 1, 1) := by decide +kernel
theorem dX9_countAlike_68 : decode cX9_countAlike 68 = .ok (.ireturn, 1) := by decide +kernel
set_option maxRecDepth 20000 in
theorem ggX9_countRests_X2_restFrom : GoodIn wsX9_countRests wsX2_restFrom := goodIn_r _ [9, 10, 11, 12, 8, 13, 14, 15, 16, 17, 18, 19, 20, 21, 22, 23, 24, 25, 50, 51, 52, 53, 54] (by decide +kernel) (by decide +kernel)
set_option maxRecDepth 20000 in
theorem gX9_countRests_X2_restFrom : GoodIn wsX9_countRests (wsV RX9 216 RX2 yX2_restFrom wsX2_restFrom) := goodIn_app (goodIn_of _ (by decide +kernel)) ggX9_countRests_X2_restFrom
theorem dX9_countRests_0 : decode cX9_countRests 0 = .ok (.iconst 0, 1) := by decide +kernel
theorem dX9_countRests_1 : decode cX9_countRests 1 = .ok (.istore_n 1, 1) := by decide +kernel
theorem dX9_countRests_2 : decode cX9_countRests 2 = .ok (.iload_n 1, 1) := by decide +kernel
theorem dX9_countRests_3 : decode cX9_countRests 3 = .ok (.aload_n 0, 1) := by decide +kernel
theorem dX9_countRests_4 : decode cX9_countRests 4 = .ok (.getfield 19, 3) := by decide +kernel
theorem dX9_countRests_7 : decode cX9_countRests 7 = .ok (.getfield 222, 3) := by decide +kernel
theorem dX9_countRests_10 : decode cX9_countRests 10 = .ok (.if_icmp .ge 46, 3) := by decide +kernel
theorem dX9_countRests_13 : decode cX9_countRests 13 = .ok (.iload_n 1, 1) := by decide +kernel
theorem dX9_countRests_14 : decode cX9_countRests 14 = .ok (.bipush 20, 2) := by decide +kernel
theorem dX9_countRests_16 : decode cX9_countRests 16 = .ok (.imul, 1) := by decide +kernel
theorem dX9_countRests_17 : decode cX9_countRests 17 = .ok (.aload_n 0, 1) := by decide +kernel
theorem dX9_countRests_18 : decode cX9_countRests 18 = .ok (.getfield 74, 3) := by decide +kernel
theorem dX9_countRests_21 : decode cX9_countRests 21 = .ok (.iload_n 1, 1) := by decide +kernel
theorem dX9_countRests_22 : decode cX9_countRests 22 = .ok (.invokevirtual 216, 3) := by decide +kernel
theorem dX9_countRests_25 : decode cX9_countRests 25 = .ok (.iadd, 1) := by decide +kernel
theorem dX9_countRests_26 : decode cX9_countRests 26 = .ok (.istore_n 2, 1) := by decide +kernel
theorem dX9_countRests_27 : decode cX9_countRests 27 = .ok (.iload_n 2, 1) := by decide +kernel
theorem dX9_countRests_28 : decode cX9_countRests 28 = .ok (.ifCond .lt 22, 3) := by decide +kernel
theorem dX9_countRests_31 : decode cX9_countRests 31 = .ok (.iload_n 2, 1) := by decide +kernel
theorem dX9_countRests_32 : decode cX9_countRests 32 = .ok (.aload_n 0, 1) := by decide +kernel
theorem dX9_countRests_33 : decode cX9_countRests 33 = .ok (.getfield 82, 3) := by decide +kernel
theorem dX9_countRests_36 : decode cX9_countRests 36 = .ok (.arraylength, 1) := by decide +kernel
theorem dX9_countRests_37 : decode cX9_countRests 37 = .ok (.if_icmp .ge 13, 3) := by decide +kernel
theorem dX9_countRests_40 : decode cX9_countRests 40 = .ok (.aload_n 0, 1) := by decide +kernel
theorem dX9_countRests_41 : decode cX9_countRests 41 = .ok (.getfield 82, 3) := by decide +kernel
theorem dX9_countRests_44 : decode cX9_countRests 44 = .ok (.iload_n 2, 1) := by decide +kernel
theorem dX9_countRests_45 : decode cX9_countRests 45 = .ok (.dup2, 1) := by decide +kernel
theorem dX9_countRests_46 : decode cX9_countRests 46 = .ok (.iaload, 1) := by decide +kernel
theorem dX9_countRests_47 : decode cX9_countRests 47 = .ok (.iconst 1, 1) := by decide +kernel
theorem dX9_countRests_48 : decode cX9_countRests 48 = .ok (.iadd, 1) := by decide +kernel
theorem dX9_countRests_49 : decode cX9_countRests 49 = .ok (.iastore, 1) := by decide +kernel
theorem dX9_countRests_50 : decode cX9_countRests 50 = .ok (.iinc 1 1, 3) := by decide +kernel
theorem dX9_countRests_53 : decode cX9_countRests 53 = .ok (.goto (-51), 3) := by decide +kernel
theorem dX9_countRests_56 : decode cX9_countRests 56 = .ok (.return_, 1) := by decide +kernel
theorem dX9_greatestPart_0 : decode cX9_greatestPart 0 = .ok (.iconst 0, 1) := by decide +kernel
theorem dX9_greatestPart_1 : decode cX9_greatestPart 1 = .ok (.istore_n 2, 1) := by decide +kernel
theorem dX9_greatestPart_2 : decode cX9_greatestPart 2 = .ok (.iconst 0, 1) := by decide +kernel
theorem dX9_greatestPart_3 : decode cX9_greatestPart 3 = .ok (.istore_n 3, 1) := by decide +kernel
theorem dX9_greatestPart_4 : decode cX9_greatestPart 4 = .ok (.iload_n 3, 1) := by decide +kernel
theorem dX9_greatestPart_5 : decode cX9_greatestPart 5 = .ok (.aload_n 0, 1) := by decide +kernel
theorem dX9_greatestPart_6 : decode cX9_greatestPart 6 = .ok (.getfield 19, 3) := by decide +kernel
theorem dX9_greatestPart_9 : decode cX9_greatestPart 9 = .ok (.getfield 222, 3) := by decide +kernel
theorem dX9_greatestPart_12 : decode cX9_greatestPart 12 = .ok (.if_icmp .ge 44, 3) := by decide +kernel
theorem dX9_greatestPart_15 : decode cX9_greatestPart 15 = .ok (.iload_n 1, 1) := by decide +kernel
theorem dX9_greatestPart_16 : decode cX9_greatestPart 16 = .ok (.bipush 20, 2) := by decide +kernel
theorem dX9_greatestPart_18 : decode cX9_greatestPart 18 = .ok (.imul, 1) := by decide +kernel
theorem dX9_greatestPart_19 : decode cX9_greatestPart 19 = .ok (.iload_n 3, 1) := by decide +kernel
theorem dX9_greatestPart_20 : decode cX9_greatestPart 20 = .ok (.iadd, 1) := by decide +kernel
theorem dX9_greatestPart_21 : decode cX9_greatestPart 21 = .ok (.istore 4, 2) := by decide +kernel
theorem dX9_greatestPart_23 : decode cX9_greatestPart 23 = .ok (.iload 4, 2) := by decide +kernel
theorem dX9_greatestPart_25 : decode cX9_greatestPart 25 = .ok (.ifCond .lt 25, 3) := by decide +kernel
theorem dX9_greatestPart_28 : decode cX9_greatestPart 28 = .ok (.iload 4, 2) := by decide +kernel
theorem dX9_greatestPart_30 : decode cX9_greatestPart 30 = .ok (.aload_n 0, 1) := by decide +kernel
theorem dX9_greatestPart_31 : decode cX9_greatestPart 31 = .ok (.getfield 82, 3) := by decide +kernel
theorem dX9_greatestPart_34 : decode cX9_greatestPart 34 = .ok (.arraylength, 1) := by decide +kernel
theorem dX9_greatestPart_35 : decode cX9_greatestPart 35 = .ok (.if_icmp .ge 15, 3) := by decide +kernel
theorem dX9_greatestPart_38 : decode cX9_greatestPart 38 = .ok (.iload_n 2, 1) := by decide +kernel
theorem dX9_greatestPart_39 : decode cX9_greatestPart 39 = .ok (.aload_n 0, 1) := by decide +kernel
theorem dX9_greatestPart_40 : decode cX9_greatestPart 40 = .ok (.getfield 82, 3) := by decide +kernel
theorem dX9_greatestPart_43 : decode cX9_greatestPart 43 = .ok (.iload 4, 2) := by decide +kernel
theorem dX9_greatestPart_45 : decode cX9_greatestPart 45 = .ok (.iaload, 1) := by decide +kernel
theorem dX9_greatestPart_46 : decode cX9_greatestPart 46 = .ok (.invokestatic 336, 3) := by decide +kernel
theorem dX9_greatestPart_49 : decode cX9_greatestPart 49 = .ok (.istore_n 2, 1) := by decide +kernel
theorem dX9_greatestPart_50 : decode cX9_greatestPart 50 = .ok (.iinc 3 1, 3) := by decide +kernel
theorem dX9_greatestPart_53 : decode cX9_greatestPart 53 = .ok (.goto (-49), 3) := by decide +kernel
theorem dX9_greatestPart_56 : decode cX9_greatestPart 56 = .ok (.iload_n 2, 1) := by decide +kernel
theorem dX9_greatestPart_57 : decode cX9_greatestPart 57 = .ok (.ireturn, 1) := by decide +kernel
