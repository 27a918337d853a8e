theorem dX10_cell_0 : decode cX10_cell 0 = .ok (.aload_n 0, 1) := by decide +kernel
theorem dX10_cell_1 : decode cX10_cell 1 = .ok (.iload_n 1, 1) := by decide +kernel
theorem dX10_cell_2 : decode cX10_cell 2 = .ok (.invokevirtual 222, 3) := by decide +kernel
theorem dX10_cell_5 : decode cX10_cell 5 = .ok (.ifCond .ne 6, 3) := by decide +kernel
theorem dX10_cell_8 : decode cX10_cell 8 = .ok (.ldc 226, 2) := by decide +kernel
theorem dX10_cell_10 : decode cX10_cell 10 = .ok (.ireturn, 1) := by decide +kernel
theorem dX10_cell_11 : decode cX10_cell 11 = .ok (.aload_n 0, 1) := by decide +kernel
theorem dX10_cell_12 : decode cX10_cell 12 = .ok (.invokevirtual 210, 3) := by decide +kernel
theorem dX10_cell_15 : decode cX10_cell 15 = .ok (.iload_n 2, 1) := by decide +kernel
theorem dX10_cell_16 : decode cX10_cell 16 = .ok (.ifCond .ne 12, 3) := by decide +kernel
theorem dX10_cell_19 : decode cX10_cell 19 = .ok (.aload_n 0, 1) := by decide +kernel
theorem dX10_cell_20 : decode cX10_cell 20 = .ok (.getfield 53, 3) := by decide +kernel
theorem dX10_cell_23 : decode cX10_cell 23 = .ok (.iload_n 1, 1) := by decide +kernel
theorem dX10_cell_24 : decode cX10_cell 24 = .ok (.iaload, 1) := by decide +kernel
theorem dX10_cell_25 : decode cX10_cell 25 = .ok (.goto 32, 3) := by decide +kernel
theorem dX10_cell_28 : decode cX10_cell 28 = .ok (.iload_n 2, 1) := by decide +kernel
theorem dX10_cell_29 : decode cX10_cell 29 = .ok (.iconst 1, 1) := by decide +kernel
theorem dX10_cell_30 : decode cX10_cell 30 = .ok (.if_icmp .ne 12, 3) := by decide +kernel
theorem dX10_cell_33 : decode cX10_cell 33 = .ok (.aload_n 0, 1) := by decide +kernel
theorem dX10_cell_34 : decode cX10_cell 34 = .ok (.getfield 7, 3) := by decide +kernel
theorem dX10_cell_37 : decode cX10_cell 37 = .ok (.iload_n 1, 1) := by decide +kernel
theorem dX10_cell_38 : decode cX10_cell 38 = .ok (.iaload, 1) := by decide +kernel
theorem dX10_cell_39 : decode cX10_cell 39 = .ok (.goto 18, 3) := by decide +kernel
theorem dX10_cell_42 : decode cX10_cell 42 = .ok (.iload_n 2, 1) := by decide +kernel
theorem dX10_cell_43 : decode cX10_cell 43 = .ok (.iconst 2, 1) := by decide +kernel
theorem dX10_cell_44 : decode cX10_cell 44 = .ok (.if_icmp .ne 11, 3) := by decide +kernel
theorem dX10_cell_47 : decode cX10_cell 47 = .ok (.aload_n 0, 1) := by decide +kernel
theorem dX10_cell_48 : decode cX10_cell 48 = .ok (.iload_n 1, 1) := by decide +kernel
theorem dX10_cell_49 : decode cX10_cell 49 = .ok (.invokevirtual 192, 3) := by decide +kernel
theorem dX10_cell_52 : decode cX10_cell 52 = .ok (.goto 5, 3) := by decide +kernel
theorem dX10_cell_55 : decode cX10_cell 55 = .ok (.ldc 106, 2) := by decide +kernel
theorem dX10_cell_57 : decode cX10_cell 57 = .ok (.ireturn, 1) := by decide +kernel
set_option maxRecDepth 20000 in
theorem ggX10_cellsOf_X10_cells : GoodIn wsX10_cellsOf wsX10_cells := goodIn_r _ [5, 6, 7, 17, 18, 19, 20, 21, 22, 23, 24, 25, 26, 27, 28, 29, 30, 31, 32, 33, 34, 35, 36, 37, 38, 39, 40, 41, 42, 43, 44, 45, 46, 47, 48, 49, 50, 51, 52, 53, 54, 55] (by decide +kernel) (by decide +kernel)
set_option maxRecDepth 20000 in
theorem gX10_cellsOf_X10_cells : GoodIn wsX10_cellsOf (wsV RX10 90 RX10 yX10_cells wsX10_cells) := goodIn_app (goodIn_of _ (by decide +kernel)) ggX10_cellsOf_X10_cells
set_option maxRecDepth 20000 in
theorem ggX10_cellsOf_X10_isOf : GoodIn wsX10_cellsOf wsX10_isOf := goodIn_r _ [11, 6, 12, 13, 14, 15, 4, 16, 17, 18, 19, 20, 21, 22, 23, 24, 25, 26, 27, 28, 29, 30, 31, 32, 33, 34, 35, 36, 37, 38, 39, 40, 41, 42, 43, 44, 45, 46, 47, 48, 49, 50, 51, 52, 53, 54, 55] (by decide +kernel) (by decide +kernel)
set_option maxRecDepth 20000 in
theorem gX10_cellsOf_X10_isOf : GoodIn wsX10_cellsOf (wsV RX10 188 RX10 yX10_isOf wsX10_isOf) := goodIn_app (goodIn_of _ (by decide +kernel)) ggX10_cellsOf_X10_isOf
theorem dX10_cellsOf_0 : decode cX10_cellsOf 0 = .ok (.iconst 0, 1) := by decide +kernel
theorem dX10_cellsOf_1 : decode cX10_cellsOf 1 = .ok (.istore_n 2, 1) := by decide +kernel
theorem dX10_cellsOf_2 : decode cX10_cellsOf 2 = .ok (.iconst 0, 1) := by decide +kernel
theorem dX10_cellsOf_3 : decode cX10_cellsOf 3 = .ok (.istore_n 3, 1) := by decide +kernel
theorem dX10_cellsOf_4 : decode cX10_cellsOf 4 = .ok (.iload_n 3, 1) := by decide +kernel
theorem dX10_cellsOf_5 : decode cX10_cellsOf 5 = .ok (.aload_n 0, 1) := by decide +kernel
theorem dX10_cellsOf_6 : decode cX10_cellsOf 6 = .ok (.invokevirtual 90, 3) := by decide +kernel
theorem dX10_cellsOf_9 : decode cX10_cellsOf 9 = .ok (.if_icmp .ge 28, 3) := by decide +kernel
theorem dX10_cellsOf_12 : decode cX10_cellsOf 12 = .ok (.iload_n 2, 1) := by decide +kernel
theorem dX10_cellsOf_13 : decode cX10_cellsOf 13 = .ok (.aload_n 0, 1) := by decide +kernel
theorem dX10_cellsOf_14 : decode cX10_cellsOf 14 = .ok (.iload_n 1, 1) := by decide +kernel
theorem dX10_cellsOf_15 : decode cX10_cellsOf 15 = .ok (.iload_n 3, 1) := by decide +kernel
theorem dX10_cellsOf_16 : decode cX10_cellsOf 16 = .ok (.invokevirtual 188, 3) := by decide +kernel
theorem dX10_cellsOf_19 : decode cX10_cellsOf 19 = .ok (.ifCond .eq 9, 3) := by decide +kernel
theorem dX10_cellsOf_22 : decode cX10_cellsOf 22 = .ok (.iconst 1, 1) := by decide +kernel
theorem dX10_cellsOf_23 : decode cX10_cellsOf 23 = .ok (.iload_n 3, 1) := by decide +kernel
theorem dX10_cellsOf_24 : decode cX10_cellsOf 24 = .ok (.ishl, 1) := by decide +kernel
theorem dX10_cellsOf_25 : decode cX10_cellsOf 25 = .ok (.goto 4, 3) := by decide +kernel
theorem dX10_cellsOf_28 : decode cX10_cellsOf 28 = .ok (.iconst 0, 1) := by decide +kernel
theorem dX10_cellsOf_29 : decode cX10_cellsOf 29 = .ok (.ior, 1) := by decide +kernel
theorem dX10_cellsOf_30 : decode cX10_cellsOf 30 = .ok (.istore_n 2, 1) := by decide +kernel
theorem dX10_cellsOf_31 : decode cX10_cellsOf 31 = .ok (.iinc 3 1, 3) := by decide +kernel
theorem dX10_cellsOf_34 : decode cX10_cellsOf 34 = .ok (.goto (-30), 3) := by decide +kernel
theorem dX10_cellsOf_37 : decode cX10_cellsOf 37 = .ok (.iload_n 2, 1) := by decide +kernel
theorem dX10_cellsOf_38 : decode cX10_cellsOf 38 = .ok (.ireturn, 1) := by decide +kernel
set_option maxRecDepth 20000 in
theorem ggX10_spreadOf_X10_lookNow : GoodIn wsX10_spreadOf wsX10_lookNow := goodIn_r _ [6, 7, 8, 9, 5, 10, 11, 12, 13, 14, 15, 16, 17, 18, 19, 20, 21, 22, 23, 24, 25, 26, 27, 28, 29, 30, 31, 32, 1, 33, 34, 35, 36, 37, 38, 39, 40, 41, 42, 43, 44, 45, 46, 47, 48, 49, 50, 51, 52, 53, 54, 55, 56, 57, 61, 62, 63, 64, 65, 66, 67, 68, 69, 70, 71, 72, 73, 74, 75, 76, 77, 78, 79, 80, 81, 82, 83, 84, 85, 86, 87, 88, 89, 90, 91, 92, 93, 94, 95, 96, 97, 98, 99] (by decide +kernel) (by decide +kernel)
set_option maxRecDepth 20000 in
theorem gX10_spreadOf_X10_lookNow : GoodIn wsX10_spreadOf (wsV RX10 210 RX10 yX10_lookNow wsX10_lookNow) := goodIn_app (goodIn_of _ (by decide +kernel)) ggX10_spreadOf_X10_lookNow
set_option maxRecDepth 20000 in
theorem ggX10_spreadOf_X10_cells : GoodIn wsX10_spreadOf wsX10_cells := goodIn_r _ [36, 37, 38, 61, 62, 63, 64, 65, 66, 67, 68, 69, 70, 71, 72, 73, 74, 75, 76, 77, 78, 79, 80, 81, 82, 83, 84, 85, 86, 87, 88, 89, 90, 91, 92, 93, 94, 95, 96, 97, 98, 99] (by decide +kernel) (by decide +kernel)
set_option maxRecDepth 20000 in
theorem gX10_spreadOf_X10_cells : GoodIn wsX10_spreadOf (wsV RX10 90 RX10 yX10_cells wsX10_cells) := goodIn_app (goodIn_of _ (by decide +kernel)) ggX10_spreadOf_X10_cells
set_option maxRecDepth 20000 in
theorem ggX10_spreadOf_X10_has : GoodIn wsX10_spreadOf wsX10_has := goodIn_r _ [60] (by decide +kernel) (by decide +kernel)
set_option maxRecDepth 20000 in
theorem gX10_spreadOf_X10_has : GoodIn wsX10_spreadOf (va_wsS RX10 227 yX10_has wsX10_has) := goodIn_app (goodIn_of _ (by decide +kernel)) ggX10_spreadOf_X10_has
theorem dX10_spreadOf_0 : decode cX10_spreadOf 0 = .ok (.aload_n 0, 1) := by decide +kernel
theorem dX10_spreadOf_1 : decode cX10_spreadOf 1 = .ok (.invokevirtual 210, 3) := by decide +kernel
theorem dX10_spreadOf_4 : decode cX10_spreadOf 4 = .ok (.sipush 1000, 3) := by decide +kernel
theorem dX10_spreadOf_7 : decode cX10_spreadOf 7 = .ok (.istore_n 2, 1) := by decide +kernel
theorem dX10_spreadOf_8 : decode cX10_spreadOf 8 = .ok (.iconst (-1), 1) := by decide +kernel
theorem dX10_spreadOf_9 : decode cX10_spreadOf 9 = .ok (.istore_n 3, 1) := by decide +kernel
theorem dX10_spreadOf_10 : decode cX10_spreadOf 10 = .ok (.iconst 0, 1) := by decide +kernel
theorem dX10_spreadOf_11 : decode cX10_spreadOf 11 = .ok (.istore 4, 2) := by decide +kernel
theorem dX10_spreadOf_13 : decode cX10_spreadOf 13 = .ok (.iload 4, 2) := by decide +kernel
theorem dX10_spreadOf_15 : decode cX10_spreadOf 15 = .ok (.aload_n 0, 1) := by decide +kernel
theorem dX10_spreadOf_16 : decode cX10_spreadOf 16 = .ok (.invokevirtual 90, 3) := by decide +kernel
theorem dX10_spreadOf_19 : decode cX10_spreadOf 19 = .ok (.if_icmp .ge 73, 3) := by decide +kernel
theorem dX10_spreadOf_22 : decode cX10_spreadOf 22 = .ok (.iload_n 1, 1) := by decide +kernel
theorem dX10_spreadOf_23 : decode cX10_spreadOf 23 = .ok (.iload 4, 2) := by decide +kernel
theorem dX10_spreadOf_25 : decode cX10_spreadOf 25 = .ok (.invokestatic 227, 3) := by decide +kernel
theorem dX10_spreadOf_28 : decode cX10_spreadOf 28 = .ok (.ifCond .eq 24, 3) := by decide +kernel
theorem dX10_spreadOf_31 : decode cX10_spreadOf 31 = .ok (.aload_n 0, 1) := by decide +kernel
theorem dX10_spreadOf_32 : decode cX10_spreadOf 32 = .ok (.getfield 53, 3) := by decide +kernel
theorem dX10_spreadOf_35 : decode cX10_spreadOf 35 = .ok (.iload 4, 2) := by decide +kernel
theorem dX10_spreadOf_37 : decode cX10_spreadOf 37 = .ok (.iaload, 1) := by decide +kernel
theorem dX10_spreadOf_38 : decode cX10_spreadOf 38 = .ok (.iload_n 2, 1) := by decide +kernel
theorem dX10_spreadOf_39 : decode cX10_spreadOf 39 = .ok (.if_icmp .ge 13, 3) := by decide +kernel
theorem dX10_spreadOf_42 : decode cX10_spreadOf 42 = .ok (.aload_n 0, 1) := by decide +kernel
theorem dX10_spreadOf_43 : decode cX10_spreadOf 43 = .ok (.getfield 53, 3) := by decide +kernel
theorem dX10_spreadOf_46 : decode cX10_spreadOf 46 = .ok (.iload 4, 2) := by decide +kernel
theorem dX10_spreadOf_48 : decode cX10_spreadOf 48 = .ok (.iaload, 1) := by decide +kernel
theorem dX10_spreadOf_49 : decode cX10_spreadOf 49 = .ok (.goto 4, 3) := by decide +kernel
theorem dX10_spreadOf_52 : decode cX10_spreadOf 52 = .ok (.iload_n 2, 1) := by decide +kernel
theorem dX10_spreadOf_53 : decode cX10_spreadOf 53 = .ok (.istore_n 2, 1) := by decide +kernel
theorem dX10_spreadOf_54 : decode cX10_spreadOf 54 = .ok (.iload_n 1, 1) := by decide +kernel
theorem dX10_spreadOf_55 : decode cX10_spreadOf 55 = .ok (.iload 4, 2) := by decide +kernel
theorem dX10_spreadOf_57 : decode cX10_spreadOf 57 = .ok (.invokestatic 227, 3) := by decide +kernel
theorem dX10_spreadOf_60 : decode cX10_spreadOf 60 = .ok (.ifCond .eq 24, 3) := by decide +kernel
theorem dX10_spreadOf_63 : decode cX10_spreadOf 63 = .ok (.aload_n 0, 1) := by decide +kernel
theorem dX10_spreadOf_64 : decode cX10_spreadOf 64 = .ok (.getfield 53, 3) := by decide +kernel
theorem dX10_spreadOf_67 : decode cX10_spreadOf 67 = .ok (.iload 4, 2) := by decide +kernel
theorem dX10_spreadOf_69 : decode cX10_spreadOf 69 = .ok (.iaload, 1) := by decide +kernel
theorem dX10_spreadOf_70 : decode cX10_spreadOf 70 = .ok (.iload_n 3, 1) := by decide +kernel
theorem dX10_spreadOf_71 : decode cX10_spreadOf 71 = .ok (.if_icmp .le 13, 3) := by decide +kernel
theorem dX10_spreadOf_74 : decode cX10_spreadOf 74 = .ok (.aload_n 0, 1) := by decide +kernel
theorem dX10_spreadOf_75 : decode cX10_spreadOf 75 = .ok (.getfield 53, 3) := by decide +kernel
theorem dX10_spreadOf_78 : decode cX10_spreadOf 78 = .ok (.iload 4, 2) := by decide +kernel
theorem dX10_spreadOf_80 : decode cX10_spreadOf 80 = .ok (.iaload, 1) := by decide +kernel
theorem dX10_spreadOf_81 : decode cX10_spreadOf 81 = .ok (.goto 4, 3) := by decide +kernel
theorem dX10_spreadOf_84 : decode cX10_spreadOf 84 = .ok (.iload_n 3, 1) := by decide +kernel
theorem dX10_spreadOf_85 : decode cX10_spreadOf 85 = .ok (.istore_n 3, 1) := by decide +kernel
theorem dX10_spreadOf_86 : decode cX10_spreadOf 86 = .ok (.iinc 4 1, 3) := by decide +kernel
theorem dX10_spreadOf_89 : decode cX10_spreadOf 89 = .ok (.goto (-76), 3) := by decide +kernel
theorem dX10_spreadOf_92 : decode cX10_spreadOf 92 = .ok (.iload_n 3, 1) := by decide +kernel
theorem dX10_spreadOf_93 : decode cX10_spreadOf 93 = .ok (.ifCond .ge 7, 3) := by decide +kernel
theorem dX10_spreadOf_96 : decode cX10_spreadOf 96 = .ok (.iconst 0, 1) := by decide +kernel
theorem dX10_spreadOf_97 : decode cX10_spreadOf 97 = .ok (.goto 6, 3) := by decide +kernel
theorem dX10_spreadOf_100 : decode cX10_spreadOf 100 = .ok (.iload_n 3, 1) := by decide +kernel
theorem dX10_spreadOf_101 : decode cX10_spreadOf 101 = .ok (.iload_n 2, 1) := by decide +kernel
theorem dX10_spreadOf_102 : decode cX10_spreadOf 102 = .ok (.isub, 1) := by decide +kernel
theorem dX10_spreadOf_103 : decode cX10_spreadOf 103 = .ok (.ireturn, 1) := by decide +kernel
set_option maxRecDepth 20000 in
theorem ggX10_item_X10_isItem : GoodIn wsX10_item wsX10_isItem := goodIn_r _ [8, 9, 10, 11, 7, 12, 75, 76, 77, 78, 79, 80, 81, 82, 83, 84, 85, 86, 87, 88, 89, 90, 91, 92, 93, 94, 95, 96, 97, 98, 99, 100, 101, 102, 103, 104, 105, 106, 107, 108, 109, 110, 111, 112, 113] (by decide +kernel) (by decide +kernel)
set_option maxRecDepth 20000 in
theorem gX10_item_X10_isItem : GoodIn wsX10_item (wsV RX10 230 RX10 yX10_isItem wsX10_isItem) := goodIn_app (goodIn_of _ (by decide +kernel)) ggX10_item_X10_isItem
set_option maxRecDepth 20000 in
theorem ggX10_item_X10_cellsOf : GoodIn wsX10_item wsX10_cellsOf := goodIn_r _ [16, 17, 18, 19, 7, 20, 21, 22, 23, 24, 25, 26, 27, 28, 10, 11, 12, 75, 76, 77, 78, 79, 80, 81, 82, 83, 84, 85, 86, 87, 88, 89, 90, 91, 92, 93, 94, 95, 96, 97, 98, 99, 100, 101, 102, 103, 104, 105, 106, 107, 108, 109, 110, 111, 112, 113] (by decide +kernel) (by decide +kernel)
set_option maxRecDepth 20000 in
theorem gX10_item_X10_cellsOf : GoodIn wsX10_item (wsV RX10 233 RX10 yX10_cellsOf wsX10_cellsOf) := goodIn_app (goodIn_of _ (by decide +kernel)) ggX10_item_X10_cellsOf
set_option maxRecDepth 20000 in
theorem ggX10_item_X10_standOf : GoodIn wsX10_item wsX10_standOf := goodIn_r _ [32, 33, 34, 35, 7, 36, 37, 38, 39, 40, 41, 42, 43, 44, 75, 76, 77, 78, 79, 80, 81, 82, 83, 84, 85, 86, 87, 88, 89, 90, 91, 92, 93, 94, 95, 96, 97, 98, 99, 100, 101, 102, 103, 104, 105, 106, 107, 108, 109, 110, 111, 112, 113] (by decide +kernel) (by decide +kernel)
set_option maxRecDepth 20000 in
theorem gX10_item_X10_standOf : GoodIn wsX10_item (wsV RX10 185 RX10 yX10_standOf wsX10_standOf) := goodIn_app (goodIn_of _ (by decide +kernel)) ggX10_item_X10_standOf
set_option maxRecDepth 20000 in
theorem ggX10_item_X10_voters : GoodIn wsX10_item wsX10_voters := goodIn_r _ [36, 37, 38, 75, 76, 77, 78, 79, 80, 81, 82, 83, 84, 85, 86, 87, 88, 89, 90, 91, 92, 93, 94, 95, 96, 97, 98, 99, 100, 101, 102, 103, 104, 105, 106, 107, 108, 109, 110, 111, 112, 113] (by decide +kernel) (by decide +kernel)
set_option maxRecDepth 20000 in
theorem gX10_item_X10_voters : GoodIn wsX10_item (wsV RX10 175 RX10 yX10_voters wsX10_voters) := goodIn_app (goodIn_of _ (by decide +kernel)) ggX10_item_X10_voters
set_option maxRecDepth 20000 in
theorem ggX10_item_X10_spreadOf : GoodIn wsX10_item wsX10_spreadOf := goodIn_r _ [48, 49, 50, 51, 52, 7, 53, 54, 55, 56, 57, 9, 58, 29, 30, 31, 32, 33, 34, 35, 36, 37, 38, 39, 40, 41, 42, 43, 44, 59, 60, 61, 62, 17, 18, 19, 20, 21, 22, 63, 64, 65, 66, 67, 27, 2, 68, 69, 70, 71, 23, 24, 25, 26, 28, 10, 11, 12, 72, 73, 74, 75, 76, 77, 78, 79, 80, 81, 82, 83, 84, 85, 86, 87, 88, 89, 90, 91, 92, 93, 94, 95, 96, 97, 98, 99, 100, 101, 102, 103, 104, 105, 106, 107, 108, 109, 110, 111, 112, 113] (by decide +kernel) (by decide +kernel)
set_option maxRecDepth 20000 in
theorem gX10_item_X10_spreadOf : GoodIn wsX10_item (wsV RX10 236 RX10 yX10_spreadOf wsX10_spreadOf) := goodIn_app (goodIn_of _ (by decide +kernel)) ggX10_item_X10_spreadOf
theorem dX10_item_0 : decode cX10_item 0 = .ok (.aload_n 0, 1) := by decide +kernel
theorem dX10_item_1 : decode cX10_item 1 = .ok (.iload_n 1, 1) := by decide +kernel
theorem dX10_item_2 : decode cX10_item 2 = .ok (.invokevirtual 230, 3) := by decide +kernel
theorem dX10_item_5 : decode cX10_item 5 = .ok (.ifCond .ne 6, 3) := by decide +kernel
theorem dX10_item_8 : decode cX10_item 8 = .ok (.ldc 226, 2) := by decide +kernel
theorem dX10_item_10 : decode cX10_item 10 = .ok (.ireturn, 1) := by decide +kernel
theorem dX10_item_11 : decode cX10_item 11 = .ok (.iload_n 2, 1) := by decide +kernel
theorem dX10_item_12 : decode cX10_item 12 = .ok (.tableswitch 91 0 5 #[40, 46, 53, 59, 66, 73], 40) := by decide +kernel
theorem dX10_item_52 : decode cX10_item 52 = .ok (.aload_n 0, 1) := by decide +kernel
theorem dX10_item_53 : decode cX10_item 53 = .ok (.iload_n 1, 1) := by decide +kernel
theorem dX10_item_54 : decode cX10_item 54 = .ok (.invokevirtual 233, 3) := by decide +kernel
theorem dX10_item_57 : decode cX10_item 57 = .ok (.ireturn, 1) := by decide +kernel
theorem dX10_item_58 : decode cX10_item 58 = .ok (.aload_n 0, 1) := by decide +kernel
theorem dX10_item_59 : decode cX10_item 59 = .ok (.getfield 19, 3) := by decide +kernel
theorem dX10_item_62 : decode cX10_item 62 = .ok (.iload_n 1, 1) := by decide +kernel
theorem dX10_item_63 : decode cX10_item 63 = .ok (.iaload, 1) := by decide +kernel
theorem dX10_item_64 : decode cX10_item 64 = .ok (.ireturn, 1) := by decide +kernel
theorem dX10_item_65 : decode cX10_item 65 = .ok (.aload_n 0, 1) := by decide +kernel
theorem dX10_item_66 : decode cX10_item 66 = .ok (.iload_n 1, 1) := by decide +kernel
theorem dX10_item_67 : decode cX10_item 67 = .ok (.invokevirtual 185, 3) := by decide +kernel
theorem dX10_item_70 : decode cX10_item 70 = .ok (.ireturn, 1) := by decide +kernel
theorem dX10_item_71 : decode cX10_item 71 = .ok (.aload_n 0, 1) := by decide +kernel
theorem dX10_item_72 : decode cX10_item 72 = .ok (.iload_n 1, 1) := by decide +kernel
theorem dX10_item_73 : decode cX10_item 73 = .ok (.iconst 1, 1) := by decide +kernel
theorem dX10_item_74 : decode cX10_item 74 = .ok (.invokevirtual 175, 3) := by decide +kernel
theorem dX10_item_77 : decode cX10_item 77 = .ok (.ireturn, 1) := by decide +kernel
theorem dX10_item_78 : decode cX10_item 78 = .ok (.aload_n 0, 1) := by decide +kernel
theorem dX10_item_79 : decode cX10_item 79 = .ok (.iload_n 1, 1) := by decide +kernel
theorem dX10_item_80 : decode cX10_item 80 = .ok (.iconst 0, 1) := by decide +kernel
theorem dX10_item_81 : decode cX10_item 81 = .ok (.invokevirtual 175, 3) := by decide +kernel
theorem dX10_item_84 : decode cX10_item 84 = .ok (.ireturn, 1) := by decide +kernel
theorem dX10_item_85 : decode cX10_item 85 = .ok (.aload_n 0, 1) := by decide +kernel
theorem dX10_item_86 : decode cX10_item 86 = .ok (.aload_n 0, 1) := by decide +kernel
theorem dX10_item_87 : decode cX10_item 87 = .ok (.iload_n 1, 1) := by decide +kernel
theorem dX10_item_88 : decode cX10_item 88 = .ok (.invokevirtual 233, 3) := by decide +kernel
theorem dX10_item_91 : decode cX10_item 91 = .ok (.invokevirtual 236, 3) := by decide +kernel
theorem dX10_item_94 : decode cX10_item 94 = .ok (.ifCond .ne 7, 3) := by decide +kernel
theorem dX10_item_97 : decode cX10_item 97 = .ok (.iconst 1, 1) := by decide +kernel
theorem dX10_item_98 : decode cX10_item 98 = .ok (.goto 4, 3) := by decide +kernel
theorem dX10_item_101 : decode cX10_item 101 = .ok (.iconst 0, 1) := by decide +kernel
theorem dX10_item_102 : decode cX10_item 102 = .ok (.ireturn, 1) := by decide +kernel
theorem dX10_item_103 : decode cX10_item 103 = .ok (.ldc 106, 2) := by decide +kernel
theorem dX10_item_105 : decode cX10_item 105 = .ok (.ireturn, 1) := by decide +kernel
set_option maxRecDepth 20000 in
theorem ggX10_votes_X10_isPerson : GoodIn wsX10_votes wsX10_isPerson := goodIn_r _ [7, 8, 9, 10, 6, 11, 17, 18, 19, 20, 21, 22, 23, 24, 25, 26, 27, 28, 29, 30, 31, 32, 33, 34, 35, 36, 37, 38, 39, 40, 41, 42, 43, 44, 45, 46, 47, 48, 49, 50, 51, 52, 53, 54, 55] (by decide +kernel) (by decide +kernel)
set_option maxRecDepth 20000 in
theorem gX10_votes_X10_isPerson : GoodIn wsX10_votes (wsV RX10 239 RX10 yX10_isPerson wsX10_isPerson) := goodIn_app (goodIn_of _ (by decide +kernel)) ggX10_votes_X10_isPerson
set_option maxRecDepth 20000 in
theorem ggX10_votes_X10_isItem : GoodIn wsX10_votes wsX10_isItem := goodIn_r _ [15, 16, 9, 10, 6, 11, 17, 18, 19, 20, 21, 22, 23, 24, 25, 26, 27, 28, 29, 30, 31, 32, 33, 34, 35, 36, 37, 38, 39, 40, 41, 42, 43, 44, 45, 46, 47, 48, 49, 50, 51, 52, 53, 54, 55] (by decide +kernel) (by decide +kernel)
set_option maxRecDepth 20000 in
theorem gX10_votes_X10_isItem : GoodIn wsX10_votes (wsV RX10 230 RX10 yX10_isItem wsX10_isItem) := goodIn_app (goodIn_of _ (by decide +kernel)) ggX10_votes_X10_isItem
theorem dX10_votes_0 : decode cX10_votes 0 = .ok (.aload_n 0, 1) := by decide +kernel
theorem dX10_votes_1 : decode cX10_votes 1 = .ok (.iload_n 1, 1) := by decide +kernel
theorem dX10_votes_2 : decode cX10_votes 2 = .ok (.invokevirtual 239, 3) := by decide +kernel
theorem dX10_votes_5 : decode cX10_votes 5 = .ok (.ifCond .eq 24, 3) := by decide +kernel
theorem dX10_votes_8 : decode cX10_votes 8 = .ok (.aload_n 0, 1) := by decide +kernel
theorem dX10_votes_9 : decode cX10_votes 9 = .ok (.iload_n 2, 1) := by decide +kernel
theorem dX10_votes_10 : decode cX10_votes 10 = .ok (.invokevirtual 230, 3) := by decide +kernel
theorem dX10_votes_13 : decode cX10_votes 13 = .ok (.ifCond .eq 16, 3) := by decide +kernel
theorem dX10_votes_16 : decode cX10_votes 16 = .ok (.aload_n 0, 1) := by decide +kernel
theorem dX10_votes_17 : decode cX10_votes 17 = .ok (.getfield 22, 3) := by decide +kernel
theorem dX10_votes_20 : decode cX10_votes 20 = .ok (.iconst 5, 1) := by decide +kernel
theorem dX10_votes_21 : decode cX10_votes 21 = .ok (.iload_n 1, 1) := by decide +kernel
theorem dX10_votes_22 : decode cX10_votes 22 = .ok (.imul, 1) := by decide +kernel
theorem dX10_votes_23 : decode cX10_votes 23 = .ok (.iload_n 2, 1) := by decide +kernel
theorem dX10_votes_24 : decode cX10_votes 24 = .ok (.iadd, 1) := by decide +kernel
theorem dX10_votes_25 : decode cX10_votes 25 = .ok (.iaload, 1) := by decide +kernel
theorem dX10_votes_26 : decode cX10_votes 26 = .ok (.goto 5, 3) := by decide +kernel
theorem dX10_votes_29 : decode cX10_votes 29 = .ok (.ldc 226, 2) := by decide +kernel
theorem dX10_votes_31 : decode cX10_votes 31 = .ok (.ireturn, 1) := by decide +kernel
theorem dX10_remember_0 : decode cX10_remember 0 = .ok (.aload_n 0, 1) := by decide +kernel
theorem dX10_remember_1 : decode cX10_remember 1 = .ok (.getfield 172, 3) := by decide +kernel
theorem dX10_remember_4 : decode cX10_remember 4 = .ok (.bipush 20, 2) := by decide +kernel
theorem dX10_remember_6 : decode cX10_remember 6 = .ok (.if_icmp .ne 44, 3) := by decide +kernel
theorem dX10_remember_9 : decode cX10_remember 9 = .ok (.bipush 37, 2) := by decide +kernel
theorem dX10_remember_11 : decode cX10_remember 11 = .ok (.istore_n 1, 1) := by decide +kernel
theorem dX10_remember_12 : decode cX10_remember 12 = .ok (.iload_n 1, 1) := by decide +kernel
theorem dX10_remember_13 : decode cX10_remember 13 = .ok (.sipush 740, 3) := by decide +kernel
theorem dX10_remember_16 : decode cX10_remember 16 = .ok (.if_icmp .ge 24, 3) := by decide +kernel
theorem dX10_remember_19 : decode cX10_remember 19 = .ok (.aload_n 0, 1) := by decide +kernel
theorem dX10_remember_20 : decode cX10_remember 20 = .ok (.getfield 56, 3) := by decide +kernel
theorem dX10_remember_23 : decode cX10_remember 23 = .ok (.iload_n 1, 1) := by decide +kernel
theorem dX10_remember_24 : decode cX10_remember 24 = .ok (.bipush 37, 2) := by decide +kernel
theorem dX10_remember_26 : decode cX10_remember 26 = .ok (.isub, 1) := by decide +kernel
theorem dX10_remember_27 : decode cX10_remember 27 = .ok (.aload_n 0, 1) := by decide +kernel
theorem dX10_remember_28 : decode cX10_remember 28 = .ok (.getfield 56, 3) := by decide +kernel
theorem dX10_remember_31 : decode cX10_remember 31 = .ok (.iload_n 1, 1) := by decide +kernel
theorem dX10_remember_32 : decode cX10_remember 32 = .ok (.iaload, 1) := by decide +kernel
theorem dX10_remember_33 : decode cX10_remember 33 = .ok (.iastore, 1) := by decide +kernel
theorem dX10_remember_34 : decode cX10_remember 34 = .ok (.iinc 1 1, 3) := by decide +kernel
theorem dX10_remember_37 : decode cX10_remember 37 = .ok (.goto (-25), 3) := by decide +kernel
theorem dX10_remember_40 : decode cX10_remember 40 = .ok (.aload_n 0, 1) := by decide +kernel
theorem dX10_remember_41 : decode cX10_remember 41 = .ok (.dup, 1) := by decide +kernel
theorem dX10_remember_42 : decode cX10_remember 42 = .ok (.getfield 172, 3) := by decide +kernel
theorem dX10_remember_45 : decode cX10_remember 45 = .ok (.iconst 1, 1) := by decide +kernel
theorem dX10_remember_46 : decode cX10_remember 46 = .ok (.isub, 1) := by decide +kernel
theorem dX10_remember_47 : decode cX10_remember 47 = .ok (.putfield 172, 3) := by decide +kernel
theorem dX10_remember_50 : decode cX10_remember 50 = .ok (.iconst 0, 1) := by decide +kernel
theorem dX10_remember_51 : decode cX10_remember 51 = .ok (.istore_n 1, 1) := by decide +kernel
theorem dX10_remember_52 : decode cX10_remember 52 = .ok (.iload_n 1, 1) := by decide +kernel
theorem dX10_remember_53 : decode cX10_remember 53 = .ok (.bipush 37, 2) := by decide +kernel
theorem dX10_remember_55 : decode cX10_remember 55 = .ok (.if_icmp .ge 29, 3) := by decide +kernel
theorem dX10_remember_58 : decode cX10_remember 58 = .ok (.aload_n 0, 1) := by decide +kernel
theorem dX10_remember_59 : decode cX10_remember 59 = .ok (.getfield 56, 3) := by decide +kernel
theorem dX10_remember_62 : decode cX10_remember 62 = .ok (.bipush 37, 2) := by decide +kernel
theorem dX10_remember_64 : decode cX10_remember 64 = .ok (.aload_n 0, 1) := by decide +kernel
theorem dX10_remember_65 : decode cX10_remember 65 = .ok (.getfield 172, 3) := by decide +kernel
theorem dX10_remember_68 : decode cX10_remember 68 = .ok (.imul, 1) := by decide +kernel
theorem dX10_remember_69 : decode cX10_remember 69 = .ok (.iload_n 1, 1) := by decide +kernel
theorem dX10_remember_70 : decode cX10_remember 70 = .ok (.iadd, 1) := by decide +kernel
theorem dX10_remember_71 : decode cX10_remember 71 = .ok (.aload_n 0, 1) := by decide +kernel
theorem dX10_remember_72 : decode cX10_remember 72 = .ok (.getfield 22, 3) := by decide +kernel
theorem dX10_remember_75 : decode cX10_remember 75 = .ok (.iload_n 1, 1) := by decide +kernel
theorem dX10_remember_76 : decode cX10_remember 76 = .ok (.iaload, 1) := by decide +kernel
theorem dX10_remember_77 : decode cX10_remember 77 = .ok (.iastore, 1) := by decide +kernel
theorem dX10_remember_78 : decode cX10_remember 78 = .ok (.iinc 1 1, 3) := by decide +kernel
theorem dX10_remember_81 : decode cX10_remember 81 = .ok (.goto (-29), 3) := by decide +kernel
theorem dX10_remember_84 : decode cX10_remember 84 = .ok (.aload_n 0, 1) := by decide +kernel
theorem dX10_remember_85 : decode cX10_remember 85 = .ok (.dup, 1) := by decide +kernel
theorem dX10_remember_86 : decode cX10_remember 86 = .ok (.getfield 172, 3) := by decide +kernel
theorem dX10_remember_89 : decode cX10_remember 89 = .ok (.iconst 1, 1) := by decide +kernel
theorem dX10_remember_90 : decode cX10_remember 90 = .ok (.iadd, 1) := by decide +kernel
theorem dX10_remember_91 : decode cX10_remember 91 = .ok (.putfield 172, 3) := by decide +kernel
theorem dX10_remember_94 : decode cX10_remember 94 = .ok (.return_, 1) := by decide +kernel
set_option maxRecDepth 20000 in
theorem ggX10_vote_X10_isPerson : GoodIn wsX10_vote wsX10_isPerson := goodIn_r _ [9, 10, 11, 12, 8, 13, 39, 40, 41, 42, 43, 44, 45, 46, 47, 48, 49, 50, 51, 52, 53, 54, 55, 56, 57, 58, 59, 60, 61, 62, 63, 64, 65, 66, 67, 68, 69, 70, 71, 72, 73, 74, 75, 76, 77] (by decide +kernel) (by decide +kernel)
set_option maxRecDepth 20000 in
theorem gX10_vote_X10_isPerson : GoodIn wsX10_vote (wsV RX10 239 RX10 yX10_isPerson wsX10_isPerson) := goodIn_app (goodIn_of _ (by decide +kernel)) ggX10_vote_X10_isPerson
set_option maxRecDepth 20000 in
theorem ggX10_vote_X10_isItem : GoodIn wsX10_vote wsX10_isItem := goodIn_r _ [17, 18, 11, 12, 8, 13, 39, 40, 41, 42, 43, 44, 45, 46, 47, 48, 49, 50, 51, 52, 53, 54, 55, 56, 57, 58, 59, 60, 61, 62, 63, 64, 65, 66, 67, 68, 69, 70, 71, 72, 73, 74, 75, 76, 77] (by decide +kernel) (by decide +kernel)
set_option maxRecDepth 20000 in
theorem gX10_vote_X10_isItem : GoodIn wsX10_vote (wsV RX10 230 RX10 yX10_isItem wsX10_isItem) := goodIn_app (goodIn_of _ (by decide +kernel)) ggX10_vote_X10_isItem
set_option maxRecDepth 20000 in
theorem ggX10_vote_X10_in : GoodIn wsX10_vote wsX10_in := goodIn_r _ [13] (by decide +kernel) (by decide +kernel)
set_option maxRecDepth 20000 in
theorem gX10_vote_X10_in : GoodIn wsX10_vote (va_wsS RX10 94 yX10_in wsX10_in) := goodIn_app (goodIn_of _ (by decide +kernel)) ggX10_vote_X10_in
set_option maxRecDepth 20000 in
theorem ggX10_vote_X10_remember : GoodIn wsX10_vote wsX10_remember := goodIn_r _ [22, 23, 24, 4, 39, 40, 41, 42, 43, 44, 45, 46, 47, 48, 49, 50, 51, 52, 53, 54, 55, 56, 57, 58, 59, 60, 61, 62, 63, 64, 65, 66, 67, 68, 69, 70, 71, 72, 73, 74, 75, 76, 77] (by decide +kernel) (by decide +kernel)
set_option maxRecDepth 20000 in
theorem gX10_vote_X10_remember : GoodIn wsX10_vote (wsV RX10 244 RX10 yX10_remember wsX10_remember) := goodIn_app (goodIn_of _ (by decide +kernel)) ggX10_vote_X10_remember
set_option maxRecDepth 20000 in
theorem ggX10_vote_X10_standOf : GoodIn wsX10_vote wsX10_standOf := goodIn_r _ [28, 29, 30, 31, 8, 32, 10, 4, 33, 34, 35, 36, 37, 38, 39, 40, 41, 42, 43, 44, 45, 46, 47, 48, 49, 50, 51, 52, 53, 54, 55, 56, 57, 58, 59, 60, 61, 62, 63, 64, 65, 66, 67, 68, 69, 70, 71, 72, 73, 74, 75, 76, 77] (by decide +kernel) (by decide +kernel)
set_option maxRecDepth 20000 in
theorem gX10_vote_X10_standOf : GoodIn wsX10_vote (wsV RX10 185 RX10 yX10_standOf wsX10_standOf) := goodIn_app (goodIn_of _ (by decide +kernel)) ggX10_vote_X10_standOf
theorem dX10_vote_0 : decode cX10_vote 0 = .ok (.aload_n 0, 1) := by decide +kernel
theorem dX10_vote_1 : decode cX10_vote 1 = .ok (.iload_n 1, 1) := by decide +kernel
theorem dX10_vote_2 : decode cX10_vote 2 = .ok (.invokevirtual 239, 3) := by decide +kernel
theorem dX10_vote_5 : decode cX10_vote 5 = .ok (.ifCond .eq 11, 3) := by decide +kernel
theorem dX10_vote_8 : decode cX10_vote 8 = .ok (.aload_n 0, 1) := by decide +kernel
theorem dX10_vote_9 : decode cX10_vote 9 = .ok (.iload_n 2, 1) := by decide +kernel
theorem dX10_vote_10 : decode cX10_vote 10 = .ok (.invokevirtual 230, 3) := by decide +kernel
theorem dX10_vote_13 : decode cX10_vote 13 = .ok (.ifCond .ne 6, 3) := by decide +kernel
theorem dX10_vote_16 : decode cX10_vote 16 = .ok (.ldc 226, 2) := by decide +kernel
theorem dX10_vote_18 : decode cX10_vote 18 = .ok (.ireturn, 1) := by decide +kernel
theorem dX10_vote_19 : decode cX10_vote 19 = .ok (.iload_n 3, 1) := by decide +kernel
theorem dX10_vote_20 : decode cX10_vote 20 = .ok (.i2l, 1) := by decide +kernel
theorem dX10_vote_21 : decode cX10_vote 21 = .ok (.lconst 0, 1) := by decide +kernel
theorem dX10_vote_22 : decode cX10_vote 22 = .ok (.ldc2_w 242, 3) := by decide +kernel
theorem dX10_vote_25 : decode cX10_vote 25 = .ok (.invokestatic 94, 3) := by decide +kernel
theorem dX10_vote_28 : decode cX10_vote 28 = .ok (.ifCond .ne 6, 3) := by decide +kernel
theorem dX10_vote_31 : decode cX10_vote 31 = .ok (.ldc 106, 2) := by decide +kernel
theorem dX10_vote_33 : decode cX10_vote 33 = .ok (.ireturn, 1) := by decide +kernel
theorem dX10_vote_34 : decode cX10_vote 34 = .ok (.aload_n 0, 1) := by decide +kernel
theorem dX10_vote_35 : decode cX10_vote 35 = .ok (.invokevirtual 244, 3) := by decide +kernel
theorem dX10_vote_38 : decode cX10_vote 38 = .ok (.aload_n 0, 1) := by decide +kernel
theorem dX10_vote_39 : decode cX10_vote 39 = .ok (.getfield 22, 3) := by decide +kernel
theorem dX10_vote_42 : decode cX10_vote 42 = .ok (.iconst 5, 1) := by decide +kernel
theorem dX10_vote_43 : decode cX10_vote 43 = .ok (.iload_n 1, 1) := by decide +kernel
theorem dX10_vote_44 : decode cX10_vote 44 = .ok (.imul, 1) := by decide +kernel
theorem dX10_vote_45 : decode cX10_vote 45 = .ok (.iload_n 2, 1) := by decide +kernel
theorem dX10_vote_46 : decode cX10_vote 46 = .ok (.iadd, 1) := by decide +kernel
theorem dX10_vote_47 : decode cX10_vote 47 = .ok (.iload_n 3, 1) := by decide +kernel
theorem dX10_vote_48 : decode cX10_vote 48 = .ok (.iastore, 1) := by decide +kernel
theorem dX10_vote_49 : decode cX10_vote 49 = .ok (.aload_n 0, 1) := by decide +kernel
theorem dX10_vote_50 : decode cX10_vote 50 = .ok (.iload_n 2, 1) := by decide +kernel
theorem dX10_vote_51 : decode cX10_vote 51 = .ok (.invokevirtual 185, 3) := by decide +kernel
theorem dX10_vote_54 : decode cX10_vote 54 = .ok (.ireturn, 1) := by decide +kernel
set_option maxRecDepth 20000 in
theorem ggX10_sit_X10_standNow : GoodIn wsX10_sit wsX10_standNow := goodIn_r _ [6, 7, 8, 9, 10, 11, 5, 12, 13, 14, 15, 16, 17, 1, 18, 19, 20, 21, 22, 23, 24, 25, 26, 27, 28, 29, 30, 31, 32, 33, 34, 35, 36, 37, 38, 39, 40, 41, 42, 43, 44, 45, 46, 47, 48, 49, 50, 51, 52, 53, 54, 55, 56, 57, 58, 59, 60, 61, 62] (by decide +kernel) (by decide +kernel)
set_option maxRecDepth 20000 in
theorem gX10_sit_X10_standNow : GoodIn wsX10_sit (wsV RX10 204 RX10 yX10_standNow wsX10_standNow) := goodIn_app (goodIn_of _ (by decide +kernel)) ggX10_sit_X10_standNow
theorem dX10_sit_0 : decode cX10_sit 0 = .ok (.aload_n 0, 1) := by decide +kernel
theorem dX10_sit_1 : decode cX10_sit 1 = .ok (.getfield 22, 3) := by decide +kernel
theorem dX10_sit_4 : decode cX10_sit 4 = .ok (.bipush 35, 2) := by decide +kernel
theorem dX10_sit_6 : decode cX10_sit 6 = .ok (.dup2, 1) := by decide +kernel
theorem dX10_sit_7 : decode cX10_sit 7 = .ok (.iaload, 1) := by decide +kernel
theorem dX10_sit_8 : decode cX10_sit 8 = .ok (.iconst 1, 1) := by decide +kernel
theorem dX10_sit_9 : decode cX10_sit 9 = .ok (.iadd, 1) := by decide +kernel
theorem dX10_sit_10 : decode cX10_sit 10 = .ok (.iastore, 1) := by decide +kernel
theorem dX10_sit_11 : decode cX10_sit 11 = .ok (.aload_n 0, 1) := by decide +kernel
theorem dX10_sit_12 : decode cX10_sit 12 = .ok (.getfield 22, 3) := by decide +kernel
theorem dX10_sit_15 : decode cX10_sit 15 = .ok (.bipush 36, 2) := by decide +kernel
theorem dX10_sit_17 : decode cX10_sit 17 = .ok (.aload_n 0, 1) := by decide +kernel
theorem dX10_sit_18 : decode cX10_sit 18 = .ok (.invokevirtual 204, 3) := by decide +kernel
theorem dX10_sit_21 : decode cX10_sit 21 = .ok (.iastore, 1) := by decide +kernel
theorem dX10_sit_22 : decode cX10_sit 22 = .ok (.return_, 1) := by decide +kernel
set_option maxRecDepth 20000 in
theorem ggX10_session_X10_remember : GoodIn wsX10_session wsX10_remember := goodIn_r _ [9, 10, 11, 3, 37, 38, 39, 40, 41, 42, 43, 44, 45, 46, 47, 48, 49, 50, 51, 52, 53, 54, 55, 56, 57, 58, 59, 60, 61, 62, 63, 64, 65, 66, 67, 68, 69, 70, 71, 72, 73, 74, 75] (by decide +kernel) (by decide +kernel)
set_option maxRecDepth 20000 in
theorem gX10_session_X10_remember : GoodIn wsX10_session (wsV RX10 244 RX10 yX10_remember wsX10_remember) := goodIn_app (goodIn_of _ (by decide +kernel)) ggX10_session_X10_remember
set_option maxRecDepth 20000 in
theorem ggX10_session_X10_sit : GoodIn wsX10_session wsX10_sit := goodIn_r _ [15, 3, 16, 17, 18, 8, 19, 20, 21, 22, 23, 24, 25, 26, 27, 28, 29, 30, 31, 32, 33, 34, 35, 36, 37, 38, 39, 40, 41, 42, 43, 44, 45, 46, 47, 48, 49, 50, 51, 52, 53, 54, 55, 56, 57, 58, 59, 60, 61, 62, 63, 64, 65, 66, 67, 68, 69, 70, 71, 72, 73, 74, 75] (by decide +kernel) (by decide +kernel)
set_option maxRecDepth 20000 in
theorem gX10_session_X10_sit : GoodIn wsX10_session (wsV RX10 248 RX10 yX10_sit wsX10_sit) := goodIn_app (goodIn_of _ (by decide +kernel)) ggX10_session_X10_sit
theorem dX10_session_0 : decode cX10_session 0 = .ok (.aload_n 0, 1) := by decide +kernel
theorem dX10_session_1 : decode cX10_session 1 = .ok (.getfield 84, 3) := by decide +kernel
theorem dX10_session_4 : decode cX10_session 4 = .ok (.ifCond .ne 6, 3) := by decide +kernel
theorem dX10_session_7 : decode cX10_session 7 = .ok (.ldc 247, 2) := by decide +kernel
theorem dX10_session_9 : decode cX10_session 9 = .ok (.ireturn, 1) := by decide +kernel
theorem dX10_session_10 : decode cX10_session 10 = .ok (.aload_n 0, 1) := by decide +kernel
theorem dX10_session_11 : decode cX10_session 11 = .ok (.getfield 22, 3) := by decide +kernel
theorem dX10_session_14 : decode cX10_session 14 = .ok (.bipush 35, 2) := by decide +kernel
theorem dX10_session_16 : decode cX10_session 16 = .ok (.iaload, 1) := by decide +kernel
theorem dX10_session_17 : decode cX10_session 17 = .ok (.sipush 9000, 3) := by decide +kernel
theorem dX10_session_20 : decode cX10_session 20 = .ok (.if_icmp .le 6, 3) := by decide +kernel
theorem dX10_session_23 : decode cX10_session 23 = .ok (.ldc 110, 2) := by decide +kernel
theorem dX10_session_25 : decode cX10_session 25 = .ok (.ireturn, 1) := by decide +kernel
theorem dX10_session_26 : decode cX10_session 26 = .ok (.aload_n 0, 1) := by decide +kernel
theorem dX10_session_27 : decode cX10_session 27 = .ok (.invokevirtual 244, 3) := by decide +kernel
theorem dX10_session_30 : decode cX10_session 30 = .ok (.aload_n 0, 1) := by decide +kernel
theorem dX10_session_31 : decode cX10_session 31 = .ok (.invokevirtual 248, 3) := by decide +kernel
theorem dX10_session_34 : decode cX10_session 34 = .ok (.aload_n 0, 1) := by decide +kernel
theorem dX10_session_35 : decode cX10_session 35 = .ok (.getfield 22, 3) := by decide +kernel
theorem dX10_session_38 : decode cX10_session 38 = .ok (.bipush 36, 2) := by decide +kernel
theorem dX10_session_40 : decode cX10_session 40 = .ok (.iaload, 1) := by decide +kernel
theorem dX10_session_41 : decode cX10_session 41 = .ok (.ireturn, 1) := by decide +kernel
theorem dX10_draw_0 : decode cX10_draw 0 = .ok (.aload_n 0, 1) := by decide +kernel
theorem dX10_draw_1 : decode cX10_draw 1 = .ok (.aload_n 0, 1) := by decide +kernel
theorem dX10_draw_2 : decode cX10_draw 2 = .ok (.getfield 251, 3) := by decide +kernel
theorem dX10_draw_5 : decode cX10_draw 5 = .ok (.i2l, 1) := by decide +kernel
theorem dX10_draw_6 : decode cX10_draw 6 = .ok (.ldc2_w 254, 3) := by decide +kernel
theorem dX10_draw_9 : decode cX10_draw 9 = .ok (.lmul, 1) := by decide +kernel
theorem dX10_draw_10 : decode cX10_draw 10 = .ok (.ldc2_w 256, 3) := by decide +kernel
theorem dX10_draw_13 : decode cX10_draw 13 = .ok (.ladd, 1) := by decide +kernel
theorem dX10_draw_14 : decode cX10_draw 14 = .ok (.ldc2_w 258, 3) := by decide +kernel
theorem dX10_draw_17 : decode cX10_draw 17 = .ok (.lrem, 1) := by decide +kernel
theorem dX10_draw_18 : decode cX10_draw 18 = .ok (.l2i, 1) := by decide +kernel
theorem dX10_draw_19 : decode cX10_draw 19 = .ok (.putfield 251, 3) := by decide +kernel
theorem dX10_draw_22 : decode cX10_draw 22 = .ok (.aload_n 0, 1) := by decide +kernel
theorem dX10_draw_23 : decode cX10_draw 23 = .ok (.getfield 251, 3) := by decide +kernel
theorem dX10_draw_26 : decode cX10_draw 26 = .ok (.ldc_w 260, 3) := by decide +kernel
theorem dX10_draw_29 : decode cX10_draw 29 = .ok (.idiv, 1) := by decide +kernel
theorem dX10_draw_30 : decode cX10_draw 30 = .ok (.iload_n 1, 1) := by decide +kernel
theorem dX10_draw_31 : decode cX10_draw 31 = .ok (.irem, 1) := by decide +kernel
theorem dX10_draw_32 : decode cX10_draw 32 = .ok (.ireturn, 1) := by decide +kernel
set_option maxRecDepth 20000 in
theorem ggX10_drift_X10_in : GoodIn wsX10_drift wsX10_in := goodIn_r _ [12] (by decide +kernel) (by decide +kernel)
set_option maxRecDepth 20000 in
theorem gX10_drift_X10_in : GoodIn wsX10_drift (va_wsS RX10 94 yX10_in wsX10_in) := goodIn_app (goodIn_of _ (by decide +kernel)) ggX10_drift_X10_in
set_option maxRecDepth 20000 in
theorem ggX10_drift_X10_remember : GoodIn wsX10_drift wsX10_remember := goodIn_r _ [16, 17, 18, 5, 51, 52, 53, 54, 55, 56, 57, 58, 59, 60, 61, 62, 63, 64, 65, 66, 67, 68, 69, 70, 71, 72, 73, 74, 75, 76, 77, 78, 79, 80, 81, 82, 83, 84, 85, 86, 87, 88, 89] (by decide +kernel) (by decide +kernel)
set_option maxRecDepth 20000 in
theorem gX10_drift_X10_remember : GoodIn wsX10_drift (wsV RX10 244 RX10 yX10_remember wsX10_remember) := goodIn_app (goodIn_of _ (by decide +kernel)) ggX10_drift_X10_remember
set_option maxRecDepth 20000 in
theorem ggX10_drift_X10_draw : GoodIn wsX10_drift wsX10_draw := goodIn_r _ [22, 23, 24, 25, 26, 27, 51, 52, 53, 54, 55, 56, 57, 58, 59, 60, 61, 62, 63, 64, 65, 66, 67, 68, 69, 70, 71, 72, 73, 74, 75, 76, 77, 78, 79, 80, 81, 82, 83, 84, 85, 86, 87, 88, 89] (by decide +kernel) (by decide +kernel)
set_option maxRecDepth 20000 in
theorem gX10_drift_X10_draw : GoodIn wsX10_drift (wsV RX10 263 RX10 yX10_draw wsX10_draw) := goodIn_app (goodIn_of _ (by decide +kernel)) ggX10_drift_X10_draw
set_option maxRecDepth 20000 in
theorem ggX10_drift_X10_sit : GoodIn wsX10_drift wsX10_sit := goodIn_r _ [31, 5, 32, 33, 34, 11, 35, 8, 36, 37, 38, 39, 40, 41, 42, 43, 44, 7, 45, 46, 47, 48, 49, 50, 51, 52, 53, 54, 55, 56, 57, 58, 59, 60, 61, 62, 63, 64, 65, 66, 67, 68, 69, 70, 71, 72, 73, 74, 75, 76, 77, 78, 79, 80, 81, 82, 83, 84, 85, 86, 87, 88, 89] (by decide +kernel) (by decide +kernel)
set_option maxRecDepth 20000 in
theorem gX10_drift_X10_sit : GoodIn wsX10_drift (wsV RX10 248 RX10 yX10_sit wsX10_sit) := goodIn_app (goodIn_of _ (by decide +kernel)) ggX10_drift_X10_sit
set_option maxRecDepth 20000 in
theorem ggX10_drift_X10_standNow : GoodIn wsX10_drift wsX10_standNow := goodIn_r _ [35, 8, 36, 37, 38, 39, 11, 40, 41, 42, 43, 44, 7, 5, 45, 46, 47, 48, 49, 50, 51, 52, 53, 54, 55, 56, 57, 58, 59, 60, 61, 62, 63, 64, 65, 66, 67, 68, 69, 70, 71, 72, 73, 74, 75, 76, 77, 78, 79, 80, 81, 82, 83, 84, 85, 86, 87, 88, 89] (by decide +kernel) (by decide +kernel)
set_option maxRecDepth 20000 in
theorem gX10_drift_X10_standNow : GoodIn wsX10_drift (wsV RX10 204 RX10 yX10_standNow wsX10_standNow) := goodIn_app (goodIn_of _ (by decide +kernel)) ggX10_drift_X10_standNow
theorem dX10_drift_0 : decode cX10_drift 0 = .ok (.iload_n 1, 1) := by decide +kernel
theorem dX10_drift_1 : decode cX10_drift 1 = .ok (.i2l, 1) := by decide +kernel
theorem dX10_drift_2 : decode cX10_drift 2 = .ok (.lconst 1, 1) := by decide +kernel
theorem dX10_drift_3 : decode cX10_drift 3 = .ok (.ldc2_w 261, 3) := by decide +kernel
theorem dX10_drift_6 : decode cX10_drift 6 = .ok (.invokestatic 94, 3) := by decide +kernel
theorem dX10_drift_9 : decode cX10_drift 9 = .ok (.ifCond .ne 6, 3) := by decide +kernel
theorem dX10_drift_12 : decode cX10_drift 12 = .ok (.ldc 106, 2) := by decide +kernel
theorem dX10_drift_14 : decode cX10_drift 14 = .ok (.ireturn, 1) := by decide +kernel
theorem dX10_drift_15 : decode cX10_drift 15 = .ok (.aload_n 0, 1) := by decide +kernel
theorem dX10_drift_16 : decode cX10_drift 16 = .ok (.getfield 84, 3) := by decide +kernel
theorem dX10_drift_19 : decode cX10_drift 19 = .ok (.ifCond .ne 6, 3) := by decide +kernel
theorem dX10_drift_22 : decode cX10_drift 22 = .ok (.ldc 247, 2) := by decide +kernel
theorem dX10_drift_24 : decode cX10_drift 24 = .ok (.ireturn, 1) := by decide +kernel
theorem dX10_drift_25 : decode cX10_drift 25 = .ok (.aload_n 0, 1) := by decide +kernel
theorem dX10_drift_26 : decode cX10_drift 26 = .ok (.getfield 22, 3) := by decide +kernel
theorem dX10_drift_29 : decode cX10_drift 29 = .ok (.bipush 35, 2) := by decide +kernel
theorem dX10_drift_31 : decode cX10_drift 31 = .ok (.iaload, 1) := by decide +kernel
theorem dX10_drift_32 : decode cX10_drift 32 = .ok (.sipush 9000, 3) := by decide +kernel
theorem dX10_drift_35 : decode cX10_drift 35 = .ok (.if_icmp .le 6, 3) := by decide +kernel
theorem dX10_drift_38 : decode cX10_drift 38 = .ok (.ldc 110, 2) := by decide +kernel
theorem dX10_drift_40 : decode cX10_drift 40 = .ok (.ireturn, 1) := by decide +kernel
theorem dX10_drift_41 : decode cX10_drift 41 = .ok (.aload_n 0, 1) := by decide +kernel
theorem dX10_drift_42 : decode cX10_drift 42 = .ok (.invokevirtual 244, 3) := by decide +kernel
theorem dX10_drift_45 : decode cX10_drift 45 = .ok (.iconst 0, 1) := by decide +kernel
theorem dX10_drift_46 : decode cX10_drift 46 = .ok (.istore_n 2, 1) := by decide +kernel
theorem dX10_drift_47 : decode cX10_drift 47 = .ok (.iload_n 2, 1) := by decide +kernel
theorem dX10_drift_48 : decode cX10_drift 48 = .ok (.iload_n 1, 1) := by decide +kernel
theorem dX10_drift_49 : decode cX10_drift 49 = .ok (.if_icmp .ge 62, 3) := by decide +kernel
theorem dX10_drift_52 : decode cX10_drift 52 = .ok (.aload_n 0, 1) := by decide +kernel
theorem dX10_drift_53 : decode cX10_drift 53 = .ok (.getfield 101, 3) := by decide +kernel
theorem dX10_drift_56 : decode cX10_drift 56 = .ok (.ifCond .le 55, 3) := by decide +kernel
theorem dX10_drift_59 : decode cX10_drift 59 = .ok (.aload_n 0, 1) := by decide +kernel
theorem dX10_drift_60 : decode cX10_drift 60 = .ok (.getfield 98, 3) := by decide +kernel
theorem dX10_drift_63 : decode cX10_drift 63 = .ok (.ifCond .le 48, 3) := by decide +kernel
theorem dX10_drift_66 : decode cX10_drift 66 = .ok (.aload_n 0, 1) := by decide +kernel
theorem dX10_drift_67 : decode cX10_drift 67 = .ok (.aload_n 0, 1) := by decide +kernel
theorem dX10_drift_68 : decode cX10_drift 68 = .ok (.getfield 101, 3) := by decide +kernel
theorem dX10_drift_71 : decode cX10_drift 71 = .ok (.invokevirtual 263, 3) := by decide +kernel
theorem dX10_drift_74 : decode cX10_drift 74 = .ok (.istore_n 3, 1) := by decide +kernel
theorem dX10_drift_75 : decode cX10_drift 75 = .ok (.aload_n 0, 1) := by decide +kernel
theorem dX10_drift_76 : decode cX10_drift 76 = .ok (.aload_n 0, 1) := by decide +kernel
theorem dX10_drift_77 : decode cX10_drift 77 = .ok (.getfield 98, 3) := by decide +kernel
theorem dX10_drift_80 : decode cX10_drift 80 = .ok (.invokevirtual 263, 3) := by decide +kernel
theorem dX10_drift_83 : decode cX10_drift 83 = .ok (.istore 4, 2) := by decide +kernel
theorem dX10_drift_85 : decode cX10_drift 85 = .ok (.aload_n 0, 1) := by decide +kernel
theorem dX10_drift_86 : decode cX10_drift 86 = .ok (.getfield 22, 3) := by decide +kernel
theorem dX10_drift_89 : decode cX10_drift 89 = .ok (.iconst 5, 1) := by decide +kernel
theorem dX10_drift_90 : decode cX10_drift 90 = .ok (.iload_n 3, 1) := by decide +kernel
theorem dX10_drift_91 : decode cX10_drift 91 = .ok (.imul, 1) := by decide +kernel
theorem dX10_drift_92 : decode cX10_drift 92 = .ok (.iload 4, 2) := by decide +kernel
theorem dX10_drift_94 : decode cX10_drift 94 = .ok (.iadd, 1) := by decide +kernel
theorem dX10_drift_95 : decode cX10_drift 95 = .ok (.aload_n 0, 1) := by decide +kernel
theorem dX10_drift_96 : decode cX10_drift 96 = .ok (.iconst 3, 1) := by decide +kernel
theorem dX10_drift_97 : decode cX10_drift 97 = .ok (.invokevirtual 263, 3) := by decide +kernel
theorem dX10_drift_100 : decode cX10_drift 100 = .ok (.iastore, 1) := by decide +kernel
theorem dX10_drift_101 : decode cX10_drift 101 = .ok (.aload_n 0, 1) := by decide +kernel
theorem dX10_drift_102 : decode cX10_drift 102 = .ok (.invokevirtual 248, 3) := by decide +kernel
theorem dX10_drift_105 : decode cX10_drift 105 = .ok (.iinc 2 1, 3) := by decide +kernel
theorem dX10_drift_108 : decode cX10_drift 108 = .ok (.goto (-61), 3) := by decide +kernel
theorem dX10_drift_111 : decode cX10_drift 111 = .ok (.aload_n 0, 1) := by decide +kernel
theorem dX10_drift_112 : decode cX10_drift 112 = .ok (.invokevirtual 204, 3) := by decide +kernel
theorem dX10_drift_115 : decode cX10_drift 115 = .ok (.ireturn, 1) := by decide +kernel
theorem dX10_undo_0 : decode cX10_undo 0 = .ok (.aload_n 0, 1) := by decide +kernel
theorem dX10_undo_1 : decode cX10_undo 1 = .ok (.getfield 172, 3) := by decide +kernel
theorem dX10_undo_4 : decode cX10_undo 4 = .ok (.ifCond .ne 6, 3) := by decide +kernel
theorem dX10_undo_7 : decode cX10_undo 7 = .ok (.ldc 247, 2) := by decide +kernel
theorem dX10_undo_9 : decode cX10_undo 9 = .ok (.ireturn, 1) := by decide +kernel
theorem dX10_undo_10 : decode cX10_undo 10 = .ok (.aload_n 0, 1) := by decide +kernel
theorem dX10_undo_11 : decode cX10_undo 11 = .ok (.dup, 1) := by decide +kernel
theorem dX10_undo_12 : decode cX10_undo 12 = .ok (.getfield 172, 3) := by decide +kernel
theorem dX10_undo_15 : decode cX10_undo 15 = .ok (.iconst 1, 1) := by decide +kernel
theorem dX10_undo_16 : decode cX10_undo 16 = .ok (.isub, 1) := by decide +kernel
theorem dX10_undo_17 : decode cX10_undo 17 = .ok (.putfield 172, 3) := by decide +kernel
theorem dX10_undo_20 : decode cX10_undo 20 = .ok (.iconst 0, 1) := by decide +kernel
theorem dX10_undo_21 : decode cX10_undo 21 = .ok (.istore_n 1, 1) := by decide +kernel
theorem dX10_undo_22 : decode cX10_undo 22 = .ok (.iload_n 1, 1) := by decide +kernel
theorem dX10_undo_23 : decode cX10_undo 23 = .ok (.bipush 37, 2) := by decide +kernel
theorem dX10_undo_25 : decode cX10_undo 25 = .ok (.if_icmp .ge 29, 3) := by decide +kernel
theorem dX10_undo_28 : decode cX10_undo 28 = .ok (.aload_n 0, 1) := by decide +kernel
theorem dX10_undo_29 : decode cX10_undo 29 = .ok (.getfield 22, 3) := by decide +kernel
theorem dX10_undo_32 : decode cX10_undo 32 = .ok (.iload_n 1, 1) := by decide +kernel
theorem dX10_undo_33 : decode cX10_undo 33 = .ok (.aload_n 0, 1) := by decide +kernel
theorem dX10_undo_34 : decode cX10_undo 34 = .ok (.getfield 56, 3) := by decide +kernel
theorem dX10_undo_37 : decode cX10_undo 37 = .ok (.bipush 37, 2) := by decide +kernel
theorem dX10_undo_39 : decode cX10_undo 39 = .ok (.aload_n 0, 1) := by decide +kernel
theorem dX10_undo_40 : decode cX10_undo 40 = .ok (.getfield 172, 3) := by decide +kernel
theorem dX10_undo_43 : decode cX10_undo 43 = .ok (.imul, 1) := by decide +kernel
theorem dX10_undo_44 : decode cX10_undo 44 = .ok (.iload_n 1, 1) := by decide +kernel
theorem dX10_undo_45 : decode cX10_undo 45 = .ok (.iadd, 1) := by decide +kernel
theorem dX10_undo_46 : decode cX10_undo 46 = .ok (.iaload, 1) := by decide +kernel
theorem dX10_undo_47 : decode cX10_undo 47 = .ok (.iastore, 1) := by decide +kernel
theorem dX10_undo_48 : decode cX10_undo 48 = .ok (.iinc 1 1, 3) := by decide +kernel
theorem dX10_undo_51 : decode cX10_undo 51 = .ok (.goto (-29), 3) := by decide +kernel
theorem dX10_undo_54 : decode cX10_undo 54 = .ok (.aload_n 0, 1) := by decide +kernel
theorem dX10_undo_55 : decode cX10_undo 55 = .ok (.getfield 172, 3) := by decide +kernel
theorem dX10_undo_58 : decode cX10_undo 58 = .ok (.ireturn, 1) := by decide +kernel
set_option maxRecDepth 20000 in
theorem ggX10_rests_X10_isCell : GoodIn wsX10_rests wsX10_isCell := goodIn_r _ [7, 8, 9, 10, 6, 11, 12, 13, 14, 15, 16, 72, 73, 74, 75, 76, 77, 78, 79, 80, 81, 82, 83, 84, 85, 86, 87, 88, 89, 90, 91, 92, 93, 94, 95, 96, 97, 98, 99, 100, 101, 102, 103, 104, 105, 106, 107, 108, 109, 110] (by decide +kernel) (by decide +kernel)
set_option maxRecDepth 20000 in
theorem gX10_rests_X10_isCell : GoodIn wsX10_rests (wsV RX10 222 RX10 yX10_isCell wsX10_isCell) := goodIn_app (goodIn_of _ (by decide +kernel)) ggX10_rests_X10_isCell
set_option maxRecDepth 20000 in
theorem ggX10_rests_X10_in : GoodIn wsX10_rests wsX10_in := goodIn_r _ [16] (by decide +kernel) (by decide +kernel)
set_option maxRecDepth 20000 in
theorem gX10_rests_X10_in : GoodIn wsX10_rests (va_wsS RX10 94 yX10_in wsX10_in) := goodIn_app (goodIn_of _ (by decide +kernel)) ggX10_rests_X10_in
set_option maxRecDepth 20000 in
theorem ggX10_rests_X10_lookNow : GoodIn wsX10_rests wsX10_lookNow := goodIn_r _ [20, 21, 22, 23, 6, 24, 25, 26, 27, 28, 29, 30, 31, 32, 33, 34, 35, 36, 37, 38, 39, 40, 41, 42, 43, 44, 45, 46, 47, 8, 9, 10, 11, 12, 13, 48, 49, 50, 51, 52, 53, 54, 55, 56, 57, 58, 59, 60, 61, 62, 63, 14, 15, 16, 72, 73, 74, 75, 76, 77, 78, 79, 80, 81, 82, 83, 84, 85, 86, 87, 88, 89, 90, 91, 92, 93, 94, 95, 96, 97, 98, 99, 100, 101, 102, 103, 104, 105, 106, 107, 108, 109, 110] (by decide +kernel) (by decide +kernel)
set_option maxRecDepth 20000 in
theorem gX10_rests_X10_lookNow : GoodIn wsX10_rests (wsV RX10 210 RX10 yX10_lookNow wsX10_lookNow) := goodIn_app (goodIn_of _ (by decide +kernel)) ggX10_rests_X10_lookNow
set_option maxRecDepth 20000 in
theorem ggX10_rests_X10_rollsTo : GoodIn wsX10_rests wsX10_rollsTo := goodIn_r _ [67, 47, 8, 9, 10, 6, 11, 12, 13, 68, 69, 70, 71, 72, 73, 74, 75, 76, 77, 78, 79, 80, 81, 82, 83, 84, 85, 86, 87, 88, 89, 90, 91, 92, 93, 94, 95, 96, 97, 98, 99, 100, 101, 102, 103, 104, 105, 106, 107, 108, 109, 110] (by decide +kernel) (by decide +kernel)
set_option maxRecDepth 20000 in
theorem gX10_rests_X10_rollsTo : GoodIn wsX10_rests (wsV RX10 201 RX10 yX10_rollsTo wsX10_rollsTo) := goodIn_app (goodIn_of _ (by decide +kernel)) ggX10_rests_X10_rollsTo
theorem dX10_rests_0 : decode cX10_rests 0 = .ok (.aload_n 0, 1) := by decide +kernel
theorem dX10_rests_1 : decode cX10_rests 1 = .ok (.iload_n 1, 1) := by decide +kernel
theorem dX10_rests_2 : decode cX10_rests 2 = .ok (.invokevirtual 222, 3) := by decide +kernel
theorem dX10_rests_5 : decode cX10_rests 5 = .ok (.ifCond .ne 6, 3) := by decide +kernel
theorem dX10_rests_8 : decode cX10_rests 8 = .ok (.ldc 226, 2) := by decide +kernel
theorem dX10_rests_10 : decode cX10_rests 10 = .ok (.ireturn, 1) := by decide +kernel
theorem dX10_rests_11 : decode cX10_rests 11 = .ok (.iload_n 2, 1) := by decide +kernel
theorem dX10_rests_12 : decode cX10_rests 12 = .ok (.i2l, 1) := by decide +kernel
theorem dX10_rests_13 : decode cX10_rests 13 = .ok (.lconst 0, 1) := by decide +kernel
theorem dX10_rests_14 : decode cX10_rests 14 = .ok (.lconst 1, 1) := by decide +kernel
theorem dX10_rests_15 : decode cX10_rests 15 = .ok (.invokestatic 94, 3) := by decide +kernel
theorem dX10_rests_18 : decode cX10_rests 18 = .ok (.ifCond .ne 6, 3) := by decide +kernel
theorem dX10_rests_21 : decode cX10_rests 21 = .ok (.ldc 106, 2) := by decide +kernel
theorem dX10_rests_23 : decode cX10_rests 23 = .ok (.ireturn, 1) := by decide +kernel
theorem dX10_rests_24 : decode cX10_rests 24 = .ok (.aload_n 0, 1) := by decide +kernel
theorem dX10_rests_25 : decode cX10_rests 25 = .ok (.invokevirtual 210, 3) := by decide +kernel
theorem dX10_rests_28 : decode cX10_rests 28 = .ok (.iload_n 1, 1) := by decide +kernel
theorem dX10_rests_29 : decode cX10_rests 29 = .ok (.istore_n 3, 1) := by decide +kernel
theorem dX10_rests_30 : decode cX10_rests 30 = .ok (.iconst 0, 1) := by decide +kernel
theorem dX10_rests_31 : decode cX10_rests 31 = .ok (.istore 4, 2) := by decide +kernel
theorem dX10_rests_33 : decode cX10_rests 33 = .ok (.aload_n 0, 1) := by decide +kernel
theorem dX10_rests_34 : decode cX10_rests 34 = .ok (.iload_n 1, 1) := by decide +kernel
theorem dX10_rests_35 : decode cX10_rests 35 = .ok (.invokevirtual 201, 3) := by decide +kernel
theorem dX10_rests_38 : decode cX10_rests 38 = .ok (.istore 5, 2) := by decide +kernel
theorem dX10_rests_40 : decode cX10_rests 40 = .ok (.iload 5, 2) := by decide +kernel
theorem dX10_rests_42 : decode cX10_rests 42 = .ok (.iload_n 3, 1) := by decide +kernel
theorem dX10_rests_43 : decode cX10_rests 43 = .ok (.if_icmp .eq 19, 3) := by decide +kernel
theorem dX10_rests_46 : decode cX10_rests 46 = .ok (.iload 5, 2) := by decide +kernel
theorem dX10_rests_48 : decode cX10_rests 48 = .ok (.istore_n 3, 1) := by decide +kernel
theorem dX10_rests_49 : decode cX10_rests 49 = .ok (.aload_n 0, 1) := by decide +kernel
theorem dX10_rests_50 : decode cX10_rests 50 = .ok (.iload_n 3, 1) := by decide +kernel
theorem dX10_rests_51 : decode cX10_rests 51 = .ok (.invokevirtual 201, 3) := by decide +kernel
theorem dX10_rests_54 : decode cX10_rests 54 = .ok (.istore 5, 2) := by decide +kernel
theorem dX10_rests_56 : decode cX10_rests 56 = .ok (.iinc 4 1, 3) := by decide +kernel
theorem dX10_rests_59 : decode cX10_rests 59 = .ok (.goto (-19), 3) := by decide +kernel
theorem dX10_rests_62 : decode cX10_rests 62 = .ok (.iload_n 2, 1) := by decide +kernel
theorem dX10_rests_63 : decode cX10_rests 63 = .ok (.ifCond .ne 7, 3) := by decide +kernel
theorem dX10_rests_66 : decode cX10_rests 66 = .ok (.iload_n 3, 1) := by decide +kernel
theorem dX10_rests_67 : decode cX10_rests 67 = .ok (.goto 5, 3) := by decide +kernel
theorem dX10_rests_70 : decode cX10_rests 70 = .ok (.iload 4, 2) := by decide +kernel
theorem dX10_rests_72 : decode cX10_rests 72 = .ok (.ireturn, 1) := by decide +kernel
set_option maxRecDepth 20000 in
theorem ggX10_pool_X10_isCell : GoodIn wsX10_pool wsX10_isCell := goodIn_r _ [6, 7, 8, 9, 5, 10, 11, 12, 13, 14, 15, 75, 76, 77, 78, 79, 80, 81, 82, 83, 84, 85, 86, 87, 88, 89, 90, 91, 92, 93, 94, 95, 96, 97, 98, 99, 100, 101, 102, 103, 104, 105, 106, 107, 108, 109, 110, 111, 112, 113] (by decide +kernel) (by decide +kernel)
set_option maxRecDepth 20000 in
theorem gX10_pool_X10_isCell : GoodIn wsX10_pool (wsV RX10 222 RX10 yX10_isCell wsX10_isCell) := goodIn_app (goodIn_of _ (by decide +kernel)) ggX10_pool_X10_isCell
set_option maxRecDepth 20000 in
theorem ggX10_pool_X10_lookNow : GoodIn wsX10_pool wsX10_lookNow := goodIn_r _ [19, 20, 21, 22, 5, 23, 24, 25, 26, 27, 28, 29, 30, 31, 32, 33, 34, 35, 36, 37, 38, 39, 40, 41, 42, 43, 44, 45, 46, 7, 8, 9, 10, 11, 12, 47, 48, 49, 50, 51, 52, 53, 54, 55, 56, 57, 58, 59, 60, 61, 62, 13, 14, 15, 75, 76, 77, 78, 79, 80, 81, 82, 83, 84, 85, 86, 87, 88, 89, 90, 91, 92, 93, 94, 95, 96, 97, 98, 99, 100, 101, 102, 103, 104, 105, 106, 107, 108, 109, 110, 111, 112, 113] (by decide +kernel) (by decide +kernel)
set_option maxRecDepth 20000 in
theorem gX10_pool_X10_lookNow : GoodIn wsX10_pool (wsV RX10 210 RX10 yX10_lookNow wsX10_lookNow) := goodIn_app (goodIn_of _ (by decide +kernel)) ggX10_pool_X10_lookNow
set_option maxRecDepth 20000 in
theorem ggX10_pool_X10_cells : GoodIn wsX10_pool wsX10_cells := goodIn_r _ [10, 11, 12, 75, 76, 77, 78, 79, 80, 81, 82, 83, 84, 85, 86, 87, 88, 89, 90, 91, 92, 93, 94, 95, 96, 97, 98, 99, 100, 101, 102, 103, 104, 105, 106, 107, 108, 109, 110, 111, 112, 113] (by decide +kernel) (by decide +kernel)
set_option maxRecDepth 20000 in
theorem gX10_pool_X10_cells : GoodIn wsX10_pool (wsV RX10 90 RX10 yX10_cells wsX10_cells) := goodIn_app (goodIn_of _ (by decide +kernel)) ggX10_pool_X10_cells
set_option maxRecDepth 20000 in
theorem ggX10_pool_X10_restOf : GoodIn wsX10_pool wsX10_restOf := goodIn_r _ [66, 67, 68, 69, 5, 70, 46, 7, 8, 9, 10, 11, 12, 71, 72, 73, 74, 75, 76, 77, 78, 79, 80, 81, 82, 83, 84, 85, 86, 87, 88, 89, 90, 91, 92, 93, 94, 95, 96, 97, 98, 99, 100, 101, 102, 103, 104, 105, 106, 107, 108, 109, 110, 111, 112, 113] (by decide +kernel) (by decide +kernel)
set_option maxRecDepth 20000 in
theorem gX10_pool_X10_restOf : GoodIn wsX10_pool (wsV RX10 213 RX10 yX10_restOf wsX10_restOf) := goodIn_app (goodIn_of _ (by decide +kernel)) ggX10_pool_X10_restOf
theorem dX10_pool_0 : decode cX10_pool 0 = .ok (.aload_n 0, 1) := by decide +kernel
theorem dX10_pool_1 : decode cX10_pool 1 = .ok (.iload_n 1, 1) := by decide +kernel
theorem dX10_pool_2 : decode cX10_pool 2 = .ok (.invokevirtual 222, 3) := by decide +kernel
theorem dX10_pool_5 : decode cX10_pool 5 = .ok (.ifCond .ne 6, 3) := by decide +kernel
theorem dX10_pool_8 : decode cX10_pool 8 = .ok (.ldc 226, 2) := by decide +kernel
theorem dX10_pool_10 : decode cX10_pool 10 = .ok (.ireturn, 1) := by decide +kernel
theorem dX10_pool_11 : decode cX10_pool 11 = .ok (.aload_n 0, 1) := by decide +kernel
theorem dX10_pool_12 : decode cX10_pool 12 = .ok (.invokevirtual 210, 3) := by decide +kernel
theorem dX10_pool_15 : decode cX10_pool 15 = .ok (.iconst 0, 1) := by decide +kernel
theorem dX10_pool_16 : decode cX10_pool 16 = .ok (.istore_n 2, 1) := by decide +kernel
theorem dX10_pool_17 : decode cX10_pool 17 = .ok (.iconst 0, 1) := by decide +kernel
theorem dX10_pool_18 : decode cX10_pool 18 = .ok (.istore_n 3, 1) := by decide +kernel
theorem dX10_pool_19 : decode cX10_pool 19 = .ok (.iload_n 3, 1) := by decide +kernel
theorem dX10_pool_20 : decode cX10_pool 20 = .ok (.aload_n 0, 1) := by decide +kernel
theorem dX10_pool_21 : decode cX10_pool 21 = .ok (.invokevirtual 90, 3) := by decide +kernel
theorem dX10_pool_24 : decode cX10_pool 24 = .ok (.if_icmp .ge 26, 3) := by decide +kernel
theorem dX10_pool_27 : decode cX10_pool 27 = .ok (.iload_n 2, 1) := by decide +kernel
theorem dX10_pool_28 : decode cX10_pool 28 = .ok (.aload_n 0, 1) := by decide +kernel
theorem dX10_pool_29 : decode cX10_pool 29 = .ok (.iload_n 3, 1) := by decide +kernel
theorem dX10_pool_30 : decode cX10_pool 30 = .ok (.invokevirtual 213, 3) := by decide +kernel
theorem dX10_pool_33 : decode cX10_pool 33 = .ok (.iload_n 1, 1) := by decide +kernel
theorem dX10_pool_34 : decode cX10_pool 34 = .ok (.if_icmp .ne 7, 3) := by decide +kernel
theorem dX10_pool_37 : decode cX10_pool 37 = .ok (.iconst 1, 1) := by decide +kernel
theorem dX10_pool_38 : decode cX10_pool 38 = .ok (.goto 4, 3) := by decide +kernel
theorem dX10_pool_41 : decode cX10_pool 41 = .ok (.iconst 0, 1) := by decide +kernel
theorem dX10_pool_42 : decode cX10_pool 42 = .ok (.iadd, 1) := by decide +kernel
theorem dX10_pool_43 : decode cX10_pool 43 = .ok (.istore_n 2, 1) := by decide +kernel
theorem dX10_pool_44 : decode cX10_pool 44 = .ok (.iinc 3 1, 3) := by decide +kernel
theorem dX10_pool_47 : decode cX10_pool 47 = .ok (.goto (-28), 3) := by decide +kernel
theorem dX10_pool_50 : decode cX10_pool 50 = .ok (.iload_n 2, 1) := by decide +kernel
theorem dX10_pool_51 : decode cX10_pool 51 = .ok (.ireturn, 1) := by decide +kernel
set_option maxRecDepth 20000 in
theorem ggX10_tips_X10_isItem : GoodIn wsX10_tips wsX10_isItem := goodIn_r _ [8, 9, 10, 11, 7, 12, 23, 24, 25, 26, 27, 28, 29, 30, 31, 32, 33, 34, 35, 36, 37, 38, 39, 40, 41, 42, 43, 44, 45, 46, 47, 48, 49, 50, 51, 52, 53, 54, 55, 56, 57, 58, 59, 60, 61] (by decide +kernel) (by decide +kernel)
set_option maxRecDepth 20000 in
theorem gX10_tips_X10_isItem : GoodIn wsX10_tips (wsV RX10 230 RX10 yX10_isItem wsX10_isItem) := goodIn_app (goodIn_of _ (by decide +kernel)) ggX10_tips_X10_isItem
set_option maxRecDepth 20000 in
theorem ggX10_tips_X10_voters : GoodIn wsX10_tips wsX10_voters := goodIn_r _ [16, 2, 3, 23, 24, 25, 26, 27, 28, 29, 30, 31, 32, 33, 34, 35, 36, 37, 38, 39, 40, 41, 42, 43, 44, 45, 46, 47, 48, 49, 50, 51, 52, 53, 54, 55, 56, 57, 58, 59, 60, 61] (by decide +kernel) (by decide +kernel)
set_option maxRecDepth 20000 in
theorem gX10_tips_X10_voters : GoodIn wsX10_tips (wsV RX10 175 RX10 yX10_voters wsX10_voters) := goodIn_app (goodIn_of _ (by decide +kernel)) ggX10_tips_X10_voters
set_option maxRecDepth 20000 in
theorem ggX10_tips_X10_bits : GoodIn wsX10_tips wsX10_bits := goodIn_r _ [19] (by decide +kernel) (by decide +kernel)
set_option maxRecDepth 20000 in
theorem gX10_tips_X10_bits : GoodIn wsX10_tips (va_wsS RX10 178 yX10_bits wsX10_bits) := goodIn_app (goodIn_of _ (by decide +kernel)) ggX10_tips_X10_bits
set_option maxRecDepth 20000 in
theorem ggX10_tips_X10_standsBy : GoodIn wsX10_tips wsX10_standsBy := goodIn_r _ [22] (by decide +kernel) (by decide +kernel)
set_option maxRecDepth 20000 in
theorem gX10_tips_X10_standsBy : GoodIn wsX10_tips (va_wsS RX10 182 yX10_standsBy wsX10_standsBy) := goodIn_app (goodIn_of _ (by decide +kernel)) ggX10_tips_X10_standsBy
theorem dX10_tips_0 : decode cX10_tips 0 = .ok (.aload_n 0, 1) := by decide +kernel
theorem dX10_tips_1 : decode cX10_tips 1 = .ok (.iload_n 1, 1) := by decide +kernel
theorem dX10_tips_2 : decode cX10_tips 2 = .ok (.invokevirtual 230, 3) := by decide +kernel
theorem dX10_tips_5 : decode cX10_tips 5 = .ok (.ifCond .ne 6, 3) := by decide +kernel
theorem dX10_tips_8 : decode cX10_tips 8 = .ok (.ldc 226, 2) := by decide +kernel
theorem dX10_tips_10 : decode cX10_tips 10 = .ok (.ireturn, 1) := by decide +kernel
theorem dX10_tips_11 : decode cX10_tips 11 = .ok (.aload_n 0, 1) := by decide +kernel
theorem dX10_tips_12 : decode cX10_tips 12 = .ok (.iload_n 1, 1) := by decide +kernel
theorem dX10_tips_13 : decode cX10_tips 13 = .ok (.iconst 1, 1) := by decide +kernel
theorem dX10_tips_14 : decode cX10_tips 14 = .ok (.invokevirtual 175, 3) := by decide +kernel
theorem dX10_tips_17 : decode cX10_tips 17 = .ok (.invokestatic 178, 3) := by decide +kernel
theorem dX10_tips_20 : decode cX10_tips 20 = .ok (.aload_n 0, 1) := by decide +kernel
theorem dX10_tips_21 : decode cX10_tips 21 = .ok (.iload_n 1, 1) := by decide +kernel
theorem dX10_tips_22 : decode cX10_tips 22 = .ok (.iconst 0, 1) := by decide +kernel
theorem dX10_tips_23 : decode cX10_tips 23 = .ok (.invokevirtual 175, 3) := by decide +kernel
theorem dX10_tips_26 : decode cX10_tips 26 = .ok (.invokestatic 178, 3) := by decide +kernel
theorem dX10_tips_29 : decode cX10_tips 29 = .ok (.isub, 1) := by decide +kernel
theorem dX10_tips_30 : decode cX10_tips 30 = .ok (.istore_n 2, 1) := by decide +kernel
theorem dX10_tips_31 : decode cX10_tips 31 = .ok (.iconst 0, 1) := by decide +kernel
theorem dX10_tips_32 : decode cX10_tips 32 = .ok (.istore_n 3, 1) := by decide +kernel
theorem dX10_tips_33 : decode cX10_tips 33 = .ok (.iconst 0, 1) := by decide +kernel
theorem dX10_tips_34 : decode cX10_tips 34 = .ok (.istore 4, 2) := by decide +kernel
theorem dX10_tips_36 : decode cX10_tips 36 = .ok (.iload 4, 2) := by decide +kernel
theorem dX10_tips_38 : decode cX10_tips 38 = .ok (.aload_n 0, 1) := by decide +kernel
theorem dX10_tips_39 : decode cX10_tips 39 = .ok (.getfield 101, 3) := by decide +kernel
theorem dX10_tips_42 : decode cX10_tips 42 = .ok (.if_icmp .ge 107, 3) := by decide +kernel
theorem dX10_tips_45 : decode cX10_tips 45 = .ok (.aload_n 0, 1) := by decide +kernel
theorem dX10_tips_46 : decode cX10_tips 46 = .ok (.getfield 22, 3) := by decide +kernel
theorem dX10_tips_49 : decode cX10_tips 49 = .ok (.iconst 5, 1) := by decide +kernel
theorem dX10_tips_50 : decode cX10_tips 50 = .ok (.iload 4, 2) := by decide +kernel
theorem dX10_tips_52 : decode cX10_tips 52 = .ok (.imul, 1) := by decide +kernel
theorem dX10_tips_53 : decode cX10_tips 53 = .ok (.iload_n 1, 1) := by decide +kernel
theorem dX10_tips_54 : decode cX10_tips 54 = .ok (.iadd, 1) := by decide +kernel
theorem dX10_tips_55 : decode cX10_tips 55 = .ok (.iaload, 1) := by decide +kernel
theorem dX10_tips_56 : decode cX10_tips 56 = .ok (.istore 5, 2) := by decide +kernel
theorem dX10_tips_58 : decode cX10_tips 58 = .ok (.iload_n 2, 1) := by decide +kernel
theorem dX10_tips_59 : decode cX10_tips 59 = .ok (.iload 5, 2) := by decide +kernel
theorem dX10_tips_61 : decode cX10_tips 61 = .ok (.iconst 1, 1) := by decide +kernel
theorem dX10_tips_62 : decode cX10_tips 62 = .ok (.if_icmp .ne 7, 3) := by decide +kernel
theorem dX10_tips_65 : decode cX10_tips 65 = .ok (.iconst 1, 1) := by decide +kernel
theorem dX10_tips_66 : decode cX10_tips 66 = .ok (.goto 13, 3) := by decide +kernel
theorem dX10_tips_69 : decode cX10_tips 69 = .ok (.iload 5, 2) := by decide +kernel
theorem dX10_tips_71 : decode cX10_tips 71 = .ok (.ifCond .ne 7, 3) := by decide +kernel
theorem dX10_tips_74 : decode cX10_tips 74 = .ok (.iconst (-1), 1) := by decide +kernel
theorem dX10_tips_75 : decode cX10_tips 75 = .ok (.goto 4, 3) := by decide +kernel
theorem dX10_tips_78 : decode cX10_tips 78 = .ok (.iconst 0, 1) := by decide +kernel
theorem dX10_tips_79 : decode cX10_tips 79 = .ok (.isub, 1) := by decide +kernel
theorem dX10_tips_80 : decode cX10_tips 80 = .ok (.istore 6, 2) := by decide +kernel
theorem dX10_tips_82 : decode cX10_tips 82 = .ok (.iconst 0, 1) := by decide +kernel
theorem dX10_tips_83 : decode cX10_tips 83 = .ok (.istore 7, 2) := by decide +kernel
theorem dX10_tips_85 : decode cX10_tips 85 = .ok (.iconst (-1), 1) := by decide +kernel
theorem dX10_tips_86 : decode cX10_tips 86 = .ok (.istore 8, 2) := by decide +kernel
theorem dX10_tips_88 : decode cX10_tips 88 = .ok (.iload 8, 2) := by decide +kernel
theorem dX10_tips_90 : decode cX10_tips 90 = .ok (.iconst 2, 1) := by decide +kernel
theorem dX10_tips_91 : decode cX10_tips 91 = .ok (.if_icmp .ge 36, 3) := by decide +kernel
theorem dX10_tips_94 : decode cX10_tips 94 = .ok (.iload 7, 2) := by decide +kernel
theorem dX10_tips_96 : decode cX10_tips 96 = .ok (.ifCond .ne 18, 3) := by decide +kernel
theorem dX10_tips_99 : decode cX10_tips 99 = .ok (.iload 6, 2) := by decide +kernel
theorem dX10_tips_101 : decode cX10_tips 101 = .ok (.iload 8, 2) := by decide +kernel
theorem dX10_tips_103 : decode cX10_tips 103 = .ok (.iadd, 1) := by decide +kernel
theorem dX10_tips_104 : decode cX10_tips 104 = .ok (.invokestatic 182, 3) := by decide +kernel
theorem dX10_tips_107 : decode cX10_tips 107 = .ok (.iload_n 2, 1) := by decide +kernel
theorem dX10_tips_108 : decode cX10_tips 108 = .ok (.invokestatic 182, 3) := by decide +kernel
theorem dX10_tips_111 : decode cX10_tips 111 = .ok (.if_icmp .eq 7, 3) := by decide +kernel
theorem dX10_tips_114 : decode cX10_tips 114 = .ok (.iconst 1, 1) := by decide +kernel
theorem dX10_tips_115 : decode cX10_tips 115 = .ok (.goto 4, 3) := by decide +kernel
theorem dX10_tips_118 : decode cX10_tips 118 = .ok (.iconst 0, 1) := by decide +kernel
theorem dX10_tips_119 : decode cX10_tips 119 = .ok (.istore 7, 2) := by decide +kernel
theorem dX10_tips_121 : decode cX10_tips 121 = .ok (.iinc 8 1, 3) := by decide +kernel
theorem dX10_tips_124 : decode cX10_tips 124 = .ok (.goto (-36), 3) := by decide +kernel
theorem dX10_tips_127 : decode cX10_tips 127 = .ok (.iload_n 3, 1) := by decide +kernel
theorem dX10_tips_128 : decode cX10_tips 128 = .ok (.iload 7, 2) := by decide +kernel
theorem dX10_tips_130 : decode cX10_tips 130 = .ok (.ifCond .eq 10, 3) := by decide +kernel
theorem dX10_tips_133 : decode cX10_tips 133 = .ok (.iconst 1, 1) := by decide +kernel
theorem dX10_tips_134 : decode cX10_tips 134 = .ok (.iload 4, 2) := by decide +kernel
theorem dX10_tips_136 : decode cX10_tips 136 = .ok (.ishl, 1) := by decide +kernel
theorem dX10_tips_137 : decode cX10_tips 137 = .ok (.goto 4, 3) := by decide +kernel
theorem dX10_tips_140 : decode cX10_tips 140 = .ok (.iconst 0, 1) := by decide +kernel
theorem dX10_tips_141 : decode cX10_tips 141 = .ok (.ior, 1) := by decide +kernel
theorem dX10_tips_142 : decode cX10_tips 142 = .ok (.istore_n 3, 1) := by decide +kernel
theorem dX10_tips_143 : decode cX10_tips 143 = .ok (.iinc 4 1, 3) := by decide +kernel
theorem dX10_tips_146 : decode cX10_tips 146 = .ok (.goto (-110), 3) := by decide +kernel
theorem dX10_tips_149 : decode cX10_tips 149 = .ok (.iload_n 3, 1) := by decide +kernel
theorem dX10_tips_150 : decode cX10_tips 150 = .ok (.ireturn, 1) := by decide +kernel
theorem dX10_both_0 : decode cX10_both 0 = .ok (.iload_n 0, 1) := by decide +kernel
theorem dX10_both_1 : decode cX10_both 1 = .ok (.iload_n 1, 1) := by decide +kernel
theorem dX10_both_2 : decode cX10_both 2 = .ok (.if_icmp .ge 7, 3) := by decide +kernel
theorem dX10_both_5 : decode cX10_both 5 = .ok (.iload_n 0, 1) := by decide +kernel
theorem dX10_both_6 : decode cX10_both 6 = .ok (.goto 4, 3) := by decide +kernel
theorem dX10_both_9 : decode cX10_both 9 = .ok (.iload_n 1, 1) := by decide +kernel
theorem dX10_both_10 : decode cX10_both 10 = .ok (.ireturn, 1) := by decide +kernel
set_option maxRecDepth 20000 in
theorem ggX10_findCosts_X10_voters : GoodIn wsX10_findCosts wsX10_voters := goodIn_r _ [8, 3, 9, 19, 20, 21, 22, 23, 24, 25, 26, 27, 28, 29, 30, 31, 32, 33, 34, 35, 36, 37, 38, 39, 40, 41, 42, 43, 44, 45, 46, 47, 48, 49, 50, 51, 52, 53, 54, 55, 56, 57] (by decide +kernel) (by decide +kernel)
set_option maxRecDepth 20000 in
theorem gX10_findCosts_X10_voters : GoodIn wsX10_findCosts (wsV RX10 175 RX10 yX10_voters wsX10_voters) := goodIn_app (goodIn_of _ (by decide +kernel)) ggX10_findCosts_X10_voters
set_option maxRecDepth 20000 in
theorem ggX10_findCosts_X10_bits : GoodIn wsX10_findCosts wsX10_bits := goodIn_r _ [12] (by decide +kernel) (by decide +kernel)
set_option maxRecDepth 20000 in
theorem gX10_findCosts_X10_bits : GoodIn wsX10_findCosts (va_wsS RX10 178 yX10_bits wsX10_bits) := goodIn_app (goodIn_of _ (by decide +kernel)) ggX10_findCosts_X10_bits
set_option maxRecDepth 20000 in
theorem ggX10_findCosts_X10_both : GoodIn wsX10_findCosts wsX10_both := goodIn_r _ [15] (by decide +kernel) (by decide +kernel)
set_option maxRecDepth 20000 in
theorem gX10_findCosts_X10_both : GoodIn wsX10_findCosts (va_wsS RX10 266 yX10_both wsX10_both) := goodIn_app (goodIn_of _ (by decide +kernel)) ggX10_findCosts_X10_both
set_option maxRecDepth 20000 in
theorem ggX10_findCosts_X10_standsBy : GoodIn wsX10_findCosts wsX10_standsBy := goodIn_r _ [18] (by decide +kernel) (by decide +kernel)
set_option maxRecDepth 20000 in
theorem gX10_findCosts_X10_standsBy : GoodIn wsX10_findCosts (va_wsS RX10 182 yX10_standsBy wsX10_standsBy) := goodIn_app (goodIn_of _ (by decide +kernel)) ggX10_findCosts_X10_standsBy
theorem dX10_findCosts_0 : decode cX10_findCosts 0 = .ok (.iconst 0, 1) := by decide +kernel
theorem dX10_findCosts_1 : decode cX10_findCosts 1 = .ok (.istore_n 1, 1) := by decide +kernel
theorem dX10_findCosts_2 : decode cX10_findCosts 2 = .ok (.iload_n 1, 1) := by decide +kernel
theorem dX10_findCosts_3 : decode cX10_findCosts 3 = .ok (.bipush 15, 2) := by decide +kernel
theorem dX10_findCosts_5 : decode cX10_findCosts 5 = .ok (.if_icmp .ge 18, 3) := by decide +kernel
theorem dX10_findCosts_8 : decode cX10_findCosts 8 = .ok (.aload_n 0, 1) := by decide +kernel
theorem dX10_findCosts_9 : decode cX10_findCosts 9 = .ok (.getfield 59, 3) := by decide +kernel
theorem dX10_findCosts_12 : decode cX10_findCosts 12 = .ok (.iload_n 1, 1) := by decide +kernel
theorem dX10_findCosts_13 : decode cX10_findCosts 13 = .ok (.sipush 1000, 3) := by decide +kernel
theorem dX10_findCosts_16 : decode cX10_findCosts 16 = .ok (.iastore, 1) := by decide +kernel
theorem dX10_findCosts_17 : decode cX10_findCosts 17 = .ok (.iinc 1 1, 3) := by decide +kernel
theorem dX10_findCosts_20 : decode cX10_findCosts 20 = .ok (.goto (-18), 3) := by decide +kernel
theorem dX10_findCosts_23 : decode cX10_findCosts 23 = .ok (.iconst 0, 1) := by decide +kernel
theorem dX10_findCosts_24 : decode cX10_findCosts 24 = .ok (.istore_n 1, 1) := by decide +kernel
theorem dX10_findCosts_25 : decode cX10_findCosts 25 = .ok (.iload_n 1, 1) := by decide +kernel
theorem dX10_findCosts_26 : decode cX10_findCosts 26 = .ok (.aload_n 0, 1) := by decide +kernel
theorem dX10_findCosts_27 : decode cX10_findCosts 27 = .ok (.getfield 98, 3) := by decide +kernel
theorem dX10_findCosts_30 : decode cX10_findCosts 30 = .ok (.if_icmp .ge 150, 3) := by decide +kernel
theorem dX10_findCosts_33 : decode cX10_findCosts 33 = .ok (.aload_n 0, 1) := by decide +kernel
theorem dX10_findCosts_34 : decode cX10_findCosts 34 = .ok (.iload_n 1, 1) := by decide +kernel
theorem dX10_findCosts_35 : decode cX10_findCosts 35 = .ok (.iconst 1, 1) := by decide +kernel
theorem dX10_findCosts_36 : decode cX10_findCosts 36 = .ok (.invokevirtual 175, 3) := by decide +kernel
theorem dX10_findCosts_39 : decode cX10_findCosts 39 = .ok (.invokestatic 178, 3) := by decide +kernel
theorem dX10_findCosts_42 : decode cX10_findCosts 42 = .ok (.istore_n 2, 1) := by decide +kernel
theorem dX10_findCosts_43 : decode cX10_findCosts 43 = .ok (.aload_n 0, 1) := by decide +kernel
theorem dX10_findCosts_44 : decode cX10_findCosts 44 = .ok (.iload_n 1, 1) := by decide +kernel
theorem dX10_findCosts_45 : decode cX10_findCosts 45 = .ok (.iconst 0, 1) := by decide +kernel
theorem dX10_findCosts_46 : decode cX10_findCosts 46 = .ok (.invokevirtual 175, 3) := by decide +kernel
theorem dX10_findCosts_49 : decode cX10_findCosts 49 = .ok (.invokestatic 178, 3) := by decide +kernel
theorem dX10_findCosts_52 : decode cX10_findCosts 52 = .ok (.istore_n 3, 1) := by decide +kernel
theorem dX10_findCosts_53 : decode cX10_findCosts 53 = .ok (.aload_n 0, 1) := by decide +kernel
theorem dX10_findCosts_54 : decode cX10_findCosts 54 = .ok (.getfield 101, 3) := by decide +kernel
theorem dX10_findCosts_57 : decode cX10_findCosts 57 = .ok (.iload_n 2, 1) := by decide +kernel
theorem dX10_findCosts_58 : decode cX10_findCosts 58 = .ok (.isub, 1) := by decide +kernel
theorem dX10_findCosts_59 : decode cX10_findCosts 59 = .ok (.iload_n 3, 1) := by decide +kernel
theorem dX10_findCosts_60 : decode cX10_findCosts 60 = .ok (.isub, 1) := by decide +kernel
theorem dX10_findCosts_61 : decode cX10_findCosts 61 = .ok (.istore 4, 2) := by decide +kernel
theorem dX10_findCosts_63 : decode cX10_findCosts 63 = .ok (.iconst 0, 1) := by decide +kernel
theorem dX10_findCosts_64 : decode cX10_findCosts 64 = .ok (.istore 5, 2) := by decide +kernel
theorem dX10_findCosts_66 : decode cX10_findCosts 66 = .ok (.iload 5, 2) := by decide +kernel
theorem dX10_findCosts_68 : decode cX10_findCosts 68 = .ok (.bipush 64, 2) := by decide +kernel
theorem dX10_findCosts_70 : decode cX10_findCosts 70 = .ok (.if_icmp .ge 104, 3) := by decide +kernel
theorem dX10_findCosts_73 : decode cX10_findCosts 73 = .ok (.iload 5, 2) := by decide +kernel
theorem dX10_findCosts_75 : decode cX10_findCosts 75 = .ok (.bipush 8, 2) := by decide +kernel
theorem dX10_findCosts_77 : decode cX10_findCosts 77 = .ok (.idiv, 1) := by decide +kernel
theorem dX10_findCosts_78 : decode cX10_findCosts 78 = .ok (.istore 6, 2) := by decide +kernel
theorem dX10_findCosts_80 : decode cX10_findCosts 80 = .ok (.iload 5, 2) := by decide +kernel
theorem dX10_findCosts_82 : decode cX10_findCosts 82 = .ok (.bipush 8, 2) := by decide +kernel
theorem dX10_findCosts_84 : decode cX10_findCosts 84 = .ok (.irem, 1) := by decide +kernel
theorem dX10_findCosts_85 : decode cX10_findCosts 85 = .ok (.istore 7, 2) := by decide +kernel
theorem dX10_findCosts_87 : decode cX10_findCosts 87 = .ok (.iload 6, 2) := by decide +kernel
theorem dX10_findCosts_89 : decode cX10_findCosts 89 = .ok (.iload 7, 2) := by decide +kernel
theorem dX10_findCosts_91 : decode cX10_findCosts 91 = .ok (.iadd, 1) := by decide +kernel
theorem dX10_findCosts_92 : decode cX10_findCosts 92 = .ok (.aload_n 0, 1) := by decide +kernel
theorem dX10_findCosts_93 : decode cX10_findCosts 93 = .ok (.getfield 101, 3) := by decide +kernel
theorem dX10_findCosts_96 : decode cX10_findCosts 96 = .ok (.if_icmp .gt 72, 3) := by decide +kernel
theorem dX10_findCosts_99 : decode cX10_findCosts 99 = .ok (.iload 6, 2) := by decide +kernel
theorem dX10_findCosts_101 : decode cX10_findCosts 101 = .ok (.iload_n 2, 1) := by decide +kernel
theorem dX10_findCosts_102 : decode cX10_findCosts 102 = .ok (.invokestatic 266, 3) := by decide +kernel
theorem dX10_findCosts_105 : decode cX10_findCosts 105 = .ok (.iload 7, 2) := by decide +kernel
theorem dX10_findCosts_107 : decode cX10_findCosts 107 = .ok (.iload_n 3, 1) := by decide +kernel
theorem dX10_findCosts_108 : decode cX10_findCosts 108 = .ok (.invokestatic 266, 3) := by decide +kernel
theorem dX10_findCosts_111 : decode cX10_findCosts 111 = .ok (.iadd, 1) := by decide +kernel
theorem dX10_findCosts_112 : decode cX10_findCosts 112 = .ok (.aload_n 0, 1) := by decide +kernel
theorem dX10_findCosts_113 : decode cX10_findCosts 113 = .ok (.getfield 101, 3) := by decide +kernel
theorem dX10_findCosts_116 : decode cX10_findCosts 116 = .ok (.iload 6, 2) := by decide +kernel
theorem dX10_findCosts_118 : decode cX10_findCosts 118 = .ok (.isub, 1) := by decide +kernel
theorem dX10_findCosts_119 : decode cX10_findCosts 119 = .ok (.iload 7, 2) := by decide +kernel
theorem dX10_findCosts_121 : decode cX10_findCosts 121 = .ok (.isub, 1) := by decide +kernel
theorem dX10_findCosts_122 : decode cX10_findCosts 122 = .ok (.iload 4, 2) := by decide +kernel
theorem dX10_findCosts_124 : decode cX10_findCosts 124 = .ok (.invokestatic 266, 3) := by decide +kernel
theorem dX10_findCosts_127 : decode cX10_findCosts 127 = .ok (.iadd, 1) := by decide +kernel
theorem dX10_findCosts_128 : decode cX10_findCosts 128 = .ok (.istore 8, 2) := by decide +kernel
theorem dX10_findCosts_130 : decode cX10_findCosts 130 = .ok (.iconst 3, 1) := by decide +kernel
theorem dX10_findCosts_131 : decode cX10_findCosts 131 = .ok (.iload_n 1, 1) := by decide +kernel
theorem dX10_findCosts_132 : decode cX10_findCosts 132 = .ok (.imul, 1) := by decide +kernel
theorem dX10_findCosts_133 : decode cX10_findCosts 133 = .ok (.iload 6, 2) := by decide +kernel
theorem dX10_findCosts_135 : decode cX10_findCosts 135 = .ok (.iload 7, 2) := by decide +kernel
theorem dX10_findCosts_137 : decode cX10_findCosts 137 = .ok (.isub, 1) := by decide +kernel
theorem dX10_findCosts_138 : decode cX10_findCosts 138 = .ok (.invokestatic 182, 3) := by decide +kernel
theorem dX10_findCosts_141 : decode cX10_findCosts 141 = .ok (.iadd, 1) := by decide +kernel
theorem dX10_findCosts_142 : decode cX10_findCosts 142 = .ok (.istore 9, 2) := by decide +kernel
theorem dX10_findCosts_144 : decode cX10_findCosts 144 = .ok (.aload_n 0, 1) := by decide +kernel
theorem dX10_findCosts_145 : decode cX10_findCosts 145 = .ok (.getfield 59, 3) := by decide +kernel
theorem dX10_findCosts_148 : decode cX10_findCosts 148 = .ok (.iload 9, 2) := by decide +kernel
theorem dX10_findCosts_150 : decode cX10_findCosts 150 = .ok (.aload_n 0, 1) := by decide +kernel
theorem dX10_findCosts_151 : decode cX10_findCosts 151 = .ok (.getfield 59, 3) := by decide +kernel
theorem dX10_findCosts_154 : decode cX10_findCosts 154 = .ok (.iload 9, 2) := by decide +kernel
theorem dX10_findCosts_156 : decode cX10_findCosts 156 = .ok (.iaload, 1) := by decide +kernel
theorem dX10_findCosts_157 : decode cX10_findCosts 157 = .ok (.aload_n 0, 1) := by decide +kernel
theorem dX10_findCosts_158 : decode cX10_findCosts 158 = .ok (.getfield 101, 3) := by decide +kernel
theorem dX10_findCosts_161 : decode cX10_findCosts 161 = .ok (.iload 8, 2) := by decide +kernel
theorem dX10_findCosts_163 : decode cX10_findCosts 163 = .ok (.isub, 1) := by decide +kernel
theorem dX10_findCosts_164 : decode cX10_findCosts 164 = .ok (.invokestatic 266, 3) := by decide +kernel
theorem dX10_findCosts_167 : decode cX10_findCosts 167 = .ok (.iastore, 1) := by decide +kernel
theorem dX10_findCosts_168 : decode cX10_findCosts 168 = .ok (.iinc 5 1, 3) := by decide +kernel
theorem dX10_findCosts_171 : decode cX10_findCosts 171 = .ok (.goto (-105), 3) := by decide +kernel
theorem dX10_findCosts_174 : decode cX10_findCosts 174 = .ok (.iinc 1 1, 3) := by decide +kernel
theorem dX10_findCosts_177 : decode cX10_findCosts 177 = .ok (.goto (-152), 3) := by decide +kernel
theorem dX10_findCosts_180 : decode cX10_findCosts 180 = .ok (.return_, 1) := by decide +kernel
theorem dX10_costOf_0 : decode cX10_costOf 0 = .ok (.iconst 0, 1) := by decide +kernel
theorem dX10_costOf_1 : decode cX10_costOf 1 = .ok (.istore_n 1, 1) := by decide +kernel
theorem dX10_costOf_2 : decode cX10_costOf 2 = .ok (.iconst 0, 1) := by decide +kernel
theorem dX10_costOf_3 : decode cX10_costOf 3 = .ok (.istore_n 2, 1) := by decide +kernel
theorem dX10_costOf_4 : decode cX10_costOf 4 = .ok (.iload_n 2, 1) := by decide +kernel
theorem dX10_costOf_5 : decode cX10_costOf 5 = .ok (.aload_n 0, 1) := by decide +kernel
theorem dX10_costOf_6 : decode cX10_costOf 6 = .ok (.getfield 98, 3) := by decide +kernel
theorem dX10_costOf_9 : decode cX10_costOf 9 = .ok (.if_icmp .ge 27, 3) := by decide +kernel
theorem dX10_costOf_12 : decode cX10_costOf 12 = .ok (.iload_n 1, 1) := by decide +kernel
theorem dX10_costOf_13 : decode cX10_costOf 13 = .ok (.aload_n 0, 1) := by decide +kernel
theorem dX10_costOf_14 : decode cX10_costOf 14 = .ok (.getfield 59, 3) := by decide +kernel
theorem dX10_costOf_17 : decode cX10_costOf 17 = .ok (.iconst 3, 1) := by decide +kernel
theorem dX10_costOf_18 : decode cX10_costOf 18 = .ok (.iload_n 2, 1) := by decide +kernel
theorem dX10_costOf_19 : decode cX10_costOf 19 = .ok (.imul, 1) := by decide +kernel
theorem dX10_costOf_20 : decode cX10_costOf 20 = .ok (.aload_n 0, 1) := by decide +kernel
theorem dX10_costOf_21 : decode cX10_costOf 21 = .ok (.getfield 50, 3) := by decide +kernel
theorem dX10_costOf_24 : decode cX10_costOf 24 = .ok (.iload_n 2, 1) := by decide +kernel
theorem dX10_costOf_25 : decode cX10_costOf 25 = .ok (.iaload, 1) := by decide +kernel
theorem dX10_costOf_26 : decode cX10_costOf 26 = .ok (.iadd, 1) := by decide +kernel
theorem dX10_costOf_27 : decode cX10_costOf 27 = .ok (.iaload, 1) := by decide +kernel
theorem dX10_costOf_28 : decode cX10_costOf 28 = .ok (.iadd, 1) := by decide +kernel
theorem dX10_costOf_29 : decode cX10_costOf 29 = .ok (.istore_n 1, 1) := by decide +kernel
theorem dX10_costOf_30 : decode cX10_costOf 30 = .ok (.iinc 2 1, 3) := by decide +kernel
theorem dX10_costOf_33 : decode cX10_costOf 33 = .ok (.goto (-29), 3) := by decide +kernel
theorem dX10_costOf_36 : decode cX10_costOf 36 = .ok (.iload_n 1, 1) := by decide +kernel
theorem dX10_costOf_37 : decode cX10_costOf 37 = .ok (.ireturn, 1) := by decide +kernel
set_option maxRecDepth 20000 in
theorem ggX10_fewest_X10_isCell : GoodIn wsX10_fewest wsX10_isCell := goodIn_r _ [7, 8, 9, 10, 6, 11, 12, 13, 14, 15, 16, 84, 85, 86, 87, 88, 89, 90, 91, 92, 93, 94, 95, 96, 97, 98, 99, 100, 101, 102, 103, 104, 105, 106, 107, 108, 109, 110, 111, 112, 113, 114, 115, 116, 117, 118, 119, 120, 121, 122] (by decide +kernel) (by decide +kernel)
set_option maxRecDepth 20000 in
theorem gX10_fewest_X10_isCell : GoodIn wsX10_fewest (wsV RX10 222 RX10 yX10_isCell wsX10_isCell) := goodIn_app (goodIn_of _ (by decide +kernel)) ggX10_fewest_X10_isCell
set_option maxRecDepth 20000 in
theorem ggX10_fewest_X10_in : GoodIn wsX10_fewest wsX10_in := goodIn_r _ [16] (by decide +kernel) (by decide +kernel)
set_option maxRecDepth 20000 in
theorem gX10_fewest_X10_in : GoodIn wsX10_fewest (va_wsS RX10 94 yX10_in wsX10_in) := goodIn_app (goodIn_of _ (by decide +kernel)) ggX10_fewest_X10_in
set_option maxRecDepth 20000 in
theorem ggX10_fewest_X10_findCosts : GoodIn wsX10_fewest wsX10_findCosts := goodIn_r _ [20, 21, 22, 23, 24, 25, 26, 6, 27, 28, 29, 30, 31, 32, 33, 34, 35, 36, 37, 84, 85, 86, 87, 88, 89, 90, 91, 92, 93, 94, 95, 96, 97, 98, 99, 100, 101, 102, 103, 104, 105, 106, 107, 108, 109, 110, 111, 112, 113, 114, 115, 116, 117, 118, 119, 120, 121, 122] (by decide +kernel) (by decide +kernel)
set_option maxRecDepth 20000 in
theorem gX10_fewest_X10_findCosts : GoodIn wsX10_fewest (wsV RX10 269 RX10 yX10_findCosts wsX10_findCosts) := goodIn_app (goodIn_of _ (by decide +kernel)) ggX10_fewest_X10_findCosts
set_option maxRecDepth 20000 in
theorem ggX10_fewest_X10_waysToStand : GoodIn wsX10_fewest wsX10_waysToStand := goodIn_r _ [41, 22, 84, 85, 86, 87, 88, 89, 90, 91, 92, 93, 94, 95, 96, 97, 98, 99, 100, 101, 102, 103, 104, 105, 106, 107, 108, 109, 110, 111, 112, 113, 114, 115, 116, 117, 118, 119, 120, 121, 122] (by decide +kernel) (by decide +kernel)
set_option maxRecDepth 20000 in
theorem gX10_fewest_X10_waysToStand : GoodIn wsX10_fewest (wsV RX10 272 RX10 yX10_waysToStand wsX10_waysToStand) := goodIn_app (goodIn_of _ (by decide +kernel)) ggX10_fewest_X10_waysToStand
set_option maxRecDepth 20000 in
theorem ggX10_fewest_X10_standBy : GoodIn wsX10_fewest wsX10_standBy := goodIn_r _ [45, 22, 46, 84, 85, 86, 87, 88, 89, 90, 91, 92, 93, 94, 95, 96, 97, 98, 99, 100, 101, 102, 103, 104, 105, 106, 107, 108, 109, 110, 111, 112, 113, 114, 115, 116, 117, 118, 119, 120, 121, 122] (by decide +kernel) (by decide +kernel)
set_option maxRecDepth 20000 in
theorem gX10_fewest_X10_standBy : GoodIn wsX10_fewest (wsV RX10 275 RX10 yX10_standBy wsX10_standBy) := goodIn_app (goodIn_of _ (by decide +kernel)) ggX10_fewest_X10_standBy
set_option maxRecDepth 20000 in
theorem ggX10_fewest_X10_costOf : GoodIn wsX10_fewest wsX10_costOf := goodIn_r _ [50, 22, 21, 46, 84, 85, 86, 87, 88, 89, 90, 91, 92, 93, 94, 95, 96, 97, 98, 99, 100, 101, 102, 103, 104, 105, 106, 107, 108, 109, 110, 111, 112, 113, 114, 115, 116, 117, 118, 119, 120, 121, 122] (by decide +kernel) (by decide +kernel)
set_option maxRecDepth 20000 in
theorem gX10_fewest_X10_costOf : GoodIn wsX10_fewest (wsV RX10 278 RX10 yX10_costOf wsX10_costOf) := goodIn_app (goodIn_of _ (by decide +kernel)) ggX10_fewest_X10_costOf
set_option maxRecDepth 20000 in
theorem ggX10_fewest_X10_findHeights : GoodIn wsX10_fewest wsX10_findHeights := goodIn_r _ [54, 55, 8, 9, 10, 6, 11, 12, 13, 56, 57, 58, 59, 60, 46, 61, 62, 63, 64, 65, 66, 22, 67, 68, 69, 70, 71, 14, 15, 16, 84, 85, 86, 87, 88, 89, 90, 91, 92, 93, 94, 95, 96, 97, 98, 99, 100, 101, 102, 103, 104, 105, 106, 107, 108, 109, 110, 111, 112, 113, 114, 115, 116, 117, 118, 119, 120, 121, 122] (by decide +kernel) (by decide +kernel)
set_option maxRecDepth 20000 in
theorem gX10_fewest_X10_findHeights : GoodIn wsX10_fewest (wsV RX10 207 RX10 yX10_findHeights wsX10_findHeights) := goodIn_app (goodIn_of _ (by decide +kernel)) ggX10_fewest_X10_findHeights
set_option maxRecDepth 20000 in
theorem ggX10_fewest_X10_restOf : GoodIn wsX10_fewest wsX10_restOf := goodIn_r _ [75, 76, 77, 78, 6, 79, 55, 8, 9, 10, 11, 12, 13, 80, 81, 82, 83, 84, 85, 86, 87, 88, 89, 90, 91, 92, 93, 94, 95, 96, 97, 98, 99, 100, 101, 102, 103, 104, 105, 106, 107, 108, 109, 110, 111, 112, 113, 114, 115, 116, 117, 118, 119, 120, 121, 122] (by decide +kernel) (by decide +kernel)
set_option maxRecDepth 20000 in
theorem gX10_fewest_X10_restOf : GoodIn wsX10_fewest (wsV RX10 213 RX10 yX10_restOf wsX10_restOf) := goodIn_app (goodIn_of _ (by decide +kernel)) ggX10_fewest_X10_restOf
theorem dX10_fewest_0 : decode cX10_fewest 0 = .ok (.aload_n 0, 1) := by decide +kernel
theorem dX10_fewest_1 : decode cX10_fewest 1 = .ok (.iload_n 1, 1) := by decide +kernel
theorem dX10_fewest_2 : decode cX10_fewest 2 = .ok (.invokevirtual 222, 3) := by decide +kernel
theorem dX10_fewest_5 : decode cX10_fewest 5 = .ok (.ifCond .eq 11, 3) := by decide +kernel
theorem dX10_fewest_8 : decode cX10_fewest 8 = .ok (.aload_n 0, 1) := by decide +kernel
theorem dX10_fewest_9 : decode cX10_fewest 9 = .ok (.iload_n 2, 1) := by decide +kernel
theorem dX10_fewest_10 : decode cX10_fewest 10 = .ok (.invokevirtual 222, 3) := by decide +kernel
theorem dX10_fewest_13 : decode cX10_fewest 13 = .ok (.ifCond .ne 6, 3) := by decide +kernel
theorem dX10_fewest_16 : decode cX10_fewest 16 = .ok (.ldc 226, 2) := by decide +kernel
theorem dX10_fewest_18 : decode cX10_fewest 18 = .ok (.ireturn, 1) := by decide +kernel
theorem dX10_fewest_19 : decode cX10_fewest 19 = .ok (.iload_n 3, 1) := by decide +kernel
theorem dX10_fewest_20 : decode cX10_fewest 20 = .ok (.i2l, 1) := by decide +kernel
theorem dX10_fewest_21 : decode cX10_fewest 21 = .ok (.lconst 0, 1) := by decide +kernel
theorem dX10_fewest_22 : decode cX10_fewest 22 = .ok (.lconst 1, 1) := by decide +kernel
theorem dX10_fewest_23 : decode cX10_fewest 23 = .ok (.invokestatic 94, 3) := by decide +kernel
theorem dX10_fewest_26 : decode cX10_fewest 26 = .ok (.ifCond .ne 6, 3) := by decide +kernel
theorem dX10_fewest_29 : decode cX10_fewest 29 = .ok (.ldc 106, 2) := by decide +kernel
theorem dX10_fewest_31 : decode cX10_fewest 31 = .ok (.ireturn, 1) := by decide +kernel
theorem dX10_fewest_32 : decode cX10_fewest 32 = .ok (.aload_n 0, 1) := by decide +kernel
theorem dX10_fewest_33 : decode cX10_fewest 33 = .ok (.invokevirtual 269, 3) := by decide +kernel
theorem dX10_fewest_36 : decode cX10_fewest 36 = .ok (.iconst (-1), 1) := by decide +kernel
theorem dX10_fewest_37 : decode cX10_fewest 37 = .ok (.istore 4, 2) := by decide +kernel
theorem dX10_fewest_39 : decode cX10_fewest 39 = .ok (.sipush 1000, 3) := by decide +kernel
theorem dX10_fewest_42 : decode cX10_fewest 42 = .ok (.istore 5, 2) := by decide +kernel
theorem dX10_fewest_44 : decode cX10_fewest 44 = .ok (.iconst 0, 1) := by decide +kernel
theorem dX10_fewest_45 : decode cX10_fewest 45 = .ok (.istore 6, 2) := by decide +kernel
theorem dX10_fewest_47 : decode cX10_fewest 47 = .ok (.iload 6, 2) := by decide +kernel
theorem dX10_fewest_49 : decode cX10_fewest 49 = .ok (.aload_n 0, 1) := by decide +kernel
theorem dX10_fewest_50 : decode cX10_fewest 50 = .ok (.invokevirtual 272, 3) := by decide +kernel
theorem dX10_fewest_53 : decode cX10_fewest 53 = .ok (.if_icmp .ge 78, 3) := by decide +kernel
theorem dX10_fewest_56 : decode cX10_fewest 56 = .ok (.aload_n 0, 1) := by decide +kernel
theorem dX10_fewest_57 : decode cX10_fewest 57 = .ok (.iload 6, 2) := by decide +kernel
theorem dX10_fewest_59 : decode cX10_fewest 59 = .ok (.invokevirtual 275, 3) := by decide +kernel
theorem dX10_fewest_62 : decode cX10_fewest 62 = .ok (.istore 7, 2) := by decide +kernel
theorem dX10_fewest_64 : decode cX10_fewest 64 = .ok (.aload_n 0, 1) := by decide +kernel
theorem dX10_fewest_65 : decode cX10_fewest 65 = .ok (.invokevirtual 278, 3) := by decide +kernel
theorem dX10_fewest_68 : decode cX10_fewest 68 = .ok (.istore 8, 2) := by decide +kernel
theorem dX10_fewest_70 : decode cX10_fewest 70 = .ok (.iload 8, 2) := by decide +kernel
theorem dX10_fewest_72 : decode cX10_fewest 72 = .ok (.iload 5, 2) := by decide +kernel
theorem dX10_fewest_74 : decode cX10_fewest 74 = .ok (.if_icmp .ge 51, 3) := by decide +kernel
theorem dX10_fewest_77 : decode cX10_fewest 77 = .ok (.aload_n 0, 1) := by decide +kernel
theorem dX10_fewest_78 : decode cX10_fewest 78 = .ok (.invokevirtual 207, 3) := by decide +kernel
theorem dX10_fewest_81 : decode cX10_fewest 81 = .ok (.aload_n 0, 1) := by decide +kernel
theorem dX10_fewest_82 : decode cX10_fewest 82 = .ok (.iload_n 1, 1) := by decide +kernel
theorem dX10_fewest_83 : decode cX10_fewest 83 = .ok (.invokevirtual 213, 3) := by decide +kernel
theorem dX10_fewest_86 : decode cX10_fewest 86 = .ok (.iload_n 2, 1) := by decide +kernel
theorem dX10_fewest_87 : decode cX10_fewest 87 = .ok (.if_icmp .ne 7, 3) := by decide +kernel
theorem dX10_fewest_90 : decode cX10_fewest 90 = .ok (.iconst 1, 1) := by decide +kernel
theorem dX10_fewest_91 : decode cX10_fewest 91 = .ok (.goto 4, 3) := by decide +kernel
theorem dX10_fewest_94 : decode cX10_fewest 94 = .ok (.iconst 0, 1) := by decide +kernel
theorem dX10_fewest_95 : decode cX10_fewest 95 = .ok (.istore 9, 2) := by decide +kernel
theorem dX10_fewest_97 : decode cX10_fewest 97 = .ok (.iload 9, 2) := by decide +kernel
theorem dX10_fewest_99 : decode cX10_fewest 99 = .ok (.ifCond .eq 8, 3) := by decide +kernel
theorem dX10_fewest_102 : decode cX10_fewest 102 = .ok (.iload 7, 2) := by decide +kernel
theorem dX10_fewest_104 : decode cX10_fewest 104 = .ok (.goto 5, 3) := by decide +kernel
theorem dX10_fewest_107 : decode cX10_fewest 107 = .ok (.iload 4, 2) := by decide +kernel
theorem dX10_fewest_109 : decode cX10_fewest 109 = .ok (.istore 4, 2) := by decide +kernel
theorem dX10_fewest_111 : decode cX10_fewest 111 = .ok (.iload 9, 2) := by decide +kernel
theorem dX10_fewest_113 : decode cX10_fewest 113 = .ok (.ifCond .eq 8, 3) := by decide +kernel
theorem dX10_fewest_116 : decode cX10_fewest 116 = .ok (.iload 8, 2) := by decide +kernel
theorem dX10_fewest_118 : decode cX10_fewest 118 = .ok (.goto 5, 3) := by decide +kernel
theorem dX10_fewest_121 : decode cX10_fewest 121 = .ok (.iload 5, 2) := by decide +kernel
theorem dX10_fewest_123 : decode cX10_fewest 123 = .ok (.istore 5, 2) := by decide +kernel
theorem dX10_fewest_125 : decode cX10_fewest 125 = .ok (.iinc 6 1, 3) := by decide +kernel
theorem dX10_fewest_128 : decode cX10_fewest 128 = .ok (.goto (-81), 3) := by decide +kernel
theorem dX10_fewest_131 : decode cX10_fewest 131 = .ok (.iload 4, 2) := by decide +kernel
theorem dX10_fewest_133 : decode cX10_fewest 133 = .ok (.ifCond .lt 8, 3) := by decide +kernel
theorem dX10_fewest_136 : decode cX10_fewest 136 = .ok (.iload_n 3, 1) := by decide +kernel
theorem dX10_fewest_137 : decode cX10_fewest 137 = .ok (.iconst 1, 1) := by decide +kernel
theorem dX10_fewest_138 : decode cX10_fewest 138 = .ok (.if_icmp .ne 8, 3) := by decide +kernel
theorem dX10_fewest_141 : decode cX10_fewest 141 = .ok (.iload 4, 2) := by decide +kernel
theorem dX10_fewest_143 : decode cX10_fewest 143 = .ok (.goto 5, 3) := by decide +kernel
theorem dX10_fewest_146 : decode cX10_fewest 146 = .ok (.iload 5, 2) := by decide +kernel
theorem dX10_fewest_148 : decode cX10_fewest 148 = .ok (.ireturn, 1) := by decide +kernel
set_option maxRecDepth 20000 in
theorem ggX10_carries_X10_voters : GoodIn wsX10_carries wsX10_voters := goodIn_r _ [6, 7, 8, 12, 13, 14, 15, 16, 17, 18, 19, 20, 21, 22, 23, 24, 25, 26, 27, 28, 29, 30, 31, 32, 33, 34, 35, 36, 37, 38, 39, 40, 41, 42, 43, 44, 45, 46, 47, 48, 49, 50] (by decide +kernel) (by decide +kernel)
set_option maxRecDepth 20000 in
theorem gX10_carries_X10_voters : GoodIn wsX10_carries (wsV RX10 175 RX10 yX10_voters wsX10_voters) := goodIn_app (goodIn_of _ (by decide +kernel)) ggX10_carries_X10_voters
set_option maxRecDepth 20000 in
theorem ggX10_carries_X10_bits : GoodIn wsX10_carries wsX10_bits := goodIn_r _ [11] (by decide +kernel) (by decide +kernel)
set_option maxRecDepth 20000 in
theorem gX10_carries_X10_bits : GoodIn wsX10_carries (va_wsS RX10 178 yX10_bits wsX10_bits) := goodIn_app (goodIn_of _ (by decide +kernel)) ggX10_carries_X10_bits
theorem dX10_carries_0 : decode cX10_carries 0 = .ok (.iconst 1, 1) := by decide +kernel
theorem dX10_carries_1 : decode cX10_carries 1 = .ok (.istore_n 2, 1) := by decide +kernel
theorem dX10_carries_2 : decode cX10_carries 2 = .ok (.iconst 0, 1) := by decide +kernel
theorem dX10_carries_3 : decode cX10_carries 3 = .ok (.istore_n 3, 1) := by decide +kernel
theorem dX10_carries_4 : decode cX10_carries 4 = .ok (.iload_n 3, 1) := by decide +kernel
theorem dX10_carries_5 : decode cX10_carries 5 = .ok (.aload_n 0, 1) := by decide +kernel
theorem dX10_carries_6 : decode cX10_carries 6 = .ok (.getfield 98, 3) := by decide +kernel
theorem dX10_carries_9 : decode cX10_carries 9 = .ok (.if_icmp .ge 56, 3) := by decide +kernel
theorem dX10_carries_12 : decode cX10_carries 12 = .ok (.aload_n 0, 1) := by decide +kernel
theorem dX10_carries_13 : decode cX10_carries 13 = .ok (.iload_n 3, 1) := by decide +kernel
theorem dX10_carries_14 : decode cX10_carries 14 = .ok (.iconst 1, 1) := by decide +kernel
theorem dX10_carries_15 : decode cX10_carries 15 = .ok (.invokevirtual 175, 3) := by decide +kernel
theorem dX10_carries_18 : decode cX10_carries 18 = .ok (.iload_n 1, 1) := by decide +kernel
theorem dX10_carries_19 : decode cX10_carries 19 = .ok (.ior, 1) := by decide +kernel
theorem dX10_carries_20 : decode cX10_carries 20 = .ok (.istore 4, 2) := by decide +kernel
theorem dX10_carries_22 : decode cX10_carries 22 = .ok (.aload_n 0, 1) := by decide +kernel
theorem dX10_carries_23 : decode cX10_carries 23 = .ok (.iload_n 3, 1) := by decide +kernel
theorem dX10_carries_24 : decode cX10_carries 24 = .ok (.iconst 0, 1) := by decide +kernel
theorem dX10_carries_25 : decode cX10_carries 25 = .ok (.invokevirtual 175, 3) := by decide +kernel
theorem dX10_carries_28 : decode cX10_carries 28 = .ok (.iload_n 1, 1) := by decide +kernel
theorem dX10_carries_29 : decode cX10_carries 29 = .ok (.iconst (-1), 1) := by decide +kernel
theorem dX10_carries_30 : decode cX10_carries 30 = .ok (.ixor, 1) := by decide +kernel
theorem dX10_carries_31 : decode cX10_carries 31 = .ok (.iand, 1) := by decide +kernel
theorem dX10_carries_32 : decode cX10_carries 32 = .ok (.istore 5, 2) := by decide +kernel
theorem dX10_carries_34 : decode cX10_carries 34 = .ok (.iload_n 2, 1) := by decide +kernel
theorem dX10_carries_35 : decode cX10_carries 35 = .ok (.ifCond .eq 22, 3) := by decide +kernel
theorem dX10_carries_38 : decode cX10_carries 38 = .ok (.iload 4, 2) := by decide +kernel
theorem dX10_carries_40 : decode cX10_carries 40 = .ok (.invokestatic 178, 3) := by decide +kernel
theorem dX10_carries_43 : decode cX10_carries 43 = .ok (.iload 5, 2) := by decide +kernel
theorem dX10_carries_45 : decode cX10_carries 45 = .ok (.invokestatic 178, 3) := by decide +kernel
theorem dX10_carries_48 : decode cX10_carries 48 = .ok (.isub, 1) := by decide +kernel
theorem dX10_carries_49 : decode cX10_carries 49 = .ok (.iconst 1, 1) := by decide +kernel
theorem dX10_carries_50 : decode cX10_carries 50 = .ok (.if_icmp .le 7, 3) := by decide +kernel
theorem dX10_carries_53 : decode cX10_carries 53 = .ok (.iconst 1, 1) := by decide +kernel
theorem dX10_carries_54 : decode cX10_carries 54 = .ok (.goto 4, 3) := by decide +kernel
theorem dX10_carries_57 : decode cX10_carries 57 = .ok (.iconst 0, 1) := by decide +kernel
theorem dX10_carries_58 : decode cX10_carries 58 = .ok (.istore_n 2, 1) := by decide +kernel
theorem dX10_carries_59 : decode cX10_carries 59 = .ok (.iinc 3 1, 3) := by decide +kernel
theorem dX10_carries_62 : decode cX10_carries 62 = .ok (.goto (-58), 3) := by decide +kernel
theorem dX10_carries_65 : decode cX10_carries 65 = .ok (.iload_n 2, 1) := by decide +kernel
theorem dX10_carries_66 : decode cX10_carries 66 = .ok (.ireturn, 1) := by decide +kernel
set_option maxRecDepth 20000 in
theorem ggX10_carry_X10_bits : GoodIn wsX10_carry wsX10_bits := goodIn_r _ [5] (by decide +kernel) (by decide +kernel)
set_option maxRecDepth 20000 in
theorem gX10_carry_X10_bits : GoodIn wsX10_carry (va_wsS RX10 178 yX10_bits wsX10_bits) := goodIn_app (goodIn_of _ (by decide +kernel)) ggX10_carry_X10_bits
set_option maxRecDepth 20000 in
theorem ggX10_carry_X10_carries : GoodIn wsX10_carry wsX10_carries := goodIn_r _ [9, 10, 11, 12, 13, 4, 14, 1, 15, 2, 3, 5, 16, 17, 18, 19, 20, 21, 22, 23, 24, 25, 26, 27, 28, 29, 30, 31, 32, 33, 34, 35, 36, 37, 38, 39, 40, 41, 42, 43, 44, 45, 46, 47, 48, 49, 50, 51, 52, 53, 54] (by decide +kernel) (by decide +kernel)
set_option maxRecDepth 20000 in
theorem gX10_carry_X10_carries : GoodIn wsX10_carry (wsV RX10 281 RX10 yX10_carries wsX10_carries) := goodIn_app (goodIn_of _ (by decide +kernel)) ggX10_carry_X10_carries
theorem dX10_carry_0 : decode cX10_carry 0 = .ok (.iconst (-1), 1) := by decide +kernel
theorem dX10_carry_1 : decode cX10_carry 1 = .ok (.istore_n 1, 1) := by decide +kernel
theorem dX10_carry_2 : decode cX10_carry 2 = .ok (.iconst 0, 1) := by decide +kernel
theorem dX10_carry_3 : decode cX10_carry 3 = .ok (.istore_n 2, 1) := by decide +kernel
theorem dX10_carry_4 : decode cX10_carry 4 = .ok (.iload_n 2, 1) := by decide +kernel
theorem dX10_carry_5 : decode cX10_carry 5 = .ok (.iconst 1, 1) := by decide +kernel
theorem dX10_carry_6 : decode cX10_carry 6 = .ok (.aload_n 0, 1) := by decide +kernel
theorem dX10_carry_7 : decode cX10_carry 7 = .ok (.getfield 101, 3) := by decide +kernel
theorem dX10_carry_10 : decode cX10_carry 10 = .ok (.ishl, 1) := by decide +kernel
theorem dX10_carry_11 : decode cX10_carry 11 = .ok (.if_icmp .ge 48, 3) := by decide +kernel
theorem dX10_carry_14 : decode cX10_carry 14 = .ok (.iload_n 1, 1) := by decide +kernel
theorem dX10_carry_15 : decode cX10_carry 15 = .ok (.ifCond .lt 14, 3) := by decide +kernel
theorem dX10_carry_18 : decode cX10_carry 18 = .ok (.iload_n 2, 1) := by decide +kernel
theorem dX10_carry_19 : decode cX10_carry 19 = .ok (.invokestatic 178, 3) := by decide +kernel
theorem dX10_carry_22 : decode cX10_carry 22 = .ok (.iload_n 1, 1) := by decide +kernel
theorem dX10_carry_23 : decode cX10_carry 23 = .ok (.invokestatic 178, 3) := by decide +kernel
theorem dX10_carry_26 : decode cX10_carry 26 = .ok (.if_icmp .ge 7, 3) := by decide +kernel
theorem dX10_carry_29 : decode cX10_carry 29 = .ok (.iconst 1, 1) := by decide +kernel
theorem dX10_carry_30 : decode cX10_carry 30 = .ok (.goto 4, 3) := by decide +kernel
theorem dX10_carry_33 : decode cX10_carry 33 = .ok (.iconst 0, 1) := by decide +kernel
theorem dX10_carry_34 : decode cX10_carry 34 = .ok (.istore_n 3, 1) := by decide +kernel
theorem dX10_carry_35 : decode cX10_carry 35 = .ok (.iload_n 3, 1) := by decide +kernel
theorem dX10_carry_36 : decode cX10_carry 36 = .ok (.ifCond .eq 15, 3) := by decide +kernel
theorem dX10_carry_39 : decode cX10_carry 39 = .ok (.aload_n 0, 1) := by decide +kernel
theorem dX10_carry_40 : decode cX10_carry 40 = .ok (.iload_n 2, 1) := by decide +kernel
theorem dX10_carry_41 : decode cX10_carry 41 = .ok (.invokevirtual 281, 3) := by decide +kernel
theorem dX10_carry_44 : decode cX10_carry 44 = .ok (.ifCond .eq 7, 3) := by decide +kernel
theorem dX10_carry_47 : decode cX10_carry 47 = .ok (.iload_n 2, 1) := by decide +kernel
theorem dX10_carry_48 : decode cX10_carry 48 = .ok (.goto 4, 3) := by decide +kernel
theorem dX10_carry_51 : decode cX10_carry 51 = .ok (.iload_n 1, 1) := by decide +kernel
theorem dX10_carry_52 : decode cX10_carry 52 = .ok (.istore_n 1, 1) := by decide +kernel
theorem dX10_carry_53 : decode cX10_carry 53 = .ok (.iinc 2 1, 3) := by decide +kernel
theorem dX10_carry_56 : decode cX10_carry 56 = .ok (.goto (-52), 3) := by decide +kernel
theorem dX10_carry_59 : decode cX10_carry 59 = .ok (.iload_n 1, 1) := by decide +kernel
theorem dX10_carry_60 : decode cX10_carry 60 = .ok (.ireturn, 1) := by decide +kernel
set_option maxRecDepth 20000 in
theorem ggX10_waltz_X10_cells : GoodIn wsX10_waltz wsX10_cells := goodIn_r _ [6, 7, 8, 66, 67, 68, 69, 70, 71, 72, 73, 74, 75, 76, 77, 78, 79, 80, 81, 82, 83, 84, 85, 86, 87, 88, 89, 90, 91, 92, 93, 94, 95, 96, 97, 98, 99, 100, 101, 102, 103, 104] (by decide +kernel) (by decide +kernel)
set_option maxRecDepth 20000 in
theorem gX10_waltz_X10_cells : GoodIn wsX10_waltz (wsV RX10 90 RX10 yX10_cells wsX10_cells) := goodIn_app (goodIn_of _ (by decide +kernel)) ggX10_waltz_X10_cells
set_option maxRecDepth 20000 in
theorem ggX10_waltz_X10_in : GoodIn wsX10_waltz wsX10_in := goodIn_r _ [11] (by decide +kernel) (by decide +kernel)
set_option maxRecDepth 20000 in
theorem gX10_waltz_X10_in : GoodIn wsX10_waltz (va_wsS RX10 94 yX10_in wsX10_in) := goodIn_app (goodIn_of _ (by decide +kernel)) ggX10_waltz_X10_in
set_option maxRecDepth 20000 in
theorem ggX10_waltz_X10_spreadOf : GoodIn wsX10_waltz wsX10_spreadOf := goodIn_r _ [15, 16, 17, 18, 19, 5, 20, 21, 22, 23, 24, 25, 26, 27, 28, 29, 30, 31, 32, 33, 34, 35, 36, 37, 38, 39, 40, 41, 42, 43, 44, 45, 46, 2, 3, 4, 6, 7, 8, 47, 48, 49, 50, 51, 52, 53, 54, 55, 56, 57, 58, 59, 60, 61, 62, 9, 10, 11, 63, 64, 65, 66, 67, 68, 69, 70, 71, 72, 73, 74, 75, 76, 77, 78, 79, 80, 81, 82, 83, 84, 85, 86, 87, 88, 89, 90, 91, 92, 93, 94, 95, 96, 97, 98, 99, 100, 101, 102, 103, 104] (by decide +kernel) (by decide +kernel)
set_option maxRecDepth 20000 in
theorem gX10_waltz_X10_spreadOf : GoodIn wsX10_waltz (wsV RX10 236 RX10 yX10_spreadOf wsX10_spreadOf) := goodIn_app (goodIn_of _ (by decide +kernel)) ggX10_waltz_X10_spreadOf
theorem dX10_waltz_0 : decode cX10_waltz 0 = .ok (.iload_n 1, 1) := by decide +kernel
theorem dX10_waltz_1 : decode cX10_waltz 1 = .ok (.i2l, 1) := by decide +kernel
theorem dX10_waltz_2 : decode cX10_waltz 2 = .ok (.lconst 0, 1) := by decide +kernel
theorem dX10_waltz_3 : decode cX10_waltz 3 = .ok (.iconst 1, 1) := by decide +kernel
theorem dX10_waltz_4 : decode cX10_waltz 4 = .ok (.aload_n 0, 1) := by decide +kernel
theorem dX10_waltz_5 : decode cX10_waltz 5 = .ok (.invokevirtual 90, 3) := by decide +kernel
theorem dX10_waltz_8 : decode cX10_waltz 8 = .ok (.ishl, 1) := by decide +kernel
theorem dX10_waltz_9 : decode cX10_waltz 9 = .ok (.iconst 1, 1) := by decide +kernel
theorem dX10_waltz_10 : decode cX10_waltz 10 = .ok (.isub, 1) := by decide +kernel
theorem dX10_waltz_11 : decode cX10_waltz 11 = .ok (.i2l, 1) := by decide +kernel
theorem dX10_waltz_12 : decode cX10_waltz 12 = .ok (.invokestatic 94, 3) := by decide +kernel
theorem dX10_waltz_15 : decode cX10_waltz 15 = .ok (.ifCond .eq 11, 3) := by decide +kernel
theorem dX10_waltz_18 : decode cX10_waltz 18 = .ok (.aload_n 0, 1) := by decide +kernel
theorem dX10_waltz_19 : decode cX10_waltz 19 = .ok (.iload_n 1, 1) := by decide +kernel
theorem dX10_waltz_20 : decode cX10_waltz 20 = .ok (.invokevirtual 236, 3) := by decide +kernel
theorem dX10_waltz_23 : decode cX10_waltz 23 = .ok (.goto 5, 3) := by decide +kernel
theorem dX10_waltz_26 : decode cX10_waltz 26 = .ok (.ldc 226, 2) := by decide +kernel
theorem dX10_waltz_28 : decode cX10_waltz 28 = .ok (.ireturn, 1) := by decide +kernel
set_option maxRecDepth 20000 in
theorem ggX10_recount_X10_in : GoodIn wsX10_recount wsX10_in := goodIn_r _ [8] (by decide +kernel) (by decide +kernel)
set_option maxRecDepth 20000 in
theorem gX10_recount_X10_in : GoodIn wsX10_recount (va_wsS RX10 94 yX10_in wsX10_in) := goodIn_app (goodIn_of _ (by decide +kernel)) ggX10_recount_X10_in
theorem dX10_recount_0 : decode cX10_recount 0 = .ok (.iload_n 1, 1) := by decide +kernel
theorem dX10_recount_1 : decode cX10_recount 1 = .ok (.i2l, 1) := by decide +kernel
theorem dX10_recount_2 : decode cX10_recount 2 = .ok (.lconst 0, 1) := by decide +kernel
theorem dX10_recount_3 : decode cX10_recount 3 = .ok (.ldc2_w 261, 3) := by decide +kernel
theorem dX10_recount_6 : decode cX10_recount 6 = .ok (.invokestatic 94, 3) := by decide +kernel
theorem dX10_recount_9 : decode cX10_recount 9 = .ok (.ifCond .eq 15, 3) := by decide +kernel
theorem dX10_recount_12 : decode cX10_recount 12 = .ok (.iload_n 2, 1) := by decide +kernel
theorem dX10_recount_13 : decode cX10_recount 13 = .ok (.i2l, 1) := by decide +kernel
theorem dX10_recount_14 : decode cX10_recount 14 = .ok (.lconst 0, 1) := by decide +kernel
theorem dX10_recount_15 : decode cX10_recount 15 = .ok (.ldc2_w 284, 3) := by decide +kernel
theorem dX10_recount_18 : decode cX10_recount 18 = .ok (.invokestatic 94, 3) := by decide +kernel
theorem dX10_recount_21 : decode cX10_recount 21 = .ok (.ifCond .ne 6, 3) := by decide +kernel
theorem dX10_recount_24 : decode cX10_recount 24 = .ok (.ldc 106, 2) := by decide +kernel
theorem dX10_recount_26 : decode cX10_recount 26 = .ok (.ireturn, 1) := by decide +kernel
theorem dX10_recount_27 : decode cX10_recount 27 = .ok (.ldc2_w 286, 3) := by decide +kernel
theorem dX10_recount_30 : decode cX10_recount 30 = .ok (.lstore_n 3, 1) := by decide +kernel
theorem dX10_recount_31 : decode cX10_recount 31 = .ok (.iconst 0, 1) := by decide +kernel
theorem dX10_recount_32 : decode cX10_recount 32 = .ok (.istore 5, 2) := by decide +kernel
theorem dX10_recount_34 : decode cX10_recount 34 = .ok (.iload 5, 2) := by decide +kernel
theorem dX10_recount_36 : decode cX10_recount 36 = .ok (.iload_n 1, 1) := by decide +kernel
theorem dX10_recount_37 : decode cX10_recount 37 = .ok (.if_icmp .ge 21, 3) := by decide +kernel
theorem dX10_recount_40 : decode cX10_recount 40 = .ok (.lload_n 3, 1) := by decide +kernel
theorem dX10_recount_41 : decode cX10_recount 41 = .ok (.bipush 100, 2) := by decide +kernel
theorem dX10_recount_43 : decode cX10_recount 43 = .ok (.iload_n 2, 1) := by decide +kernel
theorem dX10_recount_44 : decode cX10_recount 44 = .ok (.isub, 1) := by decide +kernel
theorem dX10_recount_45 : decode cX10_recount 45 = .ok (.i2l, 1) := by decide +kernel
theorem dX10_recount_46 : decode cX10_recount 46 = .ok (.lmul, 1) := by decide +kernel
theorem dX10_recount_47 : decode cX10_recount 47 = .ok (.ldc2_w 284, 3) := by decide +kernel
theorem dX10_recount_50 : decode cX10_recount 50 = .ok (.ldiv, 1) := by decide +kernel
theorem dX10_recount_51 : decode cX10_recount 51 = .ok (.lstore_n 3, 1) := by decide +kernel
theorem dX10_recount_52 : decode cX10_recount 52 = .ok (.iinc 5 1, 3) := by decide +kernel
theorem dX10_recount_55 : decode cX10_recount 55 = .ok (.goto (-21), 3) := by decide +kernel
theorem dX10_recount_58 : decode cX10_recount 58 = .ok (.lload_n 3, 1) := by decide +kernel
theorem dX10_recount_59 : decode cX10_recount 59 = .ok (.l2i, 1) := by decide +kernel
theorem dX10_recount_60 : decode cX10_recount 60 = .ok (.ireturn, 1) := by decide +kernel
set_option maxRecDepth 20000 in
theorem ggX10_see_X10_isCell : GoodIn wsX10_see wsX10_isCell := goodIn_r _ [10, 11, 12, 13, 9, 14, 15, 16, 17, 18, 19, 20, 21, 22, 23, 24, 25, 26, 27, 28, 29, 30, 31, 32, 33, 34, 35, 36, 37, 38, 39, 40, 41, 42, 43, 44, 45, 46, 47, 48, 49, 50, 51, 52, 53, 54, 55, 56, 57, 58] (by decide +kernel) (by decide +kernel)
set_option maxRecDepth 20000 in
theorem gX10_see_X10_isCell : GoodIn wsX10_see (wsV RX10 222 RX10 yX10_isCell wsX10_isCell) := goodIn_app (goodIn_of _ (by decide +kernel)) ggX10_see_X10_isCell
theorem dX10_see_0 : decode cX10_see 0 = .ok (.aload_n 0, 1) := by decide +kernel
theorem dX10_see_1 : decode cX10_see 1 = .ok (.iload_n 1, 1) := by decide +kernel
theorem dX10_see_2 : decode cX10_see 2 = .ok (.invokevirtual 222, 3) := by decide +kernel
theorem dX10_see_5 : decode cX10_see 5 = .ok (.ifCond .eq 11, 3) := by decide +kernel
theorem dX10_see_8 : decode cX10_see 8 = .ok (.aload_n 0, 1) := by decide +kernel
theorem dX10_see_9 : decode cX10_see 9 = .ok (.iload_n 2, 1) := by decide +kernel
theorem dX10_see_10 : decode cX10_see 10 = .ok (.invokevirtual 222, 3) := by decide +kernel
theorem dX10_see_13 : decode cX10_see 13 = .ok (.ifCond .ne 6, 3) := by decide +kernel
theorem dX10_see_16 : decode cX10_see 16 = .ok (.ldc 226, 2) := by decide +kernel
theorem dX10_see_18 : decode cX10_see 18 = .ok (.ireturn, 1) := by decide +kernel
theorem dX10_see_19 : decode cX10_see 19 = .ok (.aload_n 0, 1) := by decide +kernel
theorem dX10_see_20 : decode cX10_see 20 = .ok (.getfield 166, 3) := by decide +kernel
theorem dX10_see_23 : decode cX10_see 23 = .ok (.bipush 6, 2) := by decide +kernel
theorem dX10_see_25 : decode cX10_see 25 = .ok (.if_icmp .ne 6, 3) := by decide +kernel
theorem dX10_see_28 : decode cX10_see 28 = .ok (.ldc 110, 2) := by decide +kernel
theorem dX10_see_30 : decode cX10_see 30 = .ok (.ireturn, 1) := by decide +kernel
theorem dX10_see_31 : decode cX10_see 31 = .ok (.aload_n 0, 1) := by decide +kernel
theorem dX10_see_32 : decode cX10_see 32 = .ok (.getfield 62, 3) := by decide +kernel
theorem dX10_see_35 : decode cX10_see 35 = .ok (.aload_n 0, 1) := by decide +kernel
theorem dX10_see_36 : decode cX10_see 36 = .ok (.getfield 166, 3) := by decide +kernel
theorem dX10_see_39 : decode cX10_see 39 = .ok (.iload_n 1, 1) := by decide +kernel
theorem dX10_see_40 : decode cX10_see 40 = .ok (.iastore, 1) := by decide +kernel
theorem dX10_see_41 : decode cX10_see 41 = .ok (.aload_n 0, 1) := by decide +kernel
theorem dX10_see_42 : decode cX10_see 42 = .ok (.getfield 65, 3) := by decide +kernel
theorem dX10_see_45 : decode cX10_see 45 = .ok (.aload_n 0, 1) := by decide +kernel
theorem dX10_see_46 : decode cX10_see 46 = .ok (.getfield 166, 3) := by decide +kernel
theorem dX10_see_49 : decode cX10_see 49 = .ok (.iload_n 2, 1) := by decide +kernel
theorem dX10_see_50 : decode cX10_see 50 = .ok (.iastore, 1) := by decide +kernel
theorem dX10_see_51 : decode cX10_see 51 = .ok (.aload_n 0, 1) := by decide +kernel
theorem dX10_see_52 : decode cX10_see 52 = .ok (.dup, 1) := by decide +kernel
theorem dX10_see_53 : decode cX10_see 53 = .ok (.getfield 166, 3) := by decide +kernel
theorem dX10_see_56 : decode cX10_see 56 = .ok (.iconst 1, 1) := by decide +kernel
theorem dX10_see_57 : decode cX10_see 57 = .ok (.iadd, 1) := by decide +kernel
theorem dX10_see_58 : decode cX10_see 58 = .ok (.putfield 166, 3) := by decide +kernel
theorem dX10_see_61 : decode cX10_see 61 = .ok (.aload_n 0, 1) := by decide +kernel
theorem dX10_see_62 : decode cX10_see 62 = .ok (.getfield 166, 3) := by decide +kernel
theorem dX10_see_65 : decode cX10_see 65 = .ok (.ireturn, 1) := by decide +kernel
set_option maxRecDepth 20000 in
theorem ggX10_allSeen_X10_findHeights : GoodIn wsX10_allSeen wsX10_findHeights := goodIn_r _ [8, 9, 10, 11, 12, 7, 13, 14, 15, 16, 17, 18, 19, 20, 21, 22, 23, 24, 25, 26, 27, 28, 29, 30, 31, 32, 33, 34, 35, 36, 49, 50, 51, 52, 53, 54, 55, 56, 57, 58, 59, 60, 61, 62, 63, 64, 65, 66, 67, 68, 69, 70, 71, 72, 73, 74, 75, 76, 77, 78, 79, 80, 81, 82, 83, 84, 85, 86, 87] (by decide +kernel) (by decide +kernel)
set_option maxRecDepth 20000 in
theorem gX10_allSeen_X10_findHeights : GoodIn wsX10_allSeen (wsV RX10 207 RX10 yX10_findHeights wsX10_findHeights) := goodIn_app (goodIn_of _ (by decide +kernel)) ggX10_allSeen_X10_findHeights
set_option maxRecDepth 20000 in
theorem ggX10_allSeen_X10_restOf : GoodIn wsX10_allSeen wsX10_restOf := goodIn_r _ [40, 41, 42, 43, 7, 44, 9, 10, 11, 12, 13, 14, 15, 45, 46, 47, 48, 49, 50, 51, 52, 53, 54, 55, 56, 57, 58, 59, 60, 61, 62, 63, 64, 65, 66, 67, 68, 69, 70, 71, 72, 73, 74, 75, 76, 77, 78, 79, 80, 81, 82, 83, 84, 85, 86, 87] (by decide +kernel) (by decide +kernel)
set_option maxRecDepth 20000 in
theorem gX10_allSeen_X10_restOf : GoodIn wsX10_allSeen (wsV RX10 213 RX10 yX10_restOf wsX10_restOf) := goodIn_app (goodIn_of _ (by decide +kernel)) ggX10_allSeen_X10_restOf
theorem dX10_allSeen_0 : decode cX10_allSeen 0 = .ok (.aload_n 0, 1) := by decide +kernel
theorem dX10_allSeen_1 : decode cX10_allSeen 1 = .ok (.invokevirtual 207, 3) := by decide +kernel
theorem dX10_allSeen_4 : decode cX10_allSeen 4 = .ok (.iconst 1, 1) := by decide +kernel
theorem dX10_allSeen_5 : decode cX10_allSeen 5 = .ok (.istore_n 1, 1) := by decide +kernel
theorem dX10_allSeen_6 : decode cX10_allSeen 6 = .ok (.iconst 0, 1) := by decide +kernel
theorem dX10_allSeen_7 : decode cX10_allSeen 7 = .ok (.istore_n 2, 1) := by decide +kernel
theorem dX10_allSeen_8 : decode cX10_allSeen 8 = .ok (.iload_n 2, 1) := by decide +kernel
theorem dX10_allSeen_9 : decode cX10_allSeen 9 = .ok (.aload_n 0, 1) := by decide +kernel
theorem dX10_allSeen_10 : decode cX10_allSeen 10 = .ok (.getfield 166, 3) := by decide +kernel
theorem dX10_allSeen_13 : decode cX10_allSeen 13 = .ok (.if_icmp .ge 38, 3) := by decide +kernel
theorem dX10_allSeen_16 : decode cX10_allSeen 16 = .ok (.iload_n 1, 1) := by decide +kernel
theorem dX10_allSeen_17 : decode cX10_allSeen 17 = .ok (.ifCond .eq 34, 3) := by decide +kernel
theorem dX10_allSeen_20 : decode cX10_allSeen 20 = .ok (.aload_n 0, 1) := by decide +kernel
theorem dX10_allSeen_21 : decode cX10_allSeen 21 = .ok (.aload_n 0, 1) := by decide +kernel
theorem dX10_allSeen_22 : decode cX10_allSeen 22 = .ok (.getfield 62, 3) := by decide +kernel
theorem dX10_allSeen_25 : decode cX10_allSeen 25 = .ok (.iload_n 2, 1) := by decide +kernel
theorem dX10_allSeen_26 : decode cX10_allSeen 26 = .ok (.iaload, 1) := by decide +kernel
theorem dX10_allSeen_27 : decode cX10_allSeen 27 = .ok (.invokevirtual 213, 3) := by decide +kernel
theorem dX10_allSeen_30 : decode cX10_allSeen 30 = .ok (.aload_n 0, 1) := by decide +kernel
theorem dX10_allSeen_31 : decode cX10_allSeen 31 = .ok (.getfield 65, 3) := by decide +kernel
theorem dX10_allSeen_34 : decode cX10_allSeen 34 = .ok (.iload_n 2, 1) := by decide +kernel
theorem dX10_allSeen_35 : decode cX10_allSeen 35 = .ok (.iaload, 1) := by decide +kernel
theorem dX10_allSeen_36 : decode cX10_allSeen 36 = .ok (.if_icmp .ne 7, 3) := by decide +kernel
theorem dX10_allSeen_39 : decode cX10_allSeen 39 = .ok (.iconst 1, 1) := by decide +kernel
theorem dX10_allSeen_40 : decode cX10_allSeen 40 = .ok (.goto 4, 3) := by decide +kernel
theorem dX10_allSeen_43 : decode cX10_allSeen 43 = .ok (.iconst 0, 1) := by decide +kernel
theorem dX10_allSeen_44 : decode cX10_allSeen 44 = .ok (.istore_n 1, 1) := by decide +kernel
theorem dX10_allSeen_45 : decode cX10_allSeen 45 = .ok (.iinc 2 1, 3) := by decide +kernel
theorem dX10_allSeen_48 : decode cX10_allSeen 48 = .ok (.goto (-40), 3) := by decide +kernel
theorem dX10_allSeen_51 : decode cX10_allSeen 51 = .ok (.iload_n 1, 1) := by decide +kernel
theorem dX10_allSeen_52 : decode cX10_allSeen 52 = .ok (.ireturn, 1) := by decide +kernel
set_option maxRecDepth 20000 in
theorem ggX10_stood_X10_waysToStand : GoodIn wsX10_stood wsX10_waysToStand := goodIn_r _ [5, 6, 61, 62, 63, 64, 65, 66, 67, 68, 69, 70, 71, 72, 73, 74, 75, 76, 77, 78, 79, 80, 81, 82, 83, 84, 85, 86, 87, 88, 89, 90, 91, 92, 93, 94, 95, 96, 97, 98, 99] (by decide +kernel) (by decide +kernel)
set_option maxRecDepth 20000 in
theorem gX10_stood_X10_waysToStand : GoodIn wsX10_stood (wsV RX10 272 RX10 yX10_waysToStand wsX10_waysToStand) := goodIn_app (goodIn_of _ (by decide +kernel)) ggX10_stood_X10_waysToStand
set_option maxRecDepth 20000 in
theorem ggX10_stood_X10_standBy : GoodIn wsX10_stood wsX10_standBy := goodIn_r _ [10, 6, 11, 61, 62, 63, 64, 65, 66, 67, 68, 69, 70, 71, 72, 73, 74, 75, 76, 77, 78, 79, 80, 81, 82, 83, 84, 85, 86, 87, 88, 89, 90, 91, 92, 93, 94, 95, 96, 97, 98, 99] (by decide +kernel) (by decide +kernel)
set_option maxRecDepth 20000 in
theorem gX10_stood_X10_standBy : GoodIn wsX10_stood (wsV RX10 275 RX10 yX10_standBy wsX10_standBy) := goodIn_app (goodIn_of _ (by decide +kernel)) ggX10_stood_X10_standBy
set_option maxRecDepth 20000 in
theorem ggX10_stood_X10_allSeen : GoodIn wsX10_stood wsX10_allSeen := goodIn_r _ [15, 16, 17, 18, 19, 20, 21, 4, 22, 23, 24, 25, 26, 27, 28, 29, 30, 31, 32, 33, 34, 11, 35, 36, 37, 38, 39, 40, 6, 41, 42, 43, 44, 45, 46, 47, 48, 49, 50, 51, 52, 53, 54, 55, 56, 57, 58, 59, 60, 61, 62, 63, 64, 65, 66, 67, 68, 69, 70, 71, 72, 73, 74, 75, 76, 77, 78, 79, 80, 81, 82, 83, 84, 85, 86, 87, 88, 89, 90, 91, 92, 93, 94, 95, 96, 97, 98, 99] (by decide +kernel) (by decide +kernel)
set_option maxRecDepth 20000 in
theorem gX10_stood_X10_allSeen : GoodIn wsX10_stood (wsV RX10 288 RX10 yX10_allSeen wsX10_allSeen) := goodIn_app (goodIn_of _ (by decide +kernel)) ggX10_stood_X10_allSeen
theorem dX10_stood_0 : decode cX10_stood 0 = .ok (.iconst 0, 1) := by decide +kernel
theorem dX10_stood_1 : decode cX10_stood 1 = .ok (.istore_n 2, 1) := by decide +kernel
theorem dX10_stood_2 : decode cX10_stood 2 = .ok (.iconst 0, 1) := by decide +kernel
theorem dX10_stood_3 : decode cX10_stood 3 = .ok (.istore_n 3, 1) := by decide +kernel
theorem dX10_stood_4 : decode cX10_stood 4 = .ok (.iload_n 3, 1) := by decide +kernel
theorem dX10_stood_5 : decode cX10_stood 5 = .ok (.aload_n 0, 1) := by decide +kernel
theorem dX10_stood_6 : decode cX10_stood 6 = .ok (.invokevirtual 272, 3) := by decide +kernel
theorem dX10_stood_9 : decode cX10_stood 9 = .ok (.if_icmp .ge 34, 3) := by decide +kernel
theorem dX10_stood_12 : decode cX10_stood 12 = .ok (.aload_n 0, 1) := by decide +kernel
theorem dX10_stood_13 : decode cX10_stood 13 = .ok (.iload_n 3, 1) := by decide +kernel
theorem dX10_stood_14 : decode cX10_stood 14 = .ok (.invokevirtual 275, 3) := by decide +kernel
theorem dX10_stood_17 : decode cX10_stood 17 = .ok (.istore 4, 2) := by decide +kernel
theorem dX10_stood_19 : decode cX10_stood 19 = .ok (.aload_n 0, 1) := by decide +kernel
theorem dX10_stood_20 : decode cX10_stood 20 = .ok (.invokevirtual 288, 3) := by decide +kernel
theorem dX10_stood_23 : decode cX10_stood 23 = .ok (.ifCond .eq 14, 3) := by decide +kernel
theorem dX10_stood_26 : decode cX10_stood 26 = .ok (.iload_n 2, 1) := by decide +kernel
theorem dX10_stood_27 : decode cX10_stood 27 = .ok (.iload_n 1, 1) := by decide +kernel
theorem dX10_stood_28 : decode cX10_stood 28 = .ok (.if_icmp .ne 6, 3) := by decide +kernel
theorem dX10_stood_31 : decode cX10_stood 31 = .ok (.iload 4, 2) := by decide +kernel
theorem dX10_stood_33 : decode cX10_stood 33 = .ok (.ireturn, 1) := by decide +kernel
theorem dX10_stood_34 : decode cX10_stood 34 = .ok (.iinc 2 1, 3) := by decide +kernel
theorem dX10_stood_37 : decode cX10_stood 37 = .ok (.iinc 3 1, 3) := by decide +kernel
theorem dX10_stood_40 : decode cX10_stood 40 = .ok (.goto (-36), 3) := by decide +kernel
theorem dX10_stood_43 : decode cX10_stood 43 = .ok (.iload_n 1, 1) := by decide +kernel
theorem dX10_stood_44 : decode cX10_stood 44 = .ok (.iconst (-1), 1) := by decide +kernel
theorem dX10_stood_45 : decode cX10_stood 45 = .ok (.if_icmp .ne 7, 3) := by decide +kernel
theorem dX10_stood_48 : decode cX10_stood 48 = .ok (.iload_n 2, 1) := by decide +kernel
theorem dX10_stood_49 : decode cX10_stood 49 = .ok (.goto 4, 3) := by decide +kernel
theorem dX10_stood_52 : decode cX10_stood 52 = .ok (.iconst (-1), 1) := by decide +kernel
theorem dX10_stood_53 : decode cX10_stood 53 = .ok (.ireturn, 1) := by decide +kernel
set_option maxRecDepth 20000 in
theorem ggX10_look_X10_waysToStand : GoodIn wsX10_look wsX10_waysToStand := goodIn_r _ [6, 7, 62, 63, 64, 65, 66, 67, 68, 69, 70, 71, 72, 73, 74, 75, 76, 77, 78, 79, 80, 81, 82, 83, 84, 85, 86, 87, 88, 89, 90, 91, 92, 93, 94, 95, 96, 97, 98, 99, 100] (by decide +kernel) (by decide +kernel)
set_option maxRecDepth 20000 in
theorem gX10_look_X10_waysToStand : GoodIn wsX10_look (wsV RX10 272 RX10 yX10_waysToStand wsX10_waysToStand) := goodIn_app (goodIn_of _ (by decide +kernel)) ggX10_look_X10_waysToStand
set_option maxRecDepth 20000 in
theorem ggX10_look_X10_standBy : GoodIn wsX10_look wsX10_standBy := goodIn_r _ [11, 7, 12, 62, 63, 64, 65, 66, 67, 68, 69, 70, 71, 72, 73, 74, 75, 76, 77, 78, 79, 80, 81, 82, 83, 84, 85, 86, 87, 88, 89, 90, 91, 92, 93, 94, 95, 96, 97, 98, 99, 100] (by decide +kernel) (by decide +kernel)
set_option maxRecDepth 20000 in
theorem gX10_look_X10_standBy : GoodIn wsX10_look (wsV RX10 275 RX10 yX10_standBy wsX10_standBy) := goodIn_app (goodIn_of _ (by decide +kernel)) ggX10_look_X10_standBy
set_option maxRecDepth 20000 in
theorem ggX10_look_X10_allSeen : GoodIn wsX10_look wsX10_allSeen := goodIn_r _ [16, 17, 18, 19, 20, 21, 22, 5, 23, 24, 25, 26, 27, 28, 29, 30, 31, 32, 33, 34, 35, 12, 36, 37, 38, 39, 40, 41, 7, 42, 43, 44, 45, 46, 47, 48, 49, 50, 51, 52, 53, 54, 55, 56, 57, 58, 59, 60, 61, 62, 63, 64, 65, 66, 67, 68, 69, 70, 71, 72, 73, 74, 75, 76, 77, 78, 79, 80, 81, 82, 83, 84, 85, 86, 87, 88, 89, 90, 91, 92, 93, 94, 95, 96, 97, 98, 99, 100] (by decide +kernel) (by decide +kernel)
set_option maxRecDepth 20000 in
theorem gX10_look_X10_allSeen : GoodIn wsX10_look (wsV RX10 288 RX10 yX10_allSeen wsX10_allSeen) := goodIn_app (goodIn_of _ (by decide +kernel)) ggX10_look_X10_allSeen
set_option maxRecDepth 20000 in
theorem ggX10_look_X10_cells : GoodIn wsX10_look wsX10_cells := goodIn_r _ [28, 29, 30, 62, 63, 64, 65, 66, 67, 68, 69, 70, 71, 72, 73, 74, 75, 76, 77, 78, 79, 80, 81, 82, 83, 84, 85, 86, 87, 88, 89, 90, 91, 92, 93, 94, 95, 96, 97, 98, 99, 100] (by decide +kernel) (by decide +kernel)
set_option maxRecDepth 20000 in
theorem gX10_look_X10_cells : GoodIn wsX10_look (wsV RX10 90 RX10 yX10_cells wsX10_cells) := goodIn_app (goodIn_of _ (by decide +kernel)) ggX10_look_X10_cells
set_option maxRecDepth 20000 in
theorem ggX10_look_X10_restOf : GoodIn wsX10_look wsX10_restOf := goodIn_r _ [53, 54, 55, 56, 5, 57, 24, 25, 26, 27, 28, 29, 30, 58, 59, 60, 61, 62, 63, 64, 65, 66, 67, 68, 69, 70, 71, 72, 73, 74, 75, 76, 77, 78, 79, 80, 81, 82, 83, 84, 85, 86, 87, 88, 89, 90, 91, 92, 93, 94, 95, 96, 97, 98, 99, 100] (by decide +kernel) (by decide +kernel)
set_option maxRecDepth 20000 in
theorem gX10_look_X10_restOf : GoodIn wsX10_look (wsV RX10 213 RX10 yX10_restOf wsX10_restOf) := goodIn_app (goodIn_of _ (by decide +kernel)) ggX10_look_X10_restOf
theorem dX10_look_0 : decode cX10_look 0 = .ok (.iconst 0, 1) := by decide +kernel
theorem dX10_look_1 : decode cX10_look 1 = .ok (.istore_n 1, 1) := by decide +kernel
theorem dX10_look_2 : decode cX10_look 2 = .ok (.iload_n 1, 1) := by decide +kernel
theorem dX10_look_3 : decode cX10_look 3 = .ok (.sipush 400, 3) := by decide +kernel
theorem dX10_look_6 : decode cX10_look 6 = .ok (.if_icmp .ge 16, 3) := by decide +kernel
theorem dX10_look_9 : decode cX10_look 9 = .ok (.aload_n 0, 1) := by decide +kernel
theorem dX10_look_10 : decode cX10_look 10 = .ok (.getfield 68, 3) := by decide +kernel
theorem dX10_look_13 : decode cX10_look 13 = .ok (.iload_n 1, 1) := by decide +kernel
theorem dX10_look_14 : decode cX10_look 14 = .ok (.iconst 0, 1) := by decide +kernel
theorem dX10_look_15 : decode cX10_look 15 = .ok (.iastore, 1) := by decide +kernel
theorem dX10_look_16 : decode cX10_look 16 = .ok (.iinc 1 1, 3) := by decide +kernel
theorem dX10_look_19 : decode cX10_look 19 = .ok (.goto (-17), 3) := by decide +kernel
theorem dX10_look_22 : decode cX10_look 22 = .ok (.iconst 0, 1) := by decide +kernel
theorem dX10_look_23 : decode cX10_look 23 = .ok (.istore_n 1, 1) := by decide +kernel
theorem dX10_look_24 : decode cX10_look 24 = .ok (.iconst 0, 1) := by decide +kernel
theorem dX10_look_25 : decode cX10_look 25 = .ok (.istore_n 2, 1) := by decide +kernel
theorem dX10_look_26 : decode cX10_look 26 = .ok (.iload_n 2, 1) := by decide +kernel
theorem dX10_look_27 : decode cX10_look 27 = .ok (.aload_n 0, 1) := by decide +kernel
theorem dX10_look_28 : decode cX10_look 28 = .ok (.invokevirtual 272, 3) := by decide +kernel
theorem dX10_look_31 : decode cX10_look 31 = .ok (.if_icmp .ge 64, 3) := by decide +kernel
theorem dX10_look_34 : decode cX10_look 34 = .ok (.aload_n 0, 1) := by decide +kernel
theorem dX10_look_35 : decode cX10_look 35 = .ok (.iload_n 2, 1) := by decide +kernel
theorem dX10_look_36 : decode cX10_look 36 = .ok (.invokevirtual 275, 3) := by decide +kernel
theorem dX10_look_39 : decode cX10_look 39 = .ok (.istore_n 3, 1) := by decide +kernel
theorem dX10_look_40 : decode cX10_look 40 = .ok (.aload_n 0, 1) := by decide +kernel
theorem dX10_look_41 : decode cX10_look 41 = .ok (.invokevirtual 288, 3) := by decide +kernel
theorem dX10_look_44 : decode cX10_look 44 = .ok (.ifCond .eq 45, 3) := by decide +kernel
theorem dX10_look_47 : decode cX10_look 47 = .ok (.iinc 1 1, 3) := by decide +kernel
theorem dX10_look_50 : decode cX10_look 50 = .ok (.iconst 0, 1) := by decide +kernel
theorem dX10_look_51 : decode cX10_look 51 = .ok (.istore 4, 2) := by decide +kernel
theorem dX10_look_53 : decode cX10_look 53 = .ok (.iload 4, 2) := by decide +kernel
theorem dX10_look_55 : decode cX10_look 55 = .ok (.aload_n 0, 1) := by decide +kernel
theorem dX10_look_56 : decode cX10_look 56 = .ok (.invokevirtual 90, 3) := by decide +kernel
theorem dX10_look_59 : decode cX10_look 59 = .ok (.if_icmp .ge 30, 3) := by decide +kernel
theorem dX10_look_62 : decode cX10_look 62 = .ok (.aload_n 0, 1) := by decide +kernel
theorem dX10_look_63 : decode cX10_look 63 = .ok (.getfield 68, 3) := by decide +kernel
theorem dX10_look_66 : decode cX10_look 66 = .ok (.bipush 20, 2) := by decide +kernel
theorem dX10_look_68 : decode cX10_look 68 = .ok (.iload 4, 2) := by decide +kernel
theorem dX10_look_70 : decode cX10_look 70 = .ok (.imul, 1) := by decide +kernel
theorem dX10_look_71 : decode cX10_look 71 = .ok (.aload_n 0, 1) := by decide +kernel
theorem dX10_look_72 : decode cX10_look 72 = .ok (.iload 4, 2) := by decide +kernel
theorem dX10_look_74 : decode cX10_look 74 = .ok (.invokevirtual 213, 3) := by decide +kernel
theorem dX10_look_77 : decode cX10_look 77 = .ok (.iadd, 1) := by decide +kernel
theorem dX10_look_78 : decode cX10_look 78 = .ok (.dup2, 1) := by decide +kernel
theorem dX10_look_79 : decode cX10_look 79 = .ok (.iaload, 1) := by decide +kernel
theorem dX10_look_80 : decode cX10_look 80 = .ok (.iconst 1, 1) := by decide +kernel
theorem dX10_look_81 : decode cX10_look 81 = .ok (.iadd, 1) := by decide +kernel
theorem dX10_look_82 : decode cX10_look 82 = .ok (.iastore, 1) := by decide +kernel
theorem dX10_look_83 : decode cX10_look 83 = .ok (.iinc 4 1, 3) := by decide +kernel
theorem dX10_look_86 : decode cX10_look 86 = .ok (.goto (-33), 3) := by decide +kernel
theorem dX10_look_89 : decode cX10_look 89 = .ok (.iinc 2 1, 3) := by decide +kernel
theorem dX10_look_92 : decode cX10_look 92 = .ok (.goto (-66), 3) := by decide +kernel
theorem dX10_look_95 : decode cX10_look 95 = .ok (.iconst (-1), 1) := by decide +kernel
theorem dX10_look_96 : decode cX10_look 96 = .ok (.istore_n 2, 1) := by decide +kernel
theorem dX10_look_97 : decode cX10_look 97 = .ok (.iload_n 1, 1) := by decide +kernel
theorem dX10_look_98 : decode cX10_look 98 = .ok (.istore_n 3, 1) := by decide +kernel
theorem dX10_look_99 : decode cX10_look 99 = .ok (.iconst 0, 1) := by decide +kernel
theorem dX10_look_100 : decode cX10_look 100 = .ok (.istore 4, 2) := by decide +kernel
theorem dX10_look_102 : decode cX10_look 102 = .ok (.iload 4, 2) := by decide +kernel
theorem dX10_look_104 : decode cX10_look 104 = .ok (.aload_n 0, 1) := by decide +kernel
theorem dX10_look_105 : decode cX10_look 105 = .ok (.invokevirtual 90, 3) := by decide +kernel
theorem dX10_look_108 : decode cX10_look 108 = .ok (.if_icmp .ge 94, 3) := by decide +kernel
theorem dX10_look_111 : decode cX10_look 111 = .ok (.iconst 0, 1) := by decide +kernel
theorem dX10_look_112 : decode cX10_look 112 = .ok (.istore 5, 2) := by decide +kernel
theorem dX10_look_114 : decode cX10_look 114 = .ok (.iconst 0, 1) := by decide +kernel
theorem dX10_look_115 : decode cX10_look 115 = .ok (.istore 6, 2) := by decide +kernel
theorem dX10_look_117 : decode cX10_look 117 = .ok (.iload 6, 2) := by decide +kernel
theorem dX10_look_119 : decode cX10_look 119 = .ok (.aload_n 0, 1) := by decide +kernel
theorem dX10_look_120 : decode cX10_look 120 = .ok (.invokevirtual 90, 3) := by decide +kernel
theorem dX10_look_123 : decode cX10_look 123 = .ok (.if_icmp .ge 47, 3) := by decide +kernel
theorem dX10_look_126 : decode cX10_look 126 = .ok (.aload_n 0, 1) := by decide +kernel
theorem dX10_look_127 : decode cX10_look 127 = .ok (.getfield 68, 3) := by decide +kernel
theorem dX10_look_130 : decode cX10_look 130 = .ok (.bipush 20, 2) := by decide +kernel
theorem dX10_look_132 : decode cX10_look 132 = .ok (.iload 4, 2) := by decide +kernel
theorem dX10_look_134 : decode cX10_look 134 = .ok (.imul, 1) := by decide +kernel
theorem dX10_look_135 : decode cX10_look 135 = .ok (.iload 6, 2) := by decide +kernel
theorem dX10_look_137 : decode cX10_look 137 = .ok (.iadd, 1) := by decide +kernel
theorem dX10_look_138 : decode cX10_look 138 = .ok (.iaload, 1) := by decide +kernel
theorem dX10_look_139 : decode cX10_look 139 = .ok (.iload 5, 2) := by decide +kernel
theorem dX10_look_141 : decode cX10_look 141 = .ok (.if_icmp .le 19, 3) := by decide +kernel
theorem dX10_look_144 : decode cX10_look 144 = .ok (.aload_n 0, 1) := by decide +kernel
theorem dX10_look_145 : decode cX10_look 145 = .ok (.getfield 68, 3) := by decide +kernel
theorem dX10_look_148 : decode cX10_look 148 = .ok (.bipush 20, 2) := by decide +kernel
theorem dX10_look_150 : decode cX10_look 150 = .ok (.iload 4, 2) := by decide +kernel
theorem dX10_look_152 : decode cX10_look 152 = .ok (.imul, 1) := by decide +kernel
theorem dX10_look_153 : decode cX10_look 153 = .ok (.iload 6, 2) := by decide +kernel
theorem dX10_look_155 : decode cX10_look 155 = .ok (.iadd, 1) := by decide +kernel
theorem dX10_look_156 : decode cX10_look 156 = .ok (.iaload, 1) := by decide +kernel
theorem dX10_look_157 : decode cX10_look 157 = .ok (.goto 5, 3) := by decide +kernel
theorem dX10_look_160 : decode cX10_look 160 = .ok (.iload 5, 2) := by decide +kernel
theorem dX10_look_162 : decode cX10_look 162 = .ok (.istore 5, 2) := by decide +kernel
theorem dX10_look_164 : decode cX10_look 164 = .ok (.iinc 6 1, 3) := by decide +kernel
theorem dX10_look_167 : decode cX10_look 167 = .ok (.goto (-50), 3) := by decide +kernel
theorem dX10_look_170 : decode cX10_look 170 = .ok (.iload 5, 2) := by decide +kernel
theorem dX10_look_172 : decode cX10_look 172 = .ok (.iload_n 3, 1) := by decide +kernel
theorem dX10_look_173 : decode cX10_look 173 = .ok (.if_icmp .ge 8, 3) := by decide +kernel
theorem dX10_look_176 : decode cX10_look 176 = .ok (.iload 4, 2) := by decide +kernel
theorem dX10_look_178 : decode cX10_look 178 = .ok (.goto 4, 3) := by decide +kernel
theorem dX10_look_181 : decode cX10_look 181 = .ok (.iload_n 2, 1) := by decide +kernel
theorem dX10_look_182 : decode cX10_look 182 = .ok (.istore_n 2, 1) := by decide +kernel
theorem dX10_look_183 : decode cX10_look 183 = .ok (.iload 5, 2) := by decide +kernel
theorem dX10_look_185 : decode cX10_look 185 = .ok (.iload_n 3, 1) := by decide +kernel
theorem dX10_look_186 : decode cX10_look 186 = .ok (.if_icmp .ge 8, 3) := by decide +kernel
theorem dX10_look_189 : decode cX10_look 189 = .ok (.iload 5, 2) := by decide +kernel
theorem dX10_look_191 : decode cX10_look 191 = .ok (.goto 4, 3) := by decide +kernel
theorem dX10_look_194 : decode cX10_look 194 = .ok (.iload_n 3, 1) := by decide +kernel
theorem dX10_look_195 : decode cX10_look 195 = .ok (.istore_n 3, 1) := by decide +kernel
theorem dX10_look_196 : decode cX10_look 196 = .ok (.iinc 4 1, 3) := by decide +kernel
theorem dX10_look_199 : decode cX10_look 199 = .ok (.goto (-97), 3) := by decide +kernel
theorem dX10_look_202 : decode cX10_look 202 = .ok (.iload_n 2, 1) := by decide +kernel
theorem dX10_look_203 : decode cX10_look 203 = .ok (.ireturn, 1) := by decide +kernel
set_option maxRecDepth 20000 in
theorem ggX10_write_X10_isCell : GoodIn wsX10_write wsX10_isCell := goodIn_r _ [12, 13, 14, 15, 11, 16, 17, 18, 19, 20, 21, 22, 23, 24, 25, 26, 27, 28, 29, 30, 31, 32, 33, 34, 35, 36, 37, 38, 39, 40, 41, 42, 43, 44, 45, 46, 47, 48, 49, 50, 51, 52, 53, 54, 55, 56, 57, 58, 59, 60] (by decide +kernel) (by decide +kernel)
set_option maxRecDepth 20000 in
theorem gX10_write_X10_isCell : GoodIn wsX10_write (wsV RX10 222 RX10 yX10_isCell wsX10_isCell) := goodIn_app (goodIn_of _ (by decide +kernel)) ggX10_write_X10_isCell
set_option maxRecDepth 20000 in
theorem ggX10_write_X10_in : GoodIn wsX10_write wsX10_in := goodIn_r _ [21] (by decide +kernel) (by decide +kernel)
set_option maxRecDepth 20000 in
theorem gX10_write_X10_in : GoodIn wsX10_write (va_wsS RX10 94 yX10_in wsX10_in) := goodIn_app (goodIn_of _ (by decide +kernel)) ggX10_write_X10_in
theorem dX10_write_0 : decode cX10_write 0 = .ok (.aload_n 0, 1) := by decide +kernel
theorem dX10_write_1 : decode cX10_write 1 = .ok (.iload_n 1, 1) := by decide +kernel
theorem dX10_write_2 : decode cX10_write 2 = .ok (.invokevirtual 222, 3) := by decide +kernel
theorem dX10_write_5 : decode cX10_write 5 = .ok (.ifCond .ne 6, 3) := by decide +kernel
theorem dX10_write_8 : decode cX10_write 8 = .ok (.ldc 226, 2) := by decide +kernel
theorem dX10_write_10 : decode cX10_write 10 = .ok (.ireturn, 1) := by decide +kernel
theorem dX10_write_11 : decode cX10_write 11 = .ok (.iload_n 2, 1) := by decide +kernel
theorem dX10_write_12 : decode cX10_write 12 = .ok (.i2l, 1) := by decide +kernel
theorem dX10_write_13 : decode cX10_write 13 = .ok (.lconst 0, 1) := by decide +kernel
theorem dX10_write_14 : decode cX10_write 14 = .ok (.ldc2_w 292, 3) := by decide +kernel
theorem dX10_write_17 : decode cX10_write 17 = .ok (.invokestatic 94, 3) := by decide +kernel
theorem dX10_write_20 : decode cX10_write 20 = .ok (.ifCond .ne 6, 3) := by decide +kernel
theorem dX10_write_23 : decode cX10_write 23 = .ok (.ldc 106, 2) := by decide +kernel
theorem dX10_write_25 : decode cX10_write 25 = .ok (.ireturn, 1) := by decide +kernel
theorem dX10_write_26 : decode cX10_write 26 = .ok (.aload_n 0, 1) := by decide +kernel
theorem dX10_write_27 : decode cX10_write 27 = .ok (.getfield 169, 3) := by decide +kernel
theorem dX10_write_30 : decode cX10_write 30 = .ok (.bipush 15, 2) := by decide +kernel
theorem dX10_write_32 : decode cX10_write 32 = .ok (.if_icmp .ne 6, 3) := by decide +kernel
theorem dX10_write_35 : decode cX10_write 35 = .ok (.ldc 110, 2) := by decide +kernel
theorem dX10_write_37 : decode cX10_write 37 = .ok (.ireturn, 1) := by decide +kernel
theorem dX10_write_38 : decode cX10_write 38 = .ok (.aload_n 0, 1) := by decide +kernel
theorem dX10_write_39 : decode cX10_write 39 = .ok (.getfield 71, 3) := by decide +kernel
theorem dX10_write_42 : decode cX10_write 42 = .ok (.aload_n 0, 1) := by decide +kernel
theorem dX10_write_43 : decode cX10_write 43 = .ok (.getfield 169, 3) := by decide +kernel
theorem dX10_write_46 : decode cX10_write 46 = .ok (.iload_n 1, 1) := by decide +kernel
theorem dX10_write_47 : decode cX10_write 47 = .ok (.iastore, 1) := by decide +kernel
theorem dX10_write_48 : decode cX10_write 48 = .ok (.aload_n 0, 1) := by decide +kernel
theorem dX10_write_49 : decode cX10_write 49 = .ok (.getfield 74, 3) := by decide +kernel
theorem dX10_write_52 : decode cX10_write 52 = .ok (.aload_n 0, 1) := by decide +kernel
theorem dX10_write_53 : decode cX10_write 53 = .ok (.getfield 169, 3) := by decide +kernel
theorem dX10_write_56 : decode cX10_write 56 = .ok (.iload_n 2, 1) := by decide +kernel
theorem dX10_write_57 : decode cX10_write 57 = .ok (.iastore, 1) := by decide +kernel
theorem dX10_write_58 : decode cX10_write 58 = .ok (.aload_n 0, 1) := by decide +kernel
theorem dX10_write_59 : decode cX10_write 59 = .ok (.dup, 1) := by decide +kernel
theorem dX10_write_60 : decode cX10_write 60 = .ok (.getfield 169, 3) := by decide +kernel
theorem dX10_write_63 : decode cX10_write 63 = .ok (.iconst 1, 1) := by decide +kernel
theorem dX10_write_64 : decode cX10_write 64 = .ok (.iadd, 1) := by decide +kernel
theorem dX10_write_65 : decode cX10_write 65 = .ok (.putfield 169, 3) := by decide +kernel
theorem dX10_write_68 : decode cX10_write 68 = .ok (.aload_n 0, 1) := by decide +kernel
theorem dX10_write_69 : decode cX10_write 69 = .ok (.getfield 169, 3) := by decide +kernel
theorem dX10_write_72 : decode cX10_write 72 = .ok (.ireturn, 1) := by decide +kernel
theorem dX10_tear_0 : decode cX10_tear 0 = .ok (.aload_n 0, 1) := by decide +kernel
theorem dX10_tear_1 : decode cX10_tear 1 = .ok (.getfield 166, 3) := by decide +kernel
theorem dX10_tear_4 : decode cX10_tear 4 = .ok (.aload_n 0, 1) := by decide +kernel
theorem dX10_tear_5 : decode cX10_tear 5 = .ok (.getfield 169, 3) := by decide +kernel
theorem dX10_tear_8 : decode cX10_tear 8 = .ok (.iadd, 1) := by decide +kernel
theorem dX10_tear_9 : decode cX10_tear 9 = .ok (.istore_n 1, 1) := by decide +kernel
theorem dX10_tear_10 : decode cX10_tear 10 = .ok (.aload_n 0, 1) := by decide +kernel
theorem dX10_tear_11 : decode cX10_tear 11 = .ok (.iconst 0, 1) := by decide +kernel
theorem dX10_tear_12 : decode cX10_tear 12 = .ok (.putfield 166, 3) := by decide +kernel
theorem dX10_tear_15 : decode cX10_tear 15 = .ok (.aload_n 0, 1) := by decide +kernel
theorem dX10_tear_16 : decode cX10_tear 16 = .ok (.iconst 0, 1) := by decide +kernel
theorem dX10_tear_17 : decode cX10_tear 17 = .ok (.putfield 169, 3) := by decide +kernel
theorem dX10_tear_20 : decode cX10_tear 20 = .ok (.iload_n 1, 1) := by decide +kernel
theorem dX10_tear_21 : decode cX10_tear 21 = .ok (.ireturn, 1) := by decide +kernel
set_option maxRecDepth 20000 in
theorem ggX10_judge_X10_lookNow : GoodIn wsX10_judge wsX10_lookNow := goodIn_r _ [9, 10, 11, 12, 8, 13, 14, 15, 16, 17, 18, 19, 20, 21, 22, 23, 24, 25, 26, 27, 28, 29, 30, 31, 32, 33, 34, 35, 2, 36, 37, 38, 39, 40, 41, 42, 43, 44, 45, 46, 47, 48, 49, 50, 51, 52, 53, 54, 55, 56, 57, 58, 59, 60, 61, 62, 63, 64, 65, 66, 67, 68, 69, 70, 71, 72, 73, 74, 75, 76, 77, 78, 79, 80, 81, 82, 83, 84, 85, 86, 87, 88, 89, 90, 91, 92, 93, 94, 95, 96, 97, 98, 99] (by decide +kernel) (by decide +kernel)
set_option maxRecDepth 20000 in
theorem gX10_judge_X10_lookNow : GoodIn wsX10_judge (wsV RX10 210 RX10 yX10_lookNow wsX10_lookNow) := goodIn_app (goodIn_of _ (by decide +kernel)) ggX10_judge_X10_lookNow
theorem dX10_judge_0 : decode cX10_judge 0 = .ok (.aload_n 0, 1) := by decide +kernel
theorem dX10_judge_1 : decode cX10_judge 1 = .ok (.invokevirtual 210, 3) := by decide +kernel
theorem dX10_judge_4 : decode cX10_judge 4 = .ok (.iconst 0, 1) := by decide +kernel
theorem dX10_judge_5 : decode cX10_judge 5 = .ok (.istore_n 1, 1) := by decide +kernel
theorem dX10_judge_6 : decode cX10_judge 6 = .ok (.iload_n 1, 1) := by decide +kernel
theorem dX10_judge_7 : decode cX10_judge 7 = .ok (.aload_n 0, 1) := by decide +kernel
theorem dX10_judge_8 : decode cX10_judge 8 = .ok (.getfield 169, 3) := by decide +kernel
theorem dX10_judge_11 : decode cX10_judge 11 = .ok (.if_icmp .ge 31, 3) := by decide +kernel
theorem dX10_judge_14 : decode cX10_judge 14 = .ok (.aload_n 0, 1) := by decide +kernel
theorem dX10_judge_15 : decode cX10_judge 15 = .ok (.getfield 53, 3) := by decide +kernel
theorem dX10_judge_18 : decode cX10_judge 18 = .ok (.aload_n 0, 1) := by decide +kernel
theorem dX10_judge_19 : decode cX10_judge 19 = .ok (.getfield 71, 3) := by decide +kernel
theorem dX10_judge_22 : decode cX10_judge 22 = .ok (.iload_n 1, 1) := by decide +kernel
theorem dX10_judge_23 : decode cX10_judge 23 = .ok (.iaload, 1) := by decide +kernel
theorem dX10_judge_24 : decode cX10_judge 24 = .ok (.iaload, 1) := by decide +kernel
theorem dX10_judge_25 : decode cX10_judge 25 = .ok (.aload_n 0, 1) := by decide +kernel
theorem dX10_judge_26 : decode cX10_judge 26 = .ok (.getfield 74, 3) := by decide +kernel
theorem dX10_judge_29 : decode cX10_judge 29 = .ok (.iload_n 1, 1) := by decide +kernel
theorem dX10_judge_30 : decode cX10_judge 30 = .ok (.iaload, 1) := by decide +kernel
theorem dX10_judge_31 : decode cX10_judge 31 = .ok (.if_icmp .eq 5, 3) := by decide +kernel
theorem dX10_judge_34 : decode cX10_judge 34 = .ok (.iload_n 1, 1) := by decide +kernel
theorem dX10_judge_35 : decode cX10_judge 35 = .ok (.ireturn, 1) := by decide +kernel
theorem dX10_judge_36 : decode cX10_judge 36 = .ok (.iinc 1 1, 3) := by decide +kernel
theorem dX10_judge_39 : decode cX10_judge 39 = .ok (.goto (-33), 3) := by decide +kernel
theorem dX10_judge_42 : decode cX10_judge 42 = .ok (.iconst (-1), 1) := by decide +kernel
theorem dX10_judge_43 : decode cX10_judge 43 = .ok (.ireturn, 1) := by decide +kernel
theorem dX10_seed_0 : decode cX10_seed 0 = .ok (.iload_n 1, 1) := by decide +kernel
theorem dX10_seed_1 : decode cX10_seed 1 = .ok (.ifCond .ge 6, 3) := by decide +kernel
theorem dX10_seed_4 : decode cX10_seed 4 = .ok (.ldc 106, 2) := by decide +kernel
theorem dX10_seed_6 : decode cX10_seed 6 = .ok (.ireturn, 1) := by decide +kernel
theorem dX10_seed_7 : decode cX10_seed 7 = .ok (.aload_n 0, 1) := by decide +kernel
theorem dX10_seed_8 : decode cX10_seed 8 = .ok (.getfield 251, 3) := by decide +kernel
theorem dX10_seed_11 : decode cX10_seed 11 = .ok (.istore_n 2, 1) := by decide +kernel
theorem dX10_seed_12 : decode cX10_seed 12 = .ok (.aload_n 0, 1) := by decide +kernel
theorem dX10_seed_13 : decode cX10_seed 13 = .ok (.iload_n 1, 1) := by decide +kernel
theorem dX10_seed_14 : decode cX10_seed 14 = .ok (.putfield 251, 3) := by decide +kernel
theorem dX10_seed_17 : decode cX10_seed 17 = .ok (.iload_n 2, 1) := by decide +kernel
theorem dX10_seed_18 : decode cX10_seed 18 = .ok (.ireturn, 1) := by decide +kernel
set_option maxRecDepth 20000 in
theorem ggX10_keep_X10_in : GoodIn wsX10_keep wsX10_in := goodIn_r _ [10] (by decide +kernel) (by decide +kernel)
set_option maxRecDepth 20000 in
theorem gX10_keep_X10_in : GoodIn wsX10_keep (va_wsS RX10 94 yX10_in wsX10_in) := goodIn_app (goodIn_of _ (by decide +kernel)) ggX10_keep_X10_in
theorem dX10_keep_0 : decode cX10_keep 0 = .ok (.iload_n 1, 1) := by decide +kernel
theorem dX10_keep_1 : decode cX10_keep 1 = .ok (.i2l, 1) := by decide +kernel
theorem dX10_keep_2 : decode cX10_keep 2 = .ok (.lconst 0, 1) := by decide +kernel
theorem dX10_keep_3 : decode cX10_keep 3 = .ok (.lconst 1, 1) := by decide +kernel
theorem dX10_keep_4 : decode cX10_keep 4 = .ok (.invokestatic 94, 3) := by decide +kernel
theorem dX10_keep_7 : decode cX10_keep 7 = .ok (.ifCond .ne 6, 3) := by decide +kernel
theorem dX10_keep_10 : decode cX10_keep 10 = .ok (.ldc 226, 2) := by decide +kernel
theorem dX10_keep_12 : decode cX10_keep 12 = .ok (.ireturn, 1) := by decide +kernel
theorem dX10_keep_13 : decode cX10_keep 13 = .ok (.iconst 0, 1) := by decide +kernel
theorem dX10_keep_14 : decode cX10_keep 14 = .ok (.istore_n 2, 1) := by decide +kernel
theorem dX10_keep_15 : decode cX10_keep 15 = .ok (.iload_n 2, 1) := by decide +kernel
theorem dX10_keep_16 : decode cX10_keep 16 = .ok (.bipush 37, 2) := by decide +kernel
theorem dX10_keep_18 : decode cX10_keep 18 = .ok (.if_icmp .ge 26, 3) := by decide +kernel
theorem dX10_keep_21 : decode cX10_keep 21 = .ok (.aload_n 0, 1) := by decide +kernel
theorem dX10_keep_22 : decode cX10_keep 22 = .ok (.getfield 77, 3) := by decide +kernel
theorem dX10_keep_25 : decode cX10_keep 25 = .ok (.bipush 38, 2) := by decide +kernel
theorem dX10_keep_27 : decode cX10_keep 27 = .ok (.iload_n 1, 1) := by decide +kernel
theorem dX10_keep_28 : decode cX10_keep 28 = .ok (.imul, 1) := by decide +kernel
theorem dX10_keep_29 : decode cX10_keep 29 = .ok (.iload_n 2, 1) := by decide +kernel
theorem dX10_keep_30 : decode cX10_keep 30 = .ok (.iadd, 1) := by decide +kernel
theorem dX10_keep_31 : decode cX10_keep 31 = .ok (.aload_n 0, 1) := by decide +kernel
theorem dX10_keep_32 : decode cX10_keep 32 = .ok (.getfield 22, 3) := by decide +kernel
theorem dX10_keep_35 : decode cX10_keep 35 = .ok (.iload_n 2, 1) := by decide +kernel
theorem dX10_keep_36 : decode cX10_keep 36 = .ok (.iaload, 1) := by decide +kernel
theorem dX10_keep_37 : decode cX10_keep 37 = .ok (.iastore, 1) := by decide +kernel
theorem dX10_keep_38 : decode cX10_keep 38 = .ok (.iinc 2 1, 3) := by decide +kernel
theorem dX10_keep_41 : decode cX10_keep 41 = .ok (.goto (-26), 3) := by decide +kernel
theorem dX10_keep_44 : decode cX10_keep 44 = .ok (.aload_n 0, 1) := by decide +kernel
theorem dX10_keep_45 : decode cX10_keep 45 = .ok (.getfield 77, 3) := by decide +kernel
theorem dX10_keep_48 : decode cX10_keep 48 = .ok (.bipush 38, 2) := by decide +kernel
theorem dX10_keep_50 : decode cX10_keep 50 = .ok (.iload_n 1, 1) := by decide +kernel
theorem dX10_keep_51 : decode cX10_keep 51 = .ok (.imul, 1) := by decide +kernel
theorem dX10_keep_52 : decode cX10_keep 52 = .ok (.bipush 37, 2) := by decide +kernel
theorem dX10_keep_54 : decode cX10_keep 54 = .ok (.iadd, 1) := by decide +kernel
theorem dX10_keep_55 : decode cX10_keep 55 = .ok (.aload_n 0, 1) := by decide +kernel
theorem dX10_keep_56 : decode cX10_keep 56 = .ok (.getfield 251, 3) := by decide +kernel
theorem dX10_keep_59 : decode cX10_keep 59 = .ok (.iastore, 1) := by decide +kernel
theorem dX10_keep_60 : decode cX10_keep 60 = .ok (.aload_n 0, 1) := by decide +kernel
theorem dX10_keep_61 : decode cX10_keep 61 = .ok (.getfield 80, 3) := by decide +kernel
theorem dX10_keep_64 : decode cX10_keep 64 = .ok (.iload_n 1, 1) := by decide +kernel
theorem dX10_keep_65 : decode cX10_keep 65 = .ok (.iconst 1, 1) := by decide +kernel
theorem dX10_keep_66 : decode cX10_keep 66 = .ok (.bastore, 1) := by decide +kernel
theorem dX10_keep_67 : decode cX10_keep 67 = .ok (.aload_n 0, 1) := by decide +kernel
theorem dX10_keep_68 : decode cX10_keep 68 = .ok (.iconst 0, 1) := by decide +kernel
theorem dX10_keep_69 : decode cX10_keep 69 = .ok (.putfield 172, 3) := by decide +kernel
theorem dX10_keep_72 : decode cX10_keep 72 = .ok (.iconst 1, 1) := by decide +kernel
theorem dX10_keep_73 : decode cX10_keep 73 = .ok (.ireturn, 1) := by decide +kernel
set_option maxRecDepth 20000 in
theorem ggX10_goBack_X10_in : GoodIn wsX10_goBack wsX10_in := goodIn_r _ [11] (by decide +kernel) (by decide +kernel)
set_option maxRecDepth 20000 in
theorem gX10_goBack_X10_in : GoodIn wsX10_goBack (va_wsS RX10 94 yX10_in wsX10_in) := goodIn_app (goodIn_of _ (by decide +kernel)) ggX10_goBack_X10_in
theorem dX10_goBack_0 : decode cX10_goBack 0 = .ok (.iload_n 1, 1) := by decide +kernel
theorem dX10_goBack_1 : decode cX10_goBack 1 = .ok (.i2l, 1) := by decide +kernel
theorem dX10_goBack_2 : decode cX10_goBack 2 = .ok (.lconst 0, 1) := by decide +kernel
theorem dX10_goBack_3 : decode cX10_goBack 3 = .ok (.lconst 1, 1) := by decide +kernel
theorem dX10_goBack_4 : decode cX10_goBack 4 = .ok (.invokestatic 94, 3) := by decide +kernel
theorem dX10_goBack_7 : decode cX10_goBack 7 = .ok (.ifCond .ne 6, 3) := by decide +kernel
theorem dX10_goBack_10 : decode cX10_goBack 10 = .ok (.ldc 226, 2) := by decide +kernel
theorem dX10_goBack_12 : decode cX10_goBack 12 = .ok (.ireturn, 1) := by decide +kernel
theorem dX10_goBack_13 : decode cX10_goBack 13 = .ok (.aload_n 0, 1) := by decide +kernel
theorem dX10_goBack_14 : decode cX10_goBack 14 = .ok (.getfield 80, 3) := by decide +kernel
theorem dX10_goBack_17 : decode cX10_goBack 17 = .ok (.iload_n 1, 1) := by decide +kernel
theorem dX10_goBack_18 : decode cX10_goBack 18 = .ok (.baload, 1) := by decide +kernel
theorem dX10_goBack_19 : decode cX10_goBack 19 = .ok (.ifCond .ne 6, 3) := by decide +kernel
theorem dX10_goBack_22 : decode cX10_goBack 22 = .ok (.ldc 247, 2) := by decide +kernel
theorem dX10_goBack_24 : decode cX10_goBack 24 = .ok (.ireturn, 1) := by decide +kernel
theorem dX10_goBack_25 : decode cX10_goBack 25 = .ok (.iconst 0, 1) := by decide +kernel
theorem dX10_goBack_26 : decode cX10_goBack 26 = .ok (.istore_n 2, 1) := by decide +kernel
theorem dX10_goBack_27 : decode cX10_goBack 27 = .ok (.iload_n 2, 1) := by decide +kernel
theorem dX10_goBack_28 : decode cX10_goBack 28 = .ok (.bipush 37, 2) := by decide +kernel
theorem dX10_goBack_30 : decode cX10_goBack 30 = .ok (.if_icmp .ge 26, 3) := by decide +kernel
theorem dX10_goBack_33 : decode cX10_goBack 33 = .ok (.aload_n 0, 1) := by decide +kernel
theorem dX10_goBack_34 : decode cX10_goBack 34 = .ok (.getfield 22, 3) := by decide +kernel
theorem dX10_goBack_37 : decode cX10_goBack 37 = .ok (.iload_n 2, 1) := by decide +kernel
theorem dX10_goBack_38 : decode cX10_goBack 38 = .ok (.aload_n 0, 1) := by decide +kernel
theorem dX10_goBack_39 : decode cX10_goBack 39 = .ok (.getfield 77, 3) := by decide +kernel
theorem dX10_goBack_42 : decode cX10_goBack 42 = .ok (.bipush 38, 2) := by decide +kernel
theorem dX10_goBack_44 : decode cX10_goBack 44 = .ok (.iload_n 1, 1) := by decide +kernel
theorem dX10_goBack_45 : decode cX10_goBack 45 = .ok (.imul, 1) := by decide +kernel
theorem dX10_goBack_46 : decode cX10_goBack 46 = .ok (.iload_n 2, 1) := by decide +kernel
theorem dX10_goBack_47 : decode cX10_goBack 47 = .ok (.iadd, 1) := by decide +kernel
theorem dX10_goBack_48 : decode cX10_goBack 48 = .ok (.iaload, 1) := by decide +kernel
theorem dX10_goBack_49 : decode cX10_goBack 49 = .ok (.iastore, 1) := by decide +kernel
theorem dX10_goBack_50 : decode cX10_goBack 50 = .ok (.iinc 2 1, 3) := by decide +kernel
theorem dX10_goBack_53 : decode cX10_goBack 53 = .ok (.goto (-26), 3) := by decide +kernel
theorem dX10_goBack_56 : decode cX10_goBack 56 = .ok (.aload_n 0, 1) := by decide +kernel
theorem dX10_goBack_57 : decode cX10_goBack 57 = .ok (.aload_n 0, 1) := by decide +kernel
theorem dX10_goBack_58 : decode cX10_goBack 58 = .ok (.getfield 77, 3) := by decide +kernel
theorem dX10_goBack_61 : decode cX10_goBack 61 = .ok (.bipush 38, 2) := by decide +kernel
theorem dX10_goBack_63 : decode cX10_goBack 63 = .ok (.iload_n 1, 1) := by decide +kernel
theorem dX10_goBack_64 : decode cX10_goBack 64 = .ok (.imul, 1) := by decide +kernel
theorem dX10_goBack_65 : decode cX10_goBack 65 = .ok (.bipush 37, 2) := by decide +kernel
theorem dX10_goBack_67 : decode cX10_goBack 67 = .ok (.iadd, 1) := by decide +kernel
theorem dX10_goBack_68 : decode cX10_goBack 68 = .ok (.iaload, 1) := by decide +kernel
theorem dX10_goBack_69 : decode cX10_goBack 69 = .ok (.putfield 251, 3) := by decide +kernel
theorem dX10_goBack_72 : decode cX10_goBack 72 = .ok (.aload_n 0, 1) := by decide +kernel
theorem dX10_goBack_73 : decode cX10_goBack 73 = .ok (.iconst 0, 1) := by decide +kernel
theorem dX10_goBack_74 : decode cX10_goBack 74 = .ok (.putfield 172, 3) := by decide +kernel
theorem dX10_goBack_77 : decode cX10_goBack 77 = .ok (.iconst 1, 1) := by decide +kernel
theorem dX10_goBack_78 : decode cX10_goBack 78 = .ok (.ireturn, 1) := by decide +kernel
