theorem dX0_init_0 : decode cX0_init 0 = .ok (.aload_n 0, 1) := by decide +kernel
theorem dX0_init_1 : decode cX0_init 1 = .ok (.invokespecial 3, 3) := by decide +kernel
theorem dX0_init_4 : decode cX0_init 4 = .ok (.aload_n 0, 1) := by decide +kernel
theorem dX0_init_5 : decode cX0_init 5 = .ok (.iconst 5, 1) := by decide +kernel
theorem dX0_init_6 : decode cX0_init 6 = .ok (.newarray .int, 2) := by decide +kernel
theorem dX0_init_8 : decode cX0_init 8 = .ok (.putfield 9, 3) := by decide +kernel
theorem dX0_init_11 : decode cX0_init 11 = .ok (.aload_n 0, 1) := by decide +kernel
theorem dX0_init_12 : decode cX0_init 12 = .ok (.iconst 5, 1) := by decide +kernel
theorem dX0_init_13 : decode cX0_init 13 = .ok (.newarray .int, 2) := by decide +kernel
theorem dX0_init_15 : decode cX0_init 15 = .ok (.putfield 15, 3) := by decide +kernel
theorem dX0_init_18 : decode cX0_init 18 = .ok (.aload_n 0, 1) := by decide +kernel
theorem dX0_init_19 : decode cX0_init 19 = .ok (.iconst (-1), 1) := by decide +kernel
theorem dX0_init_20 : decode cX0_init 20 = .ok (.putfield 18, 3) := by decide +kernel
theorem dX0_init_23 : decode cX0_init 23 = .ok (.return_, 1) := by decide +kernel
set_option maxRecDepth 20000 in
theorem ggX0_clear_J7_fill_53178 : GoodIn wsX0_clear wsJ7_fill_53178 := goodIn_r _ [8] (by decide +kernel) (by decide +kernel)
set_option maxRecDepth 20000 in
theorem gX0_clear_J7_fill_53178 : GoodIn wsX0_clear (va_wsS RX0 22 yJ7_fill_53178 wsJ7_fill_53178) := goodIn_app (goodIn_of _ (by decide +kernel)) ggX0_clear_J7_fill_53178
theorem dX0_clear_0 : decode cX0_clear 0 = .ok (.aload_n 0, 1) := by decide +kernel
theorem dX0_clear_1 : decode cX0_clear 1 = .ok (.getfield 9, 3) := by decide +kernel
theorem dX0_clear_4 : decode cX0_clear 4 = .ok (.iconst 0, 1) := by decide +kernel
theorem dX0_clear_5 : decode cX0_clear 5 = .ok (.invokestatic 22, 3) := by decide +kernel
theorem dX0_clear_8 : decode cX0_clear 8 = .ok (.aload_n 0, 1) := by decide +kernel
theorem dX0_clear_9 : decode cX0_clear 9 = .ok (.getfield 15, 3) := by decide +kernel
theorem dX0_clear_12 : decode cX0_clear 12 = .ok (.iconst 0, 1) := by decide +kernel
theorem dX0_clear_13 : decode cX0_clear 13 = .ok (.invokestatic 22, 3) := by decide +kernel
theorem dX0_clear_16 : decode cX0_clear 16 = .ok (.aload_n 0, 1) := by decide +kernel
theorem dX0_clear_17 : decode cX0_clear 17 = .ok (.iconst 0, 1) := by decide +kernel
theorem dX0_clear_18 : decode cX0_clear 18 = .ok (.putfield 28, 3) := by decide +kernel
theorem dX0_clear_21 : decode cX0_clear 21 = .ok (.aload_n 0, 1) := by decide +kernel
theorem dX0_clear_22 : decode cX0_clear 22 = .ok (.iconst (-1), 1) := by decide +kernel
theorem dX0_clear_23 : decode cX0_clear 23 = .ok (.putfield 18, 3) := by decide +kernel
theorem dX0_clear_26 : decode cX0_clear 26 = .ok (.return_, 1) := by decide +kernel
set_option maxRecDepth 20000 in
theorem ggX0_copy_X0_yesOf : GoodIn wsX0_copy wsX0_yesOf := goodIn_r _ [9, 1, 14, 15, 16, 17] (by decide +kernel) (by decide +kernel)
set_option maxRecDepth 20000 in
theorem gX0_copy_X0_yesOf : GoodIn wsX0_copy (wsV RX0 31 RX0 yX0_yesOf wsX0_yesOf) := goodIn_app (goodIn_of _ (by decide +kernel)) ggX0_copy_X0_yesOf
set_option maxRecDepth 20000 in
theorem ggX0_copy_X0_noOf : GoodIn wsX0_copy wsX0_noOf := goodIn_r _ [13, 2, 14, 15, 16, 17] (by decide +kernel) (by decide +kernel)
set_option maxRecDepth 20000 in
theorem gX0_copy_X0_noOf : GoodIn wsX0_copy (wsV RX0 35 RX0 yX0_noOf wsX0_noOf) := goodIn_app (goodIn_of _ (by decide +kernel)) ggX0_copy_X0_noOf
theorem dX0_copy_0 : decode cX0_copy 0 = .ok (.iconst 0, 1) := by decide +kernel
theorem dX0_copy_1 : decode cX0_copy 1 = .ok (.istore_n 2, 1) := by decide +kernel
theorem dX0_copy_2 : decode cX0_copy 2 = .ok (.iload_n 2, 1) := by decide +kernel
theorem dX0_copy_3 : decode cX0_copy 3 = .ok (.iconst 5, 1) := by decide +kernel
theorem dX0_copy_4 : decode cX0_copy 4 = .ok (.if_icmp .ge 31, 3) := by decide +kernel
theorem dX0_copy_7 : decode cX0_copy 7 = .ok (.aload_n 0, 1) := by decide +kernel
theorem dX0_copy_8 : decode cX0_copy 8 = .ok (.getfield 9, 3) := by decide +kernel
theorem dX0_copy_11 : decode cX0_copy 11 = .ok (.iload_n 2, 1) := by decide +kernel
theorem dX0_copy_12 : decode cX0_copy 12 = .ok (.aload_n 1, 1) := by decide +kernel
theorem dX0_copy_13 : decode cX0_copy 13 = .ok (.iload_n 2, 1) := by decide +kernel
theorem dX0_copy_14 : decode cX0_copy 14 = .ok (.invokevirtual 31, 3) := by decide +kernel
theorem dX0_copy_17 : decode cX0_copy 17 = .ok (.iastore, 1) := by decide +kernel
theorem dX0_copy_18 : decode cX0_copy 18 = .ok (.aload_n 0, 1) := by decide +kernel
theorem dX0_copy_19 : decode cX0_copy 19 = .ok (.getfield 15, 3) := by decide +kernel
theorem dX0_copy_22 : decode cX0_copy 22 = .ok (.iload_n 2, 1) := by decide +kernel
theorem dX0_copy_23 : decode cX0_copy 23 = .ok (.aload_n 1, 1) := by decide +kernel
theorem dX0_copy_24 : decode cX0_copy 24 = .ok (.iload_n 2, 1) := by decide +kernel
theorem dX0_copy_25 : decode cX0_copy 25 = .ok (.invokevirtual 35, 3) := by decide +kernel
theorem dX0_copy_28 : decode cX0_copy 28 = .ok (.iastore, 1) := by decide +kernel
theorem dX0_copy_29 : decode cX0_copy 29 = .ok (.iinc 2 1, 3) := by decide +kernel
theorem dX0_copy_32 : decode cX0_copy 32 = .ok (.goto (-30), 3) := by decide +kernel
theorem dX0_copy_35 : decode cX0_copy 35 = .ok (.aload_n 0, 1) := by decide +kernel
theorem dX0_copy_36 : decode cX0_copy 36 = .ok (.aload_n 1, 1) := by decide +kernel
theorem dX0_copy_37 : decode cX0_copy 37 = .ok (.getfield 28, 3) := by decide +kernel
theorem dX0_copy_40 : decode cX0_copy 40 = .ok (.putfield 28, 3) := by decide +kernel
theorem dX0_copy_43 : decode cX0_copy 43 = .ok (.aload_n 0, 1) := by decide +kernel
theorem dX0_copy_44 : decode cX0_copy 44 = .ok (.aload_n 1, 1) := by decide +kernel
theorem dX0_copy_45 : decode cX0_copy 45 = .ok (.getfield 18, 3) := by decide +kernel
theorem dX0_copy_48 : decode cX0_copy 48 = .ok (.putfield 18, 3) := by decide +kernel
theorem dX0_copy_51 : decode cX0_copy 51 = .ok (.return_, 1) := by decide +kernel
theorem dX0_put_0 : decode cX0_put 0 = .ok (.iload_n 2, 1) := by decide +kernel
theorem dX0_put_1 : decode cX0_put 1 = .ok (.ifCond .lt 18, 3) := by decide +kernel
theorem dX0_put_4 : decode cX0_put 4 = .ok (.iload_n 2, 1) := by decide +kernel
theorem dX0_put_5 : decode cX0_put 5 = .ok (.iconst 5, 1) := by decide +kernel
theorem dX0_put_6 : decode cX0_put 6 = .ok (.if_icmp .ge 13, 3) := by decide +kernel
theorem dX0_put_9 : decode cX0_put 9 = .ok (.iload_n 1, 1) := by decide +kernel
theorem dX0_put_10 : decode cX0_put 10 = .ok (.ifCond .lt 9, 3) := by decide +kernel
theorem dX0_put_13 : decode cX0_put 13 = .ok (.iload_n 1, 1) := by decide +kernel
theorem dX0_put_14 : decode cX0_put 14 = .ok (.bipush 7, 2) := by decide +kernel
theorem dX0_put_16 : decode cX0_put 16 = .ok (.if_icmp .lt 4, 3) := by decide +kernel
theorem dX0_put_19 : decode cX0_put 19 = .ok (.return_, 1) := by decide +kernel
theorem dX0_put_20 : decode cX0_put 20 = .ok (.iconst 1, 1) := by decide +kernel
theorem dX0_put_21 : decode cX0_put 21 = .ok (.iload_n 1, 1) := by decide +kernel
theorem dX0_put_22 : decode cX0_put 22 = .ok (.ishl, 1) := by decide +kernel
theorem dX0_put_23 : decode cX0_put 23 = .ok (.istore 4, 2) := by decide +kernel
theorem dX0_put_25 : decode cX0_put 25 = .ok (.aload_n 0, 1) := by decide +kernel
theorem dX0_put_26 : decode cX0_put 26 = .ok (.getfield 9, 3) := by decide +kernel
theorem dX0_put_29 : decode cX0_put 29 = .ok (.iload_n 2, 1) := by decide +kernel
theorem dX0_put_30 : decode cX0_put 30 = .ok (.iload_n 3, 1) := by decide +kernel
theorem dX0_put_31 : decode cX0_put 31 = .ok (.iconst 1, 1) := by decide +kernel
theorem dX0_put_32 : decode cX0_put 32 = .ok (.if_icmp .ne 15, 3) := by decide +kernel
theorem dX0_put_35 : decode cX0_put 35 = .ok (.aload_n 0, 1) := by decide +kernel
theorem dX0_put_36 : decode cX0_put 36 = .ok (.getfield 9, 3) := by decide +kernel
theorem dX0_put_39 : decode cX0_put 39 = .ok (.iload_n 2, 1) := by decide +kernel
theorem dX0_put_40 : decode cX0_put 40 = .ok (.iaload, 1) := by decide +kernel
theorem dX0_put_41 : decode cX0_put 41 = .ok (.iload 4, 2) := by decide +kernel
theorem dX0_put_43 : decode cX0_put 43 = .ok (.ior, 1) := by decide +kernel
theorem dX0_put_44 : decode cX0_put 44 = .ok (.goto 14, 3) := by decide +kernel
theorem dX0_put_47 : decode cX0_put 47 = .ok (.aload_n 0, 1) := by decide +kernel
theorem dX0_put_48 : decode cX0_put 48 = .ok (.getfield 9, 3) := by decide +kernel
theorem dX0_put_51 : decode cX0_put 51 = .ok (.iload_n 2, 1) := by decide +kernel
theorem dX0_put_52 : decode cX0_put 52 = .ok (.iaload, 1) := by decide +kernel
theorem dX0_put_53 : decode cX0_put 53 = .ok (.iload 4, 2) := by decide +kernel
theorem dX0_put_55 : decode cX0_put 55 = .ok (.iconst (-1), 1) := by decide +kernel
theorem dX0_put_56 : decode cX0_put 56 = .ok (.ixor, 1) := by decide +kernel
theorem dX0_put_57 : decode cX0_put 57 = .ok (.iand, 1) := by decide +kernel
theorem dX0_put_58 : decode cX0_put 58 = .ok (.iastore, 1) := by decide +kernel
theorem dX0_put_59 : decode cX0_put 59 = .ok (.aload_n 0, 1) := by decide +kernel
theorem dX0_put_60 : decode cX0_put 60 = .ok (.getfield 15, 3) := by decide +kernel
theorem dX0_put_63 : decode cX0_put 63 = .ok (.iload_n 2, 1) := by decide +kernel
theorem dX0_put_64 : decode cX0_put 64 = .ok (.iload_n 3, 1) := by decide +kernel
theorem dX0_put_65 : decode cX0_put 65 = .ok (.ifCond .ne 15, 3) := by decide +kernel
theorem dX0_put_68 : decode cX0_put 68 = .ok (.aload_n 0, 1) := by decide +kernel
theorem dX0_put_69 : decode cX0_put 69 = .ok (.getfield 15, 3) := by decide +kernel
theorem dX0_put_72 : decode cX0_put 72 = .ok (.iload_n 2, 1) := by decide +kernel
theorem dX0_put_73 : decode cX0_put 73 = .ok (.iaload, 1) := by decide +kernel
theorem dX0_put_74 : decode cX0_put 74 = .ok (.iload 4, 2) := by decide +kernel
theorem dX0_put_76 : decode cX0_put 76 = .ok (.ior, 1) := by decide +kernel
theorem dX0_put_77 : decode cX0_put 77 = .ok (.goto 14, 3) := by decide +kernel
theorem dX0_put_80 : decode cX0_put 80 = .ok (.aload_n 0, 1) := by decide +kernel
theorem dX0_put_81 : decode cX0_put 81 = .ok (.getfield 15, 3) := by decide +kernel
theorem dX0_put_84 : decode cX0_put 84 = .ok (.iload_n 2, 1) := by decide +kernel
theorem dX0_put_85 : decode cX0_put 85 = .ok (.iaload, 1) := by decide +kernel
theorem dX0_put_86 : decode cX0_put 86 = .ok (.iload 4, 2) := by decide +kernel
theorem dX0_put_88 : decode cX0_put 88 = .ok (.iconst (-1), 1) := by decide +kernel
theorem dX0_put_89 : decode cX0_put 89 = .ok (.ixor, 1) := by decide +kernel
theorem dX0_put_90 : decode cX0_put 90 = .ok (.iand, 1) := by decide +kernel
theorem dX0_put_91 : decode cX0_put 91 = .ok (.iastore, 1) := by decide +kernel
theorem dX0_put_92 : decode cX0_put 92 = .ok (.return_, 1) := by decide +kernel
theorem dX0_yesOf_0 : decode cX0_yesOf 0 = .ok (.iload_n 1, 1) := by decide +kernel
theorem dX0_yesOf_1 : decode cX0_yesOf 1 = .ok (.ifCond .lt 21, 3) := by decide +kernel
theorem dX0_yesOf_4 : decode cX0_yesOf 4 = .ok (.iload_n 1, 1) := by decide +kernel
theorem dX0_yesOf_5 : decode cX0_yesOf 5 = .ok (.aload_n 0, 1) := by decide +kernel
theorem dX0_yesOf_6 : decode cX0_yesOf 6 = .ok (.getfield 9, 3) := by decide +kernel
theorem dX0_yesOf_9 : decode cX0_yesOf 9 = .ok (.arraylength, 1) := by decide +kernel
theorem dX0_yesOf_10 : decode cX0_yesOf 10 = .ok (.if_icmp .ge 12, 3) := by decide +kernel
theorem dX0_yesOf_13 : decode cX0_yesOf 13 = .ok (.aload_n 0, 1) := by decide +kernel
theorem dX0_yesOf_14 : decode cX0_yesOf 14 = .ok (.getfield 9, 3) := by decide +kernel
theorem dX0_yesOf_17 : decode cX0_yesOf 17 = .ok (.iload_n 1, 1) := by decide +kernel
theorem dX0_yesOf_18 : decode cX0_yesOf 18 = .ok (.iaload, 1) := by decide +kernel
theorem dX0_yesOf_19 : decode cX0_yesOf 19 = .ok (.goto 4, 3) := by decide +kernel
theorem dX0_yesOf_22 : decode cX0_yesOf 22 = .ok (.iconst 0, 1) := by decide +kernel
theorem dX0_yesOf_23 : decode cX0_yesOf 23 = .ok (.ireturn, 1) := by decide +kernel
theorem dX0_noOf_0 : decode cX0_noOf 0 = .ok (.iload_n 1, 1) := by decide +kernel
theorem dX0_noOf_1 : decode cX0_noOf 1 = .ok (.ifCond .lt 21, 3) := by decide +kernel
theorem dX0_noOf_4 : decode cX0_noOf 4 = .ok (.iload_n 1, 1) := by decide +kernel
theorem dX0_noOf_5 : decode cX0_noOf 5 = .ok (.aload_n 0, 1) := by decide +kernel
theorem dX0_noOf_6 : decode cX0_noOf 6 = .ok (.getfield 15, 3) := by decide +kernel
theorem dX0_noOf_9 : decode cX0_noOf 9 = .ok (.arraylength, 1) := by decide +kernel
theorem dX0_noOf_10 : decode cX0_noOf 10 = .ok (.if_icmp .ge 12, 3) := by decide +kernel
theorem dX0_noOf_13 : decode cX0_noOf 13 = .ok (.aload_n 0, 1) := by decide +kernel
theorem dX0_noOf_14 : decode cX0_noOf 14 = .ok (.getfield 15, 3) := by decide +kernel
theorem dX0_noOf_17 : decode cX0_noOf 17 = .ok (.iload_n 1, 1) := by decide +kernel
theorem dX0_noOf_18 : decode cX0_noOf 18 = .ok (.iaload, 1) := by decide +kernel
theorem dX0_noOf_19 : decode cX0_noOf 19 = .ok (.goto 4, 3) := by decide +kernel
theorem dX0_noOf_22 : decode cX0_noOf 22 = .ok (.iconst 0, 1) := by decide +kernel
theorem dX0_noOf_23 : decode cX0_noOf 23 = .ok (.ireturn, 1) := by decide +kernel
set_option maxRecDepth 20000 in
theorem ggX0_howOf_X0_yesOf : GoodIn wsX0_howOf wsX0_yesOf := goodIn_r _ [5, 6, 12, 13, 14, 15] (by decide +kernel) (by decide +kernel)
set_option maxRecDepth 20000 in
theorem gX0_howOf_X0_yesOf : GoodIn wsX0_howOf (wsV RX0 31 RX0 yX0_yesOf wsX0_yesOf) := goodIn_app (goodIn_of _ (by decide +kernel)) ggX0_howOf_X0_yesOf
set_option maxRecDepth 20000 in
theorem ggX0_howOf_X0_noOf : GoodIn wsX0_howOf wsX0_noOf := goodIn_r _ [10, 11, 12, 13, 14, 15] (by decide +kernel) (by decide +kernel)
set_option maxRecDepth 20000 in
theorem gX0_howOf_X0_noOf : GoodIn wsX0_howOf (wsV RX0 35 RX0 yX0_noOf wsX0_noOf) := goodIn_app (goodIn_of _ (by decide +kernel)) ggX0_howOf_X0_noOf
theorem dX0_howOf_0 : decode cX0_howOf 0 = .ok (.aload_n 0, 1) := by decide +kernel
theorem dX0_howOf_1 : decode cX0_howOf 1 = .ok (.iload_n 2, 1) := by decide +kernel
theorem dX0_howOf_2 : decode cX0_howOf 2 = .ok (.invokevirtual 31, 3) := by decide +kernel
theorem dX0_howOf_5 : decode cX0_howOf 5 = .ok (.iload_n 1, 1) := by decide +kernel
theorem dX0_howOf_6 : decode cX0_howOf 6 = .ok (.ishr, 1) := by decide +kernel
theorem dX0_howOf_7 : decode cX0_howOf 7 = .ok (.iconst 1, 1) := by decide +kernel
theorem dX0_howOf_8 : decode cX0_howOf 8 = .ok (.iand, 1) := by decide +kernel
theorem dX0_howOf_9 : decode cX0_howOf 9 = .ok (.ifCond .eq 5, 3) := by decide +kernel
theorem dX0_howOf_12 : decode cX0_howOf 12 = .ok (.iconst 1, 1) := by decide +kernel
theorem dX0_howOf_13 : decode cX0_howOf 13 = .ok (.ireturn, 1) := by decide +kernel
theorem dX0_howOf_14 : decode cX0_howOf 14 = .ok (.aload_n 0, 1) := by decide +kernel
theorem dX0_howOf_15 : decode cX0_howOf 15 = .ok (.iload_n 2, 1) := by decide +kernel
theorem dX0_howOf_16 : decode cX0_howOf 16 = .ok (.invokevirtual 35, 3) := by decide +kernel
theorem dX0_howOf_19 : decode cX0_howOf 19 = .ok (.iload_n 1, 1) := by decide +kernel
theorem dX0_howOf_20 : decode cX0_howOf 20 = .ok (.ishr, 1) := by decide +kernel
theorem dX0_howOf_21 : decode cX0_howOf 21 = .ok (.iconst 1, 1) := by decide +kernel
theorem dX0_howOf_22 : decode cX0_howOf 22 = .ok (.iand, 1) := by decide +kernel
theorem dX0_howOf_23 : decode cX0_howOf 23 = .ok (.ifCond .eq 7, 3) := by decide +kernel
theorem dX0_howOf_26 : decode cX0_howOf 26 = .ok (.iconst 0, 1) := by decide +kernel
theorem dX0_howOf_27 : decode cX0_howOf 27 = .ok (.goto 4, 3) := by decide +kernel
theorem dX0_howOf_30 : decode cX0_howOf 30 = .ok (.iconst 2, 1) := by decide +kernel
theorem dX0_howOf_31 : decode cX0_howOf 31 = .ok (.ireturn, 1) := by decide +kernel
set_option maxRecDepth 20000 in
theorem ggX0_leadOf_X0_yesOf : GoodIn wsX0_leadOf wsX0_yesOf := goodIn_r _ [5, 6, 19, 20, 21, 22] (by decide +kernel) (by decide +kernel)
set_option maxRecDepth 20000 in
theorem gX0_leadOf_X0_yesOf : GoodIn wsX0_leadOf (wsV RX0 31 RX0 yX0_yesOf wsX0_yesOf) := goodIn_app (goodIn_of _ (by decide +kernel)) ggX0_leadOf_X0_yesOf
set_option maxRecDepth 20000 in
theorem ggX0_leadOf_J6_bitCount_0f7a4 : GoodIn wsX0_leadOf wsJ6_bitCount_0f7a4 := goodIn_r _ [10, 11, 12, 13] (by decide +kernel) (by decide +kernel)
set_option maxRecDepth 20000 in
theorem gX0_leadOf_J6_bitCount_0f7a4 : GoodIn wsX0_leadOf (va_wsS RX0 38 yJ6_bitCount_0f7a4 wsJ6_bitCount_0f7a4) := goodIn_app (goodIn_of _ (by decide +kernel)) ggX0_leadOf_J6_bitCount_0f7a4
set_option maxRecDepth 20000 in
theorem ggX0_leadOf_X0_noOf : GoodIn wsX0_leadOf wsX0_noOf := goodIn_r _ [17, 18, 19, 20, 21, 22] (by decide +kernel) (by decide +kernel)
set_option maxRecDepth 20000 in
theorem gX0_leadOf_X0_noOf : GoodIn wsX0_leadOf (wsV RX0 35 RX0 yX0_noOf wsX0_noOf) := goodIn_app (goodIn_of _ (by decide +kernel)) ggX0_leadOf_X0_noOf
theorem dX0_leadOf_0 : decode cX0_leadOf 0 = .ok (.aload_n 0, 1) := by decide +kernel
theorem dX0_leadOf_1 : decode cX0_leadOf 1 = .ok (.iload_n 1, 1) := by decide +kernel
theorem dX0_leadOf_2 : decode cX0_leadOf 2 = .ok (.invokevirtual 31, 3) := by decide +kernel
theorem dX0_leadOf_5 : decode cX0_leadOf 5 = .ok (.invokestatic 38, 3) := by decide +kernel
theorem dX0_leadOf_8 : decode cX0_leadOf 8 = .ok (.aload_n 0, 1) := by decide +kernel
theorem dX0_leadOf_9 : decode cX0_leadOf 9 = .ok (.iload_n 1, 1) := by decide +kernel
theorem dX0_leadOf_10 : decode cX0_leadOf 10 = .ok (.invokevirtual 35, 3) := by decide +kernel
theorem dX0_leadOf_13 : decode cX0_leadOf 13 = .ok (.invokestatic 38, 3) := by decide +kernel
theorem dX0_leadOf_16 : decode cX0_leadOf 16 = .ok (.isub, 1) := by decide +kernel
theorem dX0_leadOf_17 : decode cX0_leadOf 17 = .ok (.ireturn, 1) := by decide +kernel
set_option maxRecDepth 20000 in
theorem ggX0_standOf_X0_leadOf : GoodIn wsX0_standOf wsX0_leadOf := goodIn_r _ [5, 6, 7, 8, 4, 9, 10, 11, 12, 13, 14, 15, 16, 17, 18, 19, 20, 21, 22, 26, 27, 28, 29] (by decide +kernel) (by decide +kernel)
set_option maxRecDepth 20000 in
theorem gX0_standOf_X0_leadOf : GoodIn wsX0_standOf (wsV RX0 43 RX0 yX0_leadOf wsX0_leadOf) := goodIn_app (goodIn_of _ (by decide +kernel)) ggX0_standOf_X0_leadOf
set_option maxRecDepth 20000 in
theorem ggX0_standOf_X9_standBy : GoodIn wsX0_standOf wsX9_standBy := goodIn_r _ [25] (by decide +kernel) (by decide +kernel)
set_option maxRecDepth 20000 in
theorem gX0_standOf_X9_standBy_n46 : GoodIn wsX0_standOf (wsX9_standBy) := ggX0_standOf_X9_standBy
theorem dX0_standOf_0 : decode cX0_standOf 0 = .ok (.aload_n 0, 1) := by decide +kernel
theorem dX0_standOf_1 : decode cX0_standOf 1 = .ok (.iload_n 1, 1) := by decide +kernel
theorem dX0_standOf_2 : decode cX0_standOf 2 = .ok (.invokevirtual 43, 3) := by decide +kernel
theorem dX0_standOf_5 : decode cX0_standOf 5 = .ok (.invokestatic 46, 3) := by decide +kernel
theorem dX0_standOf_8 : decode cX0_standOf 8 = .ok (.ireturn, 1) := by decide +kernel
theorem dX1_init_0 : decode cX1_init 0 = .ok (.aload_n 0, 1) := by decide +kernel
theorem dX1_init_1 : decode cX1_init 1 = .ok (.invokespecial 3, 3) := by decide +kernel
theorem dX1_init_4 : decode cX1_init 4 = .ok (.return_, 1) := by decide +kernel
theorem dX1_next_0 : decode cX1_next 0 = .ok (.aload_n 0, 1) := by decide +kernel
theorem dX1_next_1 : decode cX1_next 1 = .ok (.aload_n 0, 1) := by decide +kernel
theorem dX1_next_2 : decode cX1_next 2 = .ok (.getfield 9, 3) := by decide +kernel
theorem dX1_next_5 : decode cX1_next 5 = .ok (.i2l, 1) := by decide +kernel
theorem dX1_next_6 : decode cX1_next 6 = .ok (.ldc2_w 15, 3) := by decide +kernel
theorem dX1_next_9 : decode cX1_next 9 = .ok (.lmul, 1) := by decide +kernel
theorem dX1_next_10 : decode cX1_next 10 = .ok (.ldc2_w 17, 3) := by decide +kernel
theorem dX1_next_13 : decode cX1_next 13 = .ok (.ladd, 1) := by decide +kernel
theorem dX1_next_14 : decode cX1_next 14 = .ok (.ldc2_w 19, 3) := by decide +kernel
theorem dX1_next_17 : decode cX1_next 17 = .ok (.land, 1) := by decide +kernel
theorem dX1_next_18 : decode cX1_next 18 = .ok (.l2i, 1) := by decide +kernel
theorem dX1_next_19 : decode cX1_next 19 = .ok (.putfield 9, 3) := by decide +kernel
theorem dX1_next_22 : decode cX1_next 22 = .ok (.iload_n 1, 1) := by decide +kernel
theorem dX1_next_23 : decode cX1_next 23 = .ok (.ifCond .le 15, 3) := by decide +kernel
theorem dX1_next_26 : decode cX1_next 26 = .ok (.aload_n 0, 1) := by decide +kernel
theorem dX1_next_27 : decode cX1_next 27 = .ok (.getfield 9, 3) := by decide +kernel
theorem dX1_next_30 : decode cX1_next 30 = .ok (.ldc 21, 2) := by decide +kernel
theorem dX1_next_32 : decode cX1_next 32 = .ok (.idiv, 1) := by decide +kernel
theorem dX1_next_33 : decode cX1_next 33 = .ok (.iload_n 1, 1) := by decide +kernel
theorem dX1_next_34 : decode cX1_next 34 = .ok (.irem, 1) := by decide +kernel
theorem dX1_next_35 : decode cX1_next 35 = .ok (.goto 4, 3) := by decide +kernel
theorem dX1_next_38 : decode cX1_next 38 = .ok (.iconst 0, 1) := by decide +kernel
theorem dX1_next_39 : decode cX1_next 39 = .ok (.ireturn, 1) := by decide +kernel
theorem dX2_init_0 : decode cX2_init 0 = .ok (.aload_n 0, 1) := by decide +kernel
theorem dX2_init_1 : decode cX2_init 1 = .ok (.invokespecial 3, 3) := by decide +kernel
theorem dX2_init_4 : decode cX2_init 4 = .ok (.aload_n 0, 1) := by decide +kernel
theorem dX2_init_5 : decode cX2_init 5 = .ok (.bipush 20, 2) := by decide +kernel
theorem dX2_init_7 : decode cX2_init 7 = .ok (.newarray .int, 2) := by decide +kernel
theorem dX2_init_9 : decode cX2_init 9 = .ok (.putfield 9, 3) := by decide +kernel
theorem dX2_init_12 : decode cX2_init 12 = .ok (.aload_n 0, 1) := by decide +kernel
theorem dX2_init_13 : decode cX2_init 13 = .ok (.bipush 20, 2) := by decide +kernel
theorem dX2_init_15 : decode cX2_init 15 = .ok (.newarray .int, 2) := by decide +kernel
theorem dX2_init_17 : decode cX2_init 17 = .ok (.putfield 15, 3) := by decide +kernel
theorem dX2_init_20 : decode cX2_init 20 = .ok (.aload_n 0, 1) := by decide +kernel
theorem dX2_init_21 : decode cX2_init 21 = .ok (.bipush 20, 2) := by decide +kernel
theorem dX2_init_23 : decode cX2_init 23 = .ok (.newarray .int, 2) := by decide +kernel
theorem dX2_init_25 : decode cX2_init 25 = .ok (.putfield 18, 3) := by decide +kernel
theorem dX2_init_28 : decode cX2_init 28 = .ok (.return_, 1) := by decide +kernel
set_option maxRecDepth 20000 in
theorem ggX2_shape_X4_ownHeight : GoodIn wsX2_shape wsX4_ownHeight := goodIn_r _ [17, 18, 19, 55, 56, 57, 58, 59, 60, 61, 62, 63, 64, 65] (by decide +kernel) (by decide +kernel)
set_option maxRecDepth 20000 in
theorem gX2_shape_X4_ownHeight : GoodIn wsX2_shape (wsV RX2 38 RX4 yX4_ownHeight wsX4_ownHeight) := goodIn_app (goodIn_of _ (by decide +kernel)) ggX2_shape_X4_ownHeight
set_option maxRecDepth 20000 in
theorem ggX2_shape_X8_standOf : GoodIn wsX2_shape wsX8_standOf := goodIn_r _ [24, 25, 26, 71, 72] (by decide +kernel) (by decide +kernel)
set_option maxRecDepth 20000 in
theorem gX2_shape_X8_standOf : GoodIn wsX2_shape (wsV RX2 45 RX8 yX8_standOf wsX8_standOf) := goodIn_app (goodIn_of _ (by decide +kernel)) ggX2_shape_X8_standOf
set_option maxRecDepth 20000 in
theorem ggX2_shape_X2_lay : GoodIn wsX2_shape wsX2_lay := goodIn_r _ [31, 32, 33, 4, 34, 6, 9, 10, 35, 36, 37, 16, 38, 39, 40, 41, 42, 43, 44, 45, 46, 47, 48, 49, 50, 51, 52, 53, 54, 66, 67, 68, 69, 70, 55, 56, 57, 58, 59, 60, 61, 62, 63, 64, 65] (by decide +kernel) (by decide +kernel)
set_option maxRecDepth 20000 in
theorem gX2_shape_X2_lay : GoodIn wsX2_shape (wsV RX2 50 RX2 yX2_lay wsX2_lay) := goodIn_app (goodIn_of _ (by decide +kernel)) ggX2_shape_X2_lay
theorem dX2_shape_0 : decode cX2_shape 0 = .ok (.aload_n 0, 1) := by decide +kernel
theorem dX2_shape_1 : decode cX2_shape 1 = .ok (.aload_n 1, 1) := by decide +kernel
theorem dX2_shape_2 : decode cX2_shape 2 = .ok (.getfield 21, 3) := by decide +kernel
theorem dX2_shape_5 : decode cX2_shape 5 = .ok (.bipush 20, 2) := by decide +kernel
theorem dX2_shape_7 : decode cX2_shape 7 = .ok (.invokestatic 27, 3) := by decide +kernel
theorem dX2_shape_10 : decode cX2_shape 10 = .ok (.putfield 33, 3) := by decide +kernel
theorem dX2_shape_13 : decode cX2_shape 13 = .ok (.aload_n 0, 1) := by decide +kernel
theorem dX2_shape_14 : decode cX2_shape 14 = .ok (.aload_n 1, 1) := by decide +kernel
theorem dX2_shape_15 : decode cX2_shape 15 = .ok (.getfield 34, 3) := by decide +kernel
theorem dX2_shape_18 : decode cX2_shape 18 = .ok (.putfield 37, 3) := by decide +kernel
theorem dX2_shape_21 : decode cX2_shape 21 = .ok (.iconst 0, 1) := by decide +kernel
theorem dX2_shape_22 : decode cX2_shape 22 = .ok (.istore_n 3, 1) := by decide +kernel
theorem dX2_shape_23 : decode cX2_shape 23 = .ok (.iload_n 3, 1) := by decide +kernel
theorem dX2_shape_24 : decode cX2_shape 24 = .ok (.aload_n 0, 1) := by decide +kernel
theorem dX2_shape_25 : decode cX2_shape 25 = .ok (.getfield 33, 3) := by decide +kernel
theorem dX2_shape_28 : decode cX2_shape 28 = .ok (.if_icmp .ge 34, 3) := by decide +kernel
theorem dX2_shape_31 : decode cX2_shape 31 = .ok (.aload_n 0, 1) := by decide +kernel
theorem dX2_shape_32 : decode cX2_shape 32 = .ok (.getfield 9, 3) := by decide +kernel
theorem dX2_shape_35 : decode cX2_shape 35 = .ok (.iload_n 3, 1) := by decide +kernel
theorem dX2_shape_36 : decode cX2_shape 36 = .ok (.aload_n 1, 1) := by decide +kernel
theorem dX2_shape_37 : decode cX2_shape 37 = .ok (.iload_n 3, 1) := by decide +kernel
theorem dX2_shape_38 : decode cX2_shape 38 = .ok (.invokevirtual 38, 3) := by decide +kernel
theorem dX2_shape_41 : decode cX2_shape 41 = .ok (.iastore, 1) := by decide +kernel
theorem dX2_shape_42 : decode cX2_shape 42 = .ok (.aload_n 0, 1) := by decide +kernel
theorem dX2_shape_43 : decode cX2_shape 43 = .ok (.getfield 15, 3) := by decide +kernel
theorem dX2_shape_46 : decode cX2_shape 46 = .ok (.iload_n 3, 1) := by decide +kernel
theorem dX2_shape_47 : decode cX2_shape 47 = .ok (.iconst (-1), 1) := by decide +kernel
theorem dX2_shape_48 : decode cX2_shape 48 = .ok (.iastore, 1) := by decide +kernel
theorem dX2_shape_49 : decode cX2_shape 49 = .ok (.aload_n 0, 1) := by decide +kernel
theorem dX2_shape_50 : decode cX2_shape 50 = .ok (.getfield 18, 3) := by decide +kernel
theorem dX2_shape_53 : decode cX2_shape 53 = .ok (.iload_n 3, 1) := by decide +kernel
theorem dX2_shape_54 : decode cX2_shape 54 = .ok (.iconst (-1), 1) := by decide +kernel
theorem dX2_shape_55 : decode cX2_shape 55 = .ok (.iastore, 1) := by decide +kernel
theorem dX2_shape_56 : decode cX2_shape 56 = .ok (.iinc 3 1, 3) := by decide +kernel
theorem dX2_shape_59 : decode cX2_shape 59 = .ok (.goto (-36), 3) := by decide +kernel
theorem dX2_shape_62 : decode cX2_shape 62 = .ok (.iconst 0, 1) := by decide +kernel
theorem dX2_shape_63 : decode cX2_shape 63 = .ok (.istore_n 3, 1) := by decide +kernel
theorem dX2_shape_64 : decode cX2_shape 64 = .ok (.iload_n 3, 1) := by decide +kernel
theorem dX2_shape_65 : decode cX2_shape 65 = .ok (.aload_n 1, 1) := by decide +kernel
theorem dX2_shape_66 : decode cX2_shape 66 = .ok (.getfield 42, 3) := by decide +kernel
theorem dX2_shape_69 : decode cX2_shape 69 = .ok (.if_icmp .ge 37, 3) := by decide +kernel
theorem dX2_shape_72 : decode cX2_shape 72 = .ok (.aload_n 2, 1) := by decide +kernel
theorem dX2_shape_73 : decode cX2_shape 73 = .ok (.iload_n 3, 1) := by decide +kernel
theorem dX2_shape_74 : decode cX2_shape 74 = .ok (.invokevirtual 45, 3) := by decide +kernel
theorem dX2_shape_77 : decode cX2_shape 77 = .ok (.ifCond .eq 23, 3) := by decide +kernel
theorem dX2_shape_80 : decode cX2_shape 80 = .ok (.aload_n 0, 1) := by decide +kernel
theorem dX2_shape_81 : decode cX2_shape 81 = .ok (.aload_n 1, 1) := by decide +kernel
theorem dX2_shape_82 : decode cX2_shape 82 = .ok (.iload_n 3, 1) := by decide +kernel
theorem dX2_shape_83 : decode cX2_shape 83 = .ok (.aload_n 2, 1) := by decide +kernel
theorem dX2_shape_84 : decode cX2_shape 84 = .ok (.iload_n 3, 1) := by decide +kernel
theorem dX2_shape_85 : decode cX2_shape 85 = .ok (.invokevirtual 45, 3) := by decide +kernel
theorem dX2_shape_88 : decode cX2_shape 88 = .ok (.iconst 1, 1) := by decide +kernel
theorem dX2_shape_89 : decode cX2_shape 89 = .ok (.if_icmp .ne 7, 3) := by decide +kernel
theorem dX2_shape_92 : decode cX2_shape 92 = .ok (.iconst 1, 1) := by decide +kernel
theorem dX2_shape_93 : decode cX2_shape 93 = .ok (.goto 4, 3) := by decide +kernel
theorem dX2_shape_96 : decode cX2_shape 96 = .ok (.iconst 0, 1) := by decide +kernel
theorem dX2_shape_97 : decode cX2_shape 97 = .ok (.invokevirtual 50, 3) := by decide +kernel
theorem dX2_shape_100 : decode cX2_shape 100 = .ok (.iinc 3 1, 3) := by decide +kernel
theorem dX2_shape_103 : decode cX2_shape 103 = .ok (.goto (-39), 3) := by decide +kernel
theorem dX2_shape_106 : decode cX2_shape 106 = .ok (.return_, 1) := by decide +kernel
set_option maxRecDepth 20000 in
theorem ggX2_lay_X4_cellsOf : GoodIn wsX2_lay wsX4_cellsOf := goodIn_r _ [12, 13, 34, 35, 36, 37, 38, 39, 40, 41, 42, 43, 44] (by decide +kernel) (by decide +kernel)
set_option maxRecDepth 20000 in
theorem gX2_lay_X4_cellsOf : GoodIn wsX2_lay (wsV RX2 54 RX4 yX4_cellsOf wsX4_cellsOf) := goodIn_app (goodIn_of _ (by decide +kernel)) ggX2_lay_X4_cellsOf
set_option maxRecDepth 20000 in
theorem ggX2_lay_X4_levelOf : GoodIn wsX2_lay wsX4_levelOf := goodIn_r _ [17, 18, 34, 35, 36, 37, 38, 39, 40, 41, 42, 43, 44] (by decide +kernel) (by decide +kernel)
set_option maxRecDepth 20000 in
theorem gX2_lay_X4_levelOf : GoodIn wsX2_lay (wsV RX2 57 RX4 yX4_levelOf wsX4_levelOf) := goodIn_app (goodIn_of _ (by decide +kernel)) ggX2_lay_X4_levelOf
set_option maxRecDepth 20000 in
theorem ggX2_lay_X4_firstColumnOf : GoodIn wsX2_lay wsX4_firstColumnOf := goodIn_r _ [22, 23, 34, 35, 36, 37, 38, 39, 40, 41, 42, 43, 44] (by decide +kernel) (by decide +kernel)
set_option maxRecDepth 20000 in
theorem gX2_lay_X4_firstColumnOf : GoodIn wsX2_lay (wsV RX2 63 RX4 yX4_firstColumnOf wsX4_firstColumnOf) := goodIn_app (goodIn_of _ (by decide +kernel)) ggX2_lay_X4_firstColumnOf
set_option maxRecDepth 20000 in
theorem ggX2_lay_X4_columnOf : GoodIn wsX2_lay wsX4_columnOf := goodIn_r _ [27, 28, 34, 35, 36, 37, 38, 39, 40, 41, 42, 43, 44] (by decide +kernel) (by decide +kernel)
set_option maxRecDepth 20000 in
theorem gX2_lay_X4_columnOf : GoodIn wsX2_lay (wsV RX2 66 RX4 yX4_columnOf wsX4_columnOf) := goodIn_app (goodIn_of _ (by decide +kernel)) ggX2_lay_X4_columnOf
theorem dX2_lay_0 : decode cX2_lay 0 = .ok (.aload_n 1, 1) := by decide +kernel
theorem dX2_lay_1 : decode cX2_lay 1 = .ok (.iload_n 2, 1) := by decide +kernel
theorem dX2_lay_2 : decode cX2_lay 2 = .ok (.invokevirtual 54, 3) := by decide +kernel
theorem dX2_lay_5 : decode cX2_lay 5 = .ok (.istore 4, 2) := by decide +kernel
theorem dX2_lay_7 : decode cX2_lay 7 = .ok (.aload_n 1, 1) := by decide +kernel
theorem dX2_lay_8 : decode cX2_lay 8 = .ok (.iload_n 2, 1) := by decide +kernel
theorem dX2_lay_9 : decode cX2_lay 9 = .ok (.invokevirtual 57, 3) := by decide +kernel
theorem dX2_lay_12 : decode cX2_lay 12 = .ok (.istore 5, 2) := by decide +kernel
theorem dX2_lay_14 : decode cX2_lay 14 = .ok (.iload_n 3, 1) := by decide +kernel
theorem dX2_lay_15 : decode cX2_lay 15 = .ok (.ifCond .eq 14, 3) := by decide +kernel
theorem dX2_lay_18 : decode cX2_lay 18 = .ok (.iconst 0, 1) := by decide +kernel
theorem dX2_lay_19 : decode cX2_lay 19 = .ok (.iload 5, 2) := by decide +kernel
theorem dX2_lay_21 : decode cX2_lay 21 = .ok (.iconst 1, 1) := by decide +kernel
theorem dX2_lay_22 : decode cX2_lay 22 = .ok (.isub, 1) := by decide +kernel
theorem dX2_lay_23 : decode cX2_lay 23 = .ok (.invokestatic 60, 3) := by decide +kernel
theorem dX2_lay_26 : decode cX2_lay 26 = .ok (.goto 5, 3) := by decide +kernel
theorem dX2_lay_29 : decode cX2_lay 29 = .ok (.iload 5, 2) := by decide +kernel
theorem dX2_lay_31 : decode cX2_lay 31 = .ok (.istore 6, 2) := by decide +kernel
theorem dX2_lay_33 : decode cX2_lay 33 = .ok (.aload_n 1, 1) := by decide +kernel
theorem dX2_lay_34 : decode cX2_lay 34 = .ok (.iload_n 2, 1) := by decide +kernel
theorem dX2_lay_35 : decode cX2_lay 35 = .ok (.invokevirtual 63, 3) := by decide +kernel
theorem dX2_lay_38 : decode cX2_lay 38 = .ok (.istore 7, 2) := by decide +kernel
theorem dX2_lay_40 : decode cX2_lay 40 = .ok (.iconst 0, 1) := by decide +kernel
theorem dX2_lay_41 : decode cX2_lay 41 = .ok (.istore 8, 2) := by decide +kernel
theorem dX2_lay_43 : decode cX2_lay 43 = .ok (.iload 8, 2) := by decide +kernel
theorem dX2_lay_45 : decode cX2_lay 45 = .ok (.aload_n 0, 1) := by decide +kernel
theorem dX2_lay_46 : decode cX2_lay 46 = .ok (.getfield 33, 3) := by decide +kernel
theorem dX2_lay_49 : decode cX2_lay 49 = .ok (.if_icmp .ge 52, 3) := by decide +kernel
theorem dX2_lay_52 : decode cX2_lay 52 = .ok (.iload 4, 2) := by decide +kernel
theorem dX2_lay_54 : decode cX2_lay 54 = .ok (.iload 8, 2) := by decide +kernel
theorem dX2_lay_56 : decode cX2_lay 56 = .ok (.ishr, 1) := by decide +kernel
theorem dX2_lay_57 : decode cX2_lay 57 = .ok (.iconst 1, 1) := by decide +kernel
theorem dX2_lay_58 : decode cX2_lay 58 = .ok (.iand, 1) := by decide +kernel
theorem dX2_lay_59 : decode cX2_lay 59 = .ok (.ifCond .eq 36, 3) := by decide +kernel
theorem dX2_lay_62 : decode cX2_lay 62 = .ok (.aload_n 0, 1) := by decide +kernel
theorem dX2_lay_63 : decode cX2_lay 63 = .ok (.getfield 9, 3) := by decide +kernel
theorem dX2_lay_66 : decode cX2_lay 66 = .ok (.iload 8, 2) := by decide +kernel
theorem dX2_lay_68 : decode cX2_lay 68 = .ok (.aload_n 1, 1) := by decide +kernel
theorem dX2_lay_69 : decode cX2_lay 69 = .ok (.iload 8, 2) := by decide +kernel
theorem dX2_lay_71 : decode cX2_lay 71 = .ok (.invokevirtual 66, 3) := by decide +kernel
theorem dX2_lay_74 : decode cX2_lay 74 = .ok (.iload 7, 2) := by decide +kernel
theorem dX2_lay_76 : decode cX2_lay 76 = .ok (.if_icmp .ne 8, 3) := by decide +kernel
theorem dX2_lay_79 : decode cX2_lay 79 = .ok (.iload 5, 2) := by decide +kernel
theorem dX2_lay_81 : decode cX2_lay 81 = .ok (.goto 5, 3) := by decide +kernel
theorem dX2_lay_84 : decode cX2_lay 84 = .ok (.iload 6, 2) := by decide +kernel
theorem dX2_lay_86 : decode cX2_lay 86 = .ok (.iastore, 1) := by decide +kernel
theorem dX2_lay_87 : decode cX2_lay 87 = .ok (.aload_n 0, 1) := by decide +kernel
theorem dX2_lay_88 : decode cX2_lay 88 = .ok (.getfield 15, 3) := by decide +kernel
theorem dX2_lay_91 : decode cX2_lay 91 = .ok (.iload 8, 2) := by decide +kernel
theorem dX2_lay_93 : decode cX2_lay 93 = .ok (.iload_n 2, 1) := by decide +kernel
theorem dX2_lay_94 : decode cX2_lay 94 = .ok (.iastore, 1) := by decide +kernel
theorem dX2_lay_95 : decode cX2_lay 95 = .ok (.iinc 8 1, 3) := by decide +kernel
theorem dX2_lay_98 : decode cX2_lay 98 = .ok (.goto (-55), 3) := by decide +kernel
theorem dX2_lay_101 : decode cX2_lay 101 = .ok (.return_, 1) := by decide +kernel
theorem dX2_heightOf_0 : decode cX2_heightOf 0 = .ok (.iload_n 1, 1) := by decide +kernel
theorem dX2_heightOf_1 : decode cX2_heightOf 1 = .ok (.ifCond .lt 21, 3) := by decide +kernel
theorem dX2_heightOf_4 : decode cX2_heightOf 4 = .ok (.iload_n 1, 1) := by decide +kernel
theorem dX2_heightOf_5 : decode cX2_heightOf 5 = .ok (.aload_n 0, 1) := by decide +kernel
theorem dX2_heightOf_6 : decode cX2_heightOf 6 = .ok (.getfield 9, 3) := by decide +kernel
theorem dX2_heightOf_9 : decode cX2_heightOf 9 = .ok (.arraylength, 1) := by decide +kernel
theorem dX2_heightOf_10 : decode cX2_heightOf 10 = .ok (.if_icmp .ge 12, 3) := by decide +kernel
theorem dX2_heightOf_13 : decode cX2_heightOf 13 = .ok (.aload_n 0, 1) := by decide +kernel
theorem dX2_heightOf_14 : decode cX2_heightOf 14 = .ok (.getfield 9, 3) := by decide +kernel
theorem dX2_heightOf_17 : decode cX2_heightOf 17 = .ok (.iload_n 1, 1) := by decide +kernel
theorem dX2_heightOf_18 : decode cX2_heightOf 18 = .ok (.iaload, 1) := by decide +kernel
theorem dX2_heightOf_19 : decode cX2_heightOf 19 = .ok (.goto 4, 3) := by decide +kernel
theorem dX2_heightOf_22 : decode cX2_heightOf 22 = .ok (.iconst 0, 1) := by decide +kernel
theorem dX2_heightOf_23 : decode cX2_heightOf 23 = .ok (.ireturn, 1) := by decide +kernel
theorem dX2_itemOf_0 : decode cX2_itemOf 0 = .ok (.iload_n 1, 1) := by decide +kernel
theorem dX2_itemOf_1 : decode cX2_itemOf 1 = .ok (.ifCond .lt 21, 3) := by decide +kernel
theorem dX2_itemOf_4 : decode cX2_itemOf 4 = .ok (.iload_n 1, 1) := by decide +kernel
theorem dX2_itemOf_5 : decode cX2_itemOf 5 = .ok (.aload_n 0, 1) := by decide +kernel
theorem dX2_itemOf_6 : decode cX2_itemOf 6 = .ok (.getfield 15, 3) := by decide +kernel
theorem dX2_itemOf_9 : decode cX2_itemOf 9 = .ok (.arraylength, 1) := by decide +kernel
theorem dX2_itemOf_10 : decode cX2_itemOf 10 = .ok (.if_icmp .ge 12, 3) := by decide +kernel
theorem dX2_itemOf_13 : decode cX2_itemOf 13 = .ok (.aload_n 0, 1) := by decide +kernel
theorem dX2_itemOf_14 : decode cX2_itemOf 14 = .ok (.getfield 15, 3) := by decide +kernel
theorem dX2_itemOf_17 : decode cX2_itemOf 17 = .ok (.iload_n 1, 1) := by decide +kernel
theorem dX2_itemOf_18 : decode cX2_itemOf 18 = .ok (.iaload, 1) := by decide +kernel
theorem dX2_itemOf_19 : decode cX2_itemOf 19 = .ok (.goto 4, 3) := by decide +kernel
theorem dX2_itemOf_22 : decode cX2_itemOf 22 = .ok (.iconst (-1), 1) := by decide +kernel
theorem dX2_itemOf_23 : decode cX2_itemOf 23 = .ok (.ireturn, 1) := by decide +kernel
set_option maxRecDepth 20000 in
theorem ggX2_restFrom_X2_nextFrom : GoodIn wsX2_restFrom wsX2_nextFrom := goodIn_r _ [5, 6, 7, 8, 9, 4, 10, 11, 12, 13, 14, 15, 16, 17, 18, 19, 20, 21, 22] (by decide +kernel) (by decide +kernel)
set_option maxRecDepth 20000 in
theorem gX2_restFrom_X2_nextFrom : GoodIn wsX2_restFrom (wsV RX2 69 RX2 yX2_nextFrom wsX2_nextFrom) := goodIn_app (goodIn_of _ (by decide +kernel)) ggX2_restFrom_X2_nextFrom
theorem dX2_restFrom_0 : decode cX2_restFrom 0 = .ok (.iload_n 1, 1) := by decide +kernel
theorem dX2_restFrom_1 : decode cX2_restFrom 1 = .ok (.istore_n 2, 1) := by decide +kernel
theorem dX2_restFrom_2 : decode cX2_restFrom 2 = .ok (.iconst 0, 1) := by decide +kernel
theorem dX2_restFrom_3 : decode cX2_restFrom 3 = .ok (.istore_n 3, 1) := by decide +kernel
theorem dX2_restFrom_4 : decode cX2_restFrom 4 = .ok (.iload_n 3, 1) := by decide +kernel
theorem dX2_restFrom_5 : decode cX2_restFrom 5 = .ok (.bipush 20, 2) := by decide +kernel
theorem dX2_restFrom_7 : decode cX2_restFrom 7 = .ok (.if_icmp .ge 27, 3) := by decide +kernel
theorem dX2_restFrom_10 : decode cX2_restFrom 10 = .ok (.aload_n 0, 1) := by decide +kernel
theorem dX2_restFrom_11 : decode cX2_restFrom 11 = .ok (.iload_n 2, 1) := by decide +kernel
theorem dX2_restFrom_12 : decode cX2_restFrom 12 = .ok (.invokevirtual 69, 3) := by decide +kernel
theorem dX2_restFrom_15 : decode cX2_restFrom 15 = .ok (.istore 4, 2) := by decide +kernel
theorem dX2_restFrom_17 : decode cX2_restFrom 17 = .ok (.iload 4, 2) := by decide +kernel
theorem dX2_restFrom_19 : decode cX2_restFrom 19 = .ok (.iload_n 2, 1) := by decide +kernel
theorem dX2_restFrom_20 : decode cX2_restFrom 20 = .ok (.if_icmp .ne 5, 3) := by decide +kernel
theorem dX2_restFrom_23 : decode cX2_restFrom 23 = .ok (.iload_n 2, 1) := by decide +kernel
theorem dX2_restFrom_24 : decode cX2_restFrom 24 = .ok (.ireturn, 1) := by decide +kernel
theorem dX2_restFrom_25 : decode cX2_restFrom 25 = .ok (.iload 4, 2) := by decide +kernel
theorem dX2_restFrom_27 : decode cX2_restFrom 27 = .ok (.istore_n 2, 1) := by decide +kernel
theorem dX2_restFrom_28 : decode cX2_restFrom 28 = .ok (.iinc 3 1, 3) := by decide +kernel
theorem dX2_restFrom_31 : decode cX2_restFrom 31 = .ok (.goto (-27), 3) := by decide +kernel
theorem dX2_restFrom_34 : decode cX2_restFrom 34 = .ok (.iload_n 2, 1) := by decide +kernel
theorem dX2_restFrom_35 : decode cX2_restFrom 35 = .ok (.ireturn, 1) := by decide +kernel
set_option maxRecDepth 20000 in
theorem ggX2_rollsFrom_X2_nextFrom : GoodIn wsX2_rollsFrom wsX2_nextFrom := goodIn_r _ [5, 6, 7, 8, 9, 4, 10, 11, 12, 13, 14, 15, 16, 17, 18, 19, 20, 21, 22] (by decide +kernel) (by decide +kernel)
set_option maxRecDepth 20000 in
theorem gX2_rollsFrom_X2_nextFrom : GoodIn wsX2_rollsFrom (wsV RX2 69 RX2 yX2_nextFrom wsX2_nextFrom) := goodIn_app (goodIn_of _ (by decide +kernel)) ggX2_rollsFrom_X2_nextFrom
theorem dX2_rollsFrom_0 : decode cX2_rollsFrom 0 = .ok (.iload_n 1, 1) := by decide +kernel
theorem dX2_rollsFrom_1 : decode cX2_rollsFrom 1 = .ok (.istore_n 2, 1) := by decide +kernel
theorem dX2_rollsFrom_2 : decode cX2_rollsFrom 2 = .ok (.iconst 0, 1) := by decide +kernel
theorem dX2_rollsFrom_3 : decode cX2_rollsFrom 3 = .ok (.istore_n 3, 1) := by decide +kernel
theorem dX2_rollsFrom_4 : decode cX2_rollsFrom 4 = .ok (.iload_n 3, 1) := by decide +kernel
theorem dX2_rollsFrom_5 : decode cX2_rollsFrom 5 = .ok (.bipush 20, 2) := by decide +kernel
theorem dX2_rollsFrom_7 : decode cX2_rollsFrom 7 = .ok (.if_icmp .ge 27, 3) := by decide +kernel
theorem dX2_rollsFrom_10 : decode cX2_rollsFrom 10 = .ok (.aload_n 0, 1) := by decide +kernel
theorem dX2_rollsFrom_11 : decode cX2_rollsFrom 11 = .ok (.iload_n 2, 1) := by decide +kernel
theorem dX2_rollsFrom_12 : decode cX2_rollsFrom 12 = .ok (.invokevirtual 69, 3) := by decide +kernel
theorem dX2_rollsFrom_15 : decode cX2_rollsFrom 15 = .ok (.istore 4, 2) := by decide +kernel
theorem dX2_rollsFrom_17 : decode cX2_rollsFrom 17 = .ok (.iload 4, 2) := by decide +kernel
theorem dX2_rollsFrom_19 : decode cX2_rollsFrom 19 = .ok (.iload_n 2, 1) := by decide +kernel
theorem dX2_rollsFrom_20 : decode cX2_rollsFrom 20 = .ok (.if_icmp .ne 5, 3) := by decide +kernel
theorem dX2_rollsFrom_23 : decode cX2_rollsFrom 23 = .ok (.iload_n 3, 1) := by decide +kernel
theorem dX2_rollsFrom_24 : decode cX2_rollsFrom 24 = .ok (.ireturn, 1) := by decide +kernel
theorem dX2_rollsFrom_25 : decode cX2_rollsFrom 25 = .ok (.iload 4, 2) := by decide +kernel
theorem dX2_rollsFrom_27 : decode cX2_rollsFrom 27 = .ok (.istore_n 2, 1) := by decide +kernel
theorem dX2_rollsFrom_28 : decode cX2_rollsFrom 28 = .ok (.iinc 3 1, 3) := by decide +kernel
theorem dX2_rollsFrom_31 : decode cX2_rollsFrom 31 = .ok (.goto (-27), 3) := by decide +kernel
theorem dX2_rollsFrom_34 : decode cX2_rollsFrom 34 = .ok (.bipush 20, 2) := by decide +kernel
theorem dX2_rollsFrom_36 : decode cX2_rollsFrom 36 = .ok (.ireturn, 1) := by decide +kernel
set_option maxRecDepth 20000 in
theorem ggX2_nextFrom_X2_findNext : GoodIn wsX2_nextFrom wsX2_findNext := goodIn_r _ [6, 7, 8, 9, 10, 11, 5, 12, 13, 14, 15, 16, 17, 18] (by decide +kernel) (by decide +kernel)
set_option maxRecDepth 20000 in
theorem gX2_nextFrom_X2_findNext : GoodIn wsX2_nextFrom (wsV RX2 72 RX2 yX2_findNext wsX2_findNext) := goodIn_app (goodIn_of _ (by decide +kernel)) ggX2_nextFrom_X2_findNext
theorem dX2_nextFrom_0 : decode cX2_nextFrom 0 = .ok (.iload_n 1, 1) := by decide +kernel
theorem dX2_nextFrom_1 : decode cX2_nextFrom 1 = .ok (.ifCond .lt 12, 3) := by decide +kernel
theorem dX2_nextFrom_4 : decode cX2_nextFrom 4 = .ok (.iload_n 1, 1) := by decide +kernel
theorem dX2_nextFrom_5 : decode cX2_nextFrom 5 = .ok (.aload_n 0, 1) := by decide +kernel
theorem dX2_nextFrom_6 : decode cX2_nextFrom 6 = .ok (.getfield 18, 3) := by decide +kernel
theorem dX2_nextFrom_9 : decode cX2_nextFrom 9 = .ok (.arraylength, 1) := by decide +kernel
theorem dX2_nextFrom_10 : decode cX2_nextFrom 10 = .ok (.if_icmp .lt 5, 3) := by decide +kernel
theorem dX2_nextFrom_13 : decode cX2_nextFrom 13 = .ok (.iload_n 1, 1) := by decide +kernel
theorem dX2_nextFrom_14 : decode cX2_nextFrom 14 = .ok (.ireturn, 1) := by decide +kernel
theorem dX2_nextFrom_15 : decode cX2_nextFrom 15 = .ok (.aload_n 0, 1) := by decide +kernel
theorem dX2_nextFrom_16 : decode cX2_nextFrom 16 = .ok (.getfield 18, 3) := by decide +kernel
theorem dX2_nextFrom_19 : decode cX2_nextFrom 19 = .ok (.iload_n 1, 1) := by decide +kernel
theorem dX2_nextFrom_20 : decode cX2_nextFrom 20 = .ok (.iaload, 1) := by decide +kernel
theorem dX2_nextFrom_21 : decode cX2_nextFrom 21 = .ok (.iconst (-1), 1) := by decide +kernel
theorem dX2_nextFrom_22 : decode cX2_nextFrom 22 = .ok (.if_icmp .ne 14, 3) := by decide +kernel
theorem dX2_nextFrom_25 : decode cX2_nextFrom 25 = .ok (.aload_n 0, 1) := by decide +kernel
theorem dX2_nextFrom_26 : decode cX2_nextFrom 26 = .ok (.getfield 18, 3) := by decide +kernel
theorem dX2_nextFrom_29 : decode cX2_nextFrom 29 = .ok (.iload_n 1, 1) := by decide +kernel
theorem dX2_nextFrom_30 : decode cX2_nextFrom 30 = .ok (.aload_n 0, 1) := by decide +kernel
theorem dX2_nextFrom_31 : decode cX2_nextFrom 31 = .ok (.iload_n 1, 1) := by decide +kernel
theorem dX2_nextFrom_32 : decode cX2_nextFrom 32 = .ok (.invokevirtual 72, 3) := by decide +kernel
theorem dX2_nextFrom_35 : decode cX2_nextFrom 35 = .ok (.iastore, 1) := by decide +kernel
theorem dX2_nextFrom_36 : decode cX2_nextFrom 36 = .ok (.aload_n 0, 1) := by decide +kernel
theorem dX2_nextFrom_37 : decode cX2_nextFrom 37 = .ok (.getfield 18, 3) := by decide +kernel
theorem dX2_nextFrom_40 : decode cX2_nextFrom 40 = .ok (.iload_n 1, 1) := by decide +kernel
theorem dX2_nextFrom_41 : decode cX2_nextFrom 41 = .ok (.iaload, 1) := by decide +kernel
theorem dX2_nextFrom_42 : decode cX2_nextFrom 42 = .ok (.ireturn, 1) := by decide +kernel
set_option maxRecDepth 20000 in
theorem ggX2_findNext_X2_lowerOf : GoodIn wsX2_findNext wsX2_lowerOf := goodIn_r _ [7, 8, 9, 10, 11, 12, 13] (by decide +kernel) (by decide +kernel)
set_option maxRecDepth 20000 in
theorem gX2_findNext_X2_lowerOf : GoodIn wsX2_findNext (wsV RX2 75 RX2 yX2_lowerOf wsX2_lowerOf) := goodIn_app (goodIn_of _ (by decide +kernel)) ggX2_findNext_X2_lowerOf
theorem dX2_findNext_0 : decode cX2_findNext 0 = .ok (.aload_n 0, 1) := by decide +kernel
theorem dX2_findNext_1 : decode cX2_findNext 1 = .ok (.getfield 37, 3) := by decide +kernel
theorem dX2_findNext_4 : decode cX2_findNext 4 = .ok (.ifCond .le 12, 3) := by decide +kernel
theorem dX2_findNext_7 : decode cX2_findNext 7 = .ok (.iload_n 1, 1) := by decide +kernel
theorem dX2_findNext_8 : decode cX2_findNext 8 = .ok (.aload_n 0, 1) := by decide +kernel
theorem dX2_findNext_9 : decode cX2_findNext 9 = .ok (.getfield 37, 3) := by decide +kernel
theorem dX2_findNext_12 : decode cX2_findNext 12 = .ok (.irem, 1) := by decide +kernel
theorem dX2_findNext_13 : decode cX2_findNext 13 = .ok (.goto 4, 3) := by decide +kernel
theorem dX2_findNext_16 : decode cX2_findNext 16 = .ok (.iconst 0, 1) := by decide +kernel
theorem dX2_findNext_17 : decode cX2_findNext 17 = .ok (.istore_n 2, 1) := by decide +kernel
theorem dX2_findNext_18 : decode cX2_findNext 18 = .ok (.iload_n 1, 1) := by decide +kernel
theorem dX2_findNext_19 : decode cX2_findNext 19 = .ok (.istore_n 3, 1) := by decide +kernel
theorem dX2_findNext_20 : decode cX2_findNext 20 = .ok (.iload_n 1, 1) := by decide +kernel
theorem dX2_findNext_21 : decode cX2_findNext 21 = .ok (.aload_n 0, 1) := by decide +kernel
theorem dX2_findNext_22 : decode cX2_findNext 22 = .ok (.getfield 37, 3) := by decide +kernel
theorem dX2_findNext_25 : decode cX2_findNext 25 = .ok (.if_icmp .lt 15, 3) := by decide +kernel
theorem dX2_findNext_28 : decode cX2_findNext 28 = .ok (.aload_n 0, 1) := by decide +kernel
theorem dX2_findNext_29 : decode cX2_findNext 29 = .ok (.iload_n 3, 1) := by decide +kernel
theorem dX2_findNext_30 : decode cX2_findNext 30 = .ok (.iload_n 1, 1) := by decide +kernel
theorem dX2_findNext_31 : decode cX2_findNext 31 = .ok (.aload_n 0, 1) := by decide +kernel
theorem dX2_findNext_32 : decode cX2_findNext 32 = .ok (.getfield 37, 3) := by decide +kernel
theorem dX2_findNext_35 : decode cX2_findNext 35 = .ok (.isub, 1) := by decide +kernel
theorem dX2_findNext_36 : decode cX2_findNext 36 = .ok (.invokevirtual 75, 3) := by decide +kernel
theorem dX2_findNext_39 : decode cX2_findNext 39 = .ok (.istore_n 3, 1) := by decide +kernel
theorem dX2_findNext_40 : decode cX2_findNext 40 = .ok (.iload_n 2, 1) := by decide +kernel
theorem dX2_findNext_41 : decode cX2_findNext 41 = .ok (.ifCond .le 12, 3) := by decide +kernel
theorem dX2_findNext_44 : decode cX2_findNext 44 = .ok (.aload_n 0, 1) := by decide +kernel
theorem dX2_findNext_45 : decode cX2_findNext 45 = .ok (.iload_n 3, 1) := by decide +kernel
theorem dX2_findNext_46 : decode cX2_findNext 46 = .ok (.iload_n 1, 1) := by decide +kernel
theorem dX2_findNext_47 : decode cX2_findNext 47 = .ok (.iconst 1, 1) := by decide +kernel
theorem dX2_findNext_48 : decode cX2_findNext 48 = .ok (.isub, 1) := by decide +kernel
theorem dX2_findNext_49 : decode cX2_findNext 49 = .ok (.invokevirtual 75, 3) := by decide +kernel
theorem dX2_findNext_52 : decode cX2_findNext 52 = .ok (.istore_n 3, 1) := by decide +kernel
theorem dX2_findNext_53 : decode cX2_findNext 53 = .ok (.iload_n 2, 1) := by decide +kernel
theorem dX2_findNext_54 : decode cX2_findNext 54 = .ok (.aload_n 0, 1) := by decide +kernel
theorem dX2_findNext_55 : decode cX2_findNext 55 = .ok (.getfield 37, 3) := by decide +kernel
theorem dX2_findNext_58 : decode cX2_findNext 58 = .ok (.iconst 1, 1) := by decide +kernel
theorem dX2_findNext_59 : decode cX2_findNext 59 = .ok (.isub, 1) := by decide +kernel
theorem dX2_findNext_60 : decode cX2_findNext 60 = .ok (.if_icmp .ge 12, 3) := by decide +kernel
theorem dX2_findNext_63 : decode cX2_findNext 63 = .ok (.aload_n 0, 1) := by decide +kernel
theorem dX2_findNext_64 : decode cX2_findNext 64 = .ok (.iload_n 3, 1) := by decide +kernel
theorem dX2_findNext_65 : decode cX2_findNext 65 = .ok (.iload_n 1, 1) := by decide +kernel
theorem dX2_findNext_66 : decode cX2_findNext 66 = .ok (.iconst 1, 1) := by decide +kernel
theorem dX2_findNext_67 : decode cX2_findNext 67 = .ok (.iadd, 1) := by decide +kernel
theorem dX2_findNext_68 : decode cX2_findNext 68 = .ok (.invokevirtual 75, 3) := by decide +kernel
theorem dX2_findNext_71 : decode cX2_findNext 71 = .ok (.istore_n 3, 1) := by decide +kernel
theorem dX2_findNext_72 : decode cX2_findNext 72 = .ok (.iload_n 1, 1) := by decide +kernel
theorem dX2_findNext_73 : decode cX2_findNext 73 = .ok (.aload_n 0, 1) := by decide +kernel
theorem dX2_findNext_74 : decode cX2_findNext 74 = .ok (.getfield 33, 3) := by decide +kernel
theorem dX2_findNext_77 : decode cX2_findNext 77 = .ok (.aload_n 0, 1) := by decide +kernel
theorem dX2_findNext_78 : decode cX2_findNext 78 = .ok (.getfield 37, 3) := by decide +kernel
theorem dX2_findNext_81 : decode cX2_findNext 81 = .ok (.isub, 1) := by decide +kernel
theorem dX2_findNext_82 : decode cX2_findNext 82 = .ok (.if_icmp .ge 15, 3) := by decide +kernel
theorem dX2_findNext_85 : decode cX2_findNext 85 = .ok (.aload_n 0, 1) := by decide +kernel
theorem dX2_findNext_86 : decode cX2_findNext 86 = .ok (.iload_n 3, 1) := by decide +kernel
theorem dX2_findNext_87 : decode cX2_findNext 87 = .ok (.iload_n 1, 1) := by decide +kernel
theorem dX2_findNext_88 : decode cX2_findNext 88 = .ok (.aload_n 0, 1) := by decide +kernel
theorem dX2_findNext_89 : decode cX2_findNext 89 = .ok (.getfield 37, 3) := by decide +kernel
theorem dX2_findNext_92 : decode cX2_findNext 92 = .ok (.iadd, 1) := by decide +kernel
theorem dX2_findNext_93 : decode cX2_findNext 93 = .ok (.invokevirtual 75, 3) := by decide +kernel
theorem dX2_findNext_96 : decode cX2_findNext 96 = .ok (.istore_n 3, 1) := by decide +kernel
theorem dX2_findNext_97 : decode cX2_findNext 97 = .ok (.iload_n 3, 1) := by decide +kernel
theorem dX2_findNext_98 : decode cX2_findNext 98 = .ok (.ireturn, 1) := by decide +kernel
theorem dX2_lowerOf_0 : decode cX2_lowerOf 0 = .ok (.iload_n 1, 1) := by decide +kernel
theorem dX2_lowerOf_1 : decode cX2_lowerOf 1 = .ok (.ifCond .lt 29, 3) := by decide +kernel
theorem dX2_lowerOf_4 : decode cX2_lowerOf 4 = .ok (.iload_n 1, 1) := by decide +kernel
theorem dX2_lowerOf_5 : decode cX2_lowerOf 5 = .ok (.aload_n 0, 1) := by decide +kernel
theorem dX2_lowerOf_6 : decode cX2_lowerOf 6 = .ok (.getfield 9, 3) := by decide +kernel
theorem dX2_lowerOf_9 : decode cX2_lowerOf 9 = .ok (.arraylength, 1) := by decide +kernel
theorem dX2_lowerOf_10 : decode cX2_lowerOf 10 = .ok (.if_icmp .ge 20, 3) := by decide +kernel
theorem dX2_lowerOf_13 : decode cX2_lowerOf 13 = .ok (.iload_n 2, 1) := by decide +kernel
theorem dX2_lowerOf_14 : decode cX2_lowerOf 14 = .ok (.ifCond .lt 16, 3) := by decide +kernel
theorem dX2_lowerOf_17 : decode cX2_lowerOf 17 = .ok (.iload_n 2, 1) := by decide +kernel
theorem dX2_lowerOf_18 : decode cX2_lowerOf 18 = .ok (.aload_n 0, 1) := by decide +kernel
theorem dX2_lowerOf_19 : decode cX2_lowerOf 19 = .ok (.getfield 9, 3) := by decide +kernel
theorem dX2_lowerOf_22 : decode cX2_lowerOf 22 = .ok (.arraylength, 1) := by decide +kernel
theorem dX2_lowerOf_23 : decode cX2_lowerOf 23 = .ok (.if_icmp .ge 7, 3) := by decide +kernel
theorem dX2_lowerOf_26 : decode cX2_lowerOf 26 = .ok (.iconst 1, 1) := by decide +kernel
theorem dX2_lowerOf_27 : decode cX2_lowerOf 27 = .ok (.goto 4, 3) := by decide +kernel
theorem dX2_lowerOf_30 : decode cX2_lowerOf 30 = .ok (.iconst 0, 1) := by decide +kernel
theorem dX2_lowerOf_31 : decode cX2_lowerOf 31 = .ok (.istore_n 3, 1) := by decide +kernel
theorem dX2_lowerOf_32 : decode cX2_lowerOf 32 = .ok (.iload_n 3, 1) := by decide +kernel
theorem dX2_lowerOf_33 : decode cX2_lowerOf 33 = .ok (.ifCond .eq 22, 3) := by decide +kernel
theorem dX2_lowerOf_36 : decode cX2_lowerOf 36 = .ok (.aload_n 0, 1) := by decide +kernel
theorem dX2_lowerOf_37 : decode cX2_lowerOf 37 = .ok (.getfield 9, 3) := by decide +kernel
theorem dX2_lowerOf_40 : decode cX2_lowerOf 40 = .ok (.iload_n 2, 1) := by decide +kernel
theorem dX2_lowerOf_41 : decode cX2_lowerOf 41 = .ok (.iaload, 1) := by decide +kernel
theorem dX2_lowerOf_42 : decode cX2_lowerOf 42 = .ok (.aload_n 0, 1) := by decide +kernel
theorem dX2_lowerOf_43 : decode cX2_lowerOf 43 = .ok (.getfield 9, 3) := by decide +kernel
theorem dX2_lowerOf_46 : decode cX2_lowerOf 46 = .ok (.iload_n 1, 1) := by decide +kernel
theorem dX2_lowerOf_47 : decode cX2_lowerOf 47 = .ok (.iaload, 1) := by decide +kernel
theorem dX2_lowerOf_48 : decode cX2_lowerOf 48 = .ok (.if_icmp .ge 7, 3) := by decide +kernel
theorem dX2_lowerOf_51 : decode cX2_lowerOf 51 = .ok (.iload_n 2, 1) := by decide +kernel
theorem dX2_lowerOf_52 : decode cX2_lowerOf 52 = .ok (.goto 4, 3) := by decide +kernel
theorem dX2_lowerOf_55 : decode cX2_lowerOf 55 = .ok (.iload_n 1, 1) := by decide +kernel
theorem dX2_lowerOf_56 : decode cX2_lowerOf 56 = .ok (.ireturn, 1) := by decide +kernel
set_option maxRecDepth 20000 in
theorem ggX3_init_X0_init : GoodIn wsX3_init wsX0_init := goodIn_r _ [9, 10, 2, 3, 11, 12, 13, 14, 18, 19, 20, 21] (by decide +kernel) (by decide +kernel)
set_option maxRecDepth 20000 in
theorem gX3_init_X0_init_n17 : GoodIn wsX3_init (wsX0_init) := ggX3_init_X0_init
theorem dX3_init_0 : decode cX3_init 0 = .ok (.aload_n 0, 1) := by decide +kernel
theorem dX3_init_1 : decode cX3_init 1 = .ok (.invokespecial 3, 3) := by decide +kernel
theorem dX3_init_4 : decode cX3_init 4 = .ok (.aload_n 0, 1) := by decide +kernel
theorem dX3_init_5 : decode cX3_init 5 = .ok (.bipush 20, 2) := by decide +kernel
theorem dX3_init_7 : decode cX3_init 7 = .ok (.anewarray 9, 3) := by decide +kernel
theorem dX3_init_10 : decode cX3_init 10 = .ok (.putfield 11, 3) := by decide +kernel
theorem dX3_init_13 : decode cX3_init 13 = .ok (.iconst 0, 1) := by decide +kernel
theorem dX3_init_14 : decode cX3_init 14 = .ok (.istore_n 1, 1) := by decide +kernel
theorem dX3_init_15 : decode cX3_init 15 = .ok (.iload_n 1, 1) := by decide +kernel
theorem dX3_init_16 : decode cX3_init 16 = .ok (.aload_n 0, 1) := by decide +kernel
theorem dX3_init_17 : decode cX3_init 17 = .ok (.getfield 11, 3) := by decide +kernel
theorem dX3_init_20 : decode cX3_init 20 = .ok (.arraylength, 1) := by decide +kernel
theorem dX3_init_21 : decode cX3_init 21 = .ok (.if_icmp .ge 22, 3) := by decide +kernel
theorem dX3_init_24 : decode cX3_init 24 = .ok (.aload_n 0, 1) := by decide +kernel
theorem dX3_init_25 : decode cX3_init 25 = .ok (.getfield 11, 3) := by decide +kernel
theorem dX3_init_28 : decode cX3_init 28 = .ok (.iload_n 1, 1) := by decide +kernel
theorem dX3_init_29 : decode cX3_init 29 = .ok (.new 9, 3) := by decide +kernel
theorem dX3_init_32 : decode cX3_init 32 = .ok (.dup, 1) := by decide +kernel
theorem dX3_init_33 : decode cX3_init 33 = .ok (.invokespecial 17, 3) := by decide +kernel
theorem dX3_init_36 : decode cX3_init 36 = .ok (.aastore, 1) := by decide +kernel
theorem dX3_init_37 : decode cX3_init 37 = .ok (.iinc 1 1, 3) := by decide +kernel
theorem dX3_init_40 : decode cX3_init 40 = .ok (.goto (-25), 3) := by decide +kernel
theorem dX3_init_43 : decode cX3_init 43 = .ok (.return_, 1) := by decide +kernel
theorem dX3_clear_0 : decode cX3_clear 0 = .ok (.aload_n 0, 1) := by decide +kernel
theorem dX3_clear_1 : decode cX3_clear 1 = .ok (.iconst 0, 1) := by decide +kernel
theorem dX3_clear_2 : decode cX3_clear 2 = .ok (.putfield 18, 3) := by decide +kernel
theorem dX3_clear_5 : decode cX3_clear 5 = .ok (.aload_n 0, 1) := by decide +kernel
theorem dX3_clear_6 : decode cX3_clear 6 = .ok (.iconst 0, 1) := by decide +kernel
theorem dX3_clear_7 : decode cX3_clear 7 = .ok (.putfield 22, 3) := by decide +kernel
theorem dX3_clear_10 : decode cX3_clear 10 = .ok (.return_, 1) := by decide +kernel
set_option maxRecDepth 20000 in
theorem ggX3_remember_X3_rowAt : GoodIn wsX3_remember wsX3_rowAt := goodIn_r _ [11, 12, 30, 31, 32] (by decide +kernel) (by decide +kernel)
set_option maxRecDepth 20000 in
theorem gX3_remember_X3_rowAt : GoodIn wsX3_remember (wsV RX3 25 RX3 yX3_rowAt wsX3_rowAt) := goodIn_app (goodIn_of _ (by decide +kernel)) ggX3_remember_X3_rowAt
set_option maxRecDepth 20000 in
theorem ggX3_remember_X0_copy : GoodIn wsX3_remember wsX0_copy := goodIn_r _ [17, 18, 19, 20, 21, 22, 23, 24, 16, 25, 26, 27, 28, 29, 33, 34, 35, 36] (by decide +kernel) (by decide +kernel)
set_option maxRecDepth 20000 in
theorem gX3_remember_X0_copy : GoodIn wsX3_remember (wsV RX3 29 RX0 yX0_copy wsX0_copy) := goodIn_app (goodIn_of _ (by decide +kernel)) ggX3_remember_X0_copy
theorem dX3_remember_0 : decode cX3_remember 0 = .ok (.aload_n 0, 1) := by decide +kernel
theorem dX3_remember_1 : decode cX3_remember 1 = .ok (.aload_n 0, 1) := by decide +kernel
theorem dX3_remember_2 : decode cX3_remember 2 = .ok (.getfield 22, 3) := by decide +kernel
theorem dX3_remember_5 : decode cX3_remember 5 = .ok (.invokevirtual 25, 3) := by decide +kernel
theorem dX3_remember_8 : decode cX3_remember 8 = .ok (.astore_n 2, 1) := by decide +kernel
theorem dX3_remember_9 : decode cX3_remember 9 = .ok (.aload_n 2, 1) := by decide +kernel
theorem dX3_remember_10 : decode cX3_remember 10 = .ok (.ifnull 36, 3) := by decide +kernel
theorem dX3_remember_13 : decode cX3_remember 13 = .ok (.aload_n 2, 1) := by decide +kernel
theorem dX3_remember_14 : decode cX3_remember 14 = .ok (.aload_n 1, 1) := by decide +kernel
theorem dX3_remember_15 : decode cX3_remember 15 = .ok (.invokevirtual 29, 3) := by decide +kernel
theorem dX3_remember_18 : decode cX3_remember 18 = .ok (.aload_n 0, 1) := by decide +kernel
theorem dX3_remember_19 : decode cX3_remember 19 = .ok (.aload_n 0, 1) := by decide +kernel
theorem dX3_remember_20 : decode cX3_remember 20 = .ok (.getfield 22, 3) := by decide +kernel
theorem dX3_remember_23 : decode cX3_remember 23 = .ok (.iconst 1, 1) := by decide +kernel
theorem dX3_remember_24 : decode cX3_remember 24 = .ok (.iadd, 1) := by decide +kernel
theorem dX3_remember_25 : decode cX3_remember 25 = .ok (.bipush 20, 2) := by decide +kernel
theorem dX3_remember_27 : decode cX3_remember 27 = .ok (.irem, 1) := by decide +kernel
theorem dX3_remember_28 : decode cX3_remember 28 = .ok (.putfield 22, 3) := by decide +kernel
theorem dX3_remember_31 : decode cX3_remember 31 = .ok (.aload_n 0, 1) := by decide +kernel
theorem dX3_remember_32 : decode cX3_remember 32 = .ok (.aload_n 0, 1) := by decide +kernel
theorem dX3_remember_33 : decode cX3_remember 33 = .ok (.getfield 18, 3) := by decide +kernel
theorem dX3_remember_36 : decode cX3_remember 36 = .ok (.iconst 1, 1) := by decide +kernel
theorem dX3_remember_37 : decode cX3_remember 37 = .ok (.iadd, 1) := by decide +kernel
theorem dX3_remember_38 : decode cX3_remember 38 = .ok (.bipush 20, 2) := by decide +kernel
theorem dX3_remember_40 : decode cX3_remember 40 = .ok (.invokestatic 33, 3) := by decide +kernel
theorem dX3_remember_43 : decode cX3_remember 43 = .ok (.putfield 18, 3) := by decide +kernel
theorem dX3_remember_46 : decode cX3_remember 46 = .ok (.return_, 1) := by decide +kernel
set_option maxRecDepth 20000 in
theorem ggX3_takeBack_X3_rowAt : GoodIn wsX3_takeBack wsX3_rowAt := goodIn_r _ [7, 8, 26, 27, 28] (by decide +kernel) (by decide +kernel)
set_option maxRecDepth 20000 in
theorem gX3_takeBack_X3_rowAt : GoodIn wsX3_takeBack (wsV RX3 25 RX3 yX3_rowAt wsX3_rowAt) := goodIn_app (goodIn_of _ (by decide +kernel)) ggX3_takeBack_X3_rowAt
set_option maxRecDepth 20000 in
theorem ggX3_takeBack_X0_copy : GoodIn wsX3_takeBack wsX0_copy := goodIn_r _ [13, 14, 15, 16, 17, 18, 19, 20, 12, 21, 22, 23, 24, 25, 29, 30, 31, 32] (by decide +kernel) (by decide +kernel)
set_option maxRecDepth 20000 in
theorem gX3_takeBack_X0_copy : GoodIn wsX3_takeBack (wsV RX3 29 RX0 yX0_copy wsX0_copy) := goodIn_app (goodIn_of _ (by decide +kernel)) ggX3_takeBack_X0_copy
theorem dX3_takeBack_0 : decode cX3_takeBack 0 = .ok (.aload_n 0, 1) := by decide +kernel
theorem dX3_takeBack_1 : decode cX3_takeBack 1 = .ok (.getfield 22, 3) := by decide +kernel
theorem dX3_takeBack_4 : decode cX3_takeBack 4 = .ok (.bipush 20, 2) := by decide +kernel
theorem dX3_takeBack_6 : decode cX3_takeBack 6 = .ok (.iadd, 1) := by decide +kernel
theorem dX3_takeBack_7 : decode cX3_takeBack 7 = .ok (.iconst 1, 1) := by decide +kernel
theorem dX3_takeBack_8 : decode cX3_takeBack 8 = .ok (.isub, 1) := by decide +kernel
theorem dX3_takeBack_9 : decode cX3_takeBack 9 = .ok (.bipush 20, 2) := by decide +kernel
theorem dX3_takeBack_11 : decode cX3_takeBack 11 = .ok (.irem, 1) := by decide +kernel
theorem dX3_takeBack_12 : decode cX3_takeBack 12 = .ok (.istore_n 2, 1) := by decide +kernel
theorem dX3_takeBack_13 : decode cX3_takeBack 13 = .ok (.aload_n 0, 1) := by decide +kernel
theorem dX3_takeBack_14 : decode cX3_takeBack 14 = .ok (.iload_n 2, 1) := by decide +kernel
theorem dX3_takeBack_15 : decode cX3_takeBack 15 = .ok (.invokevirtual 25, 3) := by decide +kernel
theorem dX3_takeBack_18 : decode cX3_takeBack 18 = .ok (.astore_n 3, 1) := by decide +kernel
theorem dX3_takeBack_19 : decode cX3_takeBack 19 = .ok (.aload_n 3, 1) := by decide +kernel
theorem dX3_takeBack_20 : decode cX3_takeBack 20 = .ok (.ifnull 30, 3) := by decide +kernel
theorem dX3_takeBack_23 : decode cX3_takeBack 23 = .ok (.aload_n 0, 1) := by decide +kernel
theorem dX3_takeBack_24 : decode cX3_takeBack 24 = .ok (.getfield 18, 3) := by decide +kernel
theorem dX3_takeBack_27 : decode cX3_takeBack 27 = .ok (.ifCond .le 23, 3) := by decide +kernel
theorem dX3_takeBack_30 : decode cX3_takeBack 30 = .ok (.aload_n 1, 1) := by decide +kernel
theorem dX3_takeBack_31 : decode cX3_takeBack 31 = .ok (.aload_n 3, 1) := by decide +kernel
theorem dX3_takeBack_32 : decode cX3_takeBack 32 = .ok (.invokevirtual 29, 3) := by decide +kernel
theorem dX3_takeBack_35 : decode cX3_takeBack 35 = .ok (.aload_n 0, 1) := by decide +kernel
theorem dX3_takeBack_36 : decode cX3_takeBack 36 = .ok (.iload_n 2, 1) := by decide +kernel
theorem dX3_takeBack_37 : decode cX3_takeBack 37 = .ok (.putfield 22, 3) := by decide +kernel
theorem dX3_takeBack_40 : decode cX3_takeBack 40 = .ok (.aload_n 0, 1) := by decide +kernel
theorem dX3_takeBack_41 : decode cX3_takeBack 41 = .ok (.dup, 1) := by decide +kernel
theorem dX3_takeBack_42 : decode cX3_takeBack 42 = .ok (.getfield 18, 3) := by decide +kernel
theorem dX3_takeBack_45 : decode cX3_takeBack 45 = .ok (.iconst 1, 1) := by decide +kernel
theorem dX3_takeBack_46 : decode cX3_takeBack 46 = .ok (.isub, 1) := by decide +kernel
theorem dX3_takeBack_47 : decode cX3_takeBack 47 = .ok (.putfield 18, 3) := by decide +kernel
theorem dX3_takeBack_50 : decode cX3_takeBack 50 = .ok (.return_, 1) := by decide +kernel
theorem dX3_rowAt_0 : decode cX3_rowAt 0 = .ok (.iload_n 1, 1) := by decide +kernel
theorem dX3_rowAt_1 : decode cX3_rowAt 1 = .ok (.ifCond .lt 21, 3) := by decide +kernel
theorem dX3_rowAt_4 : decode cX3_rowAt 4 = .ok (.iload_n 1, 1) := by decide +kernel
theorem dX3_rowAt_5 : decode cX3_rowAt 5 = .ok (.aload_n 0, 1) := by decide +kernel
theorem dX3_rowAt_6 : decode cX3_rowAt 6 = .ok (.getfield 11, 3) := by decide +kernel
theorem dX3_rowAt_9 : decode cX3_rowAt 9 = .ok (.arraylength, 1) := by decide +kernel
theorem dX3_rowAt_10 : decode cX3_rowAt 10 = .ok (.if_icmp .ge 12, 3) := by decide +kernel
theorem dX3_rowAt_13 : decode cX3_rowAt 13 = .ok (.aload_n 0, 1) := by decide +kernel
theorem dX3_rowAt_14 : decode cX3_rowAt 14 = .ok (.getfield 11, 3) := by decide +kernel
theorem dX3_rowAt_17 : decode cX3_rowAt 17 = .ok (.iload_n 1, 1) := by decide +kernel
theorem dX3_rowAt_18 : decode cX3_rowAt 18 = .ok (.aaload, 1) := by decide +kernel
theorem dX3_rowAt_19 : decode cX3_rowAt 19 = .ok (.goto 4, 3) := by decide +kernel
theorem dX3_rowAt_22 : decode cX3_rowAt 22 = .ok (.aconst_null, 1) := by decide +kernel
theorem dX3_rowAt_23 : decode cX3_rowAt 23 = .ok (.areturn, 1) := by decide +kernel
set_option maxRecDepth 20000 in
theorem ggX4_init_X0_init : GoodIn wsX4_init wsX0_init := goodIn_r _ [14, 15, 2, 3, 4, 16, 17, 18, 30, 31, 32, 33] (by decide +kernel) (by decide +kernel)
set_option maxRecDepth 20000 in
theorem gX4_init_X0_init_n26 : GoodIn wsX4_init (wsX0_init) := ggX4_init_X0_init
theorem dX4_init_0 : decode cX4_init 0 = .ok (.aload_n 0, 1) := by decide +kernel
theorem dX4_init_1 : decode cX4_init 1 = .ok (.invokespecial 3, 3) := by decide +kernel
theorem dX4_init_4 : decode cX4_init 4 = .ok (.aload_n 0, 1) := by decide +kernel
theorem dX4_init_5 : decode cX4_init 5 = .ok (.bipush 20, 2) := by decide +kernel
theorem dX4_init_7 : decode cX4_init 7 = .ok (.newarray .int, 2) := by decide +kernel
theorem dX4_init_9 : decode cX4_init 9 = .ok (.putfield 9, 3) := by decide +kernel
theorem dX4_init_12 : decode cX4_init 12 = .ok (.aload_n 0, 1) := by decide +kernel
theorem dX4_init_13 : decode cX4_init 13 = .ok (.iconst 5, 1) := by decide +kernel
theorem dX4_init_14 : decode cX4_init 14 = .ok (.newarray .int, 2) := by decide +kernel
theorem dX4_init_16 : decode cX4_init 16 = .ok (.putfield 15, 3) := by decide +kernel
theorem dX4_init_19 : decode cX4_init 19 = .ok (.aload_n 0, 1) := by decide +kernel
theorem dX4_init_20 : decode cX4_init 20 = .ok (.iconst 5, 1) := by decide +kernel
theorem dX4_init_21 : decode cX4_init 21 = .ok (.newarray .int, 2) := by decide +kernel
theorem dX4_init_23 : decode cX4_init 23 = .ok (.putfield 18, 3) := by decide +kernel
theorem dX4_init_26 : decode cX4_init 26 = .ok (.aload_n 0, 1) := by decide +kernel
theorem dX4_init_27 : decode cX4_init 27 = .ok (.iconst 5, 1) := by decide +kernel
theorem dX4_init_28 : decode cX4_init 28 = .ok (.newarray .int, 2) := by decide +kernel
theorem dX4_init_30 : decode cX4_init 30 = .ok (.putfield 21, 3) := by decide +kernel
theorem dX4_init_33 : decode cX4_init 33 = .ok (.aload_n 0, 1) := by decide +kernel
theorem dX4_init_34 : decode cX4_init 34 = .ok (.new 24, 3) := by decide +kernel
theorem dX4_init_37 : decode cX4_init 37 = .ok (.dup, 1) := by decide +kernel
theorem dX4_init_38 : decode cX4_init 38 = .ok (.invokespecial 26, 3) := by decide +kernel
theorem dX4_init_41 : decode cX4_init 41 = .ok (.putfield 27, 3) := by decide +kernel
theorem dX4_init_44 : decode cX4_init 44 = .ok (.return_, 1) := by decide +kernel
set_option maxRecDepth 20000 in
theorem ggX4_clear_X0_clear : GoodIn wsX4_clear wsX0_clear := goodIn_r _ [12, 13, 14, 15, 16, 17, 18, 19, 20, 32, 33, 34, 35] (by decide +kernel) (by decide +kernel)
set_option maxRecDepth 20000 in
theorem gX4_clear_X0_clear : GoodIn wsX4_clear (wsV RX4 50 RX0 yX0_clear wsX0_clear) := goodIn_app (goodIn_of _ (by decide +kernel)) ggX4_clear_X0_clear
theorem dX4_clear_0 : decode cX4_clear 0 = .ok (.aload_n 0, 1) := by decide +kernel
theorem dX4_clear_1 : decode cX4_clear 1 = .ok (.iconst 0, 1) := by decide +kernel
theorem dX4_clear_2 : decode cX4_clear 2 = .ok (.putfield 31, 3) := by decide +kernel
theorem dX4_clear_5 : decode cX4_clear 5 = .ok (.aload_n 0, 1) := by decide +kernel
theorem dX4_clear_6 : decode cX4_clear 6 = .ok (.iconst 0, 1) := by decide +kernel
theorem dX4_clear_7 : decode cX4_clear 7 = .ok (.putfield 35, 3) := by decide +kernel
theorem dX4_clear_10 : decode cX4_clear 10 = .ok (.aload_n 0, 1) := by decide +kernel
theorem dX4_clear_11 : decode cX4_clear 11 = .ok (.iconst 0, 1) := by decide +kernel
theorem dX4_clear_12 : decode cX4_clear 12 = .ok (.putfield 38, 3) := by decide +kernel
theorem dX4_clear_15 : decode cX4_clear 15 = .ok (.aload_n 0, 1) := by decide +kernel
theorem dX4_clear_16 : decode cX4_clear 16 = .ok (.iconst 0, 1) := by decide +kernel
theorem dX4_clear_17 : decode cX4_clear 17 = .ok (.putfield 41, 3) := by decide +kernel
theorem dX4_clear_20 : decode cX4_clear 20 = .ok (.aload_n 0, 1) := by decide +kernel
theorem dX4_clear_21 : decode cX4_clear 21 = .ok (.iconst 0, 1) := by decide +kernel
theorem dX4_clear_22 : decode cX4_clear 22 = .ok (.putfield 44, 3) := by decide +kernel
theorem dX4_clear_25 : decode cX4_clear 25 = .ok (.aload_n 0, 1) := by decide +kernel
theorem dX4_clear_26 : decode cX4_clear 26 = .ok (.iconst 0, 1) := by decide +kernel
theorem dX4_clear_27 : decode cX4_clear 27 = .ok (.putfield 47, 3) := by decide +kernel
theorem dX4_clear_30 : decode cX4_clear 30 = .ok (.aload_n 0, 1) := by decide +kernel
theorem dX4_clear_31 : decode cX4_clear 31 = .ok (.getfield 27, 3) := by decide +kernel
theorem dX4_clear_34 : decode cX4_clear 34 = .ok (.invokevirtual 50, 3) := by decide +kernel
theorem dX4_clear_37 : decode cX4_clear 37 = .ok (.return_, 1) := by decide +kernel
theorem dX4_setSize_0 : decode cX4_setSize 0 = .ok (.aload_n 0, 1) := by decide +kernel
theorem dX4_setSize_1 : decode cX4_setSize 1 = .ok (.iload_n 1, 1) := by decide +kernel
theorem dX4_setSize_2 : decode cX4_setSize 2 = .ok (.putfield 31, 3) := by decide +kernel
theorem dX4_setSize_5 : decode cX4_setSize 5 = .ok (.aload_n 0, 1) := by decide +kernel
theorem dX4_setSize_6 : decode cX4_setSize 6 = .ok (.iload_n 2, 1) := by decide +kernel
theorem dX4_setSize_7 : decode cX4_setSize 7 = .ok (.putfield 35, 3) := by decide +kernel
theorem dX4_setSize_10 : decode cX4_setSize 10 = .ok (.aload_n 0, 1) := by decide +kernel
theorem dX4_setSize_11 : decode cX4_setSize 11 = .ok (.iload_n 1, 1) := by decide +kernel
theorem dX4_setSize_12 : decode cX4_setSize 12 = .ok (.iload_n 2, 1) := by decide +kernel
theorem dX4_setSize_13 : decode cX4_setSize 13 = .ok (.imul, 1) := by decide +kernel
theorem dX4_setSize_14 : decode cX4_setSize 14 = .ok (.putfield 38, 3) := by decide +kernel
theorem dX4_setSize_17 : decode cX4_setSize 17 = .ok (.return_, 1) := by decide +kernel
theorem dX4_addHeight_0 : decode cX4_addHeight 0 = .ok (.aload_n 0, 1) := by decide +kernel
theorem dX4_addHeight_1 : decode cX4_addHeight 1 = .ok (.getfield 47, 3) := by decide +kernel
theorem dX4_addHeight_4 : decode cX4_addHeight 4 = .ok (.ifCond .lt 35, 3) := by decide +kernel
theorem dX4_addHeight_7 : decode cX4_addHeight 7 = .ok (.aload_n 0, 1) := by decide +kernel
theorem dX4_addHeight_8 : decode cX4_addHeight 8 = .ok (.getfield 47, 3) := by decide +kernel
theorem dX4_addHeight_11 : decode cX4_addHeight 11 = .ok (.aload_n 0, 1) := by decide +kernel
theorem dX4_addHeight_12 : decode cX4_addHeight 12 = .ok (.getfield 9, 3) := by decide +kernel
theorem dX4_addHeight_15 : decode cX4_addHeight 15 = .ok (.arraylength, 1) := by decide +kernel
theorem dX4_addHeight_16 : decode cX4_addHeight 16 = .ok (.if_icmp .ge 23, 3) := by decide +kernel
theorem dX4_addHeight_19 : decode cX4_addHeight 19 = .ok (.aload_n 0, 1) := by decide +kernel
theorem dX4_addHeight_20 : decode cX4_addHeight 20 = .ok (.getfield 9, 3) := by decide +kernel
theorem dX4_addHeight_23 : decode cX4_addHeight 23 = .ok (.aload_n 0, 1) := by decide +kernel
theorem dX4_addHeight_24 : decode cX4_addHeight 24 = .ok (.getfield 47, 3) := by decide +kernel
theorem dX4_addHeight_27 : decode cX4_addHeight 27 = .ok (.iload_n 1, 1) := by decide +kernel
theorem dX4_addHeight_28 : decode cX4_addHeight 28 = .ok (.iastore, 1) := by decide +kernel
theorem dX4_addHeight_29 : decode cX4_addHeight 29 = .ok (.aload_n 0, 1) := by decide +kernel
theorem dX4_addHeight_30 : decode cX4_addHeight 30 = .ok (.dup, 1) := by decide +kernel
theorem dX4_addHeight_31 : decode cX4_addHeight 31 = .ok (.getfield 47, 3) := by decide +kernel
theorem dX4_addHeight_34 : decode cX4_addHeight 34 = .ok (.iconst 1, 1) := by decide +kernel
theorem dX4_addHeight_35 : decode cX4_addHeight 35 = .ok (.iadd, 1) := by decide +kernel
theorem dX4_addHeight_36 : decode cX4_addHeight 36 = .ok (.putfield 47, 3) := by decide +kernel
theorem dX4_addHeight_39 : decode cX4_addHeight 39 = .ok (.return_, 1) := by decide +kernel
set_option maxRecDepth 20000 in
theorem ggX4_addItem_X4_isBehind : GoodIn wsX4_addItem wsX4_isBehind := goodIn_r _ [10, 11, 12, 13, 9, 14, 15, 16, 17, 18, 19, 20, 21, 22, 23, 24, 25, 26, 27, 28, 29, 30] (by decide +kernel) (by decide +kernel)
set_option maxRecDepth 20000 in
theorem gX4_addItem_X4_isBehind : GoodIn wsX4_addItem (wsV RX4 53 RX4 yX4_isBehind wsX4_isBehind) := goodIn_app (goodIn_of _ (by decide +kernel)) ggX4_addItem_X4_isBehind
set_option maxRecDepth 20000 in
theorem ggX4_addItem_X4_columnOf : GoodIn wsX4_addItem wsX4_columnOf := goodIn_r _ [19, 15, 20, 21, 22, 23, 24, 25, 26, 27, 28, 29, 30] (by decide +kernel) (by decide +kernel)
set_option maxRecDepth 20000 in
theorem gX4_addItem_X4_columnOf : GoodIn wsX4_addItem (wsV RX4 57 RX4 yX4_columnOf wsX4_columnOf) := goodIn_app (goodIn_of _ (by decide +kernel)) ggX4_addItem_X4_columnOf
theorem dX4_addItem_0 : decode cX4_addItem 0 = .ok (.aload_n 0, 1) := by decide +kernel
theorem dX4_addItem_1 : decode cX4_addItem 1 = .ok (.getfield 41, 3) := by decide +kernel
theorem dX4_addItem_4 : decode cX4_addItem 4 = .ok (.ifCond .lt 11, 3) := by decide +kernel
theorem dX4_addItem_7 : decode cX4_addItem 7 = .ok (.aload_n 0, 1) := by decide +kernel
theorem dX4_addItem_8 : decode cX4_addItem 8 = .ok (.getfield 41, 3) := by decide +kernel
theorem dX4_addItem_11 : decode cX4_addItem 11 = .ok (.iconst 5, 1) := by decide +kernel
theorem dX4_addItem_12 : decode cX4_addItem 12 = .ok (.if_icmp .lt 4, 3) := by decide +kernel
theorem dX4_addItem_15 : decode cX4_addItem 15 = .ok (.return_, 1) := by decide +kernel
theorem dX4_addItem_16 : decode cX4_addItem 16 = .ok (.iconst 0, 1) := by decide +kernel
theorem dX4_addItem_17 : decode cX4_addItem 17 = .ok (.istore 4, 2) := by decide +kernel
theorem dX4_addItem_19 : decode cX4_addItem 19 = .ok (.iconst 0, 1) := by decide +kernel
theorem dX4_addItem_20 : decode cX4_addItem 20 = .ok (.istore 5, 2) := by decide +kernel
theorem dX4_addItem_22 : decode cX4_addItem 22 = .ok (.iload 5, 2) := by decide +kernel
theorem dX4_addItem_24 : decode cX4_addItem 24 = .ok (.aload_n 0, 1) := by decide +kernel
theorem dX4_addItem_25 : decode cX4_addItem 25 = .ok (.getfield 38, 3) := by decide +kernel
theorem dX4_addItem_28 : decode cX4_addItem 28 = .ok (.if_icmp .ge 38, 3) := by decide +kernel
theorem dX4_addItem_31 : decode cX4_addItem 31 = .ok (.aload_n 0, 1) := by decide +kernel
theorem dX4_addItem_32 : decode cX4_addItem 32 = .ok (.iload_n 1, 1) := by decide +kernel
theorem dX4_addItem_33 : decode cX4_addItem 33 = .ok (.iload 5, 2) := by decide +kernel
theorem dX4_addItem_35 : decode cX4_addItem 35 = .ok (.invokevirtual 53, 3) := by decide +kernel
theorem dX4_addItem_38 : decode cX4_addItem 38 = .ok (.ifCond .ne 22, 3) := by decide +kernel
theorem dX4_addItem_41 : decode cX4_addItem 41 = .ok (.aload_n 0, 1) := by decide +kernel
theorem dX4_addItem_42 : decode cX4_addItem 42 = .ok (.iload 5, 2) := by decide +kernel
theorem dX4_addItem_44 : decode cX4_addItem 44 = .ok (.iload_n 2, 1) := by decide +kernel
theorem dX4_addItem_45 : decode cX4_addItem 45 = .ok (.invokevirtual 53, 3) := by decide +kernel
theorem dX4_addItem_48 : decode cX4_addItem 48 = .ok (.ifCond .ne 12, 3) := by decide +kernel
theorem dX4_addItem_51 : decode cX4_addItem 51 = .ok (.iload 4, 2) := by decide +kernel
theorem dX4_addItem_53 : decode cX4_addItem 53 = .ok (.iconst 1, 1) := by decide +kernel
theorem dX4_addItem_54 : decode cX4_addItem 54 = .ok (.iload 5, 2) := by decide +kernel
theorem dX4_addItem_56 : decode cX4_addItem 56 = .ok (.ishl, 1) := by decide +kernel
theorem dX4_addItem_57 : decode cX4_addItem 57 = .ok (.ior, 1) := by decide +kernel
theorem dX4_addItem_58 : decode cX4_addItem 58 = .ok (.istore 4, 2) := by decide +kernel
theorem dX4_addItem_60 : decode cX4_addItem 60 = .ok (.iinc 5 1, 3) := by decide +kernel
theorem dX4_addItem_63 : decode cX4_addItem 63 = .ok (.goto (-41), 3) := by decide +kernel
theorem dX4_addItem_66 : decode cX4_addItem 66 = .ok (.aload_n 0, 1) := by decide +kernel
theorem dX4_addItem_67 : decode cX4_addItem 67 = .ok (.getfield 15, 3) := by decide +kernel
theorem dX4_addItem_70 : decode cX4_addItem 70 = .ok (.aload_n 0, 1) := by decide +kernel
theorem dX4_addItem_71 : decode cX4_addItem 71 = .ok (.getfield 41, 3) := by decide +kernel
theorem dX4_addItem_74 : decode cX4_addItem 74 = .ok (.iload 4, 2) := by decide +kernel
theorem dX4_addItem_76 : decode cX4_addItem 76 = .ok (.iastore, 1) := by decide +kernel
theorem dX4_addItem_77 : decode cX4_addItem 77 = .ok (.aload_n 0, 1) := by decide +kernel
theorem dX4_addItem_78 : decode cX4_addItem 78 = .ok (.getfield 18, 3) := by decide +kernel
theorem dX4_addItem_81 : decode cX4_addItem 81 = .ok (.aload_n 0, 1) := by decide +kernel
theorem dX4_addItem_82 : decode cX4_addItem 82 = .ok (.getfield 41, 3) := by decide +kernel
theorem dX4_addItem_85 : decode cX4_addItem 85 = .ok (.iload_n 3, 1) := by decide +kernel
theorem dX4_addItem_86 : decode cX4_addItem 86 = .ok (.iastore, 1) := by decide +kernel
theorem dX4_addItem_87 : decode cX4_addItem 87 = .ok (.aload_n 0, 1) := by decide +kernel
theorem dX4_addItem_88 : decode cX4_addItem 88 = .ok (.getfield 21, 3) := by decide +kernel
theorem dX4_addItem_91 : decode cX4_addItem 91 = .ok (.aload_n 0, 1) := by decide +kernel
theorem dX4_addItem_92 : decode cX4_addItem 92 = .ok (.getfield 41, 3) := by decide +kernel
theorem dX4_addItem_95 : decode cX4_addItem 95 = .ok (.aload_n 0, 1) := by decide +kernel
theorem dX4_addItem_96 : decode cX4_addItem 96 = .ok (.iload_n 1, 1) := by decide +kernel
theorem dX4_addItem_97 : decode cX4_addItem 97 = .ok (.invokevirtual 57, 3) := by decide +kernel
theorem dX4_addItem_100 : decode cX4_addItem 100 = .ok (.iastore, 1) := by decide +kernel
theorem dX4_addItem_101 : decode cX4_addItem 101 = .ok (.aload_n 0, 1) := by decide +kernel
theorem dX4_addItem_102 : decode cX4_addItem 102 = .ok (.dup, 1) := by decide +kernel
theorem dX4_addItem_103 : decode cX4_addItem 103 = .ok (.getfield 41, 3) := by decide +kernel
theorem dX4_addItem_106 : decode cX4_addItem 106 = .ok (.iconst 1, 1) := by decide +kernel
theorem dX4_addItem_107 : decode cX4_addItem 107 = .ok (.iadd, 1) := by decide +kernel
theorem dX4_addItem_108 : decode cX4_addItem 108 = .ok (.putfield 41, 3) := by decide +kernel
theorem dX4_addItem_111 : decode cX4_addItem 111 = .ok (.return_, 1) := by decide +kernel
theorem dX4_isThere_0 : decode cX4_isThere 0 = .ok (.aload_n 0, 1) := by decide +kernel
theorem dX4_isThere_1 : decode cX4_isThere 1 = .ok (.getfield 31, 3) := by decide +kernel
theorem dX4_isThere_4 : decode cX4_isThere 4 = .ok (.ifCond .le 7, 3) := by decide +kernel
theorem dX4_isThere_7 : decode cX4_isThere 7 = .ok (.iconst 1, 1) := by decide +kernel
theorem dX4_isThere_8 : decode cX4_isThere 8 = .ok (.goto 4, 3) := by decide +kernel
theorem dX4_isThere_11 : decode cX4_isThere 11 = .ok (.iconst 0, 1) := by decide +kernel
theorem dX4_isThere_12 : decode cX4_isThere 12 = .ok (.ireturn, 1) := by decide +kernel
theorem dX4_hasVotes_0 : decode cX4_hasVotes 0 = .ok (.aload_n 0, 1) := by decide +kernel
theorem dX4_hasVotes_1 : decode cX4_hasVotes 1 = .ok (.getfield 44, 3) := by decide +kernel
theorem dX4_hasVotes_4 : decode cX4_hasVotes 4 = .ok (.ifCond .le 14, 3) := by decide +kernel
theorem dX4_hasVotes_7 : decode cX4_hasVotes 7 = .ok (.aload_n 0, 1) := by decide +kernel
theorem dX4_hasVotes_8 : decode cX4_hasVotes 8 = .ok (.getfield 41, 3) := by decide +kernel
theorem dX4_hasVotes_11 : decode cX4_hasVotes 11 = .ok (.ifCond .le 7, 3) := by decide +kernel
theorem dX4_hasVotes_14 : decode cX4_hasVotes 14 = .ok (.iconst 1, 1) := by decide +kernel
theorem dX4_hasVotes_15 : decode cX4_hasVotes 15 = .ok (.goto 4, 3) := by decide +kernel
theorem dX4_hasVotes_18 : decode cX4_hasVotes 18 = .ok (.iconst 0, 1) := by decide +kernel
theorem dX4_hasVotes_19 : decode cX4_hasVotes 19 = .ok (.ireturn, 1) := by decide +kernel
theorem dX4_hasCell_0 : decode cX4_hasCell 0 = .ok (.iload_n 1, 1) := by decide +kernel
theorem dX4_hasCell_1 : decode cX4_hasCell 1 = .ok (.ifCond .lt 15, 3) := by decide +kernel
theorem dX4_hasCell_4 : decode cX4_hasCell 4 = .ok (.iload_n 1, 1) := by decide +kernel
theorem dX4_hasCell_5 : decode cX4_hasCell 5 = .ok (.aload_n 0, 1) := by decide +kernel
theorem dX4_hasCell_6 : decode cX4_hasCell 6 = .ok (.getfield 38, 3) := by decide +kernel
theorem dX4_hasCell_9 : decode cX4_hasCell 9 = .ok (.if_icmp .ge 7, 3) := by decide +kernel
theorem dX4_hasCell_12 : decode cX4_hasCell 12 = .ok (.iconst 1, 1) := by decide +kernel
theorem dX4_hasCell_13 : decode cX4_hasCell 13 = .ok (.goto 4, 3) := by decide +kernel
theorem dX4_hasCell_16 : decode cX4_hasCell 16 = .ok (.iconst 0, 1) := by decide +kernel
theorem dX4_hasCell_17 : decode cX4_hasCell 17 = .ok (.ireturn, 1) := by decide +kernel
theorem dX4_hasItem_0 : decode cX4_hasItem 0 = .ok (.iload_n 1, 1) := by decide +kernel
theorem dX4_hasItem_1 : decode cX4_hasItem 1 = .ok (.ifCond .lt 15, 3) := by decide +kernel
theorem dX4_hasItem_4 : decode cX4_hasItem 4 = .ok (.iload_n 1, 1) := by decide +kernel
theorem dX4_hasItem_5 : decode cX4_hasItem 5 = .ok (.aload_n 0, 1) := by decide +kernel
theorem dX4_hasItem_6 : decode cX4_hasItem 6 = .ok (.getfield 41, 3) := by decide +kernel
theorem dX4_hasItem_9 : decode cX4_hasItem 9 = .ok (.if_icmp .ge 7, 3) := by decide +kernel
theorem dX4_hasItem_12 : decode cX4_hasItem 12 = .ok (.iconst 1, 1) := by decide +kernel
theorem dX4_hasItem_13 : decode cX4_hasItem 13 = .ok (.goto 4, 3) := by decide +kernel
theorem dX4_hasItem_16 : decode cX4_hasItem 16 = .ok (.iconst 0, 1) := by decide +kernel
theorem dX4_hasItem_17 : decode cX4_hasItem 17 = .ok (.ireturn, 1) := by decide +kernel
theorem dX4_hasPerson_0 : decode cX4_hasPerson 0 = .ok (.iload_n 1, 1) := by decide +kernel
theorem dX4_hasPerson_1 : decode cX4_hasPerson 1 = .ok (.ifCond .lt 15, 3) := by decide +kernel
theorem dX4_hasPerson_4 : decode cX4_hasPerson 4 = .ok (.iload_n 1, 1) := by decide +kernel
theorem dX4_hasPerson_5 : decode cX4_hasPerson 5 = .ok (.aload_n 0, 1) := by decide +kernel
theorem dX4_hasPerson_6 : decode cX4_hasPerson 6 = .ok (.getfield 44, 3) := by decide +kernel
theorem dX4_hasPerson_9 : decode cX4_hasPerson 9 = .ok (.if_icmp .ge 7, 3) := by decide +kernel
theorem dX4_hasPerson_12 : decode cX4_hasPerson 12 = .ok (.iconst 1, 1) := by decide +kernel
theorem dX4_hasPerson_13 : decode cX4_hasPerson 13 = .ok (.goto 4, 3) := by decide +kernel
theorem dX4_hasPerson_16 : decode cX4_hasPerson 16 = .ok (.iconst 0, 1) := by decide +kernel
theorem dX4_hasPerson_17 : decode cX4_hasPerson 17 = .ok (.ireturn, 1) := by decide +kernel
set_option maxRecDepth 20000 in
theorem ggX4_isBehind_X4_rowOf : GoodIn wsX4_isBehind wsX4_rowOf := goodIn_r _ [5, 6, 11, 12, 13, 14, 15, 16, 17, 18, 19, 20, 21] (by decide +kernel) (by decide +kernel)
set_option maxRecDepth 20000 in
theorem gX4_isBehind_X4_rowOf : GoodIn wsX4_isBehind (wsV RX4 61 RX4 yX4_rowOf wsX4_rowOf) := goodIn_app (goodIn_of _ (by decide +kernel)) ggX4_isBehind_X4_rowOf
set_option maxRecDepth 20000 in
theorem ggX4_isBehind_X4_columnOf : GoodIn wsX4_isBehind wsX4_columnOf := goodIn_r _ [10, 6, 11, 12, 13, 14, 15, 16, 17, 18, 19, 20, 21] (by decide +kernel) (by decide +kernel)
set_option maxRecDepth 20000 in
theorem gX4_isBehind_X4_columnOf : GoodIn wsX4_isBehind (wsV RX4 57 RX4 yX4_columnOf wsX4_columnOf) := goodIn_app (goodIn_of _ (by decide +kernel)) ggX4_isBehind_X4_columnOf
theorem dX4_isBehind_0 : decode cX4_isBehind 0 = .ok (.aload_n 0, 1) := by decide +kernel
theorem dX4_isBehind_1 : decode cX4_isBehind 1 = .ok (.iload_n 2, 1) := by decide +kernel
theorem dX4_isBehind_2 : decode cX4_isBehind 2 = .ok (.invokevirtual 61, 3) := by decide +kernel
theorem dX4_isBehind_5 : decode cX4_isBehind 5 = .ok (.aload_n 0, 1) := by decide +kernel
theorem dX4_isBehind_6 : decode cX4_isBehind 6 = .ok (.iload_n 1, 1) := by decide +kernel
theorem dX4_isBehind_7 : decode cX4_isBehind 7 = .ok (.invokevirtual 61, 3) := by decide +kernel
theorem dX4_isBehind_10 : decode cX4_isBehind 10 = .ok (.if_icmp .lt 16, 3) := by decide +kernel
theorem dX4_isBehind_13 : decode cX4_isBehind 13 = .ok (.aload_n 0, 1) := by decide +kernel
theorem dX4_isBehind_14 : decode cX4_isBehind 14 = .ok (.iload_n 2, 1) := by decide +kernel
theorem dX4_isBehind_15 : decode cX4_isBehind 15 = .ok (.invokevirtual 57, 3) := by decide +kernel
theorem dX4_isBehind_18 : decode cX4_isBehind 18 = .ok (.aload_n 0, 1) := by decide +kernel
theorem dX4_isBehind_19 : decode cX4_isBehind 19 = .ok (.iload_n 1, 1) := by decide +kernel
theorem dX4_isBehind_20 : decode cX4_isBehind 20 = .ok (.invokevirtual 57, 3) := by decide +kernel
theorem dX4_isBehind_23 : decode cX4_isBehind 23 = .ok (.if_icmp .ge 7, 3) := by decide +kernel
theorem dX4_isBehind_26 : decode cX4_isBehind 26 = .ok (.iconst 1, 1) := by decide +kernel
theorem dX4_isBehind_27 : decode cX4_isBehind 27 = .ok (.goto 4, 3) := by decide +kernel
theorem dX4_isBehind_30 : decode cX4_isBehind 30 = .ok (.iconst 0, 1) := by decide +kernel
theorem dX4_isBehind_31 : decode cX4_isBehind 31 = .ok (.ireturn, 1) := by decide +kernel
theorem dX4_rowOf_0 : decode cX4_rowOf 0 = .ok (.aload_n 0, 1) := by decide +kernel
theorem dX4_rowOf_1 : decode cX4_rowOf 1 = .ok (.getfield 31, 3) := by decide +kernel
theorem dX4_rowOf_4 : decode cX4_rowOf 4 = .ok (.ifCond .le 12, 3) := by decide +kernel
theorem dX4_rowOf_7 : decode cX4_rowOf 7 = .ok (.iload_n 1, 1) := by decide +kernel
theorem dX4_rowOf_8 : decode cX4_rowOf 8 = .ok (.aload_n 0, 1) := by decide +kernel
theorem dX4_rowOf_9 : decode cX4_rowOf 9 = .ok (.getfield 31, 3) := by decide +kernel
theorem dX4_rowOf_12 : decode cX4_rowOf 12 = .ok (.idiv, 1) := by decide +kernel
theorem dX4_rowOf_13 : decode cX4_rowOf 13 = .ok (.goto 4, 3) := by decide +kernel
theorem dX4_rowOf_16 : decode cX4_rowOf 16 = .ok (.iconst 0, 1) := by decide +kernel
theorem dX4_rowOf_17 : decode cX4_rowOf 17 = .ok (.ireturn, 1) := by decide +kernel
theorem dX4_columnOf_0 : decode cX4_columnOf 0 = .ok (.aload_n 0, 1) := by decide +kernel
theorem dX4_columnOf_1 : decode cX4_columnOf 1 = .ok (.getfield 31, 3) := by decide +kernel
theorem dX4_columnOf_4 : decode cX4_columnOf 4 = .ok (.ifCond .le 12, 3) := by decide +kernel
theorem dX4_columnOf_7 : decode cX4_columnOf 7 = .ok (.iload_n 1, 1) := by decide +kernel
theorem dX4_columnOf_8 : decode cX4_columnOf 8 = .ok (.aload_n 0, 1) := by decide +kernel
theorem dX4_columnOf_9 : decode cX4_columnOf 9 = .ok (.getfield 31, 3) := by decide +kernel
theorem dX4_columnOf_12 : decode cX4_columnOf 12 = .ok (.irem, 1) := by decide +kernel
theorem dX4_columnOf_13 : decode cX4_columnOf 13 = .ok (.goto 4, 3) := by decide +kernel
theorem dX4_columnOf_16 : decode cX4_columnOf 16 = .ok (.iconst 0, 1) := by decide +kernel
theorem dX4_columnOf_17 : decode cX4_columnOf 17 = .ok (.ireturn, 1) := by decide +kernel
theorem dX4_allCells_0 : decode cX4_allCells 0 = .ok (.iconst 1, 1) := by decide +kernel
theorem dX4_allCells_1 : decode cX4_allCells 1 = .ok (.aload_n 0, 1) := by decide +kernel
theorem dX4_allCells_2 : decode cX4_allCells 2 = .ok (.getfield 38, 3) := by decide +kernel
theorem dX4_allCells_5 : decode cX4_allCells 5 = .ok (.ishl, 1) := by decide +kernel
theorem dX4_allCells_6 : decode cX4_allCells 6 = .ok (.iconst 1, 1) := by decide +kernel
theorem dX4_allCells_7 : decode cX4_allCells 7 = .ok (.isub, 1) := by decide +kernel
theorem dX4_allCells_8 : decode cX4_allCells 8 = .ok (.ireturn, 1) := by decide +kernel
theorem dX4_ownHeight_0 : decode cX4_ownHeight 0 = .ok (.aload_n 0, 1) := by decide +kernel
theorem dX4_ownHeight_1 : decode cX4_ownHeight 1 = .ok (.getfield 47, 3) := by decide +kernel
theorem dX4_ownHeight_4 : decode cX4_ownHeight 4 = .ok (.ifCond .le 12, 3) := by decide +kernel
theorem dX4_ownHeight_7 : decode cX4_ownHeight 7 = .ok (.iload_n 1, 1) := by decide +kernel
theorem dX4_ownHeight_8 : decode cX4_ownHeight 8 = .ok (.aload_n 0, 1) := by decide +kernel
theorem dX4_ownHeight_9 : decode cX4_ownHeight 9 = .ok (.getfield 47, 3) := by decide +kernel
theorem dX4_ownHeight_12 : decode cX4_ownHeight 12 = .ok (.irem, 1) := by decide +kernel
theorem dX4_ownHeight_13 : decode cX4_ownHeight 13 = .ok (.goto 4, 3) := by decide +kernel
theorem dX4_ownHeight_16 : decode cX4_ownHeight 16 = .ok (.iconst (-1), 1) := by decide +kernel
theorem dX4_ownHeight_17 : decode cX4_ownHeight 17 = .ok (.istore_n 2, 1) := by decide +kernel
theorem dX4_ownHeight_18 : decode cX4_ownHeight 18 = .ok (.iload_n 2, 1) := by decide +kernel
theorem dX4_ownHeight_19 : decode cX4_ownHeight 19 = .ok (.ifCond .lt 21, 3) := by decide +kernel
theorem dX4_ownHeight_22 : decode cX4_ownHeight 22 = .ok (.iload_n 2, 1) := by decide +kernel
theorem dX4_ownHeight_23 : decode cX4_ownHeight 23 = .ok (.aload_n 0, 1) := by decide +kernel
theorem dX4_ownHeight_24 : decode cX4_ownHeight 24 = .ok (.getfield 9, 3) := by decide +kernel
theorem dX4_ownHeight_27 : decode cX4_ownHeight 27 = .ok (.arraylength, 1) := by decide +kernel
theorem dX4_ownHeight_28 : decode cX4_ownHeight 28 = .ok (.if_icmp .ge 12, 3) := by decide +kernel
theorem dX4_ownHeight_31 : decode cX4_ownHeight 31 = .ok (.aload_n 0, 1) := by decide +kernel
theorem dX4_ownHeight_32 : decode cX4_ownHeight 32 = .ok (.getfield 9, 3) := by decide +kernel
theorem dX4_ownHeight_35 : decode cX4_ownHeight 35 = .ok (.iload_n 2, 1) := by decide +kernel
theorem dX4_ownHeight_36 : decode cX4_ownHeight 36 = .ok (.iaload, 1) := by decide +kernel
theorem dX4_ownHeight_37 : decode cX4_ownHeight 37 = .ok (.goto 4, 3) := by decide +kernel
theorem dX4_ownHeight_40 : decode cX4_ownHeight 40 = .ok (.iconst 0, 1) := by decide +kernel
theorem dX4_ownHeight_41 : decode cX4_ownHeight 41 = .ok (.ireturn, 1) := by decide +kernel
theorem dX4_cellsOf_0 : decode cX4_cellsOf 0 = .ok (.iload_n 1, 1) := by decide +kernel
theorem dX4_cellsOf_1 : decode cX4_cellsOf 1 = .ok (.ifCond .lt 21, 3) := by decide +kernel
theorem dX4_cellsOf_4 : decode cX4_cellsOf 4 = .ok (.iload_n 1, 1) := by decide +kernel
theorem dX4_cellsOf_5 : decode cX4_cellsOf 5 = .ok (.aload_n 0, 1) := by decide +kernel
theorem dX4_cellsOf_6 : decode cX4_cellsOf 6 = .ok (.getfield 15, 3) := by decide +kernel
theorem dX4_cellsOf_9 : decode cX4_cellsOf 9 = .ok (.arraylength, 1) := by decide +kernel
theorem dX4_cellsOf_10 : decode cX4_cellsOf 10 = .ok (.if_icmp .ge 12, 3) := by decide +kernel
theorem dX4_cellsOf_13 : decode cX4_cellsOf 13 = .ok (.aload_n 0, 1) := by decide +kernel
theorem dX4_cellsOf_14 : decode cX4_cellsOf 14 = .ok (.getfield 15, 3) := by decide +kernel
theorem dX4_cellsOf_17 : decode cX4_cellsOf 17 = .ok (.iload_n 1, 1) := by decide +kernel
theorem dX4_cellsOf_18 : decode cX4_cellsOf 18 = .ok (.iaload, 1) := by decide +kernel
theorem dX4_cellsOf_19 : decode cX4_cellsOf 19 = .ok (.goto 4, 3) := by decide +kernel
theorem dX4_cellsOf_22 : decode cX4_cellsOf 22 = .ok (.iconst 0, 1) := by decide +kernel
theorem dX4_cellsOf_23 : decode cX4_cellsOf 23 = .ok (.ireturn, 1) := by decide +kernel
theorem dX4_levelOf_0 : decode cX4_levelOf 0 = .ok (.iload_n 1, 1) := by decide +kernel
theorem dX4_levelOf_1 : decode cX4_levelOf 1 = .ok (.ifCond .lt 21, 3) := by decide +kernel
theorem dX4_levelOf_4 : decode cX4_levelOf 4 = .ok (.iload_n 1, 1) := by decide +kernel
theorem dX4_levelOf_5 : decode cX4_levelOf 5 = .ok (.aload_n 0, 1) := by decide +kernel
theorem dX4_levelOf_6 : decode cX4_levelOf 6 = .ok (.getfield 18, 3) := by decide +kernel
theorem dX4_levelOf_9 : decode cX4_levelOf 9 = .ok (.arraylength, 1) := by decide +kernel
theorem dX4_levelOf_10 : decode cX4_levelOf 10 = .ok (.if_icmp .ge 12, 3) := by decide +kernel
theorem dX4_levelOf_13 : decode cX4_levelOf 13 = .ok (.aload_n 0, 1) := by decide +kernel
theorem dX4_levelOf_14 : decode cX4_levelOf 14 = .ok (.getfield 18, 3) := by decide +kernel
theorem dX4_levelOf_17 : decode cX4_levelOf 17 = .ok (.iload_n 1, 1) := by decide +kernel
theorem dX4_levelOf_18 : decode cX4_levelOf 18 = .ok (.iaload, 1) := by decide +kernel
theorem dX4_levelOf_19 : decode cX4_levelOf 19 = .ok (.goto 4, 3) := by decide +kernel
theorem dX4_levelOf_22 : decode cX4_levelOf 22 = .ok (.iconst 0, 1) := by decide +kernel
theorem dX4_levelOf_23 : decode cX4_levelOf 23 = .ok (.ireturn, 1) := by decide +kernel
theorem dX4_firstColumnOf_0 : decode cX4_firstColumnOf 0 = .ok (.iload_n 1, 1) := by decide +kernel
theorem dX4_firstColumnOf_1 : decode cX4_firstColumnOf 1 = .ok (.ifCond .lt 21, 3) := by decide +kernel
theorem dX4_firstColumnOf_4 : decode cX4_firstColumnOf 4 = .ok (.iload_n 1, 1) := by decide +kernel
theorem dX4_firstColumnOf_5 : decode cX4_firstColumnOf 5 = .ok (.aload_n 0, 1) := by decide +kernel
theorem dX4_firstColumnOf_6 : decode cX4_firstColumnOf 6 = .ok (.getfield 21, 3) := by decide +kernel
theorem dX4_firstColumnOf_9 : decode cX4_firstColumnOf 9 = .ok (.arraylength, 1) := by decide +kernel
theorem dX4_firstColumnOf_10 : decode cX4_firstColumnOf 10 = .ok (.if_icmp .ge 12, 3) := by decide +kernel
theorem dX4_firstColumnOf_13 : decode cX4_firstColumnOf 13 = .ok (.aload_n 0, 1) := by decide +kernel
theorem dX4_firstColumnOf_14 : decode cX4_firstColumnOf 14 = .ok (.getfield 21, 3) := by decide +kernel
theorem dX4_firstColumnOf_17 : decode cX4_firstColumnOf 17 = .ok (.iload_n 1, 1) := by decide +kernel
theorem dX4_firstColumnOf_18 : decode cX4_firstColumnOf 18 = .ok (.iaload, 1) := by decide +kernel
theorem dX4_firstColumnOf_19 : decode cX4_firstColumnOf 19 = .ok (.goto 4, 3) := by decide +kernel
theorem dX4_firstColumnOf_22 : decode cX4_firstColumnOf 22 = .ok (.iconst 0, 1) := by decide +kernel
theorem dX4_firstColumnOf_23 : decode cX4_firstColumnOf 23 = .ok (.ireturn, 1) := by decide +kernel
set_option maxRecDepth 20000 in
theorem ggX5_init_X0_init : GoodIn wsX5_init wsX0_init := goodIn_r _ [9, 10, 2, 3, 11, 12, 13, 14, 15, 16, 17, 18] (by decide +kernel) (by decide +kernel)
set_option maxRecDepth 20000 in
theorem gX5_init_X0_init_n9 : GoodIn wsX5_init (wsX0_init) := ggX5_init_X0_init
theorem dX5_init_0 : decode cX5_init 0 = .ok (.aload_n 0, 1) := by decide +kernel
theorem dX5_init_1 : decode cX5_init 1 = .ok (.invokespecial 1, 3) := by decide +kernel
theorem dX5_init_4 : decode cX5_init 4 = .ok (.aload_n 0, 1) := by decide +kernel
theorem dX5_init_5 : decode cX5_init 5 = .ok (.new 7, 3) := by decide +kernel
theorem dX5_init_8 : decode cX5_init 8 = .ok (.dup, 1) := by decide +kernel
theorem dX5_init_9 : decode cX5_init 9 = .ok (.invokespecial 9, 3) := by decide +kernel
theorem dX5_init_12 : decode cX5_init 12 = .ok (.putfield 10, 3) := by decide +kernel
theorem dX5_init_15 : decode cX5_init 15 = .ok (.return_, 1) := by decide +kernel
theorem dX6_init_0 : decode cX6_init 0 = .ok (.aload_n 0, 1) := by decide +kernel
theorem dX6_init_1 : decode cX6_init 1 = .ok (.invokespecial 3, 3) := by decide +kernel
theorem dX6_init_4 : decode cX6_init 4 = .ok (.aload_n 0, 1) := by decide +kernel
theorem dX6_init_5 : decode cX6_init 5 = .ok (.bipush 6, 2) := by decide +kernel
theorem dX6_init_7 : decode cX6_init 7 = .ok (.newarray .int, 2) := by decide +kernel
theorem dX6_init_9 : decode cX6_init 9 = .ok (.putfield 9, 3) := by decide +kernel
theorem dX6_init_12 : decode cX6_init 12 = .ok (.aload_n 0, 1) := by decide +kernel
theorem dX6_init_13 : decode cX6_init 13 = .ok (.bipush 6, 2) := by decide +kernel
theorem dX6_init_15 : decode cX6_init 15 = .ok (.newarray .int, 2) := by decide +kernel
theorem dX6_init_17 : decode cX6_init 17 = .ok (.putfield 15, 3) := by decide +kernel
theorem dX6_init_20 : decode cX6_init 20 = .ok (.aload_n 0, 1) := by decide +kernel
theorem dX6_init_21 : decode cX6_init 21 = .ok (.bipush 15, 2) := by decide +kernel
theorem dX6_init_23 : decode cX6_init 23 = .ok (.newarray .int, 2) := by decide +kernel
theorem dX6_init_25 : decode cX6_init 25 = .ok (.putfield 18, 3) := by decide +kernel
theorem dX6_init_28 : decode cX6_init 28 = .ok (.aload_n 0, 1) := by decide +kernel
theorem dX6_init_29 : decode cX6_init 29 = .ok (.bipush 15, 2) := by decide +kernel
theorem dX6_init_31 : decode cX6_init 31 = .ok (.newarray .int, 2) := by decide +kernel
theorem dX6_init_33 : decode cX6_init 33 = .ok (.putfield 21, 3) := by decide +kernel
theorem dX6_init_36 : decode cX6_init 36 = .ok (.return_, 1) := by decide +kernel
theorem dX6_clear_0 : decode cX6_clear 0 = .ok (.aload_n 0, 1) := by decide +kernel
theorem dX6_clear_1 : decode cX6_clear 1 = .ok (.iconst 0, 1) := by decide +kernel
theorem dX6_clear_2 : decode cX6_clear 2 = .ok (.putfield 24, 3) := by decide +kernel
theorem dX6_clear_5 : decode cX6_clear 5 = .ok (.aload_n 0, 1) := by decide +kernel
theorem dX6_clear_6 : decode cX6_clear 6 = .ok (.iconst 0, 1) := by decide +kernel
theorem dX6_clear_7 : decode cX6_clear 7 = .ok (.putfield 28, 3) := by decide +kernel
theorem dX6_clear_10 : decode cX6_clear 10 = .ok (.return_, 1) := by decide +kernel
theorem dX6_addSeen_0 : decode cX6_addSeen 0 = .ok (.aload_n 0, 1) := by decide +kernel
theorem dX6_addSeen_1 : decode cX6_addSeen 1 = .ok (.getfield 24, 3) := by decide +kernel
theorem dX6_addSeen_4 : decode cX6_addSeen 4 = .ok (.ifCond .lt 42, 3) := by decide +kernel
theorem dX6_addSeen_7 : decode cX6_addSeen 7 = .ok (.aload_n 0, 1) := by decide +kernel
theorem dX6_addSeen_8 : decode cX6_addSeen 8 = .ok (.getfield 24, 3) := by decide +kernel
theorem dX6_addSeen_11 : decode cX6_addSeen 11 = .ok (.bipush 6, 2) := by decide +kernel
theorem dX6_addSeen_13 : decode cX6_addSeen 13 = .ok (.if_icmp .ge 33, 3) := by decide +kernel
theorem dX6_addSeen_16 : decode cX6_addSeen 16 = .ok (.aload_n 0, 1) := by decide +kernel
theorem dX6_addSeen_17 : decode cX6_addSeen 17 = .ok (.getfield 9, 3) := by decide +kernel
theorem dX6_addSeen_20 : decode cX6_addSeen 20 = .ok (.aload_n 0, 1) := by decide +kernel
theorem dX6_addSeen_21 : decode cX6_addSeen 21 = .ok (.getfield 24, 3) := by decide +kernel
theorem dX6_addSeen_24 : decode cX6_addSeen 24 = .ok (.iload_n 1, 1) := by decide +kernel
theorem dX6_addSeen_25 : decode cX6_addSeen 25 = .ok (.iastore, 1) := by decide +kernel
theorem dX6_addSeen_26 : decode cX6_addSeen 26 = .ok (.aload_n 0, 1) := by decide +kernel
theorem dX6_addSeen_27 : decode cX6_addSeen 27 = .ok (.getfield 15, 3) := by decide +kernel
theorem dX6_addSeen_30 : decode cX6_addSeen 30 = .ok (.aload_n 0, 1) := by decide +kernel
theorem dX6_addSeen_31 : decode cX6_addSeen 31 = .ok (.getfield 24, 3) := by decide +kernel
theorem dX6_addSeen_34 : decode cX6_addSeen 34 = .ok (.iload_n 2, 1) := by decide +kernel
theorem dX6_addSeen_35 : decode cX6_addSeen 35 = .ok (.iastore, 1) := by decide +kernel
theorem dX6_addSeen_36 : decode cX6_addSeen 36 = .ok (.aload_n 0, 1) := by decide +kernel
theorem dX6_addSeen_37 : decode cX6_addSeen 37 = .ok (.dup, 1) := by decide +kernel
theorem dX6_addSeen_38 : decode cX6_addSeen 38 = .ok (.getfield 24, 3) := by decide +kernel
theorem dX6_addSeen_41 : decode cX6_addSeen 41 = .ok (.iconst 1, 1) := by decide +kernel
theorem dX6_addSeen_42 : decode cX6_addSeen 42 = .ok (.iadd, 1) := by decide +kernel
theorem dX6_addSeen_43 : decode cX6_addSeen 43 = .ok (.putfield 24, 3) := by decide +kernel
theorem dX6_addSeen_46 : decode cX6_addSeen 46 = .ok (.return_, 1) := by decide +kernel
theorem dX6_addEntry_0 : decode cX6_addEntry 0 = .ok (.aload_n 0, 1) := by decide +kernel
theorem dX6_addEntry_1 : decode cX6_addEntry 1 = .ok (.getfield 28, 3) := by decide +kernel
theorem dX6_addEntry_4 : decode cX6_addEntry 4 = .ok (.ifCond .lt 42, 3) := by decide +kernel
theorem dX6_addEntry_7 : decode cX6_addEntry 7 = .ok (.aload_n 0, 1) := by decide +kernel
theorem dX6_addEntry_8 : decode cX6_addEntry 8 = .ok (.getfield 28, 3) := by decide +kernel
theorem dX6_addEntry_11 : decode cX6_addEntry 11 = .ok (.bipush 15, 2) := by decide +kernel
theorem dX6_addEntry_13 : decode cX6_addEntry 13 = .ok (.if_icmp .ge 33, 3) := by decide +kernel
theorem dX6_addEntry_16 : decode cX6_addEntry 16 = .ok (.aload_n 0, 1) := by decide +kernel
theorem dX6_addEntry_17 : decode cX6_addEntry 17 = .ok (.getfield 18, 3) := by decide +kernel
theorem dX6_addEntry_20 : decode cX6_addEntry 20 = .ok (.aload_n 0, 1) := by decide +kernel
theorem dX6_addEntry_21 : decode cX6_addEntry 21 = .ok (.getfield 28, 3) := by decide +kernel
theorem dX6_addEntry_24 : decode cX6_addEntry 24 = .ok (.iload_n 1, 1) := by decide +kernel
theorem dX6_addEntry_25 : decode cX6_addEntry 25 = .ok (.iastore, 1) := by decide +kernel
theorem dX6_addEntry_26 : decode cX6_addEntry 26 = .ok (.aload_n 0, 1) := by decide +kernel
theorem dX6_addEntry_27 : decode cX6_addEntry 27 = .ok (.getfield 21, 3) := by decide +kernel
theorem dX6_addEntry_30 : decode cX6_addEntry 30 = .ok (.aload_n 0, 1) := by decide +kernel
theorem dX6_addEntry_31 : decode cX6_addEntry 31 = .ok (.getfield 28, 3) := by decide +kernel
theorem dX6_addEntry_34 : decode cX6_addEntry 34 = .ok (.iload_n 2, 1) := by decide +kernel
theorem dX6_addEntry_35 : decode cX6_addEntry 35 = .ok (.iastore, 1) := by decide +kernel
theorem dX6_addEntry_36 : decode cX6_addEntry 36 = .ok (.aload_n 0, 1) := by decide +kernel
theorem dX6_addEntry_37 : decode cX6_addEntry 37 = .ok (.dup, 1) := by decide +kernel
theorem dX6_addEntry_38 : decode cX6_addEntry 38 = .ok (.getfield 28, 3) := by decide +kernel
theorem dX6_addEntry_41 : decode cX6_addEntry 41 = .ok (.iconst 1, 1) := by decide +kernel
theorem dX6_addEntry_42 : decode cX6_addEntry 42 = .ok (.iadd, 1) := by decide +kernel
theorem dX6_addEntry_43 : decode cX6_addEntry 43 = .ok (.putfield 28, 3) := by decide +kernel
theorem dX6_addEntry_46 : decode cX6_addEntry 46 = .ok (.return_, 1) := by decide +kernel
theorem dX6_seenFrom_0 : decode cX6_seenFrom 0 = .ok (.iload_n 1, 1) := by decide +kernel
theorem dX6_seenFrom_1 : decode cX6_seenFrom 1 = .ok (.ifCond .lt 21, 3) := by decide +kernel
theorem dX6_seenFrom_4 : decode cX6_seenFrom 4 = .ok (.iload_n 1, 1) := by decide +kernel
theorem dX6_seenFrom_5 : decode cX6_seenFrom 5 = .ok (.aload_n 0, 1) := by decide +kernel
theorem dX6_seenFrom_6 : decode cX6_seenFrom 6 = .ok (.getfield 9, 3) := by decide +kernel
theorem dX6_seenFrom_9 : decode cX6_seenFrom 9 = .ok (.arraylength, 1) := by decide +kernel
theorem dX6_seenFrom_10 : decode cX6_seenFrom 10 = .ok (.if_icmp .ge 12, 3) := by decide +kernel
theorem dX6_seenFrom_13 : decode cX6_seenFrom 13 = .ok (.aload_n 0, 1) := by decide +kernel
theorem dX6_seenFrom_14 : decode cX6_seenFrom 14 = .ok (.getfield 9, 3) := by decide +kernel
theorem dX6_seenFrom_17 : decode cX6_seenFrom 17 = .ok (.iload_n 1, 1) := by decide +kernel
theorem dX6_seenFrom_18 : decode cX6_seenFrom 18 = .ok (.iaload, 1) := by decide +kernel
theorem dX6_seenFrom_19 : decode cX6_seenFrom 19 = .ok (.goto 4, 3) := by decide +kernel
theorem dX6_seenFrom_22 : decode cX6_seenFrom 22 = .ok (.iconst 0, 1) := by decide +kernel
theorem dX6_seenFrom_23 : decode cX6_seenFrom 23 = .ok (.ireturn, 1) := by decide +kernel
theorem dX6_seenTo_0 : decode cX6_seenTo 0 = .ok (.iload_n 1, 1) := by decide +kernel
theorem dX6_seenTo_1 : decode cX6_seenTo 1 = .ok (.ifCond .lt 21, 3) := by decide +kernel
theorem dX6_seenTo_4 : decode cX6_seenTo 4 = .ok (.iload_n 1, 1) := by decide +kernel
theorem dX6_seenTo_5 : decode cX6_seenTo 5 = .ok (.aload_n 0, 1) := by decide +kernel
theorem dX6_seenTo_6 : decode cX6_seenTo 6 = .ok (.getfield 15, 3) := by decide +kernel
theorem dX6_seenTo_9 : decode cX6_seenTo 9 = .ok (.arraylength, 1) := by decide +kernel
theorem dX6_seenTo_10 : decode cX6_seenTo 10 = .ok (.if_icmp .ge 12, 3) := by decide +kernel
theorem dX6_seenTo_13 : decode cX6_seenTo 13 = .ok (.aload_n 0, 1) := by decide +kernel
theorem dX6_seenTo_14 : decode cX6_seenTo 14 = .ok (.getfield 15, 3) := by decide +kernel
theorem dX6_seenTo_17 : decode cX6_seenTo 17 = .ok (.iload_n 1, 1) := by decide +kernel
theorem dX6_seenTo_18 : decode cX6_seenTo 18 = .ok (.iaload, 1) := by decide +kernel
theorem dX6_seenTo_19 : decode cX6_seenTo 19 = .ok (.goto 4, 3) := by decide +kernel
theorem dX6_seenTo_22 : decode cX6_seenTo 22 = .ok (.iconst 0, 1) := by decide +kernel
theorem dX6_seenTo_23 : decode cX6_seenTo 23 = .ok (.ireturn, 1) := by decide +kernel
theorem dX6_entryCell_0 : decode cX6_entryCell 0 = .ok (.iload_n 1, 1) := by decide +kernel
theorem dX6_entryCell_1 : decode cX6_entryCell 1 = .ok (.ifCond .lt 21, 3) := by decide +kernel
theorem dX6_entryCell_4 : decode cX6_entryCell 4 = .ok (.iload_n 1, 1) := by decide +kernel
theorem dX6_entryCell_5 : decode cX6_entryCell 5 = .ok (.aload_n 0, 1) := by decide +kernel
theorem dX6_entryCell_6 : decode cX6_entryCell 6 = .ok (.getfield 18, 3) := by decide +kernel
theorem dX6_entryCell_9 : decode cX6_entryCell 9 = .ok (.arraylength, 1) := by decide +kernel
theorem dX6_entryCell_10 : decode cX6_entryCell 10 = .ok (.if_icmp .ge 12, 3) := by decide +kernel
theorem dX6_entryCell_13 : decode cX6_entryCell 13 = .ok (.aload_n 0, 1) := by decide +kernel
theorem dX6_entryCell_14 : decode cX6_entryCell 14 = .ok (.getfield 18, 3) := by decide +kernel
theorem dX6_entryCell_17 : decode cX6_entryCell 17 = .ok (.iload_n 1, 1) := by decide +kernel
theorem dX6_entryCell_18 : decode cX6_entryCell 18 = .ok (.iaload, 1) := by decide +kernel
theorem dX6_entryCell_19 : decode cX6_entryCell 19 = .ok (.goto 4, 3) := by decide +kernel
theorem dX6_entryCell_22 : decode cX6_entryCell 22 = .ok (.iconst 0, 1) := by decide +kernel
theorem dX6_entryCell_23 : decode cX6_entryCell 23 = .ok (.ireturn, 1) := by decide +kernel
theorem dX6_entryHeight_0 : decode cX6_entryHeight 0 = .ok (.iload_n 1, 1) := by decide +kernel
theorem dX6_entryHeight_1 : decode cX6_entryHeight 1 = .ok (.ifCond .lt 21, 3) := by decide +kernel
theorem dX6_entryHeight_4 : decode cX6_entryHeight 4 = .ok (.iload_n 1, 1) := by decide +kernel
theorem dX6_entryHeight_5 : decode cX6_entryHeight 5 = .ok (.aload_n 0, 1) := by decide +kernel
theorem dX6_entryHeight_6 : decode cX6_entryHeight 6 = .ok (.getfield 21, 3) := by decide +kernel
theorem dX6_entryHeight_9 : decode cX6_entryHeight 9 = .ok (.arraylength, 1) := by decide +kernel
theorem dX6_entryHeight_10 : decode cX6_entryHeight 10 = .ok (.if_icmp .ge 12, 3) := by decide +kernel
theorem dX6_entryHeight_13 : decode cX6_entryHeight 13 = .ok (.aload_n 0, 1) := by decide +kernel
theorem dX6_entryHeight_14 : decode cX6_entryHeight 14 = .ok (.getfield 21, 3) := by decide +kernel
theorem dX6_entryHeight_17 : decode cX6_entryHeight 17 = .ok (.iload_n 1, 1) := by decide +kernel
theorem dX6_entryHeight_18 : decode cX6_entryHeight 18 = .ok (.iaload, 1) := by decide +kernel
theorem dX6_entryHeight_19 : decode cX6_entryHeight 19 = .ok (.goto 4, 3) := by decide +kernel
theorem dX6_entryHeight_22 : decode cX6_entryHeight 22 = .ok (.iconst 0, 1) := by decide +kernel
theorem dX6_entryHeight_23 : decode cX6_entryHeight 23 = .ok (.ireturn, 1) := by decide +kernel
theorem dX7_init_0 : decode cX7_init 0 = .ok (.aload_n 0, 1) := by decide +kernel
theorem dX7_init_1 : decode cX7_init 1 = .ok (.invokespecial 3, 3) := by decide +kernel
theorem dX7_init_4 : decode cX7_init 4 = .ok (.aload_n 0, 1) := by decide +kernel
theorem dX7_init_5 : decode cX7_init 5 = .ok (.sipush 240, 3) := by decide +kernel
theorem dX7_init_8 : decode cX7_init 8 = .ok (.newarray .int, 2) := by decide +kernel
theorem dX7_init_10 : decode cX7_init 10 = .ok (.putfield 9, 3) := by decide +kernel
theorem dX7_init_13 : decode cX7_init 13 = .ok (.aload_n 0, 1) := by decide +kernel
theorem dX7_init_14 : decode cX7_init 14 = .ok (.iconst (-1), 1) := by decide +kernel
theorem dX7_init_15 : decode cX7_init 15 = .ok (.putfield 15, 3) := by decide +kernel
theorem dX7_init_18 : decode cX7_init 18 = .ok (.return_, 1) := by decide +kernel
theorem dX7_isFull_0 : decode cX7_isFull 0 = .ok (.aload_n 0, 1) := by decide +kernel
theorem dX7_isFull_1 : decode cX7_isFull 1 = .ok (.getfield 19, 3) := by decide +kernel
theorem dX7_isFull_4 : decode cX7_isFull 4 = .ok (.aload_n 0, 1) := by decide +kernel
theorem dX7_isFull_5 : decode cX7_isFull 5 = .ok (.getfield 9, 3) := by decide +kernel
theorem dX7_isFull_8 : decode cX7_isFull 8 = .ok (.arraylength, 1) := by decide +kernel
theorem dX7_isFull_9 : decode cX7_isFull 9 = .ok (.if_icmp .lt 7, 3) := by decide +kernel
theorem dX7_isFull_12 : decode cX7_isFull 12 = .ok (.iconst 1, 1) := by decide +kernel
theorem dX7_isFull_13 : decode cX7_isFull 13 = .ok (.goto 4, 3) := by decide +kernel
theorem dX7_isFull_16 : decode cX7_isFull 16 = .ok (.iconst 0, 1) := by decide +kernel
theorem dX7_isFull_17 : decode cX7_isFull 17 = .ok (.ireturn, 1) := by decide +kernel
theorem dX7_add_0 : decode cX7_add 0 = .ok (.aload_n 0, 1) := by decide +kernel
theorem dX7_add_1 : decode cX7_add 1 = .ok (.getfield 19, 3) := by decide +kernel
theorem dX7_add_4 : decode cX7_add 4 = .ok (.ifCond .lt 35, 3) := by decide +kernel
theorem dX7_add_7 : decode cX7_add 7 = .ok (.aload_n 0, 1) := by decide +kernel
theorem dX7_add_8 : decode cX7_add 8 = .ok (.getfield 19, 3) := by decide +kernel
theorem dX7_add_11 : decode cX7_add 11 = .ok (.aload_n 0, 1) := by decide +kernel
theorem dX7_add_12 : decode cX7_add 12 = .ok (.getfield 9, 3) := by decide +kernel
theorem dX7_add_15 : decode cX7_add 15 = .ok (.arraylength, 1) := by decide +kernel
theorem dX7_add_16 : decode cX7_add 16 = .ok (.if_icmp .ge 23, 3) := by decide +kernel
theorem dX7_add_19 : decode cX7_add 19 = .ok (.aload_n 0, 1) := by decide +kernel
theorem dX7_add_20 : decode cX7_add 20 = .ok (.getfield 9, 3) := by decide +kernel
theorem dX7_add_23 : decode cX7_add 23 = .ok (.aload_n 0, 1) := by decide +kernel
theorem dX7_add_24 : decode cX7_add 24 = .ok (.getfield 19, 3) := by decide +kernel
theorem dX7_add_27 : decode cX7_add 27 = .ok (.iload_n 1, 1) := by decide +kernel
theorem dX7_add_28 : decode cX7_add 28 = .ok (.iastore, 1) := by decide +kernel
theorem dX7_add_29 : decode cX7_add 29 = .ok (.aload_n 0, 1) := by decide +kernel
theorem dX7_add_30 : decode cX7_add 30 = .ok (.dup, 1) := by decide +kernel
theorem dX7_add_31 : decode cX7_add 31 = .ok (.getfield 19, 3) := by decide +kernel
theorem dX7_add_34 : decode cX7_add 34 = .ok (.iconst 1, 1) := by decide +kernel
theorem dX7_add_35 : decode cX7_add 35 = .ok (.iadd, 1) := by decide +kernel
theorem dX7_add_36 : decode cX7_add 36 = .ok (.putfield 19, 3) := by decide +kernel
theorem dX7_add_39 : decode cX7_add 39 = .ok (.return_, 1) := by decide +kernel
set_option maxRecDepth 20000 in
theorem ggX7_readInto_X4_clear : GoodIn wsX7_readInto wsX4_clear := goodIn_r _ [9, 10, 11, 12, 13, 14, 15, 16, 17, 18, 19, 20, 21, 22, 23, 24, 25, 26, 27, 28, 29, 135, 136, 137, 138, 139, 140, 141, 142, 143, 144, 145, 146, 147, 148, 149] (by decide +kernel) (by decide +kernel)
set_option maxRecDepth 20000 in
theorem gX7_readInto_X4_clear : GoodIn wsX7_readInto (wsV RX7 22 RX4 yX4_clear wsX4_clear) := goodIn_app (goodIn_of _ (by decide +kernel)) ggX7_readInto_X4_clear
set_option maxRecDepth 20000 in
theorem ggX7_readInto_X7_skipBlanks : GoodIn wsX7_readInto wsX7_skipBlanks := goodIn_r _ [34, 3, 35, 36, 37, 33, 38, 4, 39, 129, 130, 131, 132, 133, 134] (by decide +kernel) (by decide +kernel)
set_option maxRecDepth 20000 in
theorem gX7_readInto_X7_skipBlanks : GoodIn wsX7_readInto (wsV RX7 33 RX7 yX7_skipBlanks wsX7_skipBlanks) := goodIn_app (goodIn_of _ (by decide +kernel)) ggX7_readInto_X7_skipBlanks
set_option maxRecDepth 20000 in
theorem ggX7_readInto_X7_readClause : GoodIn wsX7_readInto wsX7_readClause := goodIn_r _ [43, 3, 35, 36, 37, 33, 38, 4, 39, 44, 45, 46, 47, 48, 49, 50, 51, 52, 8, 53, 10, 54, 55, 56, 57, 1, 2, 58, 59, 60, 61, 62, 63, 64, 65, 66, 30, 31, 32, 34, 67, 68, 69, 70, 71, 72, 73, 74, 75, 76, 77, 78, 79, 80, 81, 11, 12, 82, 83, 84, 85, 86, 87, 88, 89, 15, 90, 91, 92, 93, 94, 95, 96, 97, 98, 99, 100, 101, 102, 103, 104, 105, 106, 107, 108, 109, 110, 111, 13, 112, 113, 114, 115, 116, 117, 118, 119, 120, 121, 122, 123, 20, 124, 22, 23, 125, 126, 127, 128, 129, 130, 131, 132, 133, 134, 135, 136, 137, 138, 139, 140, 141, 142, 143, 144, 145, 146, 147, 148, 149] (by decide +kernel) (by decide +kernel)
set_option maxRecDepth 20000 in
theorem gX7_readInto_X7_readClause : GoodIn wsX7_readInto (wsV RX7 36 RX7 yX7_readClause wsX7_readClause) := goodIn_app (goodIn_of _ (by decide +kernel)) ggX7_readInto_X7_readClause
theorem dX7_readInto_0 : decode cX7_readInto 0 = .ok (.aload_n 1, 1) := by decide +kernel
theorem dX7_readInto_1 : decode cX7_readInto 1 = .ok (.invokevirtual 22, 3) := by decide +kernel
theorem dX7_readInto_4 : decode cX7_readInto 4 = .ok (.aload_n 0, 1) := by decide +kernel
theorem dX7_readInto_5 : decode cX7_readInto 5 = .ok (.iconst 0, 1) := by decide +kernel
theorem dX7_readInto_6 : decode cX7_readInto 6 = .ok (.putfield 27, 3) := by decide +kernel
theorem dX7_readInto_9 : decode cX7_readInto 9 = .ok (.aload_n 0, 1) := by decide +kernel
theorem dX7_readInto_10 : decode cX7_readInto 10 = .ok (.iconst (-1), 1) := by decide +kernel
theorem dX7_readInto_11 : decode cX7_readInto 11 = .ok (.putfield 15, 3) := by decide +kernel
theorem dX7_readInto_14 : decode cX7_readInto 14 = .ok (.aload_n 0, 1) := by decide +kernel
theorem dX7_readInto_15 : decode cX7_readInto 15 = .ok (.iconst 0, 1) := by decide +kernel
theorem dX7_readInto_16 : decode cX7_readInto 16 = .ok (.putfield 30, 3) := by decide +kernel
theorem dX7_readInto_19 : decode cX7_readInto 19 = .ok (.aload_n 0, 1) := by decide +kernel
theorem dX7_readInto_20 : decode cX7_readInto 20 = .ok (.invokevirtual 33, 3) := by decide +kernel
theorem dX7_readInto_23 : decode cX7_readInto 23 = .ok (.iconst 0, 1) := by decide +kernel
theorem dX7_readInto_24 : decode cX7_readInto 24 = .ok (.istore_n 2, 1) := by decide +kernel
theorem dX7_readInto_25 : decode cX7_readInto 25 = .ok (.iload_n 2, 1) := by decide +kernel
theorem dX7_readInto_26 : decode cX7_readInto 26 = .ok (.sipush 240, 3) := by decide +kernel
theorem dX7_readInto_29 : decode cX7_readInto 29 = .ok (.if_icmp .ge 36, 3) := by decide +kernel
theorem dX7_readInto_32 : decode cX7_readInto 32 = .ok (.aload_n 0, 1) := by decide +kernel
theorem dX7_readInto_33 : decode cX7_readInto 33 = .ok (.getfield 30, 3) := by decide +kernel
theorem dX7_readInto_36 : decode cX7_readInto 36 = .ok (.aload_n 0, 1) := by decide +kernel
theorem dX7_readInto_37 : decode cX7_readInto 37 = .ok (.getfield 19, 3) := by decide +kernel
theorem dX7_readInto_40 : decode cX7_readInto 40 = .ok (.if_icmp .ge 25, 3) := by decide +kernel
theorem dX7_readInto_43 : decode cX7_readInto 43 = .ok (.aload_n 0, 1) := by decide +kernel
theorem dX7_readInto_44 : decode cX7_readInto 44 = .ok (.getfield 27, 3) := by decide +kernel
theorem dX7_readInto_47 : decode cX7_readInto 47 = .ok (.ifCond .ne 18, 3) := by decide +kernel
theorem dX7_readInto_50 : decode cX7_readInto 50 = .ok (.aload_n 0, 1) := by decide +kernel
theorem dX7_readInto_51 : decode cX7_readInto 51 = .ok (.aload_n 1, 1) := by decide +kernel
theorem dX7_readInto_52 : decode cX7_readInto 52 = .ok (.invokevirtual 36, 3) := by decide +kernel
theorem dX7_readInto_55 : decode cX7_readInto 55 = .ok (.aload_n 0, 1) := by decide +kernel
theorem dX7_readInto_56 : decode cX7_readInto 56 = .ok (.invokevirtual 33, 3) := by decide +kernel
theorem dX7_readInto_59 : decode cX7_readInto 59 = .ok (.iinc 2 1, 3) := by decide +kernel
theorem dX7_readInto_62 : decode cX7_readInto 62 = .ok (.goto (-37), 3) := by decide +kernel
theorem dX7_readInto_65 : decode cX7_readInto 65 = .ok (.aload_n 0, 1) := by decide +kernel
theorem dX7_readInto_66 : decode cX7_readInto 66 = .ok (.iconst 0, 1) := by decide +kernel
theorem dX7_readInto_67 : decode cX7_readInto 67 = .ok (.putfield 19, 3) := by decide +kernel
theorem dX7_readInto_70 : decode cX7_readInto 70 = .ok (.aload_n 0, 1) := by decide +kernel
theorem dX7_readInto_71 : decode cX7_readInto 71 = .ok (.getfield 27, 3) := by decide +kernel
theorem dX7_readInto_74 : decode cX7_readInto 74 = .ok (.ireturn, 1) := by decide +kernel
set_option maxRecDepth 20000 in
theorem ggX7_readClause_X7_letterAt : GoodIn wsX7_readClause wsX7_letterAt := goodIn_r _ [6, 7, 8, 109, 110, 111, 112, 113, 114] (by decide +kernel) (by decide +kernel)
set_option maxRecDepth 20000 in
theorem gX7_readClause_X7_letterAt : GoodIn wsX7_readClause (wsV RX7 40 RX7 yX7_letterAt wsX7_letterAt) := goodIn_app (goodIn_of _ (by decide +kernel)) ggX7_readClause_X7_letterAt
set_option maxRecDepth 20000 in
theorem ggX7_readClause_X7_flawOfWord : GoodIn wsX7_readClause wsX7_flawOfWord := goodIn_r _ [11, 12, 13, 14, 15, 16, 17, 18, 19, 20, 115, 116, 117, 118, 119, 120, 121, 122, 123, 124, 125] (by decide +kernel) (by decide +kernel)
set_option maxRecDepth 20000 in
theorem gX7_readClause_X7_flawOfWord : GoodIn wsX7_readClause (va_wsS RX7 44 yX7_flawOfWord wsX7_flawOfWord) := goodIn_app (goodIn_of _ (by decide +kernel)) ggX7_readClause_X7_flawOfWord
set_option maxRecDepth 20000 in
theorem ggX7_readClause_X7_fail : GoodIn wsX7_readClause wsX7_fail := goodIn_r _ [24, 25, 26, 109, 110, 111, 112, 113, 114] (by decide +kernel) (by decide +kernel)
set_option maxRecDepth 20000 in
theorem gX7_readClause_X7_fail : GoodIn wsX7_readClause (wsV RX7 48 RX7 yX7_fail wsX7_fail) := goodIn_app (goodIn_of _ (by decide +kernel)) ggX7_readClause_X7_fail
set_option maxRecDepth 20000 in
theorem ggX7_readClause_X7_readSize : GoodIn wsX7_readClause wsX7_readSize := goodIn_r _ [30, 25, 31, 32, 33, 5, 34, 35, 36, 37, 38, 39, 1, 2, 3, 4, 6, 7, 8, 40, 41, 42, 43, 44, 45, 46, 21, 22, 23, 24, 26, 47, 48, 49, 50, 51, 52, 53, 18, 54, 20, 55, 56, 109, 110, 111, 112, 113, 114, 115, 116, 117, 118, 119, 120, 121, 122, 123, 124, 125] (by decide +kernel) (by decide +kernel)
set_option maxRecDepth 20000 in
theorem gX7_readClause_X7_readSize : GoodIn wsX7_readClause (wsV RX7 52 RX7 yX7_readSize wsX7_readSize) := goodIn_app (goodIn_of _ (by decide +kernel)) ggX7_readClause_X7_readSize
set_option maxRecDepth 20000 in
theorem ggX7_readClause_X7_readHeights : GoodIn wsX7_readClause wsX7_readHeights := goodIn_r _ [60, 25, 1, 31, 32, 33, 5, 34, 35, 36, 37, 38, 39, 2, 3, 4, 6, 7, 8, 40, 41, 42, 43, 44, 45, 46, 21, 22, 23, 24, 26, 47, 48, 49, 50, 61, 62, 63, 18, 64, 65, 66, 109, 110, 111, 112, 113, 114, 115, 116, 117, 118, 119, 120, 121, 122, 123, 124, 125] (by decide +kernel) (by decide +kernel)
set_option maxRecDepth 20000 in
theorem gX7_readClause_X7_readHeights : GoodIn wsX7_readClause (wsV RX7 55 RX7 yX7_readHeights wsX7_readHeights) := goodIn_app (goodIn_of _ (by decide +kernel)) ggX7_readClause_X7_readHeights
set_option maxRecDepth 20000 in
theorem ggX7_readClause_X7_readItem : GoodIn wsX7_readClause wsX7_readItem := goodIn_r _ [70, 71, 25, 35, 31, 32, 33, 5, 34, 36, 37, 38, 39, 1, 2, 3, 4, 6, 7, 8, 40, 41, 42, 43, 44, 45, 46, 21, 22, 23, 24, 26, 47, 48, 49, 50, 72, 73, 74, 18, 75, 76, 77, 78, 79, 20, 80, 81, 82, 83, 84, 85, 86, 87, 88, 56, 89, 90, 91, 92, 115, 116, 117, 118, 119, 120, 121, 122, 123, 124, 125, 109, 110, 111, 112, 113, 114] (by decide +kernel) (by decide +kernel)
set_option maxRecDepth 20000 in
theorem gX7_readClause_X7_readItem : GoodIn wsX7_readClause (wsV RX7 58 RX7 yX7_readItem wsX7_readItem) := goodIn_app (goodIn_of _ (by decide +kernel)) ggX7_readClause_X7_readItem
set_option maxRecDepth 20000 in
theorem ggX7_readClause_X7_readPerson : GoodIn wsX7_readClause wsX7_readPerson := goodIn_r _ [96, 25, 35, 97, 14, 36, 37, 38, 5, 39, 1, 2, 3, 4, 6, 7, 8, 40, 41, 42, 43, 44, 45, 46, 21, 22, 23, 24, 26, 47, 48, 49, 50, 98, 99, 100, 101, 102, 103, 104, 109, 110, 111, 112, 113, 114, 115, 116, 117, 118, 119, 120, 121, 122, 123, 124, 125, 126, 127, 128, 129] (by decide +kernel) (by decide +kernel)
set_option maxRecDepth 20000 in
theorem gX7_readClause_X7_readPerson : GoodIn wsX7_readClause (wsV RX7 61 RX7 yX7_readPerson wsX7_readPerson) := goodIn_app (goodIn_of _ (by decide +kernel)) ggX7_readClause_X7_readPerson
set_option maxRecDepth 20000 in
theorem ggX7_readClause_X7_readClose : GoodIn wsX7_readClause wsX7_readClose := goodIn_r _ [108, 1, 36, 37, 38, 5, 39, 2, 3, 4, 6, 7, 8, 21, 22, 23, 24, 25, 26, 109, 110, 111, 112, 113, 114] (by decide +kernel) (by decide +kernel)
set_option maxRecDepth 20000 in
theorem gX7_readClause_X7_readClose : GoodIn wsX7_readClause (wsV RX7 64 RX7 yX7_readClose wsX7_readClose) := goodIn_app (goodIn_of _ (by decide +kernel)) ggX7_readClause_X7_readClose
theorem dX7_readClause_0 : decode cX7_readClause 0 = .ok (.aload_n 0, 1) := by decide +kernel
theorem dX7_readClause_1 : decode cX7_readClause 1 = .ok (.aload_n 0, 1) := by decide +kernel
theorem dX7_readClause_2 : decode cX7_readClause 2 = .ok (.getfield 30, 3) := by decide +kernel
theorem dX7_readClause_5 : decode cX7_readClause 5 = .ok (.invokevirtual 40, 3) := by decide +kernel
theorem dX7_readClause_8 : decode cX7_readClause 8 = .ok (.istore_n 2, 1) := by decide +kernel
theorem dX7_readClause_9 : decode cX7_readClause 9 = .ok (.iload_n 2, 1) := by decide +kernel
theorem dX7_readClause_10 : decode cX7_readClause 10 = .ok (.aload_n 1, 1) := by decide +kernel
theorem dX7_readClause_11 : decode cX7_readClause 11 = .ok (.invokestatic 44, 3) := by decide +kernel
theorem dX7_readClause_14 : decode cX7_readClause 14 = .ok (.istore_n 3, 1) := by decide +kernel
theorem dX7_readClause_15 : decode cX7_readClause 15 = .ok (.iload_n 3, 1) := by decide +kernel
theorem dX7_readClause_16 : decode cX7_readClause 16 = .ok (.ifCond .eq 13, 3) := by decide +kernel
theorem dX7_readClause_19 : decode cX7_readClause 19 = .ok (.aload_n 0, 1) := by decide +kernel
theorem dX7_readClause_20 : decode cX7_readClause 20 = .ok (.iload_n 3, 1) := by decide +kernel
theorem dX7_readClause_21 : decode cX7_readClause 21 = .ok (.aload_n 0, 1) := by decide +kernel
theorem dX7_readClause_22 : decode cX7_readClause 22 = .ok (.getfield 30, 3) := by decide +kernel
theorem dX7_readClause_25 : decode cX7_readClause 25 = .ok (.invokevirtual 48, 3) := by decide +kernel
theorem dX7_readClause_28 : decode cX7_readClause 28 = .ok (.return_, 1) := by decide +kernel
theorem dX7_readClause_29 : decode cX7_readClause 29 = .ok (.aload_n 0, 1) := by decide +kernel
theorem dX7_readClause_30 : decode cX7_readClause 30 = .ok (.dup, 1) := by decide +kernel
theorem dX7_readClause_31 : decode cX7_readClause 31 = .ok (.getfield 30, 3) := by decide +kernel
theorem dX7_readClause_34 : decode cX7_readClause 34 = .ok (.iconst 1, 1) := by decide +kernel
theorem dX7_readClause_35 : decode cX7_readClause 35 = .ok (.iadd, 1) := by decide +kernel
theorem dX7_readClause_36 : decode cX7_readClause 36 = .ok (.putfield 30, 3) := by decide +kernel
theorem dX7_readClause_39 : decode cX7_readClause 39 = .ok (.iload_n 2, 1) := by decide +kernel
theorem dX7_readClause_40 : decode cX7_readClause 40 = .ok (.bipush 104, 2) := by decide +kernel
theorem dX7_readClause_42 : decode cX7_readClause 42 = .ok (.if_icmp .ne 11, 3) := by decide +kernel
theorem dX7_readClause_45 : decode cX7_readClause 45 = .ok (.aload_n 0, 1) := by decide +kernel
theorem dX7_readClause_46 : decode cX7_readClause 46 = .ok (.aload_n 1, 1) := by decide +kernel
theorem dX7_readClause_47 : decode cX7_readClause 47 = .ok (.invokevirtual 52, 3) := by decide +kernel
theorem dX7_readClause_50 : decode cX7_readClause 50 = .ok (.goto 36, 3) := by decide +kernel
theorem dX7_readClause_53 : decode cX7_readClause 53 = .ok (.iload_n 2, 1) := by decide +kernel
theorem dX7_readClause_54 : decode cX7_readClause 54 = .ok (.bipush 103, 2) := by decide +kernel
theorem dX7_readClause_56 : decode cX7_readClause 56 = .ok (.if_icmp .ne 11, 3) := by decide +kernel
theorem dX7_readClause_59 : decode cX7_readClause 59 = .ok (.aload_n 0, 1) := by decide +kernel
theorem dX7_readClause_60 : decode cX7_readClause 60 = .ok (.aload_n 1, 1) := by decide +kernel
theorem dX7_readClause_61 : decode cX7_readClause 61 = .ok (.invokevirtual 55, 3) := by decide +kernel
theorem dX7_readClause_64 : decode cX7_readClause 64 = .ok (.goto 22, 3) := by decide +kernel
theorem dX7_readClause_67 : decode cX7_readClause 67 = .ok (.iload_n 2, 1) := by decide +kernel
theorem dX7_readClause_68 : decode cX7_readClause 68 = .ok (.bipush 105, 2) := by decide +kernel
theorem dX7_readClause_70 : decode cX7_readClause 70 = .ok (.if_icmp .ne 11, 3) := by decide +kernel
theorem dX7_readClause_73 : decode cX7_readClause 73 = .ok (.aload_n 0, 1) := by decide +kernel
theorem dX7_readClause_74 : decode cX7_readClause 74 = .ok (.aload_n 1, 1) := by decide +kernel
theorem dX7_readClause_75 : decode cX7_readClause 75 = .ok (.invokevirtual 58, 3) := by decide +kernel
theorem dX7_readClause_78 : decode cX7_readClause 78 = .ok (.goto 8, 3) := by decide +kernel
theorem dX7_readClause_81 : decode cX7_readClause 81 = .ok (.aload_n 0, 1) := by decide +kernel
theorem dX7_readClause_82 : decode cX7_readClause 82 = .ok (.aload_n 1, 1) := by decide +kernel
theorem dX7_readClause_83 : decode cX7_readClause 83 = .ok (.invokevirtual 61, 3) := by decide +kernel
theorem dX7_readClause_86 : decode cX7_readClause 86 = .ok (.aload_n 0, 1) := by decide +kernel
theorem dX7_readClause_87 : decode cX7_readClause 87 = .ok (.invokevirtual 64, 3) := by decide +kernel
theorem dX7_readClause_90 : decode cX7_readClause 90 = .ok (.return_, 1) := by decide +kernel
set_option maxRecDepth 20000 in
theorem ggX7_flawOfWord_X4_isThere : GoodIn wsX7_flawOfWord wsX4_isThere := goodIn_r _ [8, 9, 10, 11, 12, 13, 14, 15, 16, 17, 18, 19, 20] (by decide +kernel) (by decide +kernel)
set_option maxRecDepth 20000 in
theorem gX7_flawOfWord_X4_isThere : GoodIn wsX7_flawOfWord (wsV RX7 67 RX4 yX4_isThere wsX4_isThere) := goodIn_app (goodIn_of _ (by decide +kernel)) ggX7_flawOfWord_X4_isThere
theorem dX7_flawOfWord_0 : decode cX7_flawOfWord 0 = .ok (.aload_n 1, 1) := by decide +kernel
theorem dX7_flawOfWord_1 : decode cX7_flawOfWord 1 = .ok (.invokevirtual 67, 3) := by decide +kernel
theorem dX7_flawOfWord_4 : decode cX7_flawOfWord 4 = .ok (.ifCond .ne 15, 3) := by decide +kernel
theorem dX7_flawOfWord_7 : decode cX7_flawOfWord 7 = .ok (.iload_n 0, 1) := by decide +kernel
theorem dX7_flawOfWord_8 : decode cX7_flawOfWord 8 = .ok (.bipush 104, 2) := by decide +kernel
theorem dX7_flawOfWord_10 : decode cX7_flawOfWord 10 = .ok (.if_icmp .ne 7, 3) := by decide +kernel
theorem dX7_flawOfWord_13 : decode cX7_flawOfWord 13 = .ok (.iconst 0, 1) := by decide +kernel
theorem dX7_flawOfWord_14 : decode cX7_flawOfWord 14 = .ok (.goto 4, 3) := by decide +kernel
theorem dX7_flawOfWord_17 : decode cX7_flawOfWord 17 = .ok (.iconst 1, 1) := by decide +kernel
theorem dX7_flawOfWord_18 : decode cX7_flawOfWord 18 = .ok (.ireturn, 1) := by decide +kernel
theorem dX7_flawOfWord_19 : decode cX7_flawOfWord 19 = .ok (.iload_n 0, 1) := by decide +kernel
theorem dX7_flawOfWord_20 : decode cX7_flawOfWord 20 = .ok (.tableswitch 100 103 112 #[58, 56, 71, 100, 100, 100, 100, 100, 100, 85], 56) := by decide +kernel
theorem dX7_flawOfWord_76 : decode cX7_flawOfWord 76 = .ok (.iconst 3, 1) := by decide +kernel
theorem dX7_flawOfWord_77 : decode cX7_flawOfWord 77 = .ok (.ireturn, 1) := by decide +kernel
theorem dX7_flawOfWord_78 : decode cX7_flawOfWord 78 = .ok (.aload_n 1, 1) := by decide +kernel
theorem dX7_flawOfWord_79 : decode cX7_flawOfWord 79 = .ok (.getfield 71, 3) := by decide +kernel
theorem dX7_flawOfWord_82 : decode cX7_flawOfWord 82 = .ok (.ifCond .le 7, 3) := by decide +kernel
theorem dX7_flawOfWord_85 : decode cX7_flawOfWord 85 = .ok (.iconst 3, 1) := by decide +kernel
theorem dX7_flawOfWord_86 : decode cX7_flawOfWord 86 = .ok (.goto 4, 3) := by decide +kernel
theorem dX7_flawOfWord_89 : decode cX7_flawOfWord 89 = .ok (.iconst 0, 1) := by decide +kernel
theorem dX7_flawOfWord_90 : decode cX7_flawOfWord 90 = .ok (.ireturn, 1) := by decide +kernel
theorem dX7_flawOfWord_91 : decode cX7_flawOfWord 91 = .ok (.aload_n 1, 1) := by decide +kernel
theorem dX7_flawOfWord_92 : decode cX7_flawOfWord 92 = .ok (.getfield 74, 3) := by decide +kernel
theorem dX7_flawOfWord_95 : decode cX7_flawOfWord 95 = .ok (.iconst 5, 1) := by decide +kernel
theorem dX7_flawOfWord_96 : decode cX7_flawOfWord 96 = .ok (.if_icmp .lt 7, 3) := by decide +kernel
theorem dX7_flawOfWord_99 : decode cX7_flawOfWord 99 = .ok (.iconst 3, 1) := by decide +kernel
theorem dX7_flawOfWord_100 : decode cX7_flawOfWord 100 = .ok (.goto 4, 3) := by decide +kernel
theorem dX7_flawOfWord_103 : decode cX7_flawOfWord 103 = .ok (.iconst 0, 1) := by decide +kernel
theorem dX7_flawOfWord_104 : decode cX7_flawOfWord 104 = .ok (.ireturn, 1) := by decide +kernel
theorem dX7_flawOfWord_105 : decode cX7_flawOfWord 105 = .ok (.aload_n 1, 1) := by decide +kernel
theorem dX7_flawOfWord_106 : decode cX7_flawOfWord 106 = .ok (.getfield 77, 3) := by decide +kernel
theorem dX7_flawOfWord_109 : decode cX7_flawOfWord 109 = .ok (.bipush 7, 2) := by decide +kernel
theorem dX7_flawOfWord_111 : decode cX7_flawOfWord 111 = .ok (.if_icmp .lt 7, 3) := by decide +kernel
theorem dX7_flawOfWord_114 : decode cX7_flawOfWord 114 = .ok (.iconst 3, 1) := by decide +kernel
theorem dX7_flawOfWord_115 : decode cX7_flawOfWord 115 = .ok (.goto 4, 3) := by decide +kernel
theorem dX7_flawOfWord_118 : decode cX7_flawOfWord 118 = .ok (.iconst 0, 1) := by decide +kernel
theorem dX7_flawOfWord_119 : decode cX7_flawOfWord 119 = .ok (.ireturn, 1) := by decide +kernel
theorem dX7_flawOfWord_120 : decode cX7_flawOfWord 120 = .ok (.iconst 1, 1) := by decide +kernel
theorem dX7_flawOfWord_121 : decode cX7_flawOfWord 121 = .ok (.ireturn, 1) := by decide +kernel
set_option maxRecDepth 20000 in
theorem ggX7_readSize_X7_readNumber : GoodIn wsX7_readSize wsX7_readNumber := goodIn_r _ [6, 1, 7, 8, 9, 10, 5, 11, 12, 13, 14, 15, 16, 17, 18, 19, 20, 21, 22, 23, 24, 25, 26, 27, 28, 29, 30, 31, 32, 33, 34, 43, 44, 45, 46, 47, 48] (by decide +kernel) (by decide +kernel)
set_option maxRecDepth 20000 in
theorem gX7_readSize_X7_readNumber : GoodIn wsX7_readSize (wsV RX7 80 RX7 yX7_readNumber wsX7_readNumber) := goodIn_app (goodIn_of _ (by decide +kernel)) ggX7_readSize_X7_readNumber
set_option maxRecDepth 20000 in
theorem ggX7_readSize_X4_setSize : GoodIn wsX7_readSize wsX4_setSize := goodIn_r _ [39, 40, 41, 42, 49, 50, 51, 52, 53, 54, 55, 56, 57, 58, 59] (by decide +kernel) (by decide +kernel)
set_option maxRecDepth 20000 in
theorem gX7_readSize_X4_setSize : GoodIn wsX7_readSize (wsV RX7 84 RX4 yX4_setSize wsX4_setSize) := goodIn_app (goodIn_of _ (by decide +kernel)) ggX7_readSize_X4_setSize
theorem dX7_readSize_0 : decode cX7_readSize 0 = .ok (.aload_n 0, 1) := by decide +kernel
theorem dX7_readSize_1 : decode cX7_readSize 1 = .ok (.iconst 1, 1) := by decide +kernel
theorem dX7_readSize_2 : decode cX7_readSize 2 = .ok (.iconst 5, 1) := by decide +kernel
theorem dX7_readSize_3 : decode cX7_readSize 3 = .ok (.invokevirtual 80, 3) := by decide +kernel
theorem dX7_readSize_6 : decode cX7_readSize 6 = .ok (.istore_n 2, 1) := by decide +kernel
theorem dX7_readSize_7 : decode cX7_readSize 7 = .ok (.aload_n 0, 1) := by decide +kernel
theorem dX7_readSize_8 : decode cX7_readSize 8 = .ok (.iconst 1, 1) := by decide +kernel
theorem dX7_readSize_9 : decode cX7_readSize 9 = .ok (.iconst 4, 1) := by decide +kernel
theorem dX7_readSize_10 : decode cX7_readSize 10 = .ok (.invokevirtual 80, 3) := by decide +kernel
theorem dX7_readSize_13 : decode cX7_readSize 13 = .ok (.istore_n 3, 1) := by decide +kernel
theorem dX7_readSize_14 : decode cX7_readSize 14 = .ok (.aload_n 0, 1) := by decide +kernel
theorem dX7_readSize_15 : decode cX7_readSize 15 = .ok (.getfield 27, 3) := by decide +kernel
theorem dX7_readSize_18 : decode cX7_readSize 18 = .ok (.ifCond .ne 9, 3) := by decide +kernel
theorem dX7_readSize_21 : decode cX7_readSize 21 = .ok (.aload_n 1, 1) := by decide +kernel
theorem dX7_readSize_22 : decode cX7_readSize 22 = .ok (.iload_n 2, 1) := by decide +kernel
theorem dX7_readSize_23 : decode cX7_readSize 23 = .ok (.iload_n 3, 1) := by decide +kernel
theorem dX7_readSize_24 : decode cX7_readSize 24 = .ok (.invokevirtual 84, 3) := by decide +kernel
theorem dX7_readSize_27 : decode cX7_readSize 27 = .ok (.return_, 1) := by decide +kernel
set_option maxRecDepth 20000 in
theorem ggX7_readHeights_X7_readNumber : GoodIn wsX7_readHeights wsX7_readNumber := goodIn_r _ [7, 1, 8, 9, 10, 11, 6, 12, 2, 13, 14, 15, 16, 17, 18, 19, 20, 21, 22, 23, 24, 25, 26, 27, 28, 29, 30, 31, 32, 33, 34, 42, 43, 44, 45, 46, 47] (by decide +kernel) (by decide +kernel)
set_option maxRecDepth 20000 in
theorem gX7_readHeights_X7_readNumber : GoodIn wsX7_readHeights (wsV RX7 80 RX7 yX7_readNumber wsX7_readNumber) := goodIn_app (goodIn_of _ (by decide +kernel)) ggX7_readHeights_X7_readNumber
set_option maxRecDepth 20000 in
theorem ggX7_readHeights_X7_skipBlanks : GoodIn wsX7_readHeights wsX7_skipBlanks := goodIn_r _ [12, 2, 13, 14, 15, 6, 16, 17, 18, 42, 43, 44, 45, 46, 47] (by decide +kernel) (by decide +kernel)
set_option maxRecDepth 20000 in
theorem gX7_readHeights_X7_skipBlanks : GoodIn wsX7_readHeights (wsV RX7 33 RX7 yX7_skipBlanks wsX7_skipBlanks) := goodIn_app (goodIn_of _ (by decide +kernel)) ggX7_readHeights_X7_skipBlanks
set_option maxRecDepth 20000 in
theorem ggX7_readHeights_X4_addHeight : GoodIn wsX7_readHeights wsX4_addHeight := goodIn_r _ [39, 40, 41, 48, 49, 50, 51, 52, 53, 54, 55, 56, 57, 58] (by decide +kernel) (by decide +kernel)
set_option maxRecDepth 20000 in
theorem gX7_readHeights_X4_addHeight : GoodIn wsX7_readHeights (wsV RX7 87 RX4 yX4_addHeight wsX4_addHeight) := goodIn_app (goodIn_of _ (by decide +kernel)) ggX7_readHeights_X4_addHeight
set_option maxRecDepth 20000 in
theorem ggX7_readHeights_X7_letterAt : GoodIn wsX7_readHeights wsX7_letterAt := goodIn_r _ [16, 17, 18, 42, 43, 44, 45, 46, 47] (by decide +kernel) (by decide +kernel)
set_option maxRecDepth 20000 in
theorem gX7_readHeights_X7_letterAt : GoodIn wsX7_readHeights (wsV RX7 40 RX7 yX7_letterAt wsX7_letterAt) := goodIn_app (goodIn_of _ (by decide +kernel)) ggX7_readHeights_X7_letterAt
theorem dX7_readHeights_0 : decode cX7_readHeights 0 = .ok (.iconst 1, 1) := by decide +kernel
theorem dX7_readHeights_1 : decode cX7_readHeights 1 = .ok (.istore_n 2, 1) := by decide +kernel
theorem dX7_readHeights_2 : decode cX7_readHeights 2 = .ok (.iload_n 2, 1) := by decide +kernel
theorem dX7_readHeights_3 : decode cX7_readHeights 3 = .ok (.bipush 20, 2) := by decide +kernel
theorem dX7_readHeights_5 : decode cX7_readHeights 5 = .ok (.if_icmp .gt 70, 3) := by decide +kernel
theorem dX7_readHeights_8 : decode cX7_readHeights 8 = .ok (.aload_n 0, 1) := by decide +kernel
theorem dX7_readHeights_9 : decode cX7_readHeights 9 = .ok (.getfield 27, 3) := by decide +kernel
theorem dX7_readHeights_12 : decode cX7_readHeights 12 = .ok (.ifCond .ne 63, 3) := by decide +kernel
theorem dX7_readHeights_15 : decode cX7_readHeights 15 = .ok (.aload_n 0, 1) := by decide +kernel
theorem dX7_readHeights_16 : decode cX7_readHeights 16 = .ok (.iconst 0, 1) := by decide +kernel
theorem dX7_readHeights_17 : decode cX7_readHeights 17 = .ok (.bipush 9, 2) := by decide +kernel
theorem dX7_readHeights_19 : decode cX7_readHeights 19 = .ok (.invokevirtual 80, 3) := by decide +kernel
theorem dX7_readHeights_22 : decode cX7_readHeights 22 = .ok (.istore_n 3, 1) := by decide +kernel
theorem dX7_readHeights_23 : decode cX7_readHeights 23 = .ok (.aload_n 0, 1) := by decide +kernel
theorem dX7_readHeights_24 : decode cX7_readHeights 24 = .ok (.invokevirtual 33, 3) := by decide +kernel
theorem dX7_readHeights_27 : decode cX7_readHeights 27 = .ok (.aload_n 0, 1) := by decide +kernel
theorem dX7_readHeights_28 : decode cX7_readHeights 28 = .ok (.getfield 27, 3) := by decide +kernel
theorem dX7_readHeights_31 : decode cX7_readHeights 31 = .ok (.ifCond .ne 8, 3) := by decide +kernel
theorem dX7_readHeights_34 : decode cX7_readHeights 34 = .ok (.aload_n 1, 1) := by decide +kernel
theorem dX7_readHeights_35 : decode cX7_readHeights 35 = .ok (.iload_n 3, 1) := by decide +kernel
theorem dX7_readHeights_36 : decode cX7_readHeights 36 = .ok (.invokevirtual 87, 3) := by decide +kernel
theorem dX7_readHeights_39 : decode cX7_readHeights 39 = .ok (.aload_n 0, 1) := by decide +kernel
theorem dX7_readHeights_40 : decode cX7_readHeights 40 = .ok (.aload_n 0, 1) := by decide +kernel
theorem dX7_readHeights_41 : decode cX7_readHeights 41 = .ok (.getfield 30, 3) := by decide +kernel
theorem dX7_readHeights_44 : decode cX7_readHeights 44 = .ok (.invokevirtual 40, 3) := by decide +kernel
theorem dX7_readHeights_47 : decode cX7_readHeights 47 = .ok (.bipush 44, 2) := by decide +kernel
theorem dX7_readHeights_49 : decode cX7_readHeights 49 = .ok (.if_icmp .ne 9, 3) := by decide +kernel
theorem dX7_readHeights_52 : decode cX7_readHeights 52 = .ok (.iload_n 2, 1) := by decide +kernel
theorem dX7_readHeights_53 : decode cX7_readHeights 53 = .ok (.bipush 20, 2) := by decide +kernel
theorem dX7_readHeights_55 : decode cX7_readHeights 55 = .ok (.if_icmp .ne 4, 3) := by decide +kernel
theorem dX7_readHeights_58 : decode cX7_readHeights 58 = .ok (.return_, 1) := by decide +kernel
theorem dX7_readHeights_59 : decode cX7_readHeights 59 = .ok (.aload_n 0, 1) := by decide +kernel
theorem dX7_readHeights_60 : decode cX7_readHeights 60 = .ok (.dup, 1) := by decide +kernel
theorem dX7_readHeights_61 : decode cX7_readHeights 61 = .ok (.getfield 30, 3) := by decide +kernel
theorem dX7_readHeights_64 : decode cX7_readHeights 64 = .ok (.iconst 1, 1) := by decide +kernel
theorem dX7_readHeights_65 : decode cX7_readHeights 65 = .ok (.iadd, 1) := by decide +kernel
theorem dX7_readHeights_66 : decode cX7_readHeights 66 = .ok (.putfield 30, 3) := by decide +kernel
theorem dX7_readHeights_69 : decode cX7_readHeights 69 = .ok (.iinc 2 1, 3) := by decide +kernel
theorem dX7_readHeights_72 : decode cX7_readHeights 72 = .ok (.goto (-70), 3) := by decide +kernel
theorem dX7_readHeights_75 : decode cX7_readHeights 75 = .ok (.return_, 1) := by decide +kernel
set_option maxRecDepth 20000 in
theorem ggX7_readItem_X7_readNumber : GoodIn wsX7_readItem wsX7_readNumber := goodIn_r _ [8, 2, 3, 9, 10, 11, 7, 12, 13, 14, 15, 16, 17, 18, 19, 20, 21, 22, 23, 24, 25, 26, 27, 28, 29, 30, 31, 32, 33, 34, 35, 71, 72, 73, 74, 75, 76] (by decide +kernel) (by decide +kernel)
set_option maxRecDepth 20000 in
theorem gX7_readItem_X7_readNumber : GoodIn wsX7_readItem (wsV RX7 80 RX7 yX7_readNumber wsX7_readNumber) := goodIn_app (goodIn_of _ (by decide +kernel)) ggX7_readItem_X7_readNumber
set_option maxRecDepth 20000 in
theorem ggX7_readItem_X4_isBehind : GoodIn wsX7_readItem wsX4_isBehind := goodIn_r _ [40, 41, 42, 43, 39, 44, 45, 46, 47, 48, 49, 60, 61, 62, 63, 64, 65, 66, 67, 68, 69, 70] (by decide +kernel) (by decide +kernel)
set_option maxRecDepth 20000 in
theorem gX7_readItem_X4_isBehind : GoodIn wsX7_readItem (wsV RX7 94 RX4 yX4_isBehind wsX4_isBehind) := goodIn_app (goodIn_of _ (by decide +kernel)) ggX7_readItem_X4_isBehind
set_option maxRecDepth 20000 in
theorem ggX7_readItem_X7_fail : GoodIn wsX7_readItem wsX7_fail := goodIn_r _ [30, 2, 31, 71, 72, 73, 74, 75, 76] (by decide +kernel) (by decide +kernel)
set_option maxRecDepth 20000 in
theorem gX7_readItem_X7_fail : GoodIn wsX7_readItem (wsV RX7 48 RX7 yX7_fail wsX7_fail) := goodIn_app (goodIn_of _ (by decide +kernel)) ggX7_readItem_X7_fail
set_option maxRecDepth 20000 in
theorem ggX7_readItem_X4_addItem : GoodIn wsX7_readItem wsX4_addItem := goodIn_r _ [53, 54, 55, 56, 57, 58, 59, 37, 38, 39, 40, 41, 42, 43, 44, 45, 46, 47, 48, 49, 60, 61, 62, 63, 64, 65, 66, 67, 68, 69, 70] (by decide +kernel) (by decide +kernel)
set_option maxRecDepth 20000 in
theorem gX7_readItem_X4_addItem : GoodIn wsX7_readItem (wsV RX7 101 RX4 yX4_addItem wsX4_addItem) := goodIn_app (goodIn_of _ (by decide +kernel)) ggX7_readItem_X4_addItem
theorem dX7_readItem_0 : decode cX7_readItem 0 = .ok (.aload_n 0, 1) := by decide +kernel
theorem dX7_readItem_1 : decode cX7_readItem 1 = .ok (.iconst 0, 1) := by decide +kernel
theorem dX7_readItem_2 : decode cX7_readItem 2 = .ok (.aload_n 1, 1) := by decide +kernel
theorem dX7_readItem_3 : decode cX7_readItem 3 = .ok (.getfield 91, 3) := by decide +kernel
theorem dX7_readItem_6 : decode cX7_readItem 6 = .ok (.iconst 1, 1) := by decide +kernel
theorem dX7_readItem_7 : decode cX7_readItem 7 = .ok (.isub, 1) := by decide +kernel
theorem dX7_readItem_8 : decode cX7_readItem 8 = .ok (.invokevirtual 80, 3) := by decide +kernel
theorem dX7_readItem_11 : decode cX7_readItem 11 = .ok (.istore_n 2, 1) := by decide +kernel
theorem dX7_readItem_12 : decode cX7_readItem 12 = .ok (.aload_n 0, 1) := by decide +kernel
theorem dX7_readItem_13 : decode cX7_readItem 13 = .ok (.iconst 0, 1) := by decide +kernel
theorem dX7_readItem_14 : decode cX7_readItem 14 = .ok (.aload_n 1, 1) := by decide +kernel
theorem dX7_readItem_15 : decode cX7_readItem 15 = .ok (.getfield 91, 3) := by decide +kernel
theorem dX7_readItem_18 : decode cX7_readItem 18 = .ok (.iconst 1, 1) := by decide +kernel
theorem dX7_readItem_19 : decode cX7_readItem 19 = .ok (.isub, 1) := by decide +kernel
theorem dX7_readItem_20 : decode cX7_readItem 20 = .ok (.invokevirtual 80, 3) := by decide +kernel
theorem dX7_readItem_23 : decode cX7_readItem 23 = .ok (.istore_n 3, 1) := by decide +kernel
theorem dX7_readItem_24 : decode cX7_readItem 24 = .ok (.aload_n 0, 1) := by decide +kernel
theorem dX7_readItem_25 : decode cX7_readItem 25 = .ok (.getfield 27, 3) := by decide +kernel
theorem dX7_readItem_28 : decode cX7_readItem 28 = .ok (.ifCond .ne 21, 3) := by decide +kernel
theorem dX7_readItem_31 : decode cX7_readItem 31 = .ok (.aload_n 1, 1) := by decide +kernel
theorem dX7_readItem_32 : decode cX7_readItem 32 = .ok (.iload_n 2, 1) := by decide +kernel
theorem dX7_readItem_33 : decode cX7_readItem 33 = .ok (.iload_n 3, 1) := by decide +kernel
theorem dX7_readItem_34 : decode cX7_readItem 34 = .ok (.invokevirtual 94, 3) := by decide +kernel
theorem dX7_readItem_37 : decode cX7_readItem 37 = .ok (.ifCond .eq 12, 3) := by decide +kernel
theorem dX7_readItem_40 : decode cX7_readItem 40 = .ok (.aload_n 0, 1) := by decide +kernel
theorem dX7_readItem_41 : decode cX7_readItem 41 = .ok (.iconst 4, 1) := by decide +kernel
theorem dX7_readItem_42 : decode cX7_readItem 42 = .ok (.aload_n 0, 1) := by decide +kernel
theorem dX7_readItem_43 : decode cX7_readItem 43 = .ok (.getfield 98, 3) := by decide +kernel
theorem dX7_readItem_46 : decode cX7_readItem 46 = .ok (.invokevirtual 48, 3) := by decide +kernel
theorem dX7_readItem_49 : decode cX7_readItem 49 = .ok (.aload_n 0, 1) := by decide +kernel
theorem dX7_readItem_50 : decode cX7_readItem 50 = .ok (.iconst 0, 1) := by decide +kernel
theorem dX7_readItem_51 : decode cX7_readItem 51 = .ok (.bipush 9, 2) := by decide +kernel
theorem dX7_readItem_53 : decode cX7_readItem 53 = .ok (.invokevirtual 80, 3) := by decide +kernel
theorem dX7_readItem_56 : decode cX7_readItem 56 = .ok (.istore 4, 2) := by decide +kernel
theorem dX7_readItem_58 : decode cX7_readItem 58 = .ok (.aload_n 0, 1) := by decide +kernel
theorem dX7_readItem_59 : decode cX7_readItem 59 = .ok (.getfield 27, 3) := by decide +kernel
theorem dX7_readItem_62 : decode cX7_readItem 62 = .ok (.ifCond .ne 11, 3) := by decide +kernel
theorem dX7_readItem_65 : decode cX7_readItem 65 = .ok (.aload_n 1, 1) := by decide +kernel
theorem dX7_readItem_66 : decode cX7_readItem 66 = .ok (.iload_n 2, 1) := by decide +kernel
theorem dX7_readItem_67 : decode cX7_readItem 67 = .ok (.iload_n 3, 1) := by decide +kernel
theorem dX7_readItem_68 : decode cX7_readItem 68 = .ok (.iload 4, 2) := by decide +kernel
theorem dX7_readItem_70 : decode cX7_readItem 70 = .ok (.invokevirtual 101, 3) := by decide +kernel
theorem dX7_readItem_73 : decode cX7_readItem 73 = .ok (.return_, 1) := by decide +kernel
set_option maxRecDepth 20000 in
theorem ggX7_readPerson_X7_skipBlanks : GoodIn wsX7_readPerson wsX7_skipBlanks := goodIn_r _ [9, 10, 11, 12, 13, 8, 14, 15, 16, 40, 41, 42, 43, 44, 45] (by decide +kernel) (by decide +kernel)
set_option maxRecDepth 20000 in
theorem gX7_readPerson_X7_skipBlanks : GoodIn wsX7_readPerson (wsV RX7 33 RX7 yX7_skipBlanks wsX7_skipBlanks) := goodIn_app (goodIn_of _ (by decide +kernel)) ggX7_readPerson_X7_skipBlanks
set_option maxRecDepth 20000 in
theorem ggX7_readPerson_X7_readFigures : GoodIn wsX7_readPerson wsX7_readFigures := goodIn_r _ [20, 10, 2, 11, 12, 13, 8, 14, 15, 16, 21, 22, 23, 24, 25, 26, 27, 1, 28, 40, 41, 42, 43, 44, 45] (by decide +kernel) (by decide +kernel)
set_option maxRecDepth 20000 in
theorem gX7_readPerson_X7_readFigures : GoodIn wsX7_readPerson (wsV RX7 105 RX7 yX7_readFigures wsX7_readFigures) := goodIn_app (goodIn_of _ (by decide +kernel)) ggX7_readPerson_X7_readFigures
set_option maxRecDepth 20000 in
theorem ggX7_readPerson_X7_figureAt : GoodIn wsX7_readPerson wsX7_figureAt := goodIn_r _ [32, 11, 12, 13, 8, 14, 15, 16, 21, 22, 23, 40, 41, 42, 43, 44, 45] (by decide +kernel) (by decide +kernel)
set_option maxRecDepth 20000 in
theorem gX7_readPerson_X7_figureAt : GoodIn wsX7_readPerson (wsV RX7 109 RX7 yX7_figureAt wsX7_figureAt) := goodIn_app (goodIn_of _ (by decide +kernel)) ggX7_readPerson_X7_figureAt
set_option maxRecDepth 20000 in
theorem ggX7_readPerson_X0_put : GoodIn wsX7_readPerson wsX0_put := goodIn_r _ [37, 38, 39, 57, 58, 59, 60] (by decide +kernel) (by decide +kernel)
set_option maxRecDepth 20000 in
theorem gX7_readPerson_X0_put : GoodIn wsX7_readPerson (wsV RX7 116 RX0 yX0_put wsX0_put) := goodIn_app (goodIn_of _ (by decide +kernel)) ggX7_readPerson_X0_put
set_option maxRecDepth 20000 in
theorem ggX7_readPerson_X7_fail : GoodIn wsX7_readPerson wsX7_fail := goodIn_r _ [27, 1, 28, 40, 41, 42, 43, 44, 45] (by decide +kernel) (by decide +kernel)
set_option maxRecDepth 20000 in
theorem gX7_readPerson_X7_fail : GoodIn wsX7_readPerson (wsV RX7 48 RX7 yX7_fail wsX7_fail) := goodIn_app (goodIn_of _ (by decide +kernel)) ggX7_readPerson_X7_fail
theorem dX7_readPerson_0 : decode cX7_readPerson 0 = .ok (.aload_n 0, 1) := by decide +kernel
theorem dX7_readPerson_1 : decode cX7_readPerson 1 = .ok (.invokevirtual 33, 3) := by decide +kernel
theorem dX7_readPerson_4 : decode cX7_readPerson 4 = .ok (.aload_n 0, 1) := by decide +kernel
theorem dX7_readPerson_5 : decode cX7_readPerson 5 = .ok (.invokevirtual 105, 3) := by decide +kernel
theorem dX7_readPerson_8 : decode cX7_readPerson 8 = .ok (.istore_n 2, 1) := by decide +kernel
theorem dX7_readPerson_9 : decode cX7_readPerson 9 = .ok (.aload_n 0, 1) := by decide +kernel
theorem dX7_readPerson_10 : decode cX7_readPerson 10 = .ok (.getfield 27, 3) := by decide +kernel
theorem dX7_readPerson_13 : decode cX7_readPerson 13 = .ok (.ifCond .eq 4, 3) := by decide +kernel
theorem dX7_readPerson_16 : decode cX7_readPerson 16 = .ok (.return_, 1) := by decide +kernel
theorem dX7_readPerson_17 : decode cX7_readPerson 17 = .ok (.iload_n 2, 1) := by decide +kernel
theorem dX7_readPerson_18 : decode cX7_readPerson 18 = .ok (.iconst 5, 1) := by decide +kernel
theorem dX7_readPerson_19 : decode cX7_readPerson 19 = .ok (.if_icmp .ne 7, 3) := by decide +kernel
theorem dX7_readPerson_22 : decode cX7_readPerson 22 = .ok (.iconst 1, 1) := by decide +kernel
theorem dX7_readPerson_23 : decode cX7_readPerson 23 = .ok (.goto 4, 3) := by decide +kernel
theorem dX7_readPerson_26 : decode cX7_readPerson 26 = .ok (.iconst 0, 1) := by decide +kernel
theorem dX7_readPerson_27 : decode cX7_readPerson 27 = .ok (.istore_n 3, 1) := by decide +kernel
theorem dX7_readPerson_28 : decode cX7_readPerson 28 = .ok (.iconst 0, 1) := by decide +kernel
theorem dX7_readPerson_29 : decode cX7_readPerson 29 = .ok (.istore 4, 2) := by decide +kernel
theorem dX7_readPerson_31 : decode cX7_readPerson 31 = .ok (.iload 4, 2) := by decide +kernel
theorem dX7_readPerson_33 : decode cX7_readPerson 33 = .ok (.iconst 5, 1) := by decide +kernel
theorem dX7_readPerson_34 : decode cX7_readPerson 34 = .ok (.if_icmp .ge 58, 3) := by decide +kernel
theorem dX7_readPerson_37 : decode cX7_readPerson 37 = .ok (.iload_n 3, 1) := by decide +kernel
theorem dX7_readPerson_38 : decode cX7_readPerson 38 = .ok (.ifCond .eq 54, 3) := by decide +kernel
theorem dX7_readPerson_41 : decode cX7_readPerson 41 = .ok (.aload_n 0, 1) := by decide +kernel
theorem dX7_readPerson_42 : decode cX7_readPerson 42 = .ok (.aload_n 0, 1) := by decide +kernel
theorem dX7_readPerson_43 : decode cX7_readPerson 43 = .ok (.getfield 98, 3) := by decide +kernel
theorem dX7_readPerson_46 : decode cX7_readPerson 46 = .ok (.iload 4, 2) := by decide +kernel
theorem dX7_readPerson_48 : decode cX7_readPerson 48 = .ok (.iadd, 1) := by decide +kernel
theorem dX7_readPerson_49 : decode cX7_readPerson 49 = .ok (.invokevirtual 109, 3) := by decide +kernel
theorem dX7_readPerson_52 : decode cX7_readPerson 52 = .ok (.istore 5, 2) := by decide +kernel
theorem dX7_readPerson_54 : decode cX7_readPerson 54 = .ok (.iload 5, 2) := by decide +kernel
theorem dX7_readPerson_56 : decode cX7_readPerson 56 = .ok (.ifCond .lt 13, 3) := by decide +kernel
theorem dX7_readPerson_59 : decode cX7_readPerson 59 = .ok (.iload 5, 2) := by decide +kernel
theorem dX7_readPerson_61 : decode cX7_readPerson 61 = .ok (.iconst 2, 1) := by decide +kernel
theorem dX7_readPerson_62 : decode cX7_readPerson 62 = .ok (.if_icmp .gt 7, 3) := by decide +kernel
theorem dX7_readPerson_65 : decode cX7_readPerson 65 = .ok (.iconst 1, 1) := by decide +kernel
theorem dX7_readPerson_66 : decode cX7_readPerson 66 = .ok (.goto 4, 3) := by decide +kernel
theorem dX7_readPerson_69 : decode cX7_readPerson 69 = .ok (.iconst 0, 1) := by decide +kernel
theorem dX7_readPerson_70 : decode cX7_readPerson 70 = .ok (.istore_n 3, 1) := by decide +kernel
theorem dX7_readPerson_71 : decode cX7_readPerson 71 = .ok (.aload_n 1, 1) := by decide +kernel
theorem dX7_readPerson_72 : decode cX7_readPerson 72 = .ok (.getfield 112, 3) := by decide +kernel
theorem dX7_readPerson_75 : decode cX7_readPerson 75 = .ok (.aload_n 1, 1) := by decide +kernel
theorem dX7_readPerson_76 : decode cX7_readPerson 76 = .ok (.getfield 77, 3) := by decide +kernel
theorem dX7_readPerson_79 : decode cX7_readPerson 79 = .ok (.iload 4, 2) := by decide +kernel
theorem dX7_readPerson_81 : decode cX7_readPerson 81 = .ok (.iload 5, 2) := by decide +kernel
theorem dX7_readPerson_83 : decode cX7_readPerson 83 = .ok (.invokevirtual 116, 3) := by decide +kernel
theorem dX7_readPerson_86 : decode cX7_readPerson 86 = .ok (.iinc 4 1, 3) := by decide +kernel
theorem dX7_readPerson_89 : decode cX7_readPerson 89 = .ok (.goto (-58), 3) := by decide +kernel
theorem dX7_readPerson_92 : decode cX7_readPerson 92 = .ok (.iload_n 3, 1) := by decide +kernel
theorem dX7_readPerson_93 : decode cX7_readPerson 93 = .ok (.ifCond .eq 16, 3) := by decide +kernel
theorem dX7_readPerson_96 : decode cX7_readPerson 96 = .ok (.aload_n 1, 1) := by decide +kernel
theorem dX7_readPerson_97 : decode cX7_readPerson 97 = .ok (.dup, 1) := by decide +kernel
theorem dX7_readPerson_98 : decode cX7_readPerson 98 = .ok (.getfield 77, 3) := by decide +kernel
theorem dX7_readPerson_101 : decode cX7_readPerson 101 = .ok (.iconst 1, 1) := by decide +kernel
theorem dX7_readPerson_102 : decode cX7_readPerson 102 = .ok (.iadd, 1) := by decide +kernel
theorem dX7_readPerson_103 : decode cX7_readPerson 103 = .ok (.putfield 77, 3) := by decide +kernel
theorem dX7_readPerson_106 : decode cX7_readPerson 106 = .ok (.goto 12, 3) := by decide +kernel
theorem dX7_readPerson_109 : decode cX7_readPerson 109 = .ok (.aload_n 0, 1) := by decide +kernel
theorem dX7_readPerson_110 : decode cX7_readPerson 110 = .ok (.iconst 2, 1) := by decide +kernel
theorem dX7_readPerson_111 : decode cX7_readPerson 111 = .ok (.aload_n 0, 1) := by decide +kernel
theorem dX7_readPerson_112 : decode cX7_readPerson 112 = .ok (.getfield 98, 3) := by decide +kernel
theorem dX7_readPerson_115 : decode cX7_readPerson 115 = .ok (.invokevirtual 48, 3) := by decide +kernel
theorem dX7_readPerson_118 : decode cX7_readPerson 118 = .ok (.return_, 1) := by decide +kernel
set_option maxRecDepth 20000 in
theorem ggX7_readClose_X7_skipBlanks : GoodIn wsX7_readClose wsX7_skipBlanks := goodIn_r _ [6, 1, 7, 8, 9, 5, 10, 11, 12, 19, 20, 21, 22, 23, 24] (by decide +kernel) (by decide +kernel)
set_option maxRecDepth 20000 in
theorem gX7_readClose_X7_skipBlanks : GoodIn wsX7_readClose (wsV RX7 33 RX7 yX7_skipBlanks wsX7_skipBlanks) := goodIn_app (goodIn_of _ (by decide +kernel)) ggX7_readClose_X7_skipBlanks
set_option maxRecDepth 20000 in
theorem ggX7_readClose_X7_letterAt : GoodIn wsX7_readClose wsX7_letterAt := goodIn_r _ [10, 11, 12, 19, 20, 21, 22, 23, 24] (by decide +kernel) (by decide +kernel)
set_option maxRecDepth 20000 in
theorem gX7_readClose_X7_letterAt : GoodIn wsX7_readClose (wsV RX7 40 RX7 yX7_letterAt wsX7_letterAt) := goodIn_app (goodIn_of _ (by decide +kernel)) ggX7_readClose_X7_letterAt
set_option maxRecDepth 20000 in
theorem ggX7_readClose_X7_fail : GoodIn wsX7_readClose wsX7_fail := goodIn_r _ [16, 17, 18, 19, 20, 21, 22, 23, 24] (by decide +kernel) (by decide +kernel)
set_option maxRecDepth 20000 in
theorem gX7_readClose_X7_fail : GoodIn wsX7_readClose (wsV RX7 48 RX7 yX7_fail wsX7_fail) := goodIn_app (goodIn_of _ (by decide +kernel)) ggX7_readClose_X7_fail
theorem dX7_readClose_0 : decode cX7_readClose 0 = .ok (.aload_n 0, 1) := by decide +kernel
theorem dX7_readClose_1 : decode cX7_readClose 1 = .ok (.invokevirtual 33, 3) := by decide +kernel
theorem dX7_readClose_4 : decode cX7_readClose 4 = .ok (.aload_n 0, 1) := by decide +kernel
theorem dX7_readClose_5 : decode cX7_readClose 5 = .ok (.aload_n 0, 1) := by decide +kernel
theorem dX7_readClose_6 : decode cX7_readClose 6 = .ok (.getfield 30, 3) := by decide +kernel
theorem dX7_readClose_9 : decode cX7_readClose 9 = .ok (.invokevirtual 40, 3) := by decide +kernel
theorem dX7_readClose_12 : decode cX7_readClose 12 = .ok (.bipush 59, 2) := by decide +kernel
theorem dX7_readClose_14 : decode cX7_readClose 14 = .ok (.if_icmp .ne 16, 3) := by decide +kernel
theorem dX7_readClose_17 : decode cX7_readClose 17 = .ok (.aload_n 0, 1) := by decide +kernel
theorem dX7_readClose_18 : decode cX7_readClose 18 = .ok (.dup, 1) := by decide +kernel
theorem dX7_readClose_19 : decode cX7_readClose 19 = .ok (.getfield 30, 3) := by decide +kernel
theorem dX7_readClose_22 : decode cX7_readClose 22 = .ok (.iconst 1, 1) := by decide +kernel
theorem dX7_readClose_23 : decode cX7_readClose 23 = .ok (.iadd, 1) := by decide +kernel
theorem dX7_readClose_24 : decode cX7_readClose 24 = .ok (.putfield 30, 3) := by decide +kernel
theorem dX7_readClose_27 : decode cX7_readClose 27 = .ok (.goto 12, 3) := by decide +kernel
theorem dX7_readClose_30 : decode cX7_readClose 30 = .ok (.aload_n 0, 1) := by decide +kernel
theorem dX7_readClose_31 : decode cX7_readClose 31 = .ok (.iconst 1, 1) := by decide +kernel
theorem dX7_readClose_32 : decode cX7_readClose 32 = .ok (.aload_n 0, 1) := by decide +kernel
theorem dX7_readClose_33 : decode cX7_readClose 33 = .ok (.getfield 30, 3) := by decide +kernel
theorem dX7_readClose_36 : decode cX7_readClose 36 = .ok (.invokevirtual 48, 3) := by decide +kernel
theorem dX7_readClose_39 : decode cX7_readClose 39 = .ok (.return_, 1) := by decide +kernel
set_option maxRecDepth 20000 in
theorem ggX7_readNumber_X7_skipBlanks : GoodIn wsX7_readNumber wsX7_skipBlanks := goodIn_r _ [7, 8, 9, 10, 11, 6, 12, 13, 14, 31, 32, 33, 34, 35, 36] (by decide +kernel) (by decide +kernel)
set_option maxRecDepth 20000 in
theorem gX7_readNumber_X7_skipBlanks : GoodIn wsX7_readNumber (wsV RX7 33 RX7 yX7_skipBlanks wsX7_skipBlanks) := goodIn_app (goodIn_of _ (by decide +kernel)) ggX7_readNumber_X7_skipBlanks
set_option maxRecDepth 20000 in
theorem ggX7_readNumber_X7_readFigures : GoodIn wsX7_readNumber wsX7_readFigures := goodIn_r _ [18, 8, 2, 9, 10, 11, 6, 12, 13, 14, 19, 20, 21, 22, 23, 24, 25, 1, 26, 31, 32, 33, 34, 35, 36] (by decide +kernel) (by decide +kernel)
set_option maxRecDepth 20000 in
theorem gX7_readNumber_X7_readFigures : GoodIn wsX7_readNumber (wsV RX7 105 RX7 yX7_readFigures wsX7_readFigures) := goodIn_app (goodIn_of _ (by decide +kernel)) ggX7_readNumber_X7_readFigures
set_option maxRecDepth 20000 in
theorem ggX7_readNumber_X7_figureAt : GoodIn wsX7_readNumber wsX7_figureAt := goodIn_r _ [30, 9, 10, 11, 6, 12, 13, 14, 19, 20, 21, 31, 32, 33, 34, 35, 36] (by decide +kernel) (by decide +kernel)
set_option maxRecDepth 20000 in
theorem gX7_readNumber_X7_figureAt : GoodIn wsX7_readNumber (wsV RX7 109 RX7 yX7_figureAt wsX7_figureAt) := goodIn_app (goodIn_of _ (by decide +kernel)) ggX7_readNumber_X7_figureAt
set_option maxRecDepth 20000 in
theorem ggX7_readNumber_X7_fail : GoodIn wsX7_readNumber wsX7_fail := goodIn_r _ [25, 1, 26, 31, 32, 33, 34, 35, 36] (by decide +kernel) (by decide +kernel)
set_option maxRecDepth 20000 in
theorem gX7_readNumber_X7_fail : GoodIn wsX7_readNumber (wsV RX7 48 RX7 yX7_fail wsX7_fail) := goodIn_app (goodIn_of _ (by decide +kernel)) ggX7_readNumber_X7_fail
theorem dX7_readNumber_0 : decode cX7_readNumber 0 = .ok (.aload_n 0, 1) := by decide +kernel
theorem dX7_readNumber_1 : decode cX7_readNumber 1 = .ok (.invokevirtual 33, 3) := by decide +kernel
theorem dX7_readNumber_4 : decode cX7_readNumber 4 = .ok (.aload_n 0, 1) := by decide +kernel
theorem dX7_readNumber_5 : decode cX7_readNumber 5 = .ok (.invokevirtual 105, 3) := by decide +kernel
theorem dX7_readNumber_8 : decode cX7_readNumber 8 = .ok (.istore_n 3, 1) := by decide +kernel
theorem dX7_readNumber_9 : decode cX7_readNumber 9 = .ok (.aload_n 0, 1) := by decide +kernel
theorem dX7_readNumber_10 : decode cX7_readNumber 10 = .ok (.getfield 27, 3) := by decide +kernel
theorem dX7_readNumber_13 : decode cX7_readNumber 13 = .ok (.ifCond .eq 5, 3) := by decide +kernel
theorem dX7_readNumber_16 : decode cX7_readNumber 16 = .ok (.iload_n 1, 1) := by decide +kernel
theorem dX7_readNumber_17 : decode cX7_readNumber 17 = .ok (.ireturn, 1) := by decide +kernel
theorem dX7_readNumber_18 : decode cX7_readNumber 18 = .ok (.iconst 0, 1) := by decide +kernel
theorem dX7_readNumber_19 : decode cX7_readNumber 19 = .ok (.istore 4, 2) := by decide +kernel
theorem dX7_readNumber_21 : decode cX7_readNumber 21 = .ok (.iconst 0, 1) := by decide +kernel
theorem dX7_readNumber_22 : decode cX7_readNumber 22 = .ok (.istore 5, 2) := by decide +kernel
theorem dX7_readNumber_24 : decode cX7_readNumber 24 = .ok (.iload 5, 2) := by decide +kernel
theorem dX7_readNumber_26 : decode cX7_readNumber 26 = .ok (.iload_n 3, 1) := by decide +kernel
theorem dX7_readNumber_27 : decode cX7_readNumber 27 = .ok (.if_icmp .ge 34, 3) := by decide +kernel
theorem dX7_readNumber_30 : decode cX7_readNumber 30 = .ok (.iload 5, 2) := by decide +kernel
theorem dX7_readNumber_32 : decode cX7_readNumber 32 = .ok (.iconst 5, 1) := by decide +kernel
theorem dX7_readNumber_33 : decode cX7_readNumber 33 = .ok (.if_icmp .ge 28, 3) := by decide +kernel
theorem dX7_readNumber_36 : decode cX7_readNumber 36 = .ok (.iload 4, 2) := by decide +kernel
theorem dX7_readNumber_38 : decode cX7_readNumber 38 = .ok (.bipush 10, 2) := by decide +kernel
theorem dX7_readNumber_40 : decode cX7_readNumber 40 = .ok (.imul, 1) := by decide +kernel
theorem dX7_readNumber_41 : decode cX7_readNumber 41 = .ok (.aload_n 0, 1) := by decide +kernel
theorem dX7_readNumber_42 : decode cX7_readNumber 42 = .ok (.aload_n 0, 1) := by decide +kernel
theorem dX7_readNumber_43 : decode cX7_readNumber 43 = .ok (.getfield 98, 3) := by decide +kernel
theorem dX7_readNumber_46 : decode cX7_readNumber 46 = .ok (.iload 5, 2) := by decide +kernel
theorem dX7_readNumber_48 : decode cX7_readNumber 48 = .ok (.iadd, 1) := by decide +kernel
theorem dX7_readNumber_49 : decode cX7_readNumber 49 = .ok (.invokevirtual 109, 3) := by decide +kernel
theorem dX7_readNumber_52 : decode cX7_readNumber 52 = .ok (.iadd, 1) := by decide +kernel
theorem dX7_readNumber_53 : decode cX7_readNumber 53 = .ok (.istore 4, 2) := by decide +kernel
theorem dX7_readNumber_55 : decode cX7_readNumber 55 = .ok (.iinc 5 1, 3) := by decide +kernel
theorem dX7_readNumber_58 : decode cX7_readNumber 58 = .ok (.goto (-34), 3) := by decide +kernel
theorem dX7_readNumber_61 : decode cX7_readNumber 61 = .ok (.iload_n 3, 1) := by decide +kernel
theorem dX7_readNumber_62 : decode cX7_readNumber 62 = .ok (.iconst 5, 1) := by decide +kernel
theorem dX7_readNumber_63 : decode cX7_readNumber 63 = .ok (.if_icmp .gt 15, 3) := by decide +kernel
theorem dX7_readNumber_66 : decode cX7_readNumber 66 = .ok (.iload 4, 2) := by decide +kernel
theorem dX7_readNumber_68 : decode cX7_readNumber 68 = .ok (.iload_n 1, 1) := by decide +kernel
theorem dX7_readNumber_69 : decode cX7_readNumber 69 = .ok (.if_icmp .lt 9, 3) := by decide +kernel
theorem dX7_readNumber_72 : decode cX7_readNumber 72 = .ok (.iload 4, 2) := by decide +kernel
theorem dX7_readNumber_74 : decode cX7_readNumber 74 = .ok (.iload_n 2, 1) := by decide +kernel
theorem dX7_readNumber_75 : decode cX7_readNumber 75 = .ok (.if_icmp .le 12, 3) := by decide +kernel
theorem dX7_readNumber_78 : decode cX7_readNumber 78 = .ok (.aload_n 0, 1) := by decide +kernel
theorem dX7_readNumber_79 : decode cX7_readNumber 79 = .ok (.iconst 2, 1) := by decide +kernel
theorem dX7_readNumber_80 : decode cX7_readNumber 80 = .ok (.aload_n 0, 1) := by decide +kernel
theorem dX7_readNumber_81 : decode cX7_readNumber 81 = .ok (.getfield 98, 3) := by decide +kernel
theorem dX7_readNumber_84 : decode cX7_readNumber 84 = .ok (.invokevirtual 48, 3) := by decide +kernel
theorem dX7_readNumber_87 : decode cX7_readNumber 87 = .ok (.iload 4, 2) := by decide +kernel
theorem dX7_readNumber_89 : decode cX7_readNumber 89 = .ok (.ireturn, 1) := by decide +kernel
set_option maxRecDepth 20000 in
theorem ggX7_readFigures_X7_letterAt : GoodIn wsX7_readFigures wsX7_letterAt := goodIn_r _ [7, 8, 9, 19, 20, 21, 22, 23, 24] (by decide +kernel) (by decide +kernel)
set_option maxRecDepth 20000 in
theorem gX7_readFigures_X7_letterAt : GoodIn wsX7_readFigures (wsV RX7 40 RX7 yX7_letterAt wsX7_letterAt) := goodIn_app (goodIn_of _ (by decide +kernel)) ggX7_readFigures_X7_letterAt
set_option maxRecDepth 20000 in
theorem ggX7_readFigures_X7_isFigure : GoodIn wsX7_readFigures wsX7_isFigure := goodIn_r _ [12] (by decide +kernel) (by decide +kernel)
set_option maxRecDepth 20000 in
theorem gX7_readFigures_X7_isFigure : GoodIn wsX7_readFigures (va_wsS RX7 121 yX7_isFigure wsX7_isFigure) := goodIn_app (goodIn_of _ (by decide +kernel)) ggX7_readFigures_X7_isFigure
set_option maxRecDepth 20000 in
theorem ggX7_readFigures_X7_fail : GoodIn wsX7_readFigures wsX7_fail := goodIn_r _ [16, 17, 18, 19, 20, 21, 22, 23, 24] (by decide +kernel) (by decide +kernel)
set_option maxRecDepth 20000 in
theorem gX7_readFigures_X7_fail : GoodIn wsX7_readFigures (wsV RX7 48 RX7 yX7_fail wsX7_fail) := goodIn_app (goodIn_of _ (by decide +kernel)) ggX7_readFigures_X7_fail
theorem dX7_readFigures_0 : decode cX7_readFigures 0 = .ok (.aload_n 0, 1) := by decide +kernel
theorem dX7_readFigures_1 : decode cX7_readFigures 1 = .ok (.aload_n 0, 1) := by decide +kernel
theorem dX7_readFigures_2 : decode cX7_readFigures 2 = .ok (.getfield 30, 3) := by decide +kernel
theorem dX7_readFigures_5 : decode cX7_readFigures 5 = .ok (.putfield 98, 3) := by decide +kernel
theorem dX7_readFigures_8 : decode cX7_readFigures 8 = .ok (.iconst 0, 1) := by decide +kernel
theorem dX7_readFigures_9 : decode cX7_readFigures 9 = .ok (.istore_n 1, 1) := by decide +kernel
theorem dX7_readFigures_10 : decode cX7_readFigures 10 = .ok (.iload_n 1, 1) := by decide +kernel
theorem dX7_readFigures_11 : decode cX7_readFigures 11 = .ok (.sipush 240, 3) := by decide +kernel
theorem dX7_readFigures_14 : decode cX7_readFigures 14 = .ok (.if_icmp .ge 33, 3) := by decide +kernel
theorem dX7_readFigures_17 : decode cX7_readFigures 17 = .ok (.aload_n 0, 1) := by decide +kernel
theorem dX7_readFigures_18 : decode cX7_readFigures 18 = .ok (.aload_n 0, 1) := by decide +kernel
theorem dX7_readFigures_19 : decode cX7_readFigures 19 = .ok (.getfield 30, 3) := by decide +kernel
theorem dX7_readFigures_22 : decode cX7_readFigures 22 = .ok (.invokevirtual 40, 3) := by decide +kernel
theorem dX7_readFigures_25 : decode cX7_readFigures 25 = .ok (.invokestatic 121, 3) := by decide +kernel
theorem dX7_readFigures_28 : decode cX7_readFigures 28 = .ok (.ifCond .eq 19, 3) := by decide +kernel
theorem dX7_readFigures_31 : decode cX7_readFigures 31 = .ok (.aload_n 0, 1) := by decide +kernel
theorem dX7_readFigures_32 : decode cX7_readFigures 32 = .ok (.dup, 1) := by decide +kernel
theorem dX7_readFigures_33 : decode cX7_readFigures 33 = .ok (.getfield 30, 3) := by decide +kernel
theorem dX7_readFigures_36 : decode cX7_readFigures 36 = .ok (.iconst 1, 1) := by decide +kernel
theorem dX7_readFigures_37 : decode cX7_readFigures 37 = .ok (.iadd, 1) := by decide +kernel
theorem dX7_readFigures_38 : decode cX7_readFigures 38 = .ok (.putfield 30, 3) := by decide +kernel
theorem dX7_readFigures_41 : decode cX7_readFigures 41 = .ok (.iinc 1 1, 3) := by decide +kernel
theorem dX7_readFigures_44 : decode cX7_readFigures 44 = .ok (.goto (-34), 3) := by decide +kernel
theorem dX7_readFigures_47 : decode cX7_readFigures 47 = .ok (.aload_n 0, 1) := by decide +kernel
theorem dX7_readFigures_48 : decode cX7_readFigures 48 = .ok (.getfield 30, 3) := by decide +kernel
theorem dX7_readFigures_51 : decode cX7_readFigures 51 = .ok (.aload_n 0, 1) := by decide +kernel
theorem dX7_readFigures_52 : decode cX7_readFigures 52 = .ok (.getfield 98, 3) := by decide +kernel
theorem dX7_readFigures_55 : decode cX7_readFigures 55 = .ok (.if_icmp .ne 12, 3) := by decide +kernel
theorem dX7_readFigures_58 : decode cX7_readFigures 58 = .ok (.aload_n 0, 1) := by decide +kernel
theorem dX7_readFigures_59 : decode cX7_readFigures 59 = .ok (.iconst 1, 1) := by decide +kernel
theorem dX7_readFigures_60 : decode cX7_readFigures 60 = .ok (.aload_n 0, 1) := by decide +kernel
theorem dX7_readFigures_61 : decode cX7_readFigures 61 = .ok (.getfield 30, 3) := by decide +kernel
theorem dX7_readFigures_64 : decode cX7_readFigures 64 = .ok (.invokevirtual 48, 3) := by decide +kernel
theorem dX7_readFigures_67 : decode cX7_readFigures 67 = .ok (.aload_n 0, 1) := by decide +kernel
theorem dX7_readFigures_68 : decode cX7_readFigures 68 = .ok (.getfield 30, 3) := by decide +kernel
theorem dX7_readFigures_71 : decode cX7_readFigures 71 = .ok (.aload_n 0, 1) := by decide +kernel
theorem dX7_readFigures_72 : decode cX7_readFigures 72 = .ok (.getfield 98, 3) := by decide +kernel
theorem dX7_readFigures_75 : decode cX7_readFigures 75 = .ok (.isub, 1) := by decide +kernel
theorem dX7_readFigures_76 : decode cX7_readFigures 76 = .ok (.ireturn, 1) := by decide +kernel
set_option maxRecDepth 20000 in
theorem ggX7_skipBlanks_X7_letterAt : GoodIn wsX7_skipBlanks wsX7_letterAt := goodIn_r _ [6, 7, 8, 9, 10, 11, 12, 13, 14] (by decide +kernel) (by decide +kernel)
set_option maxRecDepth 20000 in
theorem gX7_skipBlanks_X7_letterAt : GoodIn wsX7_skipBlanks (wsV RX7 40 RX7 yX7_letterAt wsX7_letterAt) := goodIn_app (goodIn_of _ (by decide +kernel)) ggX7_skipBlanks_X7_letterAt
theorem dX7_skipBlanks_0 : decode cX7_skipBlanks 0 = .ok (.iconst 0, 1) := by decide +kernel
theorem dX7_skipBlanks_1 : decode cX7_skipBlanks 1 = .ok (.istore_n 1, 1) := by decide +kernel
theorem dX7_skipBlanks_2 : decode cX7_skipBlanks 2 = .ok (.iload_n 1, 1) := by decide +kernel
theorem dX7_skipBlanks_3 : decode cX7_skipBlanks 3 = .ok (.sipush 240, 3) := by decide +kernel
theorem dX7_skipBlanks_6 : decode cX7_skipBlanks 6 = .ok (.if_icmp .ge 32, 3) := by decide +kernel
theorem dX7_skipBlanks_9 : decode cX7_skipBlanks 9 = .ok (.aload_n 0, 1) := by decide +kernel
theorem dX7_skipBlanks_10 : decode cX7_skipBlanks 10 = .ok (.aload_n 0, 1) := by decide +kernel
theorem dX7_skipBlanks_11 : decode cX7_skipBlanks 11 = .ok (.getfield 30, 3) := by decide +kernel
theorem dX7_skipBlanks_14 : decode cX7_skipBlanks 14 = .ok (.invokevirtual 40, 3) := by decide +kernel
theorem dX7_skipBlanks_17 : decode cX7_skipBlanks 17 = .ok (.bipush 32, 2) := by decide +kernel
theorem dX7_skipBlanks_19 : decode cX7_skipBlanks 19 = .ok (.if_icmp .ne 19, 3) := by decide +kernel
theorem dX7_skipBlanks_22 : decode cX7_skipBlanks 22 = .ok (.aload_n 0, 1) := by decide +kernel
theorem dX7_skipBlanks_23 : decode cX7_skipBlanks 23 = .ok (.dup, 1) := by decide +kernel
theorem dX7_skipBlanks_24 : decode cX7_skipBlanks 24 = .ok (.getfield 30, 3) := by decide +kernel
theorem dX7_skipBlanks_27 : decode cX7_skipBlanks 27 = .ok (.iconst 1, 1) := by decide +kernel
theorem dX7_skipBlanks_28 : decode cX7_skipBlanks 28 = .ok (.iadd, 1) := by decide +kernel
theorem dX7_skipBlanks_29 : decode cX7_skipBlanks 29 = .ok (.putfield 30, 3) := by decide +kernel
theorem dX7_skipBlanks_32 : decode cX7_skipBlanks 32 = .ok (.iinc 1 1, 3) := by decide +kernel
theorem dX7_skipBlanks_35 : decode cX7_skipBlanks 35 = .ok (.goto (-33), 3) := by decide +kernel
theorem dX7_skipBlanks_38 : decode cX7_skipBlanks 38 = .ok (.return_, 1) := by decide +kernel
theorem dX7_letterAt_0 : decode cX7_letterAt 0 = .ok (.iload_n 1, 1) := by decide +kernel
theorem dX7_letterAt_1 : decode cX7_letterAt 1 = .ok (.ifCond .lt 29, 3) := by decide +kernel
theorem dX7_letterAt_4 : decode cX7_letterAt 4 = .ok (.iload_n 1, 1) := by decide +kernel
theorem dX7_letterAt_5 : decode cX7_letterAt 5 = .ok (.aload_n 0, 1) := by decide +kernel
theorem dX7_letterAt_6 : decode cX7_letterAt 6 = .ok (.getfield 19, 3) := by decide +kernel
theorem dX7_letterAt_9 : decode cX7_letterAt 9 = .ok (.if_icmp .ge 21, 3) := by decide +kernel
theorem dX7_letterAt_12 : decode cX7_letterAt 12 = .ok (.iload_n 1, 1) := by decide +kernel
theorem dX7_letterAt_13 : decode cX7_letterAt 13 = .ok (.aload_n 0, 1) := by decide +kernel
theorem dX7_letterAt_14 : decode cX7_letterAt 14 = .ok (.getfield 9, 3) := by decide +kernel
theorem dX7_letterAt_17 : decode cX7_letterAt 17 = .ok (.arraylength, 1) := by decide +kernel
theorem dX7_letterAt_18 : decode cX7_letterAt 18 = .ok (.if_icmp .ge 12, 3) := by decide +kernel
theorem dX7_letterAt_21 : decode cX7_letterAt 21 = .ok (.aload_n 0, 1) := by decide +kernel
theorem dX7_letterAt_22 : decode cX7_letterAt 22 = .ok (.getfield 9, 3) := by decide +kernel
theorem dX7_letterAt_25 : decode cX7_letterAt 25 = .ok (.iload_n 1, 1) := by decide +kernel
theorem dX7_letterAt_26 : decode cX7_letterAt 26 = .ok (.iaload, 1) := by decide +kernel
theorem dX7_letterAt_27 : decode cX7_letterAt 27 = .ok (.goto 4, 3) := by decide +kernel
theorem dX7_letterAt_30 : decode cX7_letterAt 30 = .ok (.iconst (-1), 1) := by decide +kernel
theorem dX7_letterAt_31 : decode cX7_letterAt 31 = .ok (.ireturn, 1) := by decide +kernel
set_option maxRecDepth 20000 in
theorem ggX7_figureAt_X7_letterAt : GoodIn wsX7_figureAt wsX7_letterAt := goodIn_r _ [5, 6, 7, 11, 12, 13, 14, 15, 16] (by decide +kernel) (by decide +kernel)
set_option maxRecDepth 20000 in
theorem gX7_figureAt_X7_letterAt : GoodIn wsX7_figureAt (wsV RX7 40 RX7 yX7_letterAt wsX7_letterAt) := goodIn_app (goodIn_of _ (by decide +kernel)) ggX7_figureAt_X7_letterAt
set_option maxRecDepth 20000 in
theorem ggX7_figureAt_X7_isFigure : GoodIn wsX7_figureAt wsX7_isFigure := goodIn_r _ [10] (by decide +kernel) (by decide +kernel)
set_option maxRecDepth 20000 in
theorem gX7_figureAt_X7_isFigure : GoodIn wsX7_figureAt (va_wsS RX7 121 yX7_isFigure wsX7_isFigure) := goodIn_app (goodIn_of _ (by decide +kernel)) ggX7_figureAt_X7_isFigure
theorem dX7_figureAt_0 : decode cX7_figureAt 0 = .ok (.aload_n 0, 1) := by decide +kernel
theorem dX7_figureAt_1 : decode cX7_figureAt 1 = .ok (.iload_n 1, 1) := by decide +kernel
theorem dX7_figureAt_2 : decode cX7_figureAt 2 = .ok (.invokevirtual 40, 3) := by decide +kernel
theorem dX7_figureAt_5 : decode cX7_figureAt 5 = .ok (.istore_n 2, 1) := by decide +kernel
theorem dX7_figureAt_6 : decode cX7_figureAt 6 = .ok (.iload_n 2, 1) := by decide +kernel
theorem dX7_figureAt_7 : decode cX7_figureAt 7 = .ok (.invokestatic 121, 3) := by decide +kernel
theorem dX7_figureAt_10 : decode cX7_figureAt 10 = .ok (.ifCond .eq 10, 3) := by decide +kernel
theorem dX7_figureAt_13 : decode cX7_figureAt 13 = .ok (.iload_n 2, 1) := by decide +kernel
theorem dX7_figureAt_14 : decode cX7_figureAt 14 = .ok (.bipush 48, 2) := by decide +kernel
theorem dX7_figureAt_16 : decode cX7_figureAt 16 = .ok (.isub, 1) := by decide +kernel
theorem dX7_figureAt_17 : decode cX7_figureAt 17 = .ok (.goto 4, 3) := by decide +kernel
theorem dX7_figureAt_20 : decode cX7_figureAt 20 = .ok (.iconst (-1), 1) := by decide +kernel
theorem dX7_figureAt_21 : decode cX7_figureAt 21 = .ok (.ireturn, 1) := by decide +kernel
theorem dX7_isFigure_0 : decode cX7_isFigure 0 = .ok (.iload_n 0, 1) := by decide +kernel
theorem dX7_isFigure_1 : decode cX7_isFigure 1 = .ok (.bipush 48, 2) := by decide +kernel
theorem dX7_isFigure_3 : decode cX7_isFigure 3 = .ok (.if_icmp .lt 13, 3) := by decide +kernel
theorem dX7_isFigure_6 : decode cX7_isFigure 6 = .ok (.iload_n 0, 1) := by decide +kernel
theorem dX7_isFigure_7 : decode cX7_isFigure 7 = .ok (.bipush 57, 2) := by decide +kernel
theorem dX7_isFigure_9 : decode cX7_isFigure 9 = .ok (.if_icmp .gt 7, 3) := by decide +kernel
theorem dX7_isFigure_12 : decode cX7_isFigure 12 = .ok (.iconst 1, 1) := by decide +kernel
theorem dX7_isFigure_13 : decode cX7_isFigure 13 = .ok (.goto 4, 3) := by decide +kernel
theorem dX7_isFigure_16 : decode cX7_isFigure 16 = .ok (.iconst 0, 1) := by decide +kernel
theorem dX7_isFigure_17 : decode cX7_isFigure 17 = .ok (.ireturn, 1) := by decide +kernel
theorem dX7_fail_0 : decode cX7_fail 0 = .ok (.aload_n 0, 1) := by decide +kernel
theorem dX7_fail_1 : decode cX7_fail 1 = .ok (.getfield 27, 3) := by decide +kernel
theorem dX7_fail_4 : decode cX7_fail 4 = .ok (.ifCond .ne 13, 3) := by decide +kernel
theorem dX7_fail_7 : decode cX7_fail 7 = .ok (.aload_n 0, 1) := by decide +kernel
theorem dX7_fail_8 : decode cX7_fail 8 = .ok (.iload_n 1, 1) := by decide +kernel
theorem dX7_fail_9 : decode cX7_fail 9 = .ok (.putfield 27, 3) := by decide +kernel
theorem dX7_fail_12 : decode cX7_fail 12 = .ok (.aload_n 0, 1) := by decide +kernel
theorem dX7_fail_13 : decode cX7_fail 13 = .ok (.iload_n 2, 1) := by decide +kernel
theorem dX7_fail_14 : decode cX7_fail 14 = .ok (.putfield 15, 3) := by decide +kernel
theorem dX7_fail_17 : decode cX7_fail 17 = .ok (.return_, 1) := by decide +kernel
theorem dX8_init_0 : decode cX8_init 0 = .ok (.aload_n 0, 1) := by decide +kernel
theorem dX8_init_1 : decode cX8_init 1 = .ok (.invokespecial 3, 3) := by decide +kernel
theorem dX8_init_4 : decode cX8_init 4 = .ok (.aload_n 0, 1) := by decide +kernel
theorem dX8_init_5 : decode cX8_init 5 = .ok (.iconst 5, 1) := by decide +kernel
theorem dX8_init_6 : decode cX8_init 6 = .ok (.newarray .int, 2) := by decide +kernel
theorem dX8_init_8 : decode cX8_init 8 = .ok (.putfield 9, 3) := by decide +kernel
theorem dX8_init_11 : decode cX8_init 11 = .ok (.return_, 1) := by decide +kernel
theorem dX8_countFor_0 : decode cX8_countFor 0 = .ok (.iconst 1, 1) := by decide +kernel
theorem dX8_countFor_1 : decode cX8_countFor 1 = .ok (.istore_n 2, 1) := by decide +kernel
theorem dX8_countFor_2 : decode cX8_countFor 2 = .ok (.iconst 0, 1) := by decide +kernel
theorem dX8_countFor_3 : decode cX8_countFor 3 = .ok (.istore_n 3, 1) := by decide +kernel
theorem dX8_countFor_4 : decode cX8_countFor 4 = .ok (.iload_n 3, 1) := by decide +kernel
theorem dX8_countFor_5 : decode cX8_countFor 5 = .ok (.iload_n 1, 1) := by decide +kernel
theorem dX8_countFor_6 : decode cX8_countFor 6 = .ok (.if_icmp .ge 13, 3) := by decide +kernel
theorem dX8_countFor_9 : decode cX8_countFor 9 = .ok (.iload_n 2, 1) := by decide +kernel
theorem dX8_countFor_10 : decode cX8_countFor 10 = .ok (.iconst 3, 1) := by decide +kernel
theorem dX8_countFor_11 : decode cX8_countFor 11 = .ok (.imul, 1) := by decide +kernel
theorem dX8_countFor_12 : decode cX8_countFor 12 = .ok (.istore_n 2, 1) := by decide +kernel
theorem dX8_countFor_13 : decode cX8_countFor 13 = .ok (.iinc 3 1, 3) := by decide +kernel
theorem dX8_countFor_16 : decode cX8_countFor 16 = .ok (.goto (-12), 3) := by decide +kernel
theorem dX8_countFor_19 : decode cX8_countFor 19 = .ok (.iload_n 2, 1) := by decide +kernel
theorem dX8_countFor_20 : decode cX8_countFor 20 = .ok (.ireturn, 1) := by decide +kernel
theorem dX8_become_0 : decode cX8_become 0 = .ok (.aload_n 0, 1) := by decide +kernel
theorem dX8_become_1 : decode cX8_become 1 = .ok (.iload_n 2, 1) := by decide +kernel
theorem dX8_become_2 : decode cX8_become 2 = .ok (.iconst 5, 1) := by decide +kernel
theorem dX8_become_3 : decode cX8_become 3 = .ok (.invokestatic 15, 3) := by decide +kernel
theorem dX8_become_6 : decode cX8_become 6 = .ok (.putfield 21, 3) := by decide +kernel
theorem dX8_become_9 : decode cX8_become 9 = .ok (.iload_n 1, 1) := by decide +kernel
theorem dX8_become_10 : decode cX8_become 10 = .ok (.istore_n 3, 1) := by decide +kernel
theorem dX8_become_11 : decode cX8_become 11 = .ok (.aload_n 0, 1) := by decide +kernel
theorem dX8_become_12 : decode cX8_become 12 = .ok (.getfield 21, 3) := by decide +kernel
theorem dX8_become_15 : decode cX8_become 15 = .ok (.iconst 1, 1) := by decide +kernel
theorem dX8_become_16 : decode cX8_become 16 = .ok (.isub, 1) := by decide +kernel
theorem dX8_become_17 : decode cX8_become 17 = .ok (.istore 4, 2) := by decide +kernel
theorem dX8_become_19 : decode cX8_become 19 = .ok (.iload 4, 2) := by decide +kernel
theorem dX8_become_21 : decode cX8_become 21 = .ok (.ifCond .lt 23, 3) := by decide +kernel
theorem dX8_become_24 : decode cX8_become 24 = .ok (.aload_n 0, 1) := by decide +kernel
theorem dX8_become_25 : decode cX8_become 25 = .ok (.getfield 9, 3) := by decide +kernel
theorem dX8_become_28 : decode cX8_become 28 = .ok (.iload 4, 2) := by decide +kernel
theorem dX8_become_30 : decode cX8_become 30 = .ok (.iload_n 3, 1) := by decide +kernel
theorem dX8_become_31 : decode cX8_become 31 = .ok (.iconst 3, 1) := by decide +kernel
theorem dX8_become_32 : decode cX8_become 32 = .ok (.irem, 1) := by decide +kernel
theorem dX8_become_33 : decode cX8_become 33 = .ok (.iastore, 1) := by decide +kernel
theorem dX8_become_34 : decode cX8_become 34 = .ok (.iload_n 3, 1) := by decide +kernel
theorem dX8_become_35 : decode cX8_become 35 = .ok (.iconst 3, 1) := by decide +kernel
theorem dX8_become_36 : decode cX8_become 36 = .ok (.idiv, 1) := by decide +kernel
theorem dX8_become_37 : decode cX8_become 37 = .ok (.istore_n 3, 1) := by decide +kernel
theorem dX8_become_38 : decode cX8_become 38 = .ok (.iinc 4 (-1), 3) := by decide +kernel
theorem dX8_become_41 : decode cX8_become 41 = .ok (.goto (-22), 3) := by decide +kernel
theorem dX8_become_44 : decode cX8_become 44 = .ok (.return_, 1) := by decide +kernel
set_option maxRecDepth 20000 in
theorem ggX8_follow_X0_standOf : GoodIn wsX8_follow wsX0_standOf := goodIn_r _ [11, 12, 13, 14, 10, 15, 16, 17, 18, 19, 20, 21, 22, 23, 24, 25, 26, 27, 28, 29, 30, 31, 32, 33, 34, 35, 38, 39, 40, 41] (by decide +kernel) (by decide +kernel)
set_option maxRecDepth 20000 in
theorem gX8_follow_X0_standOf : GoodIn wsX8_follow (wsV RX8 25 RX0 yX0_standOf wsX0_standOf) := goodIn_app (goodIn_of _ (by decide +kernel)) ggX8_follow_X0_standOf
theorem dX8_follow_0 : decode cX8_follow 0 = .ok (.aload_n 0, 1) := by decide +kernel
theorem dX8_follow_1 : decode cX8_follow 1 = .ok (.iload_n 2, 1) := by decide +kernel
theorem dX8_follow_2 : decode cX8_follow 2 = .ok (.iconst 5, 1) := by decide +kernel
theorem dX8_follow_3 : decode cX8_follow 3 = .ok (.invokestatic 15, 3) := by decide +kernel
theorem dX8_follow_6 : decode cX8_follow 6 = .ok (.putfield 21, 3) := by decide +kernel
theorem dX8_follow_9 : decode cX8_follow 9 = .ok (.iconst 0, 1) := by decide +kernel
theorem dX8_follow_10 : decode cX8_follow 10 = .ok (.istore_n 3, 1) := by decide +kernel
theorem dX8_follow_11 : decode cX8_follow 11 = .ok (.iload_n 3, 1) := by decide +kernel
theorem dX8_follow_12 : decode cX8_follow 12 = .ok (.aload_n 0, 1) := by decide +kernel
theorem dX8_follow_13 : decode cX8_follow 13 = .ok (.getfield 21, 3) := by decide +kernel
theorem dX8_follow_16 : decode cX8_follow 16 = .ok (.if_icmp .ge 20, 3) := by decide +kernel
theorem dX8_follow_19 : decode cX8_follow 19 = .ok (.aload_n 0, 1) := by decide +kernel
theorem dX8_follow_20 : decode cX8_follow 20 = .ok (.getfield 9, 3) := by decide +kernel
theorem dX8_follow_23 : decode cX8_follow 23 = .ok (.iload_n 3, 1) := by decide +kernel
theorem dX8_follow_24 : decode cX8_follow 24 = .ok (.aload_n 1, 1) := by decide +kernel
theorem dX8_follow_25 : decode cX8_follow 25 = .ok (.iload_n 3, 1) := by decide +kernel
theorem dX8_follow_26 : decode cX8_follow 26 = .ok (.invokevirtual 25, 3) := by decide +kernel
theorem dX8_follow_29 : decode cX8_follow 29 = .ok (.iastore, 1) := by decide +kernel
theorem dX8_follow_30 : decode cX8_follow 30 = .ok (.iinc 3 1, 3) := by decide +kernel
theorem dX8_follow_33 : decode cX8_follow 33 = .ok (.goto (-22), 3) := by decide +kernel
theorem dX8_follow_36 : decode cX8_follow 36 = .ok (.return_, 1) := by decide +kernel
theorem dX8_standOf_0 : decode cX8_standOf 0 = .ok (.iload_n 1, 1) := by decide +kernel
theorem dX8_standOf_1 : decode cX8_standOf 1 = .ok (.ifCond .lt 29, 3) := by decide +kernel
theorem dX8_standOf_4 : decode cX8_standOf 4 = .ok (.iload_n 1, 1) := by decide +kernel
theorem dX8_standOf_5 : decode cX8_standOf 5 = .ok (.aload_n 0, 1) := by decide +kernel
theorem dX8_standOf_6 : decode cX8_standOf 6 = .ok (.getfield 21, 3) := by decide +kernel
theorem dX8_standOf_9 : decode cX8_standOf 9 = .ok (.if_icmp .ge 21, 3) := by decide +kernel
theorem dX8_standOf_12 : decode cX8_standOf 12 = .ok (.iload_n 1, 1) := by decide +kernel
theorem dX8_standOf_13 : decode cX8_standOf 13 = .ok (.aload_n 0, 1) := by decide +kernel
theorem dX8_standOf_14 : decode cX8_standOf 14 = .ok (.getfield 9, 3) := by decide +kernel
theorem dX8_standOf_17 : decode cX8_standOf 17 = .ok (.arraylength, 1) := by decide +kernel
theorem dX8_standOf_18 : decode cX8_standOf 18 = .ok (.if_icmp .ge 12, 3) := by decide +kernel
theorem dX8_standOf_21 : decode cX8_standOf 21 = .ok (.aload_n 0, 1) := by decide +kernel
theorem dX8_standOf_22 : decode cX8_standOf 22 = .ok (.getfield 9, 3) := by decide +kernel
theorem dX8_standOf_25 : decode cX8_standOf 25 = .ok (.iload_n 1, 1) := by decide +kernel
theorem dX8_standOf_26 : decode cX8_standOf 26 = .ok (.iaload, 1) := by decide +kernel
theorem dX8_standOf_27 : decode cX8_standOf 27 = .ok (.goto 4, 3) := by decide +kernel
theorem dX8_standOf_30 : decode cX8_standOf 30 = .ok (.iconst 0, 1) := by decide +kernel
theorem dX8_standOf_31 : decode cX8_standOf 31 = .ok (.ireturn, 1) := by decide +kernel
set_option maxRecDepth 20000 in
theorem ggX8_figures_X8_standOf : GoodIn wsX8_figures wsX8_standOf := goodIn_r _ [6, 1, 7, 8, 9] (by decide +kernel) (by decide +kernel)
set_option maxRecDepth 20000 in
theorem gX8_figures_X8_standOf : GoodIn wsX8_figures (wsV RX8 31 RX8 yX8_standOf wsX8_standOf) := goodIn_app (goodIn_of _ (by decide +kernel)) ggX8_figures_X8_standOf
theorem dX8_figures_0 : decode cX8_figures 0 = .ok (.iconst 0, 1) := by decide +kernel
theorem dX8_figures_1 : decode cX8_figures 1 = .ok (.istore_n 1, 1) := by decide +kernel
theorem dX8_figures_2 : decode cX8_figures 2 = .ok (.iconst 0, 1) := by decide +kernel
theorem dX8_figures_3 : decode cX8_figures 3 = .ok (.istore_n 2, 1) := by decide +kernel
theorem dX8_figures_4 : decode cX8_figures 4 = .ok (.iload_n 2, 1) := by decide +kernel
theorem dX8_figures_5 : decode cX8_figures 5 = .ok (.aload_n 0, 1) := by decide +kernel
theorem dX8_figures_6 : decode cX8_figures 6 = .ok (.getfield 21, 3) := by decide +kernel
theorem dX8_figures_9 : decode cX8_figures 9 = .ok (.if_icmp .ge 20, 3) := by decide +kernel
theorem dX8_figures_12 : decode cX8_figures 12 = .ok (.iload_n 1, 1) := by decide +kernel
theorem dX8_figures_13 : decode cX8_figures 13 = .ok (.bipush 10, 2) := by decide +kernel
theorem dX8_figures_15 : decode cX8_figures 15 = .ok (.imul, 1) := by decide +kernel
theorem dX8_figures_16 : decode cX8_figures 16 = .ok (.aload_n 0, 1) := by decide +kernel
theorem dX8_figures_17 : decode cX8_figures 17 = .ok (.iload_n 2, 1) := by decide +kernel
theorem dX8_figures_18 : decode cX8_figures 18 = .ok (.invokevirtual 31, 3) := by decide +kernel
theorem dX8_figures_21 : decode cX8_figures 21 = .ok (.iadd, 1) := by decide +kernel
theorem dX8_figures_22 : decode cX8_figures 22 = .ok (.istore_n 1, 1) := by decide +kernel
theorem dX8_figures_23 : decode cX8_figures 23 = .ok (.iinc 2 1, 3) := by decide +kernel
theorem dX8_figures_26 : decode cX8_figures 26 = .ok (.goto (-22), 3) := by decide +kernel
theorem dX8_figures_29 : decode cX8_figures 29 = .ok (.iload_n 1, 1) := by decide +kernel
theorem dX8_figures_30 : decode cX8_figures 30 = .ok (.ireturn, 1) := by decide +kernel
