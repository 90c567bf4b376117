theorem dX0_init_0 : decode cX0_init 0 = .ok (.aload_n 0, 1) := by decide +kernel
theorem dX0_init_1 : decode cX0_init 1 = .ok (.invokespecial 3, 3) := by decide +kernel
theorem dX0_init_4 : decode cX0_init 4 = .ok (.aload_n 0, 1) := by decide +kernel
theorem dX0_init_5 : decode cX0_init 5 = .ok (.iconst 4, 1) := by decide +kernel
theorem dX0_init_6 : decode cX0_init 6 = .ok (.newarray .long, 2) := by decide +kernel
theorem dX0_init_8 : decode cX0_init 8 = .ok (.putfield 9, 3) := by decide +kernel
theorem dX0_init_11 : decode cX0_init 11 = .ok (.return_, 1) := by decide +kernel
set_option maxRecDepth 20000 in
theorem ggX0_go_X8_copyFour : GoodIn wsX0_go wsX8_copyFour := goodIn_r _ [6] (by decide +kernel) (by decide +kernel)
set_option maxRecDepth 20000 in
theorem gX0_go_X8_copyFour_n15 : GoodIn wsX0_go (wsX8_copyFour) := ggX0_go_X8_copyFour
set_option maxRecDepth 20000 in
theorem ggX0_go_X0_greatest : GoodIn wsX0_go wsX0_greatest := goodIn_r _ [11, 1, 15, 16, 17] (by decide +kernel) (by decide +kernel)
set_option maxRecDepth 20000 in
theorem gX0_go_X0_greatest : GoodIn wsX0_go (wsV RX0 26 RX0 yX0_greatest wsX0_greatest) := goodIn_app (goodIn_of _ (by decide +kernel)) ggX0_go_X0_greatest
set_option maxRecDepth 20000 in
theorem ggX0_go_X8_turnedOver : GoodIn wsX0_go wsX8_turnedOver := goodIn_r _ [13, 14] (by decide +kernel) (by decide +kernel)
set_option maxRecDepth 20000 in
theorem gX0_go_X8_turnedOver_n30 : GoodIn wsX0_go (wsX8_turnedOver) := ggX0_go_X8_turnedOver
theorem dX0_go_0 : decode cX0_go 0 = .ok (.aload_n 1, 1) := by decide +kernel
theorem dX0_go_1 : decode cX0_go 1 = .ok (.aload_n 0, 1) := by decide +kernel
theorem dX0_go_2 : decode cX0_go 2 = .ok (.getfield 9, 3) := by decide +kernel
theorem dX0_go_5 : decode cX0_go 5 = .ok (.invokestatic 15, 3) := by decide +kernel
theorem dX0_go_8 : decode cX0_go 8 = .ok (.aload_n 0, 1) := by decide +kernel
theorem dX0_go_9 : decode cX0_go 9 = .ok (.iconst 0, 1) := by decide +kernel
theorem dX0_go_10 : decode cX0_go 10 = .ok (.putfield 19, 3) := by decide +kernel
theorem dX0_go_13 : decode cX0_go 13 = .ok (.aload_n 0, 1) := by decide +kernel
theorem dX0_go_14 : decode cX0_go 14 = .ok (.iconst 0, 1) := by decide +kernel
theorem dX0_go_15 : decode cX0_go 15 = .ok (.putfield 23, 3) := by decide +kernel
theorem dX0_go_18 : decode cX0_go 18 = .ok (.iconst 0, 1) := by decide +kernel
theorem dX0_go_19 : decode cX0_go 19 = .ok (.istore_n 3, 1) := by decide +kernel
theorem dX0_go_20 : decode cX0_go 20 = .ok (.iload_n 3, 1) := by decide +kernel
theorem dX0_go_21 : decode cX0_go 21 = .ok (.iload_n 2, 1) := by decide +kernel
theorem dX0_go_22 : decode cX0_go 22 = .ok (.if_icmp .ge 65, 3) := by decide +kernel
theorem dX0_go_25 : decode cX0_go 25 = .ok (.aload_n 0, 1) := by decide +kernel
theorem dX0_go_26 : decode cX0_go 26 = .ok (.invokevirtual 26, 3) := by decide +kernel
theorem dX0_go_29 : decode cX0_go 29 = .ok (.istore 4, 2) := by decide +kernel
theorem dX0_go_31 : decode cX0_go 31 = .ok (.aload_n 0, 1) := by decide +kernel
theorem dX0_go_32 : decode cX0_go 32 = .ok (.getfield 9, 3) := by decide +kernel
theorem dX0_go_35 : decode cX0_go 35 = .ok (.iload 4, 2) := by decide +kernel
theorem dX0_go_37 : decode cX0_go 37 = .ok (.invokestatic 30, 3) := by decide +kernel
theorem dX0_go_40 : decode cX0_go 40 = .ok (.lstore 5, 2) := by decide +kernel
theorem dX0_go_42 : decode cX0_go 42 = .ok (.lload 5, 2) := by decide +kernel
theorem dX0_go_44 : decode cX0_go 44 = .ok (.aload_n 0, 1) := by decide +kernel
theorem dX0_go_45 : decode cX0_go 45 = .ok (.getfield 9, 3) := by decide +kernel
theorem dX0_go_48 : decode cX0_go 48 = .ok (.iload 4, 2) := by decide +kernel
theorem dX0_go_50 : decode cX0_go 50 = .ok (.laload, 1) := by decide +kernel
theorem dX0_go_51 : decode cX0_go 51 = .ok (.lcmp, 1) := by decide +kernel
theorem dX0_go_52 : decode cX0_go 52 = .ok (.ifCond .lt 4, 3) := by decide +kernel
theorem dX0_go_55 : decode cX0_go 55 = .ok (.return_, 1) := by decide +kernel
theorem dX0_go_56 : decode cX0_go 56 = .ok (.aload_n 0, 1) := by decide +kernel
theorem dX0_go_57 : decode cX0_go 57 = .ok (.getfield 9, 3) := by decide +kernel
theorem dX0_go_60 : decode cX0_go 60 = .ok (.iload 4, 2) := by decide +kernel
theorem dX0_go_62 : decode cX0_go 62 = .ok (.lload 5, 2) := by decide +kernel
theorem dX0_go_64 : decode cX0_go 64 = .ok (.lastore, 1) := by decide +kernel
theorem dX0_go_65 : decode cX0_go 65 = .ok (.aload_n 0, 1) := by decide +kernel
theorem dX0_go_66 : decode cX0_go 66 = .ok (.iload 4, 2) := by decide +kernel
theorem dX0_go_68 : decode cX0_go 68 = .ok (.putfield 23, 3) := by decide +kernel
theorem dX0_go_71 : decode cX0_go 71 = .ok (.aload_n 0, 1) := by decide +kernel
theorem dX0_go_72 : decode cX0_go 72 = .ok (.dup, 1) := by decide +kernel
theorem dX0_go_73 : decode cX0_go 73 = .ok (.getfield 19, 3) := by decide +kernel
theorem dX0_go_76 : decode cX0_go 76 = .ok (.iconst 1, 1) := by decide +kernel
theorem dX0_go_77 : decode cX0_go 77 = .ok (.iadd, 1) := by decide +kernel
theorem dX0_go_78 : decode cX0_go 78 = .ok (.putfield 19, 3) := by decide +kernel
theorem dX0_go_81 : decode cX0_go 81 = .ok (.iinc 3 1, 3) := by decide +kernel
theorem dX0_go_84 : decode cX0_go 84 = .ok (.goto (-64), 3) := by decide +kernel
theorem dX0_go_87 : decode cX0_go 87 = .ok (.return_, 1) := by decide +kernel
theorem dX0_greatest_0 : decode cX0_greatest 0 = .ok (.iconst 0, 1) := by decide +kernel
theorem dX0_greatest_1 : decode cX0_greatest 1 = .ok (.istore_n 1, 1) := by decide +kernel
theorem dX0_greatest_2 : decode cX0_greatest 2 = .ok (.iconst 1, 1) := by decide +kernel
theorem dX0_greatest_3 : decode cX0_greatest 3 = .ok (.istore_n 2, 1) := by decide +kernel
theorem dX0_greatest_4 : decode cX0_greatest 4 = .ok (.iload_n 2, 1) := by decide +kernel
theorem dX0_greatest_5 : decode cX0_greatest 5 = .ok (.iconst 4, 1) := by decide +kernel
theorem dX0_greatest_6 : decode cX0_greatest 6 = .ok (.if_icmp .ge 27, 3) := by decide +kernel
theorem dX0_greatest_9 : decode cX0_greatest 9 = .ok (.aload_n 0, 1) := by decide +kernel
theorem dX0_greatest_10 : decode cX0_greatest 10 = .ok (.getfield 9, 3) := by decide +kernel
theorem dX0_greatest_13 : decode cX0_greatest 13 = .ok (.iload_n 2, 1) := by decide +kernel
theorem dX0_greatest_14 : decode cX0_greatest 14 = .ok (.laload, 1) := by decide +kernel
theorem dX0_greatest_15 : decode cX0_greatest 15 = .ok (.aload_n 0, 1) := by decide +kernel
theorem dX0_greatest_16 : decode cX0_greatest 16 = .ok (.getfield 9, 3) := by decide +kernel
theorem dX0_greatest_19 : decode cX0_greatest 19 = .ok (.iload_n 1, 1) := by decide +kernel
theorem dX0_greatest_20 : decode cX0_greatest 20 = .ok (.laload, 1) := by decide +kernel
theorem dX0_greatest_21 : decode cX0_greatest 21 = .ok (.lcmp, 1) := by decide +kernel
theorem dX0_greatest_22 : decode cX0_greatest 22 = .ok (.ifCond .le 5, 3) := by decide +kernel
theorem dX0_greatest_25 : decode cX0_greatest 25 = .ok (.iload_n 2, 1) := by decide +kernel
theorem dX0_greatest_26 : decode cX0_greatest 26 = .ok (.istore_n 1, 1) := by decide +kernel
theorem dX0_greatest_27 : decode cX0_greatest 27 = .ok (.iinc 2 1, 3) := by decide +kernel
theorem dX0_greatest_30 : decode cX0_greatest 30 = .ok (.goto (-26), 3) := by decide +kernel
theorem dX0_greatest_33 : decode cX0_greatest 33 = .ok (.iload_n 1, 1) := by decide +kernel
theorem dX0_greatest_34 : decode cX0_greatest 34 = .ok (.ireturn, 1) := by decide +kernel
theorem dX1_init_0 : decode cX1_init 0 = .ok (.aload_n 0, 1) := by decide +kernel
theorem dX1_init_1 : decode cX1_init 1 = .ok (.invokespecial 3, 3) := by decide +kernel
theorem dX1_init_4 : decode cX1_init 4 = .ok (.aload_n 0, 1) := by decide +kernel
theorem dX1_init_5 : decode cX1_init 5 = .ok (.sipush 2001, 3) := by decide +kernel
theorem dX1_init_8 : decode cX1_init 8 = .ok (.newarray .long, 2) := by decide +kernel
theorem dX1_init_10 : decode cX1_init 10 = .ok (.putfield 9, 3) := by decide +kernel
theorem dX1_init_13 : decode cX1_init 13 = .ok (.return_, 1) := by decide +kernel
theorem dX1_forget_0 : decode cX1_forget 0 = .ok (.aload_n 0, 1) := by decide +kernel
theorem dX1_forget_1 : decode cX1_forget 1 = .ok (.iconst 0, 1) := by decide +kernel
theorem dX1_forget_2 : decode cX1_forget 2 = .ok (.putfield 15, 3) := by decide +kernel
theorem dX1_forget_5 : decode cX1_forget 5 = .ok (.return_, 1) := by decide +kernel
theorem dX1_at_0 : decode cX1_at 0 = .ok (.iload_n 1, 1) := by decide +kernel
theorem dX1_at_1 : decode cX1_at 1 = .ok (.ifCond .lt 20, 3) := by decide +kernel
theorem dX1_at_4 : decode cX1_at 4 = .ok (.iload_n 1, 1) := by decide +kernel
theorem dX1_at_5 : decode cX1_at 5 = .ok (.aload_n 0, 1) := by decide +kernel
theorem dX1_at_6 : decode cX1_at 6 = .ok (.getfield 15, 3) := by decide +kernel
theorem dX1_at_9 : decode cX1_at 9 = .ok (.if_icmp .ge 12, 3) := by decide +kernel
theorem dX1_at_12 : decode cX1_at 12 = .ok (.aload_n 0, 1) := by decide +kernel
theorem dX1_at_13 : decode cX1_at 13 = .ok (.getfield 9, 3) := by decide +kernel
theorem dX1_at_16 : decode cX1_at 16 = .ok (.iload_n 1, 1) := by decide +kernel
theorem dX1_at_17 : decode cX1_at 17 = .ok (.laload, 1) := by decide +kernel
theorem dX1_at_18 : decode cX1_at 18 = .ok (.goto 6, 3) := by decide +kernel
theorem dX1_at_21 : decode cX1_at 21 = .ok (.ldc2_w 19, 3) := by decide +kernel
theorem dX1_at_24 : decode cX1_at 24 = .ok (.lreturn, 1) := by decide +kernel
set_option maxRecDepth 20000 in
theorem ggX1_reachTo_X1_gather : GoodIn wsX1_reachTo wsX1_gather := goodIn_r _ [16, 1, 17, 18, 19, 20, 15, 21, 10, 2, 22, 23, 24, 25, 26, 27, 28, 29, 30, 31, 32, 33, 34, 35, 36, 37, 38, 39, 40, 41, 42, 43, 44, 45, 46, 47, 48, 49, 5, 50, 51, 52, 53, 54, 55, 56, 57, 58, 59, 60, 61, 62, 63, 64, 65, 66, 67, 68, 69, 70, 71, 72, 73, 74, 75, 76, 77, 78, 79, 80, 85, 86, 87, 88, 89, 90] (by decide +kernel) (by decide +kernel)
set_option maxRecDepth 20000 in
theorem gX1_reachTo_X1_gather : GoodIn wsX1_reachTo (wsV RX1 35 RX1 yX1_gather wsX1_gather) := goodIn_app (goodIn_of _ (by decide +kernel)) ggX1_reachTo_X1_gather
set_option maxRecDepth 20000 in
theorem ggX1_reachTo_X1_straighten : GoodIn wsX1_reachTo wsX1_straighten := goodIn_r _ [84, 1, 26, 27, 28, 15, 29, 2, 30, 31, 32, 33, 85, 86, 87] (by decide +kernel) (by decide +kernel)
set_option maxRecDepth 20000 in
theorem gX1_reachTo_X1_straighten : GoodIn wsX1_reachTo (wsV RX1 39 RX1 yX1_straighten wsX1_straighten) := goodIn_app (goodIn_of _ (by decide +kernel)) ggX1_reachTo_X1_straighten
theorem dX1_reachTo_0 : decode cX1_reachTo 0 = .ok (.iload_n 1, 1) := by decide +kernel
theorem dX1_reachTo_1 : decode cX1_reachTo 1 = .ok (.aload_n 0, 1) := by decide +kernel
theorem dX1_reachTo_2 : decode cX1_reachTo 2 = .ok (.getfield 15, 3) := by decide +kernel
theorem dX1_reachTo_5 : decode cX1_reachTo 5 = .ok (.if_icmp .ge 4, 3) := by decide +kernel
theorem dX1_reachTo_8 : decode cX1_reachTo 8 = .ok (.return_, 1) := by decide +kernel
theorem dX1_reachTo_9 : decode cX1_reachTo 9 = .ok (.aload_n 0, 1) := by decide +kernel
theorem dX1_reachTo_10 : decode cX1_reachTo 10 = .ok (.aload_n 0, 1) := by decide +kernel
theorem dX1_reachTo_11 : decode cX1_reachTo 11 = .ok (.getfield 9, 3) := by decide +kernel
theorem dX1_reachTo_14 : decode cX1_reachTo 14 = .ok (.arraylength, 1) := by decide +kernel
theorem dX1_reachTo_15 : decode cX1_reachTo 15 = .ok (.iload_n 1, 1) := by decide +kernel
theorem dX1_reachTo_16 : decode cX1_reachTo 16 = .ok (.iconst 1, 1) := by decide +kernel
theorem dX1_reachTo_17 : decode cX1_reachTo 17 = .ok (.iadd, 1) := by decide +kernel
theorem dX1_reachTo_18 : decode cX1_reachTo 18 = .ok (.iconst 2, 1) := by decide +kernel
theorem dX1_reachTo_19 : decode cX1_reachTo 19 = .ok (.aload_n 0, 1) := by decide +kernel
theorem dX1_reachTo_20 : decode cX1_reachTo 20 = .ok (.getfield 15, 3) := by decide +kernel
theorem dX1_reachTo_23 : decode cX1_reachTo 23 = .ok (.imul, 1) := by decide +kernel
theorem dX1_reachTo_24 : decode cX1_reachTo 24 = .ok (.invokestatic 21, 3) := by decide +kernel
theorem dX1_reachTo_27 : decode cX1_reachTo 27 = .ok (.invokestatic 27, 3) := by decide +kernel
theorem dX1_reachTo_30 : decode cX1_reachTo 30 = .ok (.putfield 30, 3) := by decide +kernel
theorem dX1_reachTo_33 : decode cX1_reachTo 33 = .ok (.aload_n 0, 1) := by decide +kernel
theorem dX1_reachTo_34 : decode cX1_reachTo 34 = .ok (.iconst 0, 1) := by decide +kernel
theorem dX1_reachTo_35 : decode cX1_reachTo 35 = .ok (.putfield 15, 3) := by decide +kernel
theorem dX1_reachTo_38 : decode cX1_reachTo 38 = .ok (.ldc2_w 33, 3) := by decide +kernel
theorem dX1_reachTo_41 : decode cX1_reachTo 41 = .ok (.aload_n 2, 1) := by decide +kernel
theorem dX1_reachTo_42 : decode cX1_reachTo 42 = .ok (.iconst 3, 1) := by decide +kernel
theorem dX1_reachTo_43 : decode cX1_reachTo 43 = .ok (.laload, 1) := by decide +kernel
theorem dX1_reachTo_44 : decode cX1_reachTo 44 = .ok (.lmul, 1) := by decide +kernel
theorem dX1_reachTo_45 : decode cX1_reachTo 45 = .ok (.lstore 4, 2) := by decide +kernel
theorem dX1_reachTo_47 : decode cX1_reachTo 47 = .ok (.iconst 0, 1) := by decide +kernel
theorem dX1_reachTo_48 : decode cX1_reachTo 48 = .ok (.istore 6, 2) := by decide +kernel
theorem dX1_reachTo_50 : decode cX1_reachTo 50 = .ok (.iload 6, 2) := by decide +kernel
theorem dX1_reachTo_52 : decode cX1_reachTo 52 = .ok (.bipush 30, 2) := by decide +kernel
theorem dX1_reachTo_54 : decode cX1_reachTo 54 = .ok (.if_icmp .ge 36, 3) := by decide +kernel
theorem dX1_reachTo_57 : decode cX1_reachTo 57 = .ok (.aload_n 0, 1) := by decide +kernel
theorem dX1_reachTo_58 : decode cX1_reachTo 58 = .ok (.getfield 15, 3) := by decide +kernel
theorem dX1_reachTo_61 : decode cX1_reachTo 61 = .ok (.aload_n 0, 1) := by decide +kernel
theorem dX1_reachTo_62 : decode cX1_reachTo 62 = .ok (.getfield 30, 3) := by decide +kernel
theorem dX1_reachTo_65 : decode cX1_reachTo 65 = .ok (.if_icmp .ge 25, 3) := by decide +kernel
theorem dX1_reachTo_68 : decode cX1_reachTo 68 = .ok (.aload_n 0, 1) := by decide +kernel
theorem dX1_reachTo_69 : decode cX1_reachTo 69 = .ok (.lload 4, 2) := by decide +kernel
theorem dX1_reachTo_71 : decode cX1_reachTo 71 = .ok (.aload_n 2, 1) := by decide +kernel
theorem dX1_reachTo_72 : decode cX1_reachTo 72 = .ok (.aload_n 3, 1) := by decide +kernel
theorem dX1_reachTo_73 : decode cX1_reachTo 73 = .ok (.invokevirtual 35, 3) := by decide +kernel
theorem dX1_reachTo_76 : decode cX1_reachTo 76 = .ok (.lload 4, 2) := by decide +kernel
theorem dX1_reachTo_78 : decode cX1_reachTo 78 = .ok (.ldc2_w 33, 3) := by decide +kernel
theorem dX1_reachTo_81 : decode cX1_reachTo 81 = .ok (.lmul, 1) := by decide +kernel
theorem dX1_reachTo_82 : decode cX1_reachTo 82 = .ok (.lstore 4, 2) := by decide +kernel
theorem dX1_reachTo_84 : decode cX1_reachTo 84 = .ok (.iinc 6 1, 3) := by decide +kernel
theorem dX1_reachTo_87 : decode cX1_reachTo 87 = .ok (.goto (-37), 3) := by decide +kernel
theorem dX1_reachTo_90 : decode cX1_reachTo 90 = .ok (.aload_n 0, 1) := by decide +kernel
theorem dX1_reachTo_91 : decode cX1_reachTo 91 = .ok (.invokevirtual 39, 3) := by decide +kernel
theorem dX1_reachTo_94 : decode cX1_reachTo 94 = .ok (.return_, 1) := by decide +kernel
set_option maxRecDepth 20000 in
theorem ggX1_gather_X1_offer : GoodIn wsX1_gather wsX1_offer := goodIn_r _ [7, 1, 8, 9, 10, 11, 12, 6, 13, 14, 15, 16, 17, 18, 19, 20, 21, 70, 71, 72] (by decide +kernel) (by decide +kernel)
set_option maxRecDepth 20000 in
theorem gX1_gather_X1_offer : GoodIn wsX1_gather (wsV RX1 42 RX1 yX1_offer wsX1_offer) := goodIn_app (goodIn_of _ (by decide +kernel)) ggX1_gather_X1_offer
set_option maxRecDepth 20000 in
theorem ggX1_gather_X7_start : GoodIn wsX1_gather wsX7_start := goodIn_r _ [26, 27, 28, 29, 30, 31, 73, 74, 75] (by decide +kernel) (by decide +kernel)
set_option maxRecDepth 20000 in
theorem gX1_gather_X7_start : GoodIn wsX1_gather (wsV RX1 46 RX7 yX7_start wsX7_start) := goodIn_app (goodIn_of _ (by decide +kernel)) ggX1_gather_X7_start
set_option maxRecDepth 20000 in
theorem ggX1_gather_X1_usefulLimit : GoodIn wsX1_gather wsX1_usefulLimit := goodIn_r _ [35, 1, 8, 9, 36, 37, 38, 39, 70, 71, 72] (by decide +kernel) (by decide +kernel)
set_option maxRecDepth 20000 in
theorem gX1_gather_X1_usefulLimit : GoodIn wsX1_gather (wsV RX1 53 RX1 yX1_usefulLimit wsX1_usefulLimit) := goodIn_app (goodIn_of _ (by decide +kernel)) ggX1_gather_X1_usefulLimit
set_option maxRecDepth 20000 in
theorem ggX1_gather_X7_advance : GoodIn wsX1_gather wsX7_advance := goodIn_r _ [43, 44, 28, 45, 46, 47, 25, 48, 49, 27, 50, 30, 51, 52, 53, 54, 55, 56, 57, 58, 59, 60, 61, 62, 63, 64, 73, 74, 75] (by decide +kernel) (by decide +kernel)
set_option maxRecDepth 20000 in
theorem gX1_gather_X7_advance : GoodIn wsX1_gather (wsV RX1 57 RX7 yX7_advance wsX7_advance) := goodIn_app (goodIn_of _ (by decide +kernel)) ggX1_gather_X7_advance
set_option maxRecDepth 20000 in
theorem ggX1_gather_X7_found : GoodIn wsX1_gather wsX7_found := goodIn_r _ [68, 28, 27, 49, 69, 73, 74, 75] (by decide +kernel) (by decide +kernel)
set_option maxRecDepth 20000 in
theorem gX1_gather_X7_found : GoodIn wsX1_gather (wsV RX1 61 RX7 yX7_found wsX7_found) := goodIn_app (goodIn_of _ (by decide +kernel)) ggX1_gather_X7_found
theorem dX1_gather_0 : decode cX1_gather 0 = .ok (.aload_n 0, 1) := by decide +kernel
theorem dX1_gather_1 : decode cX1_gather 1 = .ok (.iconst 0, 1) := by decide +kernel
theorem dX1_gather_2 : decode cX1_gather 2 = .ok (.putfield 15, 3) := by decide +kernel
theorem dX1_gather_5 : decode cX1_gather 5 = .ok (.iconst 0, 1) := by decide +kernel
theorem dX1_gather_6 : decode cX1_gather 6 = .ok (.istore 5, 2) := by decide +kernel
theorem dX1_gather_8 : decode cX1_gather 8 = .ok (.iload 5, 2) := by decide +kernel
theorem dX1_gather_10 : decode cX1_gather 10 = .ok (.iconst 4, 1) := by decide +kernel
theorem dX1_gather_11 : decode cX1_gather 11 = .ok (.if_icmp .ge 17, 3) := by decide +kernel
theorem dX1_gather_14 : decode cX1_gather 14 = .ok (.aload_n 0, 1) := by decide +kernel
theorem dX1_gather_15 : decode cX1_gather 15 = .ok (.aload_n 3, 1) := by decide +kernel
theorem dX1_gather_16 : decode cX1_gather 16 = .ok (.iload 5, 2) := by decide +kernel
theorem dX1_gather_18 : decode cX1_gather 18 = .ok (.laload, 1) := by decide +kernel
theorem dX1_gather_19 : decode cX1_gather 19 = .ok (.invokevirtual 42, 3) := by decide +kernel
theorem dX1_gather_22 : decode cX1_gather 22 = .ok (.iinc 5 1, 3) := by decide +kernel
theorem dX1_gather_25 : decode cX1_gather 25 = .ok (.goto (-17), 3) := by decide +kernel
theorem dX1_gather_28 : decode cX1_gather 28 = .ok (.aload 4, 2) := by decide +kernel
theorem dX1_gather_30 : decode cX1_gather 30 = .ok (.aload_n 3, 1) := by decide +kernel
theorem dX1_gather_31 : decode cX1_gather 31 = .ok (.invokevirtual 46, 3) := by decide +kernel
theorem dX1_gather_34 : decode cX1_gather 34 = .ok (.iconst 0, 1) := by decide +kernel
theorem dX1_gather_35 : decode cX1_gather 35 = .ok (.istore 5, 2) := by decide +kernel
theorem dX1_gather_37 : decode cX1_gather 37 = .ok (.iload 5, 2) := by decide +kernel
theorem dX1_gather_39 : decode cX1_gather 39 = .ok (.ldc 52, 2) := by decide +kernel
theorem dX1_gather_41 : decode cX1_gather 41 = .ok (.if_icmp .ge 31, 3) := by decide +kernel
theorem dX1_gather_44 : decode cX1_gather 44 = .ok (.aload 4, 2) := by decide +kernel
theorem dX1_gather_46 : decode cX1_gather 46 = .ok (.aload_n 0, 1) := by decide +kernel
theorem dX1_gather_47 : decode cX1_gather 47 = .ok (.lload_n 1, 1) := by decide +kernel
theorem dX1_gather_48 : decode cX1_gather 48 = .ok (.invokevirtual 53, 3) := by decide +kernel
theorem dX1_gather_51 : decode cX1_gather 51 = .ok (.invokevirtual 57, 3) := by decide +kernel
theorem dX1_gather_54 : decode cX1_gather 54 = .ok (.ifCond .eq 18, 3) := by decide +kernel
theorem dX1_gather_57 : decode cX1_gather 57 = .ok (.aload_n 0, 1) := by decide +kernel
theorem dX1_gather_58 : decode cX1_gather 58 = .ok (.aload 4, 2) := by decide +kernel
theorem dX1_gather_60 : decode cX1_gather 60 = .ok (.invokevirtual 61, 3) := by decide +kernel
theorem dX1_gather_63 : decode cX1_gather 63 = .ok (.invokevirtual 42, 3) := by decide +kernel
theorem dX1_gather_66 : decode cX1_gather 66 = .ok (.iinc 5 1, 3) := by decide +kernel
theorem dX1_gather_69 : decode cX1_gather 69 = .ok (.goto (-32), 3) := by decide +kernel
theorem dX1_gather_72 : decode cX1_gather 72 = .ok (.return_, 1) := by decide +kernel
theorem dX1_usefulLimit_0 : decode cX1_usefulLimit 0 = .ok (.aload_n 0, 1) := by decide +kernel
theorem dX1_usefulLimit_1 : decode cX1_usefulLimit 1 = .ok (.getfield 15, 3) := by decide +kernel
theorem dX1_usefulLimit_4 : decode cX1_usefulLimit 4 = .ok (.aload_n 0, 1) := by decide +kernel
theorem dX1_usefulLimit_5 : decode cX1_usefulLimit 5 = .ok (.getfield 30, 3) := by decide +kernel
theorem dX1_usefulLimit_8 : decode cX1_usefulLimit 8 = .ok (.if_icmp .ge 7, 3) := by decide +kernel
theorem dX1_usefulLimit_11 : decode cX1_usefulLimit 11 = .ok (.lload_n 1, 1) := by decide +kernel
theorem dX1_usefulLimit_12 : decode cX1_usefulLimit 12 = .ok (.goto 15, 3) := by decide +kernel
theorem dX1_usefulLimit_15 : decode cX1_usefulLimit 15 = .ok (.lload_n 1, 1) := by decide +kernel
theorem dX1_usefulLimit_16 : decode cX1_usefulLimit 16 = .ok (.aload_n 0, 1) := by decide +kernel
theorem dX1_usefulLimit_17 : decode cX1_usefulLimit 17 = .ok (.getfield 9, 3) := by decide +kernel
theorem dX1_usefulLimit_20 : decode cX1_usefulLimit 20 = .ok (.iconst 0, 1) := by decide +kernel
theorem dX1_usefulLimit_21 : decode cX1_usefulLimit 21 = .ok (.laload, 1) := by decide +kernel
theorem dX1_usefulLimit_22 : decode cX1_usefulLimit 22 = .ok (.lconst 1, 1) := by decide +kernel
theorem dX1_usefulLimit_23 : decode cX1_usefulLimit 23 = .ok (.lsub, 1) := by decide +kernel
theorem dX1_usefulLimit_24 : decode cX1_usefulLimit 24 = .ok (.invokestatic 65, 3) := by decide +kernel
theorem dX1_usefulLimit_27 : decode cX1_usefulLimit 27 = .ok (.lreturn, 1) := by decide +kernel
set_option maxRecDepth 20000 in
theorem ggX1_offer_X1_rise : GoodIn wsX1_offer wsX1_rise := goodIn_r _ [8, 3, 9, 10, 11, 7, 12, 17, 18, 19] (by decide +kernel) (by decide +kernel)
set_option maxRecDepth 20000 in
theorem gX1_offer_X1_rise : GoodIn wsX1_offer (wsV RX1 68 RX1 yX1_rise wsX1_rise) := goodIn_app (goodIn_of _ (by decide +kernel)) ggX1_offer_X1_rise
set_option maxRecDepth 20000 in
theorem ggX1_offer_X1_sink : GoodIn wsX1_offer wsX1_sink := goodIn_r _ [16, 3, 9, 10, 11, 7, 12, 17, 18, 19] (by decide +kernel) (by decide +kernel)
set_option maxRecDepth 20000 in
theorem gX1_offer_X1_sink : GoodIn wsX1_offer (wsV RX1 72 RX1 yX1_sink wsX1_sink) := goodIn_app (goodIn_of _ (by decide +kernel)) ggX1_offer_X1_sink
theorem dX1_offer_0 : decode cX1_offer 0 = .ok (.aload_n 0, 1) := by decide +kernel
theorem dX1_offer_1 : decode cX1_offer 1 = .ok (.getfield 15, 3) := by decide +kernel
theorem dX1_offer_4 : decode cX1_offer 4 = .ok (.aload_n 0, 1) := by decide +kernel
theorem dX1_offer_5 : decode cX1_offer 5 = .ok (.getfield 30, 3) := by decide +kernel
theorem dX1_offer_8 : decode cX1_offer 8 = .ok (.if_icmp .ge 36, 3) := by decide +kernel
theorem dX1_offer_11 : decode cX1_offer 11 = .ok (.aload_n 0, 1) := by decide +kernel
theorem dX1_offer_12 : decode cX1_offer 12 = .ok (.getfield 9, 3) := by decide +kernel
theorem dX1_offer_15 : decode cX1_offer 15 = .ok (.aload_n 0, 1) := by decide +kernel
theorem dX1_offer_16 : decode cX1_offer 16 = .ok (.getfield 15, 3) := by decide +kernel
theorem dX1_offer_19 : decode cX1_offer 19 = .ok (.lload_n 1, 1) := by decide +kernel
theorem dX1_offer_20 : decode cX1_offer 20 = .ok (.lastore, 1) := by decide +kernel
theorem dX1_offer_21 : decode cX1_offer 21 = .ok (.aload_n 0, 1) := by decide +kernel
theorem dX1_offer_22 : decode cX1_offer 22 = .ok (.dup, 1) := by decide +kernel
theorem dX1_offer_23 : decode cX1_offer 23 = .ok (.getfield 15, 3) := by decide +kernel
theorem dX1_offer_26 : decode cX1_offer 26 = .ok (.iconst 1, 1) := by decide +kernel
theorem dX1_offer_27 : decode cX1_offer 27 = .ok (.iadd, 1) := by decide +kernel
theorem dX1_offer_28 : decode cX1_offer 28 = .ok (.putfield 15, 3) := by decide +kernel
theorem dX1_offer_31 : decode cX1_offer 31 = .ok (.aload_n 0, 1) := by decide +kernel
theorem dX1_offer_32 : decode cX1_offer 32 = .ok (.aload_n 0, 1) := by decide +kernel
theorem dX1_offer_33 : decode cX1_offer 33 = .ok (.getfield 15, 3) := by decide +kernel
theorem dX1_offer_36 : decode cX1_offer 36 = .ok (.iconst 1, 1) := by decide +kernel
theorem dX1_offer_37 : decode cX1_offer 37 = .ok (.isub, 1) := by decide +kernel
theorem dX1_offer_38 : decode cX1_offer 38 = .ok (.invokevirtual 68, 3) := by decide +kernel
theorem dX1_offer_41 : decode cX1_offer 41 = .ok (.goto 29, 3) := by decide +kernel
theorem dX1_offer_44 : decode cX1_offer 44 = .ok (.lload_n 1, 1) := by decide +kernel
theorem dX1_offer_45 : decode cX1_offer 45 = .ok (.aload_n 0, 1) := by decide +kernel
theorem dX1_offer_46 : decode cX1_offer 46 = .ok (.getfield 9, 3) := by decide +kernel
theorem dX1_offer_49 : decode cX1_offer 49 = .ok (.iconst 0, 1) := by decide +kernel
theorem dX1_offer_50 : decode cX1_offer 50 = .ok (.laload, 1) := by decide +kernel
theorem dX1_offer_51 : decode cX1_offer 51 = .ok (.lcmp, 1) := by decide +kernel
theorem dX1_offer_52 : decode cX1_offer 52 = .ok (.ifCond .ge 18, 3) := by decide +kernel
theorem dX1_offer_55 : decode cX1_offer 55 = .ok (.aload_n 0, 1) := by decide +kernel
theorem dX1_offer_56 : decode cX1_offer 56 = .ok (.getfield 9, 3) := by decide +kernel
theorem dX1_offer_59 : decode cX1_offer 59 = .ok (.iconst 0, 1) := by decide +kernel
theorem dX1_offer_60 : decode cX1_offer 60 = .ok (.lload_n 1, 1) := by decide +kernel
theorem dX1_offer_61 : decode cX1_offer 61 = .ok (.lastore, 1) := by decide +kernel
theorem dX1_offer_62 : decode cX1_offer 62 = .ok (.aload_n 0, 1) := by decide +kernel
theorem dX1_offer_63 : decode cX1_offer 63 = .ok (.aload_n 0, 1) := by decide +kernel
theorem dX1_offer_64 : decode cX1_offer 64 = .ok (.getfield 15, 3) := by decide +kernel
theorem dX1_offer_67 : decode cX1_offer 67 = .ok (.invokevirtual 72, 3) := by decide +kernel
theorem dX1_offer_70 : decode cX1_offer 70 = .ok (.return_, 1) := by decide +kernel
set_option maxRecDepth 20000 in
theorem ggX1_rise_X1_swap : GoodIn wsX1_rise wsX1_swap := goodIn_r _ [6, 1, 7, 8, 9] (by decide +kernel) (by decide +kernel)
set_option maxRecDepth 20000 in
theorem gX1_rise_X1_swap : GoodIn wsX1_rise (wsV RX1 75 RX1 yX1_swap wsX1_swap) := goodIn_app (goodIn_of _ (by decide +kernel)) ggX1_rise_X1_swap
theorem dX1_rise_0 : decode cX1_rise 0 = .ok (.iload_n 1, 1) := by decide +kernel
theorem dX1_rise_1 : decode cX1_rise 1 = .ok (.istore_n 2, 1) := by decide +kernel
theorem dX1_rise_2 : decode cX1_rise 2 = .ok (.iload_n 2, 1) := by decide +kernel
theorem dX1_rise_3 : decode cX1_rise 3 = .ok (.ifCond .le 42, 3) := by decide +kernel
theorem dX1_rise_6 : decode cX1_rise 6 = .ok (.aload_n 0, 1) := by decide +kernel
theorem dX1_rise_7 : decode cX1_rise 7 = .ok (.getfield 9, 3) := by decide +kernel
theorem dX1_rise_10 : decode cX1_rise 10 = .ok (.iload_n 2, 1) := by decide +kernel
theorem dX1_rise_11 : decode cX1_rise 11 = .ok (.laload, 1) := by decide +kernel
theorem dX1_rise_12 : decode cX1_rise 12 = .ok (.aload_n 0, 1) := by decide +kernel
theorem dX1_rise_13 : decode cX1_rise 13 = .ok (.getfield 9, 3) := by decide +kernel
theorem dX1_rise_16 : decode cX1_rise 16 = .ok (.iload_n 2, 1) := by decide +kernel
theorem dX1_rise_17 : decode cX1_rise 17 = .ok (.iconst 1, 1) := by decide +kernel
theorem dX1_rise_18 : decode cX1_rise 18 = .ok (.isub, 1) := by decide +kernel
theorem dX1_rise_19 : decode cX1_rise 19 = .ok (.iconst 2, 1) := by decide +kernel
theorem dX1_rise_20 : decode cX1_rise 20 = .ok (.idiv, 1) := by decide +kernel
theorem dX1_rise_21 : decode cX1_rise 21 = .ok (.laload, 1) := by decide +kernel
theorem dX1_rise_22 : decode cX1_rise 22 = .ok (.lcmp, 1) := by decide +kernel
theorem dX1_rise_23 : decode cX1_rise 23 = .ok (.ifCond .le 22, 3) := by decide +kernel
theorem dX1_rise_26 : decode cX1_rise 26 = .ok (.aload_n 0, 1) := by decide +kernel
theorem dX1_rise_27 : decode cX1_rise 27 = .ok (.iload_n 2, 1) := by decide +kernel
theorem dX1_rise_28 : decode cX1_rise 28 = .ok (.iload_n 2, 1) := by decide +kernel
theorem dX1_rise_29 : decode cX1_rise 29 = .ok (.iconst 1, 1) := by decide +kernel
theorem dX1_rise_30 : decode cX1_rise 30 = .ok (.isub, 1) := by decide +kernel
theorem dX1_rise_31 : decode cX1_rise 31 = .ok (.iconst 2, 1) := by decide +kernel
theorem dX1_rise_32 : decode cX1_rise 32 = .ok (.idiv, 1) := by decide +kernel
theorem dX1_rise_33 : decode cX1_rise 33 = .ok (.invokevirtual 75, 3) := by decide +kernel
theorem dX1_rise_36 : decode cX1_rise 36 = .ok (.iload_n 2, 1) := by decide +kernel
theorem dX1_rise_37 : decode cX1_rise 37 = .ok (.iconst 1, 1) := by decide +kernel
theorem dX1_rise_38 : decode cX1_rise 38 = .ok (.isub, 1) := by decide +kernel
theorem dX1_rise_39 : decode cX1_rise 39 = .ok (.iconst 2, 1) := by decide +kernel
theorem dX1_rise_40 : decode cX1_rise 40 = .ok (.idiv, 1) := by decide +kernel
theorem dX1_rise_41 : decode cX1_rise 41 = .ok (.istore_n 2, 1) := by decide +kernel
theorem dX1_rise_42 : decode cX1_rise 42 = .ok (.goto (-40), 3) := by decide +kernel
theorem dX1_rise_45 : decode cX1_rise 45 = .ok (.return_, 1) := by decide +kernel
set_option maxRecDepth 20000 in
theorem ggX1_sink_X1_swap : GoodIn wsX1_sink wsX1_swap := goodIn_r _ [6, 1, 7, 8, 9] (by decide +kernel) (by decide +kernel)
set_option maxRecDepth 20000 in
theorem gX1_sink_X1_swap : GoodIn wsX1_sink (wsV RX1 75 RX1 yX1_swap wsX1_swap) := goodIn_app (goodIn_of _ (by decide +kernel)) ggX1_sink_X1_swap
theorem dX1_sink_0 : decode cX1_sink 0 = .ok (.iconst 0, 1) := by decide +kernel
theorem dX1_sink_1 : decode cX1_sink 1 = .ok (.istore_n 2, 1) := by decide +kernel
theorem dX1_sink_2 : decode cX1_sink 2 = .ok (.iconst 1, 1) := by decide +kernel
theorem dX1_sink_3 : decode cX1_sink 3 = .ok (.istore_n 3, 1) := by decide +kernel
theorem dX1_sink_4 : decode cX1_sink 4 = .ok (.iload_n 3, 1) := by decide +kernel
theorem dX1_sink_5 : decode cX1_sink 5 = .ok (.iload_n 1, 1) := by decide +kernel
theorem dX1_sink_6 : decode cX1_sink 6 = .ok (.if_icmp .ge 65, 3) := by decide +kernel
theorem dX1_sink_9 : decode cX1_sink 9 = .ok (.iload_n 3, 1) := by decide +kernel
theorem dX1_sink_10 : decode cX1_sink 10 = .ok (.iconst 1, 1) := by decide +kernel
theorem dX1_sink_11 : decode cX1_sink 11 = .ok (.iadd, 1) := by decide +kernel
theorem dX1_sink_12 : decode cX1_sink 12 = .ok (.iload_n 1, 1) := by decide +kernel
theorem dX1_sink_13 : decode cX1_sink 13 = .ok (.if_icmp .ge 24, 3) := by decide +kernel
theorem dX1_sink_16 : decode cX1_sink 16 = .ok (.aload_n 0, 1) := by decide +kernel
theorem dX1_sink_17 : decode cX1_sink 17 = .ok (.getfield 9, 3) := by decide +kernel
theorem dX1_sink_20 : decode cX1_sink 20 = .ok (.iload_n 3, 1) := by decide +kernel
theorem dX1_sink_21 : decode cX1_sink 21 = .ok (.iconst 1, 1) := by decide +kernel
theorem dX1_sink_22 : decode cX1_sink 22 = .ok (.iadd, 1) := by decide +kernel
theorem dX1_sink_23 : decode cX1_sink 23 = .ok (.laload, 1) := by decide +kernel
theorem dX1_sink_24 : decode cX1_sink 24 = .ok (.aload_n 0, 1) := by decide +kernel
theorem dX1_sink_25 : decode cX1_sink 25 = .ok (.getfield 9, 3) := by decide +kernel
theorem dX1_sink_28 : decode cX1_sink 28 = .ok (.iload_n 3, 1) := by decide +kernel
theorem dX1_sink_29 : decode cX1_sink 29 = .ok (.laload, 1) := by decide +kernel
theorem dX1_sink_30 : decode cX1_sink 30 = .ok (.lcmp, 1) := by decide +kernel
theorem dX1_sink_31 : decode cX1_sink 31 = .ok (.ifCond .le 6, 3) := by decide +kernel
theorem dX1_sink_34 : decode cX1_sink 34 = .ok (.iinc 3 1, 3) := by decide +kernel
theorem dX1_sink_37 : decode cX1_sink 37 = .ok (.aload_n 0, 1) := by decide +kernel
theorem dX1_sink_38 : decode cX1_sink 38 = .ok (.getfield 9, 3) := by decide +kernel
theorem dX1_sink_41 : decode cX1_sink 41 = .ok (.iload_n 3, 1) := by decide +kernel
theorem dX1_sink_42 : decode cX1_sink 42 = .ok (.laload, 1) := by decide +kernel
theorem dX1_sink_43 : decode cX1_sink 43 = .ok (.aload_n 0, 1) := by decide +kernel
theorem dX1_sink_44 : decode cX1_sink 44 = .ok (.getfield 9, 3) := by decide +kernel
theorem dX1_sink_47 : decode cX1_sink 47 = .ok (.iload_n 2, 1) := by decide +kernel
theorem dX1_sink_48 : decode cX1_sink 48 = .ok (.laload, 1) := by decide +kernel
theorem dX1_sink_49 : decode cX1_sink 49 = .ok (.lcmp, 1) := by decide +kernel
theorem dX1_sink_50 : decode cX1_sink 50 = .ok (.ifCond .gt 4, 3) := by decide +kernel
theorem dX1_sink_53 : decode cX1_sink 53 = .ok (.return_, 1) := by decide +kernel
theorem dX1_sink_54 : decode cX1_sink 54 = .ok (.aload_n 0, 1) := by decide +kernel
theorem dX1_sink_55 : decode cX1_sink 55 = .ok (.iload_n 2, 1) := by decide +kernel
theorem dX1_sink_56 : decode cX1_sink 56 = .ok (.iload_n 3, 1) := by decide +kernel
theorem dX1_sink_57 : decode cX1_sink 57 = .ok (.invokevirtual 75, 3) := by decide +kernel
theorem dX1_sink_60 : decode cX1_sink 60 = .ok (.iload_n 3, 1) := by decide +kernel
theorem dX1_sink_61 : decode cX1_sink 61 = .ok (.istore_n 2, 1) := by decide +kernel
theorem dX1_sink_62 : decode cX1_sink 62 = .ok (.iconst 2, 1) := by decide +kernel
theorem dX1_sink_63 : decode cX1_sink 63 = .ok (.iload_n 2, 1) := by decide +kernel
theorem dX1_sink_64 : decode cX1_sink 64 = .ok (.imul, 1) := by decide +kernel
theorem dX1_sink_65 : decode cX1_sink 65 = .ok (.iconst 1, 1) := by decide +kernel
theorem dX1_sink_66 : decode cX1_sink 66 = .ok (.iadd, 1) := by decide +kernel
theorem dX1_sink_67 : decode cX1_sink 67 = .ok (.istore_n 3, 1) := by decide +kernel
theorem dX1_sink_68 : decode cX1_sink 68 = .ok (.goto (-64), 3) := by decide +kernel
theorem dX1_sink_71 : decode cX1_sink 71 = .ok (.return_, 1) := by decide +kernel
set_option maxRecDepth 20000 in
theorem ggX1_straighten_X1_swap : GoodIn wsX1_straighten wsX1_swap := goodIn_r _ [6, 7, 12, 13, 14] (by decide +kernel) (by decide +kernel)
set_option maxRecDepth 20000 in
theorem gX1_straighten_X1_swap : GoodIn wsX1_straighten (wsV RX1 75 RX1 yX1_swap wsX1_swap) := goodIn_app (goodIn_of _ (by decide +kernel)) ggX1_straighten_X1_swap
set_option maxRecDepth 20000 in
theorem ggX1_straighten_X1_sink : GoodIn wsX1_straighten wsX1_sink := goodIn_r _ [11, 7, 2, 3, 4, 5, 6, 12, 13, 14] (by decide +kernel) (by decide +kernel)
set_option maxRecDepth 20000 in
theorem gX1_straighten_X1_sink : GoodIn wsX1_straighten (wsV RX1 72 RX1 yX1_sink wsX1_sink) := goodIn_app (goodIn_of _ (by decide +kernel)) ggX1_straighten_X1_sink
theorem dX1_straighten_0 : decode cX1_straighten 0 = .ok (.aload_n 0, 1) := by decide +kernel
theorem dX1_straighten_1 : decode cX1_straighten 1 = .ok (.getfield 15, 3) := by decide +kernel
theorem dX1_straighten_4 : decode cX1_straighten 4 = .ok (.iconst 1, 1) := by decide +kernel
theorem dX1_straighten_5 : decode cX1_straighten 5 = .ok (.isub, 1) := by decide +kernel
theorem dX1_straighten_6 : decode cX1_straighten 6 = .ok (.istore_n 1, 1) := by decide +kernel
theorem dX1_straighten_7 : decode cX1_straighten 7 = .ok (.iload_n 1, 1) := by decide +kernel
theorem dX1_straighten_8 : decode cX1_straighten 8 = .ok (.ifCond .le 20, 3) := by decide +kernel
theorem dX1_straighten_11 : decode cX1_straighten 11 = .ok (.aload_n 0, 1) := by decide +kernel
theorem dX1_straighten_12 : decode cX1_straighten 12 = .ok (.iconst 0, 1) := by decide +kernel
theorem dX1_straighten_13 : decode cX1_straighten 13 = .ok (.iload_n 1, 1) := by decide +kernel
theorem dX1_straighten_14 : decode cX1_straighten 14 = .ok (.invokevirtual 75, 3) := by decide +kernel
theorem dX1_straighten_17 : decode cX1_straighten 17 = .ok (.aload_n 0, 1) := by decide +kernel
theorem dX1_straighten_18 : decode cX1_straighten 18 = .ok (.iload_n 1, 1) := by decide +kernel
theorem dX1_straighten_19 : decode cX1_straighten 19 = .ok (.invokevirtual 72, 3) := by decide +kernel
theorem dX1_straighten_22 : decode cX1_straighten 22 = .ok (.iinc 1 (-1), 3) := by decide +kernel
theorem dX1_straighten_25 : decode cX1_straighten 25 = .ok (.goto (-18), 3) := by decide +kernel
theorem dX1_straighten_28 : decode cX1_straighten 28 = .ok (.return_, 1) := by decide +kernel
theorem dX1_swap_0 : decode cX1_swap 0 = .ok (.aload_n 0, 1) := by decide +kernel
theorem dX1_swap_1 : decode cX1_swap 1 = .ok (.getfield 9, 3) := by decide +kernel
theorem dX1_swap_4 : decode cX1_swap 4 = .ok (.iload_n 1, 1) := by decide +kernel
theorem dX1_swap_5 : decode cX1_swap 5 = .ok (.laload, 1) := by decide +kernel
theorem dX1_swap_6 : decode cX1_swap 6 = .ok (.lstore_n 3, 1) := by decide +kernel
theorem dX1_swap_7 : decode cX1_swap 7 = .ok (.aload_n 0, 1) := by decide +kernel
theorem dX1_swap_8 : decode cX1_swap 8 = .ok (.getfield 9, 3) := by decide +kernel
theorem dX1_swap_11 : decode cX1_swap 11 = .ok (.iload_n 1, 1) := by decide +kernel
theorem dX1_swap_12 : decode cX1_swap 12 = .ok (.aload_n 0, 1) := by decide +kernel
theorem dX1_swap_13 : decode cX1_swap 13 = .ok (.getfield 9, 3) := by decide +kernel
theorem dX1_swap_16 : decode cX1_swap 16 = .ok (.iload_n 2, 1) := by decide +kernel
theorem dX1_swap_17 : decode cX1_swap 17 = .ok (.laload, 1) := by decide +kernel
theorem dX1_swap_18 : decode cX1_swap 18 = .ok (.lastore, 1) := by decide +kernel
theorem dX1_swap_19 : decode cX1_swap 19 = .ok (.aload_n 0, 1) := by decide +kernel
theorem dX1_swap_20 : decode cX1_swap 20 = .ok (.getfield 9, 3) := by decide +kernel
theorem dX1_swap_23 : decode cX1_swap 23 = .ok (.iload_n 2, 1) := by decide +kernel
theorem dX1_swap_24 : decode cX1_swap 24 = .ok (.lload_n 3, 1) := by decide +kernel
theorem dX1_swap_25 : decode cX1_swap 25 = .ok (.lastore, 1) := by decide +kernel
theorem dX1_swap_26 : decode cX1_swap 26 = .ok (.return_, 1) := by decide +kernel
theorem dX2_init_0 : decode cX2_init 0 = .ok (.aload_n 0, 1) := by decide +kernel
theorem dX2_init_1 : decode cX2_init 1 = .ok (.invokespecial 3, 3) := by decide +kernel
theorem dX2_init_4 : decode cX2_init 4 = .ok (.aload_n 0, 1) := by decide +kernel
theorem dX2_init_5 : decode cX2_init 5 = .ok (.sipush 324, 3) := by decide +kernel
theorem dX2_init_8 : decode cX2_init 8 = .ok (.newarray .long, 2) := by decide +kernel
theorem dX2_init_10 : decode cX2_init 10 = .ok (.putfield 11, 3) := by decide +kernel
theorem dX2_init_13 : decode cX2_init 13 = .ok (.aload_n 0, 1) := by decide +kernel
theorem dX2_init_14 : decode cX2_init 14 = .ok (.sipush 1220, 3) := by decide +kernel
theorem dX2_init_17 : decode cX2_init 17 = .ok (.newarray .int, 2) := by decide +kernel
theorem dX2_init_19 : decode cX2_init 19 = .ok (.putfield 15, 3) := by decide +kernel
theorem dX2_init_22 : decode cX2_init 22 = .ok (.aload_n 0, 1) := by decide +kernel
theorem dX2_init_23 : decode cX2_init 23 = .ok (.iconst 4, 1) := by decide +kernel
theorem dX2_init_24 : decode cX2_init 24 = .ok (.newarray .int, 2) := by decide +kernel
theorem dX2_init_26 : decode cX2_init 26 = .ok (.putfield 19, 3) := by decide +kernel
theorem dX2_init_29 : decode cX2_init 29 = .ok (.return_, 1) := by decide +kernel
set_option maxRecDepth 20000 in
theorem ggX2_remaindersOf_X2_forget : GoodIn wsX2_remaindersOf wsX2_forget := goodIn_r _ [8, 9, 2, 33, 34, 35, 36] (by decide +kernel) (by decide +kernel)
set_option maxRecDepth 20000 in
theorem gX2_remaindersOf_X2_forget : GoodIn wsX2_remaindersOf (wsV RX2 22 RX2 yX2_forget wsX2_forget) := goodIn_app (goodIn_of _ (by decide +kernel)) ggX2_remaindersOf_X2_forget
set_option maxRecDepth 20000 in
theorem ggX2_remaindersOf_J9_floorMod_f86c9 : GoodIn wsX2_remaindersOf wsJ9_floorMod_f86c9 := goodIn_r _ [13] (by decide +kernel) (by decide +kernel)
set_option maxRecDepth 20000 in
theorem gX2_remaindersOf_J9_floorMod_f86c9 : GoodIn wsX2_remaindersOf (va_wsS RX2 25 yJ9_floorMod_f86c9 wsJ9_floorMod_f86c9) := goodIn_app (goodIn_of _ (by decide +kernel)) ggX2_remaindersOf_J9_floorMod_f86c9
set_option maxRecDepth 20000 in
theorem ggX2_remaindersOf_X2_meet : GoodIn wsX2_remaindersOf wsX2_meet := goodIn_r _ [17, 9, 2, 3, 18, 19, 20, 7, 21, 1, 33, 34, 35, 36] (by decide +kernel) (by decide +kernel)
set_option maxRecDepth 20000 in
theorem gX2_remaindersOf_X2_meet : GoodIn wsX2_remaindersOf (wsV RX2 31 RX2 yX2_meet wsX2_meet) := goodIn_app (goodIn_of _ (by decide +kernel)) ggX2_remaindersOf_X2_meet
set_option maxRecDepth 20000 in
theorem ggX2_remaindersOf_X2_unpack : GoodIn wsX2_remaindersOf wsX2_unpack := goodIn_r _ [25, 1, 33, 34, 35, 36] (by decide +kernel) (by decide +kernel)
set_option maxRecDepth 20000 in
theorem gX2_remaindersOf_X2_unpack : GoodIn wsX2_remaindersOf (wsV RX2 39 RX2 yX2_unpack wsX2_unpack) := goodIn_app (goodIn_of _ (by decide +kernel)) ggX2_remaindersOf_X2_unpack
set_option maxRecDepth 20000 in
theorem ggX2_remaindersOf_X2_meetTurned : GoodIn wsX2_remaindersOf wsX2_meetTurned := goodIn_r _ [29, 1, 30, 31, 12, 32, 14, 15, 16, 7, 17, 9, 2, 3, 18, 19, 20, 21, 33, 34, 35, 36] (by decide +kernel) (by decide +kernel)
set_option maxRecDepth 20000 in
theorem gX2_remaindersOf_X2_meetTurned : GoodIn wsX2_remaindersOf (wsV RX2 43 RX2 yX2_meetTurned wsX2_meetTurned) := goodIn_app (goodIn_of _ (by decide +kernel)) ggX2_remaindersOf_X2_meetTurned
theorem dX2_remaindersOf_0 : decode cX2_remaindersOf 0 = .ok (.aload_n 0, 1) := by decide +kernel
theorem dX2_remaindersOf_1 : decode cX2_remaindersOf 1 = .ok (.invokevirtual 22, 3) := by decide +kernel
theorem dX2_remaindersOf_4 : decode cX2_remaindersOf 4 = .ok (.iconst 0, 1) := by decide +kernel
theorem dX2_remaindersOf_5 : decode cX2_remaindersOf 5 = .ok (.istore_n 3, 1) := by decide +kernel
theorem dX2_remaindersOf_6 : decode cX2_remaindersOf 6 = .ok (.iload_n 3, 1) := by decide +kernel
theorem dX2_remaindersOf_7 : decode cX2_remaindersOf 7 = .ok (.iconst 4, 1) := by decide +kernel
theorem dX2_remaindersOf_8 : decode cX2_remaindersOf 8 = .ok (.if_icmp .ge 24, 3) := by decide +kernel
theorem dX2_remaindersOf_11 : decode cX2_remaindersOf 11 = .ok (.aload_n 0, 1) := by decide +kernel
theorem dX2_remaindersOf_12 : decode cX2_remaindersOf 12 = .ok (.getfield 19, 3) := by decide +kernel
theorem dX2_remaindersOf_15 : decode cX2_remaindersOf 15 = .ok (.iload_n 3, 1) := by decide +kernel
theorem dX2_remaindersOf_16 : decode cX2_remaindersOf 16 = .ok (.aload_n 1, 1) := by decide +kernel
theorem dX2_remaindersOf_17 : decode cX2_remaindersOf 17 = .ok (.iload_n 3, 1) := by decide +kernel
theorem dX2_remaindersOf_18 : decode cX2_remaindersOf 18 = .ok (.laload, 1) := by decide +kernel
theorem dX2_remaindersOf_19 : decode cX2_remaindersOf 19 = .ok (.iload_n 2, 1) := by decide +kernel
theorem dX2_remaindersOf_20 : decode cX2_remaindersOf 20 = .ok (.i2l, 1) := by decide +kernel
theorem dX2_remaindersOf_21 : decode cX2_remaindersOf 21 = .ok (.invokestatic 25, 3) := by decide +kernel
theorem dX2_remaindersOf_24 : decode cX2_remaindersOf 24 = .ok (.l2i, 1) := by decide +kernel
theorem dX2_remaindersOf_25 : decode cX2_remaindersOf 25 = .ok (.iastore, 1) := by decide +kernel
theorem dX2_remaindersOf_26 : decode cX2_remaindersOf 26 = .ok (.iinc 3 1, 3) := by decide +kernel
theorem dX2_remaindersOf_29 : decode cX2_remaindersOf 29 = .ok (.goto (-23), 3) := by decide +kernel
theorem dX2_remaindersOf_32 : decode cX2_remaindersOf 32 = .ok (.aload_n 0, 1) := by decide +kernel
theorem dX2_remaindersOf_33 : decode cX2_remaindersOf 33 = .ok (.iload_n 2, 1) := by decide +kernel
theorem dX2_remaindersOf_34 : decode cX2_remaindersOf 34 = .ok (.invokevirtual 31, 3) := by decide +kernel
theorem dX2_remaindersOf_37 : decode cX2_remaindersOf 37 = .ok (.iconst 1, 1) := by decide +kernel
theorem dX2_remaindersOf_38 : decode cX2_remaindersOf 38 = .ok (.iload_n 2, 1) := by decide +kernel
theorem dX2_remaindersOf_39 : decode cX2_remaindersOf 39 = .ok (.ishl, 1) := by decide +kernel
theorem dX2_remaindersOf_40 : decode cX2_remaindersOf 40 = .ok (.iconst 1, 1) := by decide +kernel
theorem dX2_remaindersOf_41 : decode cX2_remaindersOf 41 = .ok (.isub, 1) := by decide +kernel
theorem dX2_remaindersOf_42 : decode cX2_remaindersOf 42 = .ok (.istore_n 3, 1) := by decide +kernel
theorem dX2_remaindersOf_43 : decode cX2_remaindersOf 43 = .ok (.iconst 0, 1) := by decide +kernel
theorem dX2_remaindersOf_44 : decode cX2_remaindersOf 44 = .ok (.istore 4, 2) := by decide +kernel
theorem dX2_remaindersOf_46 : decode cX2_remaindersOf 46 = .ok (.iconst 0, 1) := by decide +kernel
theorem dX2_remaindersOf_47 : decode cX2_remaindersOf 47 = .ok (.istore 5, 2) := by decide +kernel
theorem dX2_remaindersOf_49 : decode cX2_remaindersOf 49 = .ok (.iload 5, 2) := by decide +kernel
theorem dX2_remaindersOf_51 : decode cX2_remaindersOf 51 = .ok (.aload_n 0, 1) := by decide +kernel
theorem dX2_remaindersOf_52 : decode cX2_remaindersOf 52 = .ok (.getfield 35, 3) := by decide +kernel
theorem dX2_remaindersOf_55 : decode cX2_remaindersOf 55 = .ok (.if_icmp .ge 63, 3) := by decide +kernel
theorem dX2_remaindersOf_58 : decode cX2_remaindersOf 58 = .ok (.iload 4, 2) := by decide +kernel
theorem dX2_remaindersOf_60 : decode cX2_remaindersOf 60 = .ok (.iload_n 3, 1) := by decide +kernel
theorem dX2_remaindersOf_61 : decode cX2_remaindersOf 61 = .ok (.if_icmp .eq 57, 3) := by decide +kernel
theorem dX2_remaindersOf_64 : decode cX2_remaindersOf 64 = .ok (.aload_n 0, 1) := by decide +kernel
theorem dX2_remaindersOf_65 : decode cX2_remaindersOf 65 = .ok (.aload_n 0, 1) := by decide +kernel
theorem dX2_remaindersOf_66 : decode cX2_remaindersOf 66 = .ok (.getfield 15, 3) := by decide +kernel
theorem dX2_remaindersOf_69 : decode cX2_remaindersOf 69 = .ok (.iload 5, 2) := by decide +kernel
theorem dX2_remaindersOf_71 : decode cX2_remaindersOf 71 = .ok (.iaload, 1) := by decide +kernel
theorem dX2_remaindersOf_72 : decode cX2_remaindersOf 72 = .ok (.iload_n 2, 1) := by decide +kernel
theorem dX2_remaindersOf_73 : decode cX2_remaindersOf 73 = .ok (.invokevirtual 39, 3) := by decide +kernel
theorem dX2_remaindersOf_76 : decode cX2_remaindersOf 76 = .ok (.iconst 0, 1) := by decide +kernel
theorem dX2_remaindersOf_77 : decode cX2_remaindersOf 77 = .ok (.istore 6, 2) := by decide +kernel
theorem dX2_remaindersOf_79 : decode cX2_remaindersOf 79 = .ok (.iload 6, 2) := by decide +kernel
theorem dX2_remaindersOf_81 : decode cX2_remaindersOf 81 = .ok (.iconst 4, 1) := by decide +kernel
theorem dX2_remaindersOf_82 : decode cX2_remaindersOf 82 = .ok (.if_icmp .ge 30, 3) := by decide +kernel
theorem dX2_remaindersOf_85 : decode cX2_remaindersOf 85 = .ok (.iload 4, 2) := by decide +kernel
theorem dX2_remaindersOf_87 : decode cX2_remaindersOf 87 = .ok (.iconst 1, 1) := by decide +kernel
theorem dX2_remaindersOf_88 : decode cX2_remaindersOf 88 = .ok (.aload_n 0, 1) := by decide +kernel
theorem dX2_remaindersOf_89 : decode cX2_remaindersOf 89 = .ok (.getfield 19, 3) := by decide +kernel
theorem dX2_remaindersOf_92 : decode cX2_remaindersOf 92 = .ok (.iload 6, 2) := by decide +kernel
theorem dX2_remaindersOf_94 : decode cX2_remaindersOf 94 = .ok (.iaload, 1) := by decide +kernel
theorem dX2_remaindersOf_95 : decode cX2_remaindersOf 95 = .ok (.ishl, 1) := by decide +kernel
theorem dX2_remaindersOf_96 : decode cX2_remaindersOf 96 = .ok (.ior, 1) := by decide +kernel
theorem dX2_remaindersOf_97 : decode cX2_remaindersOf 97 = .ok (.istore 4, 2) := by decide +kernel
theorem dX2_remaindersOf_99 : decode cX2_remaindersOf 99 = .ok (.aload_n 0, 1) := by decide +kernel
theorem dX2_remaindersOf_100 : decode cX2_remaindersOf 100 = .ok (.iload 6, 2) := by decide +kernel
theorem dX2_remaindersOf_102 : decode cX2_remaindersOf 102 = .ok (.iload_n 2, 1) := by decide +kernel
theorem dX2_remaindersOf_103 : decode cX2_remaindersOf 103 = .ok (.invokevirtual 43, 3) := by decide +kernel
theorem dX2_remaindersOf_106 : decode cX2_remaindersOf 106 = .ok (.iinc 6 1, 3) := by decide +kernel
theorem dX2_remaindersOf_109 : decode cX2_remaindersOf 109 = .ok (.goto (-30), 3) := by decide +kernel
theorem dX2_remaindersOf_112 : decode cX2_remaindersOf 112 = .ok (.iinc 5 1, 3) := by decide +kernel
theorem dX2_remaindersOf_115 : decode cX2_remaindersOf 115 = .ok (.goto (-66), 3) := by decide +kernel
theorem dX2_remaindersOf_118 : decode cX2_remaindersOf 118 = .ok (.iload 4, 2) := by decide +kernel
theorem dX2_remaindersOf_120 : decode cX2_remaindersOf 120 = .ok (.ireturn, 1) := by decide +kernel
theorem dX2_forget_0 : decode cX2_forget 0 = .ok (.iconst 0, 1) := by decide +kernel
theorem dX2_forget_1 : decode cX2_forget 1 = .ok (.istore_n 1, 1) := by decide +kernel
theorem dX2_forget_2 : decode cX2_forget 2 = .ok (.iload_n 1, 1) := by decide +kernel
theorem dX2_forget_3 : decode cX2_forget 3 = .ok (.aload_n 0, 1) := by decide +kernel
theorem dX2_forget_4 : decode cX2_forget 4 = .ok (.getfield 11, 3) := by decide +kernel
theorem dX2_forget_7 : decode cX2_forget 7 = .ok (.arraylength, 1) := by decide +kernel
theorem dX2_forget_8 : decode cX2_forget 8 = .ok (.if_icmp .ge 16, 3) := by decide +kernel
theorem dX2_forget_11 : decode cX2_forget 11 = .ok (.aload_n 0, 1) := by decide +kernel
theorem dX2_forget_12 : decode cX2_forget 12 = .ok (.getfield 11, 3) := by decide +kernel
theorem dX2_forget_15 : decode cX2_forget 15 = .ok (.iload_n 1, 1) := by decide +kernel
theorem dX2_forget_16 : decode cX2_forget 16 = .ok (.lconst 0, 1) := by decide +kernel
theorem dX2_forget_17 : decode cX2_forget 17 = .ok (.lastore, 1) := by decide +kernel
theorem dX2_forget_18 : decode cX2_forget 18 = .ok (.iinc 1 1, 3) := by decide +kernel
theorem dX2_forget_21 : decode cX2_forget 21 = .ok (.goto (-19), 3) := by decide +kernel
theorem dX2_forget_24 : decode cX2_forget 24 = .ok (.aload_n 0, 1) := by decide +kernel
theorem dX2_forget_25 : decode cX2_forget 25 = .ok (.iconst 0, 1) := by decide +kernel
theorem dX2_forget_26 : decode cX2_forget 26 = .ok (.putfield 35, 3) := by decide +kernel
theorem dX2_forget_29 : decode cX2_forget 29 = .ok (.return_, 1) := by decide +kernel
theorem dX2_unpack_0 : decode cX2_unpack 0 = .ok (.iload_n 1, 1) := by decide +kernel
theorem dX2_unpack_1 : decode cX2_unpack 1 = .ok (.istore_n 3, 1) := by decide +kernel
theorem dX2_unpack_2 : decode cX2_unpack 2 = .ok (.iconst 0, 1) := by decide +kernel
theorem dX2_unpack_3 : decode cX2_unpack 3 = .ok (.istore 4, 2) := by decide +kernel
theorem dX2_unpack_5 : decode cX2_unpack 5 = .ok (.iload 4, 2) := by decide +kernel
theorem dX2_unpack_7 : decode cX2_unpack 7 = .ok (.iconst 4, 1) := by decide +kernel
theorem dX2_unpack_8 : decode cX2_unpack 8 = .ok (.if_icmp .ge 23, 3) := by decide +kernel
theorem dX2_unpack_11 : decode cX2_unpack 11 = .ok (.aload_n 0, 1) := by decide +kernel
theorem dX2_unpack_12 : decode cX2_unpack 12 = .ok (.getfield 19, 3) := by decide +kernel
theorem dX2_unpack_15 : decode cX2_unpack 15 = .ok (.iload 4, 2) := by decide +kernel
theorem dX2_unpack_17 : decode cX2_unpack 17 = .ok (.iload_n 3, 1) := by decide +kernel
theorem dX2_unpack_18 : decode cX2_unpack 18 = .ok (.iload_n 2, 1) := by decide +kernel
theorem dX2_unpack_19 : decode cX2_unpack 19 = .ok (.irem, 1) := by decide +kernel
theorem dX2_unpack_20 : decode cX2_unpack 20 = .ok (.iastore, 1) := by decide +kernel
theorem dX2_unpack_21 : decode cX2_unpack 21 = .ok (.iload_n 3, 1) := by decide +kernel
theorem dX2_unpack_22 : decode cX2_unpack 22 = .ok (.iload_n 2, 1) := by decide +kernel
theorem dX2_unpack_23 : decode cX2_unpack 23 = .ok (.idiv, 1) := by decide +kernel
theorem dX2_unpack_24 : decode cX2_unpack 24 = .ok (.istore_n 3, 1) := by decide +kernel
theorem dX2_unpack_25 : decode cX2_unpack 25 = .ok (.iinc 4 1, 3) := by decide +kernel
theorem dX2_unpack_28 : decode cX2_unpack 28 = .ok (.goto (-23), 3) := by decide +kernel
theorem dX2_unpack_31 : decode cX2_unpack 31 = .ok (.return_, 1) := by decide +kernel
theorem dX2_pack_0 : decode cX2_pack 0 = .ok (.iconst 0, 1) := by decide +kernel
theorem dX2_pack_1 : decode cX2_pack 1 = .ok (.istore_n 2, 1) := by decide +kernel
theorem dX2_pack_2 : decode cX2_pack 2 = .ok (.iconst 3, 1) := by decide +kernel
theorem dX2_pack_3 : decode cX2_pack 3 = .ok (.istore_n 3, 1) := by decide +kernel
theorem dX2_pack_4 : decode cX2_pack 4 = .ok (.iload_n 3, 1) := by decide +kernel
theorem dX2_pack_5 : decode cX2_pack 5 = .ok (.ifCond .lt 20, 3) := by decide +kernel
theorem dX2_pack_8 : decode cX2_pack 8 = .ok (.iload_n 2, 1) := by decide +kernel
theorem dX2_pack_9 : decode cX2_pack 9 = .ok (.iload_n 1, 1) := by decide +kernel
theorem dX2_pack_10 : decode cX2_pack 10 = .ok (.imul, 1) := by decide +kernel
theorem dX2_pack_11 : decode cX2_pack 11 = .ok (.aload_n 0, 1) := by decide +kernel
theorem dX2_pack_12 : decode cX2_pack 12 = .ok (.getfield 19, 3) := by decide +kernel
theorem dX2_pack_15 : decode cX2_pack 15 = .ok (.iload_n 3, 1) := by decide +kernel
theorem dX2_pack_16 : decode cX2_pack 16 = .ok (.iaload, 1) := by decide +kernel
theorem dX2_pack_17 : decode cX2_pack 17 = .ok (.iadd, 1) := by decide +kernel
theorem dX2_pack_18 : decode cX2_pack 18 = .ok (.istore_n 2, 1) := by decide +kernel
theorem dX2_pack_19 : decode cX2_pack 19 = .ok (.iinc 3 (-1), 3) := by decide +kernel
theorem dX2_pack_22 : decode cX2_pack 22 = .ok (.goto (-18), 3) := by decide +kernel
theorem dX2_pack_25 : decode cX2_pack 25 = .ok (.iload_n 2, 1) := by decide +kernel
theorem dX2_pack_26 : decode cX2_pack 26 = .ok (.ireturn, 1) := by decide +kernel
set_option maxRecDepth 20000 in
theorem ggX2_meetTurned_J9_floorMod_7cf53 : GoodIn wsX2_meetTurned wsJ9_floorMod_7cf53 := goodIn_r _ [5] (by decide +kernel) (by decide +kernel)
set_option maxRecDepth 20000 in
theorem gX2_meetTurned_J9_floorMod_7cf53 : GoodIn wsX2_meetTurned (va_wsS RX2 46 yJ9_floorMod_7cf53 wsJ9_floorMod_7cf53) := goodIn_app (goodIn_of _ (by decide +kernel)) ggX2_meetTurned_J9_floorMod_7cf53
set_option maxRecDepth 20000 in
theorem ggX2_meetTurned_X2_meet : GoodIn wsX2_meetTurned wsX2_meet := goodIn_r _ [10, 11, 12, 13, 14, 15, 16, 9, 17, 1, 18, 19, 20, 21] (by decide +kernel) (by decide +kernel)
set_option maxRecDepth 20000 in
theorem gX2_meetTurned_X2_meet : GoodIn wsX2_meetTurned (wsV RX2 31 RX2 yX2_meet wsX2_meet) := goodIn_app (goodIn_of _ (by decide +kernel)) ggX2_meetTurned_X2_meet
theorem dX2_meetTurned_0 : decode cX2_meetTurned 0 = .ok (.aload_n 0, 1) := by decide +kernel
theorem dX2_meetTurned_1 : decode cX2_meetTurned 1 = .ok (.getfield 19, 3) := by decide +kernel
theorem dX2_meetTurned_4 : decode cX2_meetTurned 4 = .ok (.iload_n 1, 1) := by decide +kernel
theorem dX2_meetTurned_5 : decode cX2_meetTurned 5 = .ok (.iaload, 1) := by decide +kernel
theorem dX2_meetTurned_6 : decode cX2_meetTurned 6 = .ok (.istore_n 3, 1) := by decide +kernel
theorem dX2_meetTurned_7 : decode cX2_meetTurned 7 = .ok (.aload_n 0, 1) := by decide +kernel
theorem dX2_meetTurned_8 : decode cX2_meetTurned 8 = .ok (.getfield 19, 3) := by decide +kernel
theorem dX2_meetTurned_11 : decode cX2_meetTurned 11 = .ok (.iconst 0, 1) := by decide +kernel
theorem dX2_meetTurned_12 : decode cX2_meetTurned 12 = .ok (.iaload, 1) := by decide +kernel
theorem dX2_meetTurned_13 : decode cX2_meetTurned 13 = .ok (.aload_n 0, 1) := by decide +kernel
theorem dX2_meetTurned_14 : decode cX2_meetTurned 14 = .ok (.getfield 19, 3) := by decide +kernel
theorem dX2_meetTurned_17 : decode cX2_meetTurned 17 = .ok (.iconst 1, 1) := by decide +kernel
theorem dX2_meetTurned_18 : decode cX2_meetTurned 18 = .ok (.iaload, 1) := by decide +kernel
theorem dX2_meetTurned_19 : decode cX2_meetTurned 19 = .ok (.iadd, 1) := by decide +kernel
theorem dX2_meetTurned_20 : decode cX2_meetTurned 20 = .ok (.aload_n 0, 1) := by decide +kernel
theorem dX2_meetTurned_21 : decode cX2_meetTurned 21 = .ok (.getfield 19, 3) := by decide +kernel
theorem dX2_meetTurned_24 : decode cX2_meetTurned 24 = .ok (.iconst 2, 1) := by decide +kernel
theorem dX2_meetTurned_25 : decode cX2_meetTurned 25 = .ok (.iaload, 1) := by decide +kernel
theorem dX2_meetTurned_26 : decode cX2_meetTurned 26 = .ok (.iadd, 1) := by decide +kernel
theorem dX2_meetTurned_27 : decode cX2_meetTurned 27 = .ok (.aload_n 0, 1) := by decide +kernel
theorem dX2_meetTurned_28 : decode cX2_meetTurned 28 = .ok (.getfield 19, 3) := by decide +kernel
theorem dX2_meetTurned_31 : decode cX2_meetTurned 31 = .ok (.iconst 3, 1) := by decide +kernel
theorem dX2_meetTurned_32 : decode cX2_meetTurned 32 = .ok (.iaload, 1) := by decide +kernel
theorem dX2_meetTurned_33 : decode cX2_meetTurned 33 = .ok (.iadd, 1) := by decide +kernel
theorem dX2_meetTurned_34 : decode cX2_meetTurned 34 = .ok (.istore 4, 2) := by decide +kernel
theorem dX2_meetTurned_36 : decode cX2_meetTurned 36 = .ok (.aload_n 0, 1) := by decide +kernel
theorem dX2_meetTurned_37 : decode cX2_meetTurned 37 = .ok (.getfield 19, 3) := by decide +kernel
theorem dX2_meetTurned_40 : decode cX2_meetTurned 40 = .ok (.iload_n 1, 1) := by decide +kernel
theorem dX2_meetTurned_41 : decode cX2_meetTurned 41 = .ok (.iconst 2, 1) := by decide +kernel
theorem dX2_meetTurned_42 : decode cX2_meetTurned 42 = .ok (.iload 4, 2) := by decide +kernel
theorem dX2_meetTurned_44 : decode cX2_meetTurned 44 = .ok (.iload_n 3, 1) := by decide +kernel
theorem dX2_meetTurned_45 : decode cX2_meetTurned 45 = .ok (.isub, 1) := by decide +kernel
theorem dX2_meetTurned_46 : decode cX2_meetTurned 46 = .ok (.imul, 1) := by decide +kernel
theorem dX2_meetTurned_47 : decode cX2_meetTurned 47 = .ok (.iload_n 3, 1) := by decide +kernel
theorem dX2_meetTurned_48 : decode cX2_meetTurned 48 = .ok (.isub, 1) := by decide +kernel
theorem dX2_meetTurned_49 : decode cX2_meetTurned 49 = .ok (.iload_n 2, 1) := by decide +kernel
theorem dX2_meetTurned_50 : decode cX2_meetTurned 50 = .ok (.invokestatic 46, 3) := by decide +kernel
theorem dX2_meetTurned_53 : decode cX2_meetTurned 53 = .ok (.iastore, 1) := by decide +kernel
theorem dX2_meetTurned_54 : decode cX2_meetTurned 54 = .ok (.aload_n 0, 1) := by decide +kernel
theorem dX2_meetTurned_55 : decode cX2_meetTurned 55 = .ok (.iload_n 2, 1) := by decide +kernel
theorem dX2_meetTurned_56 : decode cX2_meetTurned 56 = .ok (.invokevirtual 31, 3) := by decide +kernel
theorem dX2_meetTurned_59 : decode cX2_meetTurned 59 = .ok (.aload_n 0, 1) := by decide +kernel
theorem dX2_meetTurned_60 : decode cX2_meetTurned 60 = .ok (.getfield 19, 3) := by decide +kernel
theorem dX2_meetTurned_63 : decode cX2_meetTurned 63 = .ok (.iload_n 1, 1) := by decide +kernel
theorem dX2_meetTurned_64 : decode cX2_meetTurned 64 = .ok (.iload_n 3, 1) := by decide +kernel
theorem dX2_meetTurned_65 : decode cX2_meetTurned 65 = .ok (.iastore, 1) := by decide +kernel
theorem dX2_meetTurned_66 : decode cX2_meetTurned 66 = .ok (.return_, 1) := by decide +kernel
set_option maxRecDepth 20000 in
theorem ggX2_meet_X2_pack : GoodIn wsX2_meet wsX2_pack := goodIn_r _ [8, 9, 10, 11, 12, 13] (by decide +kernel) (by decide +kernel)
set_option maxRecDepth 20000 in
theorem gX2_meet_X2_pack : GoodIn wsX2_meet (wsV RX2 49 RX2 yX2_pack wsX2_pack) := goodIn_app (goodIn_of _ (by decide +kernel)) ggX2_meet_X2_pack
theorem dX2_meet_0 : decode cX2_meet 0 = .ok (.aload_n 0, 1) := by decide +kernel
theorem dX2_meet_1 : decode cX2_meet 1 = .ok (.iload_n 1, 1) := by decide +kernel
theorem dX2_meet_2 : decode cX2_meet 2 = .ok (.invokevirtual 49, 3) := by decide +kernel
theorem dX2_meet_5 : decode cX2_meet 5 = .ok (.istore_n 2, 1) := by decide +kernel
theorem dX2_meet_6 : decode cX2_meet 6 = .ok (.lconst 1, 1) := by decide +kernel
theorem dX2_meet_7 : decode cX2_meet 7 = .ok (.iload_n 2, 1) := by decide +kernel
theorem dX2_meet_8 : decode cX2_meet 8 = .ok (.bipush 64, 2) := by decide +kernel
theorem dX2_meet_10 : decode cX2_meet 10 = .ok (.irem, 1) := by decide +kernel
theorem dX2_meet_11 : decode cX2_meet 11 = .ok (.lshl, 1) := by decide +kernel
theorem dX2_meet_12 : decode cX2_meet 12 = .ok (.lstore_n 3, 1) := by decide +kernel
theorem dX2_meet_13 : decode cX2_meet 13 = .ok (.aload_n 0, 1) := by decide +kernel
theorem dX2_meet_14 : decode cX2_meet 14 = .ok (.getfield 11, 3) := by decide +kernel
theorem dX2_meet_17 : decode cX2_meet 17 = .ok (.iload_n 2, 1) := by decide +kernel
theorem dX2_meet_18 : decode cX2_meet 18 = .ok (.bipush 64, 2) := by decide +kernel
theorem dX2_meet_20 : decode cX2_meet 20 = .ok (.idiv, 1) := by decide +kernel
theorem dX2_meet_21 : decode cX2_meet 21 = .ok (.laload, 1) := by decide +kernel
theorem dX2_meet_22 : decode cX2_meet 22 = .ok (.lload_n 3, 1) := by decide +kernel
theorem dX2_meet_23 : decode cX2_meet 23 = .ok (.land, 1) := by decide +kernel
theorem dX2_meet_24 : decode cX2_meet 24 = .ok (.lconst 0, 1) := by decide +kernel
theorem dX2_meet_25 : decode cX2_meet 25 = .ok (.lcmp, 1) := by decide +kernel
theorem dX2_meet_26 : decode cX2_meet 26 = .ok (.ifCond .ne 48, 3) := by decide +kernel
theorem dX2_meet_29 : decode cX2_meet 29 = .ok (.aload_n 0, 1) := by decide +kernel
theorem dX2_meet_30 : decode cX2_meet 30 = .ok (.getfield 35, 3) := by decide +kernel
theorem dX2_meet_33 : decode cX2_meet 33 = .ok (.aload_n 0, 1) := by decide +kernel
theorem dX2_meet_34 : decode cX2_meet 34 = .ok (.getfield 15, 3) := by decide +kernel
theorem dX2_meet_37 : decode cX2_meet 37 = .ok (.arraylength, 1) := by decide +kernel
theorem dX2_meet_38 : decode cX2_meet 38 = .ok (.if_icmp .ge 36, 3) := by decide +kernel
theorem dX2_meet_41 : decode cX2_meet 41 = .ok (.aload_n 0, 1) := by decide +kernel
theorem dX2_meet_42 : decode cX2_meet 42 = .ok (.getfield 11, 3) := by decide +kernel
theorem dX2_meet_45 : decode cX2_meet 45 = .ok (.iload_n 2, 1) := by decide +kernel
theorem dX2_meet_46 : decode cX2_meet 46 = .ok (.bipush 64, 2) := by decide +kernel
theorem dX2_meet_48 : decode cX2_meet 48 = .ok (.idiv, 1) := by decide +kernel
theorem dX2_meet_49 : decode cX2_meet 49 = .ok (.dup2, 1) := by decide +kernel
theorem dX2_meet_50 : decode cX2_meet 50 = .ok (.laload, 1) := by decide +kernel
theorem dX2_meet_51 : decode cX2_meet 51 = .ok (.lload_n 3, 1) := by decide +kernel
theorem dX2_meet_52 : decode cX2_meet 52 = .ok (.lor, 1) := by decide +kernel
theorem dX2_meet_53 : decode cX2_meet 53 = .ok (.lastore, 1) := by decide +kernel
theorem dX2_meet_54 : decode cX2_meet 54 = .ok (.aload_n 0, 1) := by decide +kernel
theorem dX2_meet_55 : decode cX2_meet 55 = .ok (.getfield 15, 3) := by decide +kernel
theorem dX2_meet_58 : decode cX2_meet 58 = .ok (.aload_n 0, 1) := by decide +kernel
theorem dX2_meet_59 : decode cX2_meet 59 = .ok (.getfield 35, 3) := by decide +kernel
theorem dX2_meet_62 : decode cX2_meet 62 = .ok (.iload_n 2, 1) := by decide +kernel
theorem dX2_meet_63 : decode cX2_meet 63 = .ok (.iastore, 1) := by decide +kernel
theorem dX2_meet_64 : decode cX2_meet 64 = .ok (.aload_n 0, 1) := by decide +kernel
theorem dX2_meet_65 : decode cX2_meet 65 = .ok (.dup, 1) := by decide +kernel
theorem dX2_meet_66 : decode cX2_meet 66 = .ok (.getfield 35, 3) := by decide +kernel
theorem dX2_meet_69 : decode cX2_meet 69 = .ok (.iconst 1, 1) := by decide +kernel
theorem dX2_meet_70 : decode cX2_meet 70 = .ok (.iadd, 1) := by decide +kernel
theorem dX2_meet_71 : decode cX2_meet 71 = .ok (.putfield 35, 3) := by decide +kernel
theorem dX2_meet_74 : decode cX2_meet 74 = .ok (.return_, 1) := by decide +kernel
set_option maxRecDepth 20000 in
theorem ggX3_init_X7_init : GoodIn wsX3_init wsX7_init := goodIn_r _ [25, 26, 2, 3, 22, 27, 4, 28, 50, 51, 52] (by decide +kernel) (by decide +kernel)
set_option maxRecDepth 20000 in
theorem gX3_init_X7_init_n17 : GoodIn wsX3_init (wsX7_init) := ggX3_init_X7_init
set_option maxRecDepth 20000 in
theorem ggX3_init_X6_init : GoodIn wsX3_init wsX6_init := goodIn_r _ [30, 31, 2, 3, 22, 32, 33, 53, 54] (by decide +kernel) (by decide +kernel)
set_option maxRecDepth 20000 in
theorem gX3_init_X6_init_n24 : GoodIn wsX3_init (wsX6_init) := ggX3_init_X6_init
set_option maxRecDepth 20000 in
theorem ggX3_init_X1_init : GoodIn wsX3_init wsX1_init := goodIn_r _ [35, 36, 2, 3, 4, 37, 55, 56, 57] (by decide +kernel) (by decide +kernel)
set_option maxRecDepth 20000 in
theorem gX3_init_X1_init_n31 : GoodIn wsX3_init (wsX1_init) := ggX3_init_X1_init
set_option maxRecDepth 20000 in
theorem ggX3_init_X2_init : GoodIn wsX3_init wsX2_init := goodIn_r _ [39, 40, 2, 3, 4, 41, 22, 42, 43, 58, 59, 60, 61] (by decide +kernel) (by decide +kernel)
set_option maxRecDepth 20000 in
theorem gX3_init_X2_init_n38 : GoodIn wsX3_init (wsX2_init) := ggX3_init_X2_init
theorem dX3_init_0 : decode cX3_init 0 = .ok (.aload_n 0, 1) := by decide +kernel
theorem dX3_init_1 : decode cX3_init 1 = .ok (.invokespecial 3, 3) := by decide +kernel
theorem dX3_init_4 : decode cX3_init 4 = .ok (.aload_n 0, 1) := by decide +kernel
theorem dX3_init_5 : decode cX3_init 5 = .ok (.iconst 4, 1) := by decide +kernel
theorem dX3_init_6 : decode cX3_init 6 = .ok (.newarray .long, 2) := by decide +kernel
theorem dX3_init_8 : decode cX3_init 8 = .ok (.putfield 9, 3) := by decide +kernel
theorem dX3_init_11 : decode cX3_init 11 = .ok (.aload_n 0, 1) := by decide +kernel
theorem dX3_init_12 : decode cX3_init 12 = .ok (.new 15, 3) := by decide +kernel
theorem dX3_init_15 : decode cX3_init 15 = .ok (.dup, 1) := by decide +kernel
theorem dX3_init_16 : decode cX3_init 16 = .ok (.invokespecial 17, 3) := by decide +kernel
theorem dX3_init_19 : decode cX3_init 19 = .ok (.putfield 18, 3) := by decide +kernel
theorem dX3_init_22 : decode cX3_init 22 = .ok (.aload_n 0, 1) := by decide +kernel
theorem dX3_init_23 : decode cX3_init 23 = .ok (.new 22, 3) := by decide +kernel
theorem dX3_init_26 : decode cX3_init 26 = .ok (.dup, 1) := by decide +kernel
theorem dX3_init_27 : decode cX3_init 27 = .ok (.invokespecial 24, 3) := by decide +kernel
theorem dX3_init_30 : decode cX3_init 30 = .ok (.putfield 25, 3) := by decide +kernel
theorem dX3_init_33 : decode cX3_init 33 = .ok (.aload_n 0, 1) := by decide +kernel
theorem dX3_init_34 : decode cX3_init 34 = .ok (.new 29, 3) := by decide +kernel
theorem dX3_init_37 : decode cX3_init 37 = .ok (.dup, 1) := by decide +kernel
theorem dX3_init_38 : decode cX3_init 38 = .ok (.invokespecial 31, 3) := by decide +kernel
theorem dX3_init_41 : decode cX3_init 41 = .ok (.putfield 32, 3) := by decide +kernel
theorem dX3_init_44 : decode cX3_init 44 = .ok (.aload_n 0, 1) := by decide +kernel
theorem dX3_init_45 : decode cX3_init 45 = .ok (.new 36, 3) := by decide +kernel
theorem dX3_init_48 : decode cX3_init 48 = .ok (.dup, 1) := by decide +kernel
theorem dX3_init_49 : decode cX3_init 49 = .ok (.invokespecial 38, 3) := by decide +kernel
theorem dX3_init_52 : decode cX3_init 52 = .ok (.putfield 39, 3) := by decide +kernel
theorem dX3_init_55 : decode cX3_init 55 = .ok (.aload_n 0, 1) := by decide +kernel
theorem dX3_init_56 : decode cX3_init 56 = .ok (.bipush 13, 2) := by decide +kernel
theorem dX3_init_58 : decode cX3_init 58 = .ok (.newarray .int, 2) := by decide +kernel
theorem dX3_init_60 : decode cX3_init 60 = .ok (.putfield 43, 3) := by decide +kernel
theorem dX3_init_63 : decode cX3_init 63 = .ok (.return_, 1) := by decide +kernel
set_option maxRecDepth 20000 in
theorem ggX3_become_X3_isSame : GoodIn wsX3_become wsX3_isSame := goodIn_r _ [9, 1, 25, 26, 27, 28, 29, 30] (by decide +kernel) (by decide +kernel)
set_option maxRecDepth 20000 in
theorem gX3_become_X3_isSame : GoodIn wsX3_become (wsV RX3 47 RX3 yX3_isSame wsX3_isSame) := goodIn_app (goodIn_of _ (by decide +kernel)) ggX3_become_X3_isSame
set_option maxRecDepth 20000 in
theorem ggX3_become_X8_copyFour : GoodIn wsX3_become wsX8_copyFour := goodIn_r _ [12] (by decide +kernel) (by decide +kernel)
set_option maxRecDepth 20000 in
theorem gX3_become_X8_copyFour_n51 : GoodIn wsX3_become (wsX8_copyFour) := ggX3_become_X8_copyFour
set_option maxRecDepth 20000 in
theorem ggX3_become_X6_forget : GoodIn wsX3_become wsX6_forget := goodIn_r _ [17, 18, 31, 32] (by decide +kernel) (by decide +kernel)
set_option maxRecDepth 20000 in
theorem gX3_become_X6_forget : GoodIn wsX3_become (wsV RX3 55 RX6 yX6_forget wsX6_forget) := goodIn_app (goodIn_of _ (by decide +kernel)) ggX3_become_X6_forget
set_option maxRecDepth 20000 in
theorem ggX3_become_X1_forget : GoodIn wsX3_become wsX1_forget := goodIn_r _ [23, 24, 33, 34, 35] (by decide +kernel) (by decide +kernel)
set_option maxRecDepth 20000 in
theorem gX3_become_X1_forget : GoodIn wsX3_become (wsV RX3 58 RX1 yX1_forget wsX1_forget) := goodIn_app (goodIn_of _ (by decide +kernel)) ggX3_become_X1_forget
theorem dX3_become_0 : decode cX3_become 0 = .ok (.aload_n 0, 1) := by decide +kernel
theorem dX3_become_1 : decode cX3_become 1 = .ok (.aload_n 1, 1) := by decide +kernel
theorem dX3_become_2 : decode cX3_become 2 = .ok (.invokevirtual 47, 3) := by decide +kernel
theorem dX3_become_5 : decode cX3_become 5 = .ok (.ifCond .eq 4, 3) := by decide +kernel
theorem dX3_become_8 : decode cX3_become 8 = .ok (.return_, 1) := by decide +kernel
theorem dX3_become_9 : decode cX3_become 9 = .ok (.aload_n 1, 1) := by decide +kernel
theorem dX3_become_10 : decode cX3_become 10 = .ok (.aload_n 0, 1) := by decide +kernel
theorem dX3_become_11 : decode cX3_become 11 = .ok (.getfield 9, 3) := by decide +kernel
theorem dX3_become_14 : decode cX3_become 14 = .ok (.invokestatic 51, 3) := by decide +kernel
theorem dX3_become_17 : decode cX3_become 17 = .ok (.aload_n 0, 1) := by decide +kernel
theorem dX3_become_18 : decode cX3_become 18 = .ok (.getfield 25, 3) := by decide +kernel
theorem dX3_become_21 : decode cX3_become 21 = .ok (.invokevirtual 55, 3) := by decide +kernel
theorem dX3_become_24 : decode cX3_become 24 = .ok (.aload_n 0, 1) := by decide +kernel
theorem dX3_become_25 : decode cX3_become 25 = .ok (.getfield 32, 3) := by decide +kernel
theorem dX3_become_28 : decode cX3_become 28 = .ok (.invokevirtual 58, 3) := by decide +kernel
theorem dX3_become_31 : decode cX3_become 31 = .ok (.iconst 0, 1) := by decide +kernel
theorem dX3_become_32 : decode cX3_become 32 = .ok (.istore_n 2, 1) := by decide +kernel
theorem dX3_become_33 : decode cX3_become 33 = .ok (.iload_n 2, 1) := by decide +kernel
theorem dX3_become_34 : decode cX3_become 34 = .ok (.bipush 12, 2) := by decide +kernel
theorem dX3_become_36 : decode cX3_become 36 = .ok (.if_icmp .gt 16, 3) := by decide +kernel
theorem dX3_become_39 : decode cX3_become 39 = .ok (.aload_n 0, 1) := by decide +kernel
theorem dX3_become_40 : decode cX3_become 40 = .ok (.getfield 43, 3) := by decide +kernel
theorem dX3_become_43 : decode cX3_become 43 = .ok (.iload_n 2, 1) := by decide +kernel
theorem dX3_become_44 : decode cX3_become 44 = .ok (.iconst 0, 1) := by decide +kernel
theorem dX3_become_45 : decode cX3_become 45 = .ok (.iastore, 1) := by decide +kernel
theorem dX3_become_46 : decode cX3_become 46 = .ok (.iinc 2 1, 3) := by decide +kernel
theorem dX3_become_49 : decode cX3_become 49 = .ok (.goto (-16), 3) := by decide +kernel
theorem dX3_become_52 : decode cX3_become 52 = .ok (.return_, 1) := by decide +kernel
theorem dX3_isBound_0 : decode cX3_isBound 0 = .ok (.aload_n 0, 1) := by decide +kernel
theorem dX3_isBound_1 : decode cX3_isBound 1 = .ok (.getfield 9, 3) := by decide +kernel
theorem dX3_isBound_4 : decode cX3_isBound 4 = .ok (.iconst 0, 1) := by decide +kernel
theorem dX3_isBound_5 : decode cX3_isBound 5 = .ok (.laload, 1) := by decide +kernel
theorem dX3_isBound_6 : decode cX3_isBound 6 = .ok (.lconst 0, 1) := by decide +kernel
theorem dX3_isBound_7 : decode cX3_isBound 7 = .ok (.lcmp, 1) := by decide +kernel
theorem dX3_isBound_8 : decode cX3_isBound 8 = .ok (.ifCond .ge 7, 3) := by decide +kernel
theorem dX3_isBound_11 : decode cX3_isBound 11 = .ok (.iconst 1, 1) := by decide +kernel
theorem dX3_isBound_12 : decode cX3_isBound 12 = .ok (.goto 4, 3) := by decide +kernel
theorem dX3_isBound_15 : decode cX3_isBound 15 = .ok (.iconst 0, 1) := by decide +kernel
theorem dX3_isBound_16 : decode cX3_isBound 16 = .ok (.ireturn, 1) := by decide +kernel
set_option maxRecDepth 20000 in
theorem ggX3_countUpTo_X6_reachTo : GoodIn wsX3_countUpTo wsX6_reachTo := goodIn_r _ [8, 9, 10, 11, 12, 13, 14, 15, 16, 17, 18, 19, 20, 21, 7, 22, 23, 24, 25, 26, 27, 28, 29, 30, 31, 32, 33, 34, 35, 36, 37, 38, 39, 40, 41, 42, 43, 44, 45, 46, 47, 48, 49, 50, 51, 52, 53, 54, 55, 56, 57, 58, 59, 60, 61, 62, 63, 64, 65, 76, 77, 78, 79, 80] (by decide +kernel) (by decide +kernel)
set_option maxRecDepth 20000 in
theorem gX3_countUpTo_X6_reachTo : GoodIn wsX3_countUpTo (wsV RX3 59 RX6 yX6_reachTo wsX6_reachTo) := goodIn_app (goodIn_of _ (by decide +kernel)) ggX3_countUpTo_X6_reachTo
set_option maxRecDepth 20000 in
theorem ggX3_countUpTo_X6_atMost : GoodIn wsX3_countUpTo wsX6_atMost := goodIn_r _ [69, 9, 17, 76, 77] (by decide +kernel) (by decide +kernel)
set_option maxRecDepth 20000 in
theorem gX3_countUpTo_X6_atMost : GoodIn wsX3_countUpTo (wsV RX3 63 RX6 yX6_atMost wsX6_atMost) := goodIn_app (goodIn_of _ (by decide +kernel)) ggX3_countUpTo_X6_atMost
theorem dX3_countUpTo_0 : decode cX3_countUpTo 0 = .ok (.iload_n 1, 1) := by decide +kernel
theorem dX3_countUpTo_1 : decode cX3_countUpTo 1 = .ok (.ifCond .ge 21, 3) := by decide +kernel
theorem dX3_countUpTo_4 : decode cX3_countUpTo 4 = .ok (.aload_n 0, 1) := by decide +kernel
theorem dX3_countUpTo_5 : decode cX3_countUpTo 5 = .ok (.getfield 9, 3) := by decide +kernel
theorem dX3_countUpTo_8 : decode cX3_countUpTo 8 = .ok (.iconst 0, 1) := by decide +kernel
theorem dX3_countUpTo_9 : decode cX3_countUpTo 9 = .ok (.laload, 1) := by decide +kernel
theorem dX3_countUpTo_10 : decode cX3_countUpTo 10 = .ok (.iload_n 1, 1) := by decide +kernel
theorem dX3_countUpTo_11 : decode cX3_countUpTo 11 = .ok (.i2l, 1) := by decide +kernel
theorem dX3_countUpTo_12 : decode cX3_countUpTo 12 = .ok (.lcmp, 1) := by decide +kernel
theorem dX3_countUpTo_13 : decode cX3_countUpTo 13 = .ok (.ifCond .gt 7, 3) := by decide +kernel
theorem dX3_countUpTo_16 : decode cX3_countUpTo 16 = .ok (.iconst 1, 1) := by decide +kernel
theorem dX3_countUpTo_17 : decode cX3_countUpTo 17 = .ok (.goto 4, 3) := by decide +kernel
theorem dX3_countUpTo_20 : decode cX3_countUpTo 20 = .ok (.iconst 0, 1) := by decide +kernel
theorem dX3_countUpTo_21 : decode cX3_countUpTo 21 = .ok (.ireturn, 1) := by decide +kernel
theorem dX3_countUpTo_22 : decode cX3_countUpTo 22 = .ok (.aload_n 0, 1) := by decide +kernel
theorem dX3_countUpTo_23 : decode cX3_countUpTo 23 = .ok (.getfield 25, 3) := by decide +kernel
theorem dX3_countUpTo_26 : decode cX3_countUpTo 26 = .ok (.iload_n 1, 1) := by decide +kernel
theorem dX3_countUpTo_27 : decode cX3_countUpTo 27 = .ok (.aload_n 0, 1) := by decide +kernel
theorem dX3_countUpTo_28 : decode cX3_countUpTo 28 = .ok (.getfield 9, 3) := by decide +kernel
theorem dX3_countUpTo_31 : decode cX3_countUpTo 31 = .ok (.aload_n 0, 1) := by decide +kernel
theorem dX3_countUpTo_32 : decode cX3_countUpTo 32 = .ok (.getfield 18, 3) := by decide +kernel
theorem dX3_countUpTo_35 : decode cX3_countUpTo 35 = .ok (.invokevirtual 59, 3) := by decide +kernel
theorem dX3_countUpTo_38 : decode cX3_countUpTo 38 = .ok (.aload_n 0, 1) := by decide +kernel
theorem dX3_countUpTo_39 : decode cX3_countUpTo 39 = .ok (.getfield 25, 3) := by decide +kernel
theorem dX3_countUpTo_42 : decode cX3_countUpTo 42 = .ok (.iload_n 1, 1) := by decide +kernel
theorem dX3_countUpTo_43 : decode cX3_countUpTo 43 = .ok (.invokevirtual 63, 3) := by decide +kernel
theorem dX3_countUpTo_46 : decode cX3_countUpTo 46 = .ok (.ireturn, 1) := by decide +kernel
set_option maxRecDepth 20000 in
theorem ggX3_leastOf_X1_reachTo : GoodIn wsX3_leastOf wsX1_reachTo := goodIn_r _ [8, 9, 10, 11, 12, 13, 14, 15, 16, 17, 18, 19, 20, 21, 22, 7, 23, 24, 25, 26, 27, 28, 29, 30, 31, 32, 33, 34, 35, 36, 37, 38, 39, 40, 41, 42, 43, 44, 45, 46, 47, 48, 49, 50, 51, 52, 53, 54, 55, 56, 57, 58, 59, 60, 61, 62, 63, 64, 65, 66, 67, 68, 69, 70, 71, 72, 73, 74, 75, 76, 77, 78, 79, 80, 81, 82, 83, 84, 85, 86, 87, 88, 89, 90, 91, 103, 104, 105, 106, 107, 108] (by decide +kernel) (by decide +kernel)
set_option maxRecDepth 20000 in
theorem gX3_leastOf_X1_reachTo : GoodIn wsX3_leastOf (wsV RX3 67 RX1 yX1_reachTo wsX1_reachTo) := goodIn_app (goodIn_of _ (by decide +kernel)) ggX3_leastOf_X1_reachTo
set_option maxRecDepth 20000 in
theorem ggX3_leastOf_X1_at : GoodIn wsX3_leastOf wsX1_at := goodIn_r _ [95, 9, 10, 96, 103, 104, 105] (by decide +kernel) (by decide +kernel)
set_option maxRecDepth 20000 in
theorem gX3_leastOf_X1_at : GoodIn wsX3_leastOf (wsV RX3 68 RX1 yX1_at wsX1_at) := goodIn_app (goodIn_of _ (by decide +kernel)) ggX3_leastOf_X1_at
theorem dX3_leastOf_0 : decode cX3_leastOf 0 = .ok (.aload_n 0, 1) := by decide +kernel
theorem dX3_leastOf_1 : decode cX3_leastOf 1 = .ok (.getfield 32, 3) := by decide +kernel
theorem dX3_leastOf_4 : decode cX3_leastOf 4 = .ok (.iload_n 1, 1) := by decide +kernel
theorem dX3_leastOf_5 : decode cX3_leastOf 5 = .ok (.aload_n 0, 1) := by decide +kernel
theorem dX3_leastOf_6 : decode cX3_leastOf 6 = .ok (.getfield 9, 3) := by decide +kernel
theorem dX3_leastOf_9 : decode cX3_leastOf 9 = .ok (.aload_n 0, 1) := by decide +kernel
theorem dX3_leastOf_10 : decode cX3_leastOf 10 = .ok (.getfield 18, 3) := by decide +kernel
theorem dX3_leastOf_13 : decode cX3_leastOf 13 = .ok (.invokevirtual 67, 3) := by decide +kernel
theorem dX3_leastOf_16 : decode cX3_leastOf 16 = .ok (.aload_n 0, 1) := by decide +kernel
theorem dX3_leastOf_17 : decode cX3_leastOf 17 = .ok (.getfield 32, 3) := by decide +kernel
theorem dX3_leastOf_20 : decode cX3_leastOf 20 = .ok (.iload_n 1, 1) := by decide +kernel
theorem dX3_leastOf_21 : decode cX3_leastOf 21 = .ok (.invokevirtual 68, 3) := by decide +kernel
theorem dX3_leastOf_24 : decode cX3_leastOf 24 = .ok (.lreturn, 1) := by decide +kernel
set_option maxRecDepth 20000 in
theorem ggX3_remaindersBy_X2_remaindersOf : GoodIn wsX3_remaindersBy wsX2_remaindersOf := goodIn_r _ [8, 9, 10, 11, 12, 13, 14, 7, 15, 16, 17, 18, 19, 20, 21, 22, 23, 24, 25, 26, 27, 28, 29, 30, 31, 32, 33, 34, 35, 36, 37, 38, 39, 46, 47, 48, 49] (by decide +kernel) (by decide +kernel)
set_option maxRecDepth 20000 in
theorem gX3_remaindersBy_X2_remaindersOf : GoodIn wsX3_remaindersBy (wsV RX3 72 RX2 yX2_remaindersOf wsX2_remaindersOf) := goodIn_app (goodIn_of _ (by decide +kernel)) ggX3_remaindersBy_X2_remaindersOf
theorem dX3_remaindersBy_0 : decode cX3_remaindersBy 0 = .ok (.aload_n 0, 1) := by decide +kernel
theorem dX3_remaindersBy_1 : decode cX3_remaindersBy 1 = .ok (.getfield 43, 3) := by decide +kernel
theorem dX3_remaindersBy_4 : decode cX3_remaindersBy 4 = .ok (.iload_n 1, 1) := by decide +kernel
theorem dX3_remaindersBy_5 : decode cX3_remaindersBy 5 = .ok (.iaload, 1) := by decide +kernel
theorem dX3_remaindersBy_6 : decode cX3_remaindersBy 6 = .ok (.ifCond .ne 21, 3) := by decide +kernel
theorem dX3_remaindersBy_9 : decode cX3_remaindersBy 9 = .ok (.aload_n 0, 1) := by decide +kernel
theorem dX3_remaindersBy_10 : decode cX3_remaindersBy 10 = .ok (.getfield 43, 3) := by decide +kernel
theorem dX3_remaindersBy_13 : decode cX3_remaindersBy 13 = .ok (.iload_n 1, 1) := by decide +kernel
theorem dX3_remaindersBy_14 : decode cX3_remaindersBy 14 = .ok (.aload_n 0, 1) := by decide +kernel
theorem dX3_remaindersBy_15 : decode cX3_remaindersBy 15 = .ok (.getfield 39, 3) := by decide +kernel
theorem dX3_remaindersBy_18 : decode cX3_remaindersBy 18 = .ok (.aload_n 0, 1) := by decide +kernel
theorem dX3_remaindersBy_19 : decode cX3_remaindersBy 19 = .ok (.getfield 9, 3) := by decide +kernel
theorem dX3_remaindersBy_22 : decode cX3_remaindersBy 22 = .ok (.iload_n 1, 1) := by decide +kernel
theorem dX3_remaindersBy_23 : decode cX3_remaindersBy 23 = .ok (.invokevirtual 72, 3) := by decide +kernel
theorem dX3_remaindersBy_26 : decode cX3_remaindersBy 26 = .ok (.iastore, 1) := by decide +kernel
theorem dX3_remaindersBy_27 : decode cX3_remaindersBy 27 = .ok (.aload_n 0, 1) := by decide +kernel
theorem dX3_remaindersBy_28 : decode cX3_remaindersBy 28 = .ok (.getfield 43, 3) := by decide +kernel
theorem dX3_remaindersBy_31 : decode cX3_remaindersBy 31 = .ok (.iload_n 1, 1) := by decide +kernel
theorem dX3_remaindersBy_32 : decode cX3_remaindersBy 32 = .ok (.iaload, 1) := by decide +kernel
theorem dX3_remaindersBy_33 : decode cX3_remaindersBy 33 = .ok (.ireturn, 1) := by decide +kernel
set_option maxRecDepth 20000 in
theorem ggX3_gapUpTo_X3_remaindersBy : GoodIn wsX3_gapUpTo wsX3_remaindersBy := goodIn_r _ [8, 9, 10, 2, 11, 12, 13, 14, 15, 16, 17, 18, 19, 20, 21, 22, 23, 24, 25, 26, 27, 28, 29, 30, 31, 32, 33, 34, 35, 36, 37, 38, 39, 40, 41, 42, 43, 44, 45, 46, 113, 114, 115, 116, 117, 118, 119, 120, 121, 122] (by decide +kernel) (by decide +kernel)
set_option maxRecDepth 20000 in
theorem gX3_gapUpTo_X3_remaindersBy : GoodIn wsX3_gapUpTo (wsV RX3 76 RX3 yX3_remaindersBy wsX3_remaindersBy) := goodIn_app (goodIn_of _ (by decide +kernel)) ggX3_gapUpTo_X3_remaindersBy
set_option maxRecDepth 20000 in
theorem ggX3_gapUpTo_X6_reachTo : GoodIn wsX3_gapUpTo wsX6_reachTo := goodIn_r _ [51, 52, 53, 54, 55, 56, 57, 58, 59, 60, 61, 62, 63, 64, 50, 65, 66, 67, 68, 69, 70, 71, 72, 73, 74, 75, 76, 77, 78, 79, 80, 81, 82, 83, 84, 85, 86, 87, 88, 89, 90, 91, 92, 93, 94, 95, 96, 97, 98, 99, 100, 101, 102, 103, 104, 105, 106, 107, 108, 123, 124, 125, 126, 127] (by decide +kernel) (by decide +kernel)
set_option maxRecDepth 20000 in
theorem gX3_gapUpTo_X6_reachTo : GoodIn wsX3_gapUpTo (wsV RX3 59 RX6 yX6_reachTo wsX6_reachTo) := goodIn_app (goodIn_of _ (by decide +kernel)) ggX3_gapUpTo_X6_reachTo
set_option maxRecDepth 20000 in
theorem ggX3_gapUpTo_X6_atMost : GoodIn wsX3_gapUpTo wsX6_atMost := goodIn_r _ [112, 52, 60, 123, 124] (by decide +kernel) (by decide +kernel)
set_option maxRecDepth 20000 in
theorem gX3_gapUpTo_X6_atMost : GoodIn wsX3_gapUpTo (wsV RX3 63 RX6 yX6_atMost wsX6_atMost) := goodIn_app (goodIn_of _ (by decide +kernel)) ggX3_gapUpTo_X6_atMost
theorem dX3_gapUpTo_0 : decode cX3_gapUpTo 0 = .ok (.aload_n 0, 1) := by decide +kernel
theorem dX3_gapUpTo_1 : decode cX3_gapUpTo 1 = .ok (.bipush 12, 2) := by decide +kernel
theorem dX3_gapUpTo_3 : decode cX3_gapUpTo 3 = .ok (.invokevirtual 76, 3) := by decide +kernel
theorem dX3_gapUpTo_6 : decode cX3_gapUpTo 6 = .ok (.istore_n 3, 1) := by decide +kernel
theorem dX3_gapUpTo_7 : decode cX3_gapUpTo 7 = .ok (.aload_n 0, 1) := by decide +kernel
theorem dX3_gapUpTo_8 : decode cX3_gapUpTo 8 = .ok (.getfield 25, 3) := by decide +kernel
theorem dX3_gapUpTo_11 : decode cX3_gapUpTo 11 = .ok (.iload_n 1, 1) := by decide +kernel
theorem dX3_gapUpTo_12 : decode cX3_gapUpTo 12 = .ok (.aload_n 0, 1) := by decide +kernel
theorem dX3_gapUpTo_13 : decode cX3_gapUpTo 13 = .ok (.getfield 9, 3) := by decide +kernel
theorem dX3_gapUpTo_16 : decode cX3_gapUpTo 16 = .ok (.aload_n 0, 1) := by decide +kernel
theorem dX3_gapUpTo_17 : decode cX3_gapUpTo 17 = .ok (.getfield 18, 3) := by decide +kernel
theorem dX3_gapUpTo_20 : decode cX3_gapUpTo 20 = .ok (.invokevirtual 59, 3) := by decide +kernel
theorem dX3_gapUpTo_23 : decode cX3_gapUpTo 23 = .ok (.iconst 0, 1) := by decide +kernel
theorem dX3_gapUpTo_24 : decode cX3_gapUpTo 24 = .ok (.istore 4, 2) := by decide +kernel
theorem dX3_gapUpTo_26 : decode cX3_gapUpTo 26 = .ok (.iconst 1, 1) := by decide +kernel
theorem dX3_gapUpTo_27 : decode cX3_gapUpTo 27 = .ok (.istore 5, 2) := by decide +kernel
theorem dX3_gapUpTo_29 : decode cX3_gapUpTo 29 = .ok (.iload 5, 2) := by decide +kernel
theorem dX3_gapUpTo_31 : decode cX3_gapUpTo 31 = .ok (.iload_n 1, 1) := by decide +kernel
theorem dX3_gapUpTo_32 : decode cX3_gapUpTo 32 = .ok (.if_icmp .gt 74, 3) := by decide +kernel
theorem dX3_gapUpTo_35 : decode cX3_gapUpTo 35 = .ok (.iload_n 3, 1) := by decide +kernel
theorem dX3_gapUpTo_36 : decode cX3_gapUpTo 36 = .ok (.iload 5, 2) := by decide +kernel
theorem dX3_gapUpTo_38 : decode cX3_gapUpTo 38 = .ok (.bipush 12, 2) := by decide +kernel
theorem dX3_gapUpTo_40 : decode cX3_gapUpTo 40 = .ok (.irem, 1) := by decide +kernel
theorem dX3_gapUpTo_41 : decode cX3_gapUpTo 41 = .ok (.ishr, 1) := by decide +kernel
theorem dX3_gapUpTo_42 : decode cX3_gapUpTo 42 = .ok (.iconst 1, 1) := by decide +kernel
theorem dX3_gapUpTo_43 : decode cX3_gapUpTo 43 = .ok (.iand, 1) := by decide +kernel
theorem dX3_gapUpTo_44 : decode cX3_gapUpTo 44 = .ok (.iconst 1, 1) := by decide +kernel
theorem dX3_gapUpTo_45 : decode cX3_gapUpTo 45 = .ok (.if_icmp .ne 30, 3) := by decide +kernel
theorem dX3_gapUpTo_48 : decode cX3_gapUpTo 48 = .ok (.aload_n 0, 1) := by decide +kernel
theorem dX3_gapUpTo_49 : decode cX3_gapUpTo 49 = .ok (.getfield 25, 3) := by decide +kernel
theorem dX3_gapUpTo_52 : decode cX3_gapUpTo 52 = .ok (.iload 5, 2) := by decide +kernel
theorem dX3_gapUpTo_54 : decode cX3_gapUpTo 54 = .ok (.invokevirtual 63, 3) := by decide +kernel
theorem dX3_gapUpTo_57 : decode cX3_gapUpTo 57 = .ok (.aload_n 0, 1) := by decide +kernel
theorem dX3_gapUpTo_58 : decode cX3_gapUpTo 58 = .ok (.getfield 25, 3) := by decide +kernel
theorem dX3_gapUpTo_61 : decode cX3_gapUpTo 61 = .ok (.iload 5, 2) := by decide +kernel
theorem dX3_gapUpTo_63 : decode cX3_gapUpTo 63 = .ok (.iconst 1, 1) := by decide +kernel
theorem dX3_gapUpTo_64 : decode cX3_gapUpTo 64 = .ok (.isub, 1) := by decide +kernel
theorem dX3_gapUpTo_65 : decode cX3_gapUpTo 65 = .ok (.invokevirtual 63, 3) := by decide +kernel
theorem dX3_gapUpTo_68 : decode cX3_gapUpTo 68 = .ok (.if_icmp .ne 7, 3) := by decide +kernel
theorem dX3_gapUpTo_71 : decode cX3_gapUpTo 71 = .ok (.iconst 1, 1) := by decide +kernel
theorem dX3_gapUpTo_72 : decode cX3_gapUpTo 72 = .ok (.goto 4, 3) := by decide +kernel
theorem dX3_gapUpTo_75 : decode cX3_gapUpTo 75 = .ok (.iconst 0, 1) := by decide +kernel
theorem dX3_gapUpTo_76 : decode cX3_gapUpTo 76 = .ok (.istore 6, 2) := by decide +kernel
theorem dX3_gapUpTo_78 : decode cX3_gapUpTo 78 = .ok (.iload 6, 2) := by decide +kernel
theorem dX3_gapUpTo_80 : decode cX3_gapUpTo 80 = .ok (.ifCond .eq 12, 3) := by decide +kernel
theorem dX3_gapUpTo_83 : decode cX3_gapUpTo 83 = .ok (.iload 4, 2) := by decide +kernel
theorem dX3_gapUpTo_85 : decode cX3_gapUpTo 85 = .ok (.iload_n 2, 1) := by decide +kernel
theorem dX3_gapUpTo_86 : decode cX3_gapUpTo 86 = .ok (.if_icmp .ne 6, 3) := by decide +kernel
theorem dX3_gapUpTo_89 : decode cX3_gapUpTo 89 = .ok (.iload 5, 2) := by decide +kernel
theorem dX3_gapUpTo_91 : decode cX3_gapUpTo 91 = .ok (.ireturn, 1) := by decide +kernel
theorem dX3_gapUpTo_92 : decode cX3_gapUpTo 92 = .ok (.iload 6, 2) := by decide +kernel
theorem dX3_gapUpTo_94 : decode cX3_gapUpTo 94 = .ok (.ifCond .eq 6, 3) := by decide +kernel
theorem dX3_gapUpTo_97 : decode cX3_gapUpTo 97 = .ok (.iinc 4 1, 3) := by decide +kernel
theorem dX3_gapUpTo_100 : decode cX3_gapUpTo 100 = .ok (.iinc 5 1, 3) := by decide +kernel
theorem dX3_gapUpTo_103 : decode cX3_gapUpTo 103 = .ok (.goto (-74), 3) := by decide +kernel
theorem dX3_gapUpTo_106 : decode cX3_gapUpTo 106 = .ok (.iload_n 2, 1) := by decide +kernel
theorem dX3_gapUpTo_107 : decode cX3_gapUpTo 107 = .ok (.ifCond .ge 8, 3) := by decide +kernel
theorem dX3_gapUpTo_110 : decode cX3_gapUpTo 110 = .ok (.iload 4, 2) := by decide +kernel
theorem dX3_gapUpTo_112 : decode cX3_gapUpTo 112 = .ok (.goto 5, 3) := by decide +kernel
theorem dX3_gapUpTo_115 : decode cX3_gapUpTo 115 = .ok (.bipush (-9), 2) := by decide +kernel
theorem dX3_gapUpTo_117 : decode cX3_gapUpTo 117 = .ok (.ireturn, 1) := by decide +kernel
theorem dX3_isSame_0 : decode cX3_isSame 0 = .ok (.iconst 0, 1) := by decide +kernel
theorem dX3_isSame_1 : decode cX3_isSame 1 = .ok (.istore_n 2, 1) := by decide +kernel
theorem dX3_isSame_2 : decode cX3_isSame 2 = .ok (.iload_n 2, 1) := by decide +kernel
theorem dX3_isSame_3 : decode cX3_isSame 3 = .ok (.iconst 4, 1) := by decide +kernel
theorem dX3_isSame_4 : decode cX3_isSame 4 = .ok (.if_icmp .ge 24, 3) := by decide +kernel
theorem dX3_isSame_7 : decode cX3_isSame 7 = .ok (.aload_n 1, 1) := by decide +kernel
theorem dX3_isSame_8 : decode cX3_isSame 8 = .ok (.iload_n 2, 1) := by decide +kernel
theorem dX3_isSame_9 : decode cX3_isSame 9 = .ok (.laload, 1) := by decide +kernel
theorem dX3_isSame_10 : decode cX3_isSame 10 = .ok (.aload_n 0, 1) := by decide +kernel
theorem dX3_isSame_11 : decode cX3_isSame 11 = .ok (.getfield 9, 3) := by decide +kernel
theorem dX3_isSame_14 : decode cX3_isSame 14 = .ok (.iload_n 2, 1) := by decide +kernel
theorem dX3_isSame_15 : decode cX3_isSame 15 = .ok (.laload, 1) := by decide +kernel
theorem dX3_isSame_16 : decode cX3_isSame 16 = .ok (.lcmp, 1) := by decide +kernel
theorem dX3_isSame_17 : decode cX3_isSame 17 = .ok (.ifCond .eq 5, 3) := by decide +kernel
theorem dX3_isSame_20 : decode cX3_isSame 20 = .ok (.iconst 0, 1) := by decide +kernel
theorem dX3_isSame_21 : decode cX3_isSame 21 = .ok (.ireturn, 1) := by decide +kernel
theorem dX3_isSame_22 : decode cX3_isSame 22 = .ok (.iinc 2 1, 3) := by decide +kernel
theorem dX3_isSame_25 : decode cX3_isSame 25 = .ok (.goto (-23), 3) := by decide +kernel
theorem dX3_isSame_28 : decode cX3_isSame 28 = .ok (.iconst 1, 1) := by decide +kernel
theorem dX3_isSame_29 : decode cX3_isSame 29 = .ok (.ireturn, 1) := by decide +kernel
theorem dX4_init_0 : decode cX4_init 0 = .ok (.aload_n 0, 1) := by decide +kernel
theorem dX4_init_1 : decode cX4_init 1 = .ok (.invokespecial 3, 3) := by decide +kernel
theorem dX4_init_4 : decode cX4_init 4 = .ok (.aload_n 0, 1) := by decide +kernel
theorem dX4_init_5 : decode cX4_init 5 = .ok (.bipush 6, 2) := by decide +kernel
theorem dX4_init_7 : decode cX4_init 7 = .ok (.newarray .long, 2) := by decide +kernel
theorem dX4_init_9 : decode cX4_init 9 = .ok (.putfield 9, 3) := by decide +kernel
theorem dX4_init_12 : decode cX4_init 12 = .ok (.aload_n 0, 1) := by decide +kernel
theorem dX4_init_13 : decode cX4_init 13 = .ok (.bipush 6, 2) := by decide +kernel
theorem dX4_init_15 : decode cX4_init 15 = .ok (.newarray .boolean, 2) := by decide +kernel
theorem dX4_init_17 : decode cX4_init 17 = .ok (.putfield 15, 3) := by decide +kernel
theorem dX4_init_20 : decode cX4_init 20 = .ok (.return_, 1) := by decide +kernel
theorem dX4_renew_0 : decode cX4_renew 0 = .ok (.aload_n 0, 1) := by decide +kernel
theorem dX4_renew_1 : decode cX4_renew 1 = .ok (.iconst 1, 1) := by decide +kernel
theorem dX4_renew_2 : decode cX4_renew 2 = .ok (.putfield 19, 3) := by decide +kernel
theorem dX4_renew_5 : decode cX4_renew 5 = .ok (.aload_n 0, 1) := by decide +kernel
theorem dX4_renew_6 : decode cX4_renew 6 = .ok (.iload_n 1, 1) := by decide +kernel
theorem dX4_renew_7 : decode cX4_renew 7 = .ok (.putfield 23, 3) := by decide +kernel
theorem dX4_renew_10 : decode cX4_renew 10 = .ok (.aload_n 0, 1) := by decide +kernel
theorem dX4_renew_11 : decode cX4_renew 11 = .ok (.iload_n 2, 1) := by decide +kernel
theorem dX4_renew_12 : decode cX4_renew 12 = .ok (.putfield 27, 3) := by decide +kernel
theorem dX4_renew_15 : decode cX4_renew 15 = .ok (.iconst 0, 1) := by decide +kernel
theorem dX4_renew_16 : decode cX4_renew 16 = .ok (.istore_n 3, 1) := by decide +kernel
theorem dX4_renew_17 : decode cX4_renew 17 = .ok (.iload_n 3, 1) := by decide +kernel
theorem dX4_renew_18 : decode cX4_renew 18 = .ok (.bipush 6, 2) := by decide +kernel
theorem dX4_renew_20 : decode cX4_renew 20 = .ok (.if_icmp .ge 16, 3) := by decide +kernel
theorem dX4_renew_23 : decode cX4_renew 23 = .ok (.aload_n 0, 1) := by decide +kernel
theorem dX4_renew_24 : decode cX4_renew 24 = .ok (.getfield 15, 3) := by decide +kernel
theorem dX4_renew_27 : decode cX4_renew 27 = .ok (.iload_n 3, 1) := by decide +kernel
theorem dX4_renew_28 : decode cX4_renew 28 = .ok (.iconst 0, 1) := by decide +kernel
theorem dX4_renew_29 : decode cX4_renew 29 = .ok (.bastore, 1) := by decide +kernel
theorem dX4_renew_30 : decode cX4_renew 30 = .ok (.iinc 3 1, 3) := by decide +kernel
theorem dX4_renew_33 : decode cX4_renew 33 = .ok (.goto (-16), 3) := by decide +kernel
theorem dX4_renew_36 : decode cX4_renew 36 = .ok (.return_, 1) := by decide +kernel
set_option maxRecDepth 20000 in
theorem ggX4_take_X4_has : GoodIn wsX4_take wsX4_has := goodIn_r _ [8, 9, 15, 16, 17, 18, 19] (by decide +kernel) (by decide +kernel)
set_option maxRecDepth 20000 in
theorem gX4_take_X4_has : GoodIn wsX4_take (wsV RX4 30 RX4 yX4_has wsX4_has) := goodIn_app (goodIn_of _ (by decide +kernel)) ggX4_take_X4_has
set_option maxRecDepth 20000 in
theorem ggX4_take_X4_takes : GoodIn wsX4_take wsX4_takes := goodIn_r _ [13, 14, 15, 16, 17, 18, 19] (by decide +kernel) (by decide +kernel)
set_option maxRecDepth 20000 in
theorem gX4_take_X4_takes : GoodIn wsX4_take (wsV RX4 34 RX4 yX4_takes wsX4_takes) := goodIn_app (goodIn_of _ (by decide +kernel)) ggX4_take_X4_takes
theorem dX4_take_0 : decode cX4_take 0 = .ok (.aload_n 0, 1) := by decide +kernel
theorem dX4_take_1 : decode cX4_take 1 = .ok (.getfield 19, 3) := by decide +kernel
theorem dX4_take_4 : decode cX4_take 4 = .ok (.ifCond .ne 6, 3) := by decide +kernel
theorem dX4_take_7 : decode cX4_take 7 = .ok (.bipush (-11), 2) := by decide +kernel
theorem dX4_take_9 : decode cX4_take 9 = .ok (.ireturn, 1) := by decide +kernel
theorem dX4_take_10 : decode cX4_take 10 = .ok (.aload_n 0, 1) := by decide +kernel
theorem dX4_take_11 : decode cX4_take 11 = .ok (.iload_n 1, 1) := by decide +kernel
theorem dX4_take_12 : decode cX4_take 12 = .ok (.invokevirtual 30, 3) := by decide +kernel
theorem dX4_take_15 : decode cX4_take 15 = .ok (.ifCond .ne 6, 3) := by decide +kernel
theorem dX4_take_18 : decode cX4_take 18 = .ok (.bipush (-13), 2) := by decide +kernel
theorem dX4_take_20 : decode cX4_take 20 = .ok (.ireturn, 1) := by decide +kernel
theorem dX4_take_21 : decode cX4_take 21 = .ok (.aload_n 0, 1) := by decide +kernel
theorem dX4_take_22 : decode cX4_take 22 = .ok (.lload_n 2, 1) := by decide +kernel
theorem dX4_take_23 : decode cX4_take 23 = .ok (.invokevirtual 34, 3) := by decide +kernel
theorem dX4_take_26 : decode cX4_take 26 = .ok (.ifCond .ne 6, 3) := by decide +kernel
theorem dX4_take_29 : decode cX4_take 29 = .ok (.bipush (-15), 2) := by decide +kernel
theorem dX4_take_31 : decode cX4_take 31 = .ok (.ireturn, 1) := by decide +kernel
theorem dX4_take_32 : decode cX4_take 32 = .ok (.aload_n 0, 1) := by decide +kernel
theorem dX4_take_33 : decode cX4_take 33 = .ok (.getfield 9, 3) := by decide +kernel
theorem dX4_take_36 : decode cX4_take 36 = .ok (.iload_n 1, 1) := by decide +kernel
theorem dX4_take_37 : decode cX4_take 37 = .ok (.lload_n 2, 1) := by decide +kernel
theorem dX4_take_38 : decode cX4_take 38 = .ok (.lastore, 1) := by decide +kernel
theorem dX4_take_39 : decode cX4_take 39 = .ok (.aload_n 0, 1) := by decide +kernel
theorem dX4_take_40 : decode cX4_take 40 = .ok (.getfield 15, 3) := by decide +kernel
theorem dX4_take_43 : decode cX4_take 43 = .ok (.iload_n 1, 1) := by decide +kernel
theorem dX4_take_44 : decode cX4_take 44 = .ok (.iconst 1, 1) := by decide +kernel
theorem dX4_take_45 : decode cX4_take 45 = .ok (.bastore, 1) := by decide +kernel
theorem dX4_take_46 : decode cX4_take 46 = .ok (.iconst 1, 1) := by decide +kernel
theorem dX4_take_47 : decode cX4_take 47 = .ok (.ireturn, 1) := by decide +kernel
set_option maxRecDepth 20000 in
theorem ggX4_look_X4_has : GoodIn wsX4_look wsX4_has := goodIn_r _ [9, 10, 11, 12, 13, 14, 15] (by decide +kernel) (by decide +kernel)
set_option maxRecDepth 20000 in
theorem gX4_look_X4_has : GoodIn wsX4_look (wsV RX4 30 RX4 yX4_has wsX4_has) := goodIn_app (goodIn_of _ (by decide +kernel)) ggX4_look_X4_has
theorem dX4_look_0 : decode cX4_look 0 = .ok (.aload_n 0, 1) := by decide +kernel
theorem dX4_look_1 : decode cX4_look 1 = .ok (.getfield 19, 3) := by decide +kernel
theorem dX4_look_4 : decode cX4_look 4 = .ok (.ifCond .eq 29, 3) := by decide +kernel
theorem dX4_look_7 : decode cX4_look 7 = .ok (.aload_n 0, 1) := by decide +kernel
theorem dX4_look_8 : decode cX4_look 8 = .ok (.iload_n 1, 1) := by decide +kernel
theorem dX4_look_9 : decode cX4_look 9 = .ok (.invokevirtual 30, 3) := by decide +kernel
theorem dX4_look_12 : decode cX4_look 12 = .ok (.ifCond .eq 21, 3) := by decide +kernel
theorem dX4_look_15 : decode cX4_look 15 = .ok (.aload_n 0, 1) := by decide +kernel
theorem dX4_look_16 : decode cX4_look 16 = .ok (.getfield 15, 3) := by decide +kernel
theorem dX4_look_19 : decode cX4_look 19 = .ok (.iload_n 1, 1) := by decide +kernel
theorem dX4_look_20 : decode cX4_look 20 = .ok (.baload, 1) := by decide +kernel
theorem dX4_look_21 : decode cX4_look 21 = .ok (.ifCond .eq 12, 3) := by decide +kernel
theorem dX4_look_24 : decode cX4_look 24 = .ok (.aload_n 0, 1) := by decide +kernel
theorem dX4_look_25 : decode cX4_look 25 = .ok (.getfield 9, 3) := by decide +kernel
theorem dX4_look_28 : decode cX4_look 28 = .ok (.iload_n 1, 1) := by decide +kernel
theorem dX4_look_29 : decode cX4_look 29 = .ok (.laload, 1) := by decide +kernel
theorem dX4_look_30 : decode cX4_look 30 = .ok (.goto 6, 3) := by decide +kernel
theorem dX4_look_33 : decode cX4_look 33 = .ok (.ldc2_w 38, 3) := by decide +kernel
theorem dX4_look_36 : decode cX4_look 36 = .ok (.lreturn, 1) := by decide +kernel
theorem dX4_countFilled_0 : decode cX4_countFilled 0 = .ok (.iconst 0, 1) := by decide +kernel
theorem dX4_countFilled_1 : decode cX4_countFilled 1 = .ok (.istore_n 1, 1) := by decide +kernel
theorem dX4_countFilled_2 : decode cX4_countFilled 2 = .ok (.iconst 0, 1) := by decide +kernel
theorem dX4_countFilled_3 : decode cX4_countFilled 3 = .ok (.istore_n 2, 1) := by decide +kernel
theorem dX4_countFilled_4 : decode cX4_countFilled 4 = .ok (.iload_n 2, 1) := by decide +kernel
theorem dX4_countFilled_5 : decode cX4_countFilled 5 = .ok (.bipush 6, 2) := by decide +kernel
theorem dX4_countFilled_7 : decode cX4_countFilled 7 = .ok (.if_icmp .ge 21, 3) := by decide +kernel
theorem dX4_countFilled_10 : decode cX4_countFilled 10 = .ok (.aload_n 0, 1) := by decide +kernel
theorem dX4_countFilled_11 : decode cX4_countFilled 11 = .ok (.getfield 15, 3) := by decide +kernel
theorem dX4_countFilled_14 : decode cX4_countFilled 14 = .ok (.iload_n 2, 1) := by decide +kernel
theorem dX4_countFilled_15 : decode cX4_countFilled 15 = .ok (.baload, 1) := by decide +kernel
theorem dX4_countFilled_16 : decode cX4_countFilled 16 = .ok (.ifCond .eq 6, 3) := by decide +kernel
theorem dX4_countFilled_19 : decode cX4_countFilled 19 = .ok (.iinc 1 1, 3) := by decide +kernel
theorem dX4_countFilled_22 : decode cX4_countFilled 22 = .ok (.iinc 2 1, 3) := by decide +kernel
theorem dX4_countFilled_25 : decode cX4_countFilled 25 = .ok (.goto (-21), 3) := by decide +kernel
theorem dX4_countFilled_28 : decode cX4_countFilled 28 = .ok (.iload_n 1, 1) := by decide +kernel
theorem dX4_countFilled_29 : decode cX4_countFilled 29 = .ok (.ireturn, 1) := by decide +kernel
theorem dX4_has_0 : decode cX4_has 0 = .ok (.iload_n 1, 1) := by decide +kernel
theorem dX4_has_1 : decode cX4_has 1 = .ok (.ifCond .lt 21, 3) := by decide +kernel
theorem dX4_has_4 : decode cX4_has 4 = .ok (.iload_n 1, 1) := by decide +kernel
theorem dX4_has_5 : decode cX4_has 5 = .ok (.aload_n 0, 1) := by decide +kernel
theorem dX4_has_6 : decode cX4_has 6 = .ok (.getfield 27, 3) := by decide +kernel
theorem dX4_has_9 : decode cX4_has 9 = .ok (.if_icmp .ge 13, 3) := by decide +kernel
theorem dX4_has_12 : decode cX4_has 12 = .ok (.iload_n 1, 1) := by decide +kernel
theorem dX4_has_13 : decode cX4_has 13 = .ok (.bipush 6, 2) := by decide +kernel
theorem dX4_has_15 : decode cX4_has 15 = .ok (.if_icmp .ge 7, 3) := by decide +kernel
theorem dX4_has_18 : decode cX4_has 18 = .ok (.iconst 1, 1) := by decide +kernel
theorem dX4_has_19 : decode cX4_has 19 = .ok (.goto 4, 3) := by decide +kernel
theorem dX4_has_22 : decode cX4_has 22 = .ok (.iconst 0, 1) := by decide +kernel
theorem dX4_has_23 : decode cX4_has 23 = .ok (.ireturn, 1) := by decide +kernel
theorem dX4_takes_0 : decode cX4_takes 0 = .ok (.aload_n 0, 1) := by decide +kernel
theorem dX4_takes_1 : decode cX4_takes 1 = .ok (.getfield 23, 3) := by decide +kernel
theorem dX4_takes_4 : decode cX4_takes 4 = .ok (.tableswitch 64 0 2 #[28, 40, 52], 28) := by decide +kernel
theorem dX4_takes_32 : decode cX4_takes 32 = .ok (.lload_n 1, 1) := by decide +kernel
theorem dX4_takes_33 : decode cX4_takes 33 = .ok (.lconst 0, 1) := by decide +kernel
theorem dX4_takes_34 : decode cX4_takes 34 = .ok (.lcmp, 1) := by decide +kernel
theorem dX4_takes_35 : decode cX4_takes 35 = .ok (.ifCond .le 7, 3) := by decide +kernel
theorem dX4_takes_38 : decode cX4_takes 38 = .ok (.iconst 1, 1) := by decide +kernel
theorem dX4_takes_39 : decode cX4_takes 39 = .ok (.goto 4, 3) := by decide +kernel
theorem dX4_takes_42 : decode cX4_takes 42 = .ok (.iconst 0, 1) := by decide +kernel
theorem dX4_takes_43 : decode cX4_takes 43 = .ok (.ireturn, 1) := by decide +kernel
theorem dX4_takes_44 : decode cX4_takes 44 = .ok (.lload_n 1, 1) := by decide +kernel
theorem dX4_takes_45 : decode cX4_takes 45 = .ok (.lconst 0, 1) := by decide +kernel
theorem dX4_takes_46 : decode cX4_takes 46 = .ok (.lcmp, 1) := by decide +kernel
theorem dX4_takes_47 : decode cX4_takes 47 = .ok (.ifCond .ge 7, 3) := by decide +kernel
theorem dX4_takes_50 : decode cX4_takes 50 = .ok (.iconst 1, 1) := by decide +kernel
theorem dX4_takes_51 : decode cX4_takes 51 = .ok (.goto 4, 3) := by decide +kernel
theorem dX4_takes_54 : decode cX4_takes 54 = .ok (.iconst 0, 1) := by decide +kernel
theorem dX4_takes_55 : decode cX4_takes 55 = .ok (.ireturn, 1) := by decide +kernel
theorem dX4_takes_56 : decode cX4_takes 56 = .ok (.lload_n 1, 1) := by decide +kernel
theorem dX4_takes_57 : decode cX4_takes 57 = .ok (.lconst 0, 1) := by decide +kernel
theorem dX4_takes_58 : decode cX4_takes 58 = .ok (.lcmp, 1) := by decide +kernel
theorem dX4_takes_59 : decode cX4_takes 59 = .ok (.ifCond .ne 7, 3) := by decide +kernel
theorem dX4_takes_62 : decode cX4_takes 62 = .ok (.iconst 1, 1) := by decide +kernel
theorem dX4_takes_63 : decode cX4_takes 63 = .ok (.goto 4, 3) := by decide +kernel
theorem dX4_takes_66 : decode cX4_takes 66 = .ok (.iconst 0, 1) := by decide +kernel
theorem dX4_takes_67 : decode cX4_takes 67 = .ok (.ireturn, 1) := by decide +kernel
theorem dX4_takes_68 : decode cX4_takes 68 = .ok (.iconst 1, 1) := by decide +kernel
theorem dX4_takes_69 : decode cX4_takes 69 = .ok (.ireturn, 1) := by decide +kernel
theorem dX5_init_0 : decode cX5_init 0 = .ok (.aload_n 0, 1) := by decide +kernel
theorem dX5_init_1 : decode cX5_init 1 = .ok (.invokespecial 3, 3) := by decide +kernel
theorem dX5_init_4 : decode cX5_init 4 = .ok (.aload_n 0, 1) := by decide +kernel
theorem dX5_init_5 : decode cX5_init 5 = .ok (.iconst 4, 1) := by decide +kernel
theorem dX5_init_6 : decode cX5_init 6 = .ok (.iconst 4, 1) := by decide +kernel
theorem dX5_init_7 : decode cX5_init 7 = .ok (.multianewarray 9 2, 4) := by decide +kernel
theorem dX5_init_11 : decode cX5_init 11 = .ok (.putfield 11, 3) := by decide +kernel
theorem dX5_init_14 : decode cX5_init 14 = .ok (.return_, 1) := by decide +kernel
set_option maxRecDepth 20000 in
theorem ggX5_read_X5_beRoot : GoodIn wsX5_read wsX5_beRoot := goodIn_r _ [6, 7, 16] (by decide +kernel) (by decide +kernel)
set_option maxRecDepth 20000 in
theorem gX5_read_X5_beRoot : GoodIn wsX5_read (wsV RX5 17 RX5 yX5_beRoot wsX5_beRoot) := goodIn_app (goodIn_of _ (by decide +kernel)) ggX5_read_X5_beRoot
set_option maxRecDepth 20000 in
theorem ggX5_read_X8_isPlace : GoodIn wsX5_read wsX8_isPlace := goodIn_r _ [10] (by decide +kernel) (by decide +kernel)
set_option maxRecDepth 20000 in
theorem gX5_read_X8_isPlace_n20 : GoodIn wsX5_read (wsX8_isPlace) := ggX5_read_X8_isPlace
set_option maxRecDepth 20000 in
theorem ggX5_read_X5_putOver : GoodIn wsX5_read wsX5_putOver := goodIn_r _ [14, 7, 15, 16] (by decide +kernel) (by decide +kernel)
set_option maxRecDepth 20000 in
theorem gX5_read_X5_putOver : GoodIn wsX5_read (wsV RX5 24 RX5 yX5_putOver wsX5_putOver) := goodIn_app (goodIn_of _ (by decide +kernel)) ggX5_read_X5_putOver
theorem dX5_read_0 : decode cX5_read 0 = .ok (.iload_n 1, 1) := by decide +kernel
theorem dX5_read_1 : decode cX5_read 1 = .ok (.ifCond .lt 12, 3) := by decide +kernel
theorem dX5_read_4 : decode cX5_read 4 = .ok (.iload_n 1, 1) := by decide +kernel
theorem dX5_read_5 : decode cX5_read 5 = .ok (.ldc 16, 2) := by decide +kernel
theorem dX5_read_7 : decode cX5_read 7 = .ok (.idiv, 1) := by decide +kernel
theorem dX5_read_8 : decode cX5_read 8 = .ok (.bipush 9, 2) := by decide +kernel
theorem dX5_read_10 : decode cX5_read 10 = .ok (.if_icmp .le 5, 3) := by decide +kernel
theorem dX5_read_13 : decode cX5_read 13 = .ok (.iconst 0, 1) := by decide +kernel
theorem dX5_read_14 : decode cX5_read 14 = .ok (.ireturn, 1) := by decide +kernel
theorem dX5_read_15 : decode cX5_read 15 = .ok (.aload_n 0, 1) := by decide +kernel
theorem dX5_read_16 : decode cX5_read 16 = .ok (.invokevirtual 17, 3) := by decide +kernel
theorem dX5_read_19 : decode cX5_read 19 = .ok (.iconst 0, 1) := by decide +kernel
theorem dX5_read_20 : decode cX5_read 20 = .ok (.istore_n 2, 1) := by decide +kernel
theorem dX5_read_21 : decode cX5_read 21 = .ok (.ldc 16, 2) := by decide +kernel
theorem dX5_read_23 : decode cX5_read 23 = .ok (.istore_n 3, 1) := by decide +kernel
theorem dX5_read_24 : decode cX5_read 24 = .ok (.iload_n 3, 1) := by decide +kernel
theorem dX5_read_25 : decode cX5_read 25 = .ok (.ifCond .le 72, 3) := by decide +kernel
theorem dX5_read_28 : decode cX5_read 28 = .ok (.iload_n 1, 1) := by decide +kernel
theorem dX5_read_29 : decode cX5_read 29 = .ok (.iload_n 3, 1) := by decide +kernel
theorem dX5_read_30 : decode cX5_read 30 = .ok (.idiv, 1) := by decide +kernel
theorem dX5_read_31 : decode cX5_read 31 = .ok (.bipush 10, 2) := by decide +kernel
theorem dX5_read_33 : decode cX5_read 33 = .ok (.irem, 1) := by decide +kernel
theorem dX5_read_34 : decode cX5_read 34 = .ok (.istore 4, 2) := by decide +kernel
theorem dX5_read_36 : decode cX5_read 36 = .ok (.iload_n 2, 1) := by decide +kernel
theorem dX5_read_37 : decode cX5_read 37 = .ok (.ifCond .ne 8, 3) := by decide +kernel
theorem dX5_read_40 : decode cX5_read 40 = .ok (.iload 4, 2) := by decide +kernel
theorem dX5_read_42 : decode cX5_read 42 = .ok (.ifCond .eq 7, 3) := by decide +kernel
theorem dX5_read_45 : decode cX5_read 45 = .ok (.iconst 1, 1) := by decide +kernel
theorem dX5_read_46 : decode cX5_read 46 = .ok (.goto 4, 3) := by decide +kernel
theorem dX5_read_49 : decode cX5_read 49 = .ok (.iconst 0, 1) := by decide +kernel
theorem dX5_read_50 : decode cX5_read 50 = .ok (.istore 5, 2) := by decide +kernel
theorem dX5_read_52 : decode cX5_read 52 = .ok (.iload 5, 2) := by decide +kernel
theorem dX5_read_54 : decode cX5_read 54 = .ok (.ifCond .eq 19, 3) := by decide +kernel
theorem dX5_read_57 : decode cX5_read 57 = .ok (.iload 4, 2) := by decide +kernel
theorem dX5_read_59 : decode cX5_read 59 = .ok (.invokestatic 20, 3) := by decide +kernel
theorem dX5_read_62 : decode cX5_read 62 = .ok (.ifCond .eq 9, 3) := by decide +kernel
theorem dX5_read_65 : decode cX5_read 65 = .ok (.iload 4, 2) := by decide +kernel
theorem dX5_read_67 : decode cX5_read 67 = .ok (.iload_n 2, 1) := by decide +kernel
theorem dX5_read_68 : decode cX5_read 68 = .ok (.if_icmp .ne 5, 3) := by decide +kernel
theorem dX5_read_71 : decode cX5_read 71 = .ok (.iconst 0, 1) := by decide +kernel
theorem dX5_read_72 : decode cX5_read 72 = .ok (.ireturn, 1) := by decide +kernel
theorem dX5_read_73 : decode cX5_read 73 = .ok (.iload 5, 2) := by decide +kernel
theorem dX5_read_75 : decode cX5_read 75 = .ok (.ifCond .eq 14, 3) := by decide +kernel
theorem dX5_read_78 : decode cX5_read 78 = .ok (.aload_n 0, 1) := by decide +kernel
theorem dX5_read_79 : decode cX5_read 79 = .ok (.iload 4, 2) := by decide +kernel
theorem dX5_read_81 : decode cX5_read 81 = .ok (.iconst 1, 1) := by decide +kernel
theorem dX5_read_82 : decode cX5_read 82 = .ok (.isub, 1) := by decide +kernel
theorem dX5_read_83 : decode cX5_read 83 = .ok (.invokevirtual 24, 3) := by decide +kernel
theorem dX5_read_86 : decode cX5_read 86 = .ok (.iload 4, 2) := by decide +kernel
theorem dX5_read_88 : decode cX5_read 88 = .ok (.istore_n 2, 1) := by decide +kernel
theorem dX5_read_89 : decode cX5_read 89 = .ok (.iload_n 3, 1) := by decide +kernel
theorem dX5_read_90 : decode cX5_read 90 = .ok (.bipush 10, 2) := by decide +kernel
theorem dX5_read_92 : decode cX5_read 92 = .ok (.idiv, 1) := by decide +kernel
theorem dX5_read_93 : decode cX5_read 93 = .ok (.istore_n 3, 1) := by decide +kernel
theorem dX5_read_94 : decode cX5_read 94 = .ok (.goto (-70), 3) := by decide +kernel
theorem dX5_read_97 : decode cX5_read 97 = .ok (.iconst 1, 1) := by decide +kernel
theorem dX5_read_98 : decode cX5_read 98 = .ok (.ireturn, 1) := by decide +kernel
theorem dX5_weigh_0 : decode cX5_weigh 0 = .ok (.lconst 0, 1) := by decide +kernel
theorem dX5_weigh_1 : decode cX5_weigh 1 = .ok (.lstore_n 3, 1) := by decide +kernel
theorem dX5_weigh_2 : decode cX5_weigh 2 = .ok (.iconst 0, 1) := by decide +kernel
theorem dX5_weigh_3 : decode cX5_weigh 3 = .ok (.istore 5, 2) := by decide +kernel
theorem dX5_weigh_5 : decode cX5_weigh 5 = .ok (.iload 5, 2) := by decide +kernel
theorem dX5_weigh_7 : decode cX5_weigh 7 = .ok (.iconst 4, 1) := by decide +kernel
theorem dX5_weigh_8 : decode cX5_weigh 8 = .ok (.if_icmp .ge 26, 3) := by decide +kernel
theorem dX5_weigh_11 : decode cX5_weigh 11 = .ok (.lload_n 3, 1) := by decide +kernel
theorem dX5_weigh_12 : decode cX5_weigh 12 = .ok (.aload_n 0, 1) := by decide +kernel
theorem dX5_weigh_13 : decode cX5_weigh 13 = .ok (.getfield 11, 3) := by decide +kernel
theorem dX5_weigh_16 : decode cX5_weigh 16 = .ok (.iload_n 1, 1) := by decide +kernel
theorem dX5_weigh_17 : decode cX5_weigh 17 = .ok (.aaload, 1) := by decide +kernel
theorem dX5_weigh_18 : decode cX5_weigh 18 = .ok (.iload 5, 2) := by decide +kernel
theorem dX5_weigh_20 : decode cX5_weigh 20 = .ok (.laload, 1) := by decide +kernel
theorem dX5_weigh_21 : decode cX5_weigh 21 = .ok (.aload_n 2, 1) := by decide +kernel
theorem dX5_weigh_22 : decode cX5_weigh 22 = .ok (.iload 5, 2) := by decide +kernel
theorem dX5_weigh_24 : decode cX5_weigh 24 = .ok (.laload, 1) := by decide +kernel
theorem dX5_weigh_25 : decode cX5_weigh 25 = .ok (.lmul, 1) := by decide +kernel
theorem dX5_weigh_26 : decode cX5_weigh 26 = .ok (.ladd, 1) := by decide +kernel
theorem dX5_weigh_27 : decode cX5_weigh 27 = .ok (.lstore_n 3, 1) := by decide +kernel
theorem dX5_weigh_28 : decode cX5_weigh 28 = .ok (.iinc 5 1, 3) := by decide +kernel
theorem dX5_weigh_31 : decode cX5_weigh 31 = .ok (.goto (-26), 3) := by decide +kernel
theorem dX5_weigh_34 : decode cX5_weigh 34 = .ok (.lload_n 3, 1) := by decide +kernel
theorem dX5_weigh_35 : decode cX5_weigh 35 = .ok (.lreturn, 1) := by decide +kernel
theorem dX5_beRoot_0 : decode cX5_beRoot 0 = .ok (.iconst 0, 1) := by decide +kernel
theorem dX5_beRoot_1 : decode cX5_beRoot 1 = .ok (.istore_n 1, 1) := by decide +kernel
theorem dX5_beRoot_2 : decode cX5_beRoot 2 = .ok (.iload_n 1, 1) := by decide +kernel
theorem dX5_beRoot_3 : decode cX5_beRoot 3 = .ok (.iconst 4, 1) := by decide +kernel
theorem dX5_beRoot_4 : decode cX5_beRoot 4 = .ok (.if_icmp .ge 40, 3) := by decide +kernel
theorem dX5_beRoot_7 : decode cX5_beRoot 7 = .ok (.iconst 0, 1) := by decide +kernel
theorem dX5_beRoot_8 : decode cX5_beRoot 8 = .ok (.istore_n 2, 1) := by decide +kernel
theorem dX5_beRoot_9 : decode cX5_beRoot 9 = .ok (.iload_n 2, 1) := by decide +kernel
theorem dX5_beRoot_10 : decode cX5_beRoot 10 = .ok (.iconst 4, 1) := by decide +kernel
theorem dX5_beRoot_11 : decode cX5_beRoot 11 = .ok (.if_icmp .ge 27, 3) := by decide +kernel
theorem dX5_beRoot_14 : decode cX5_beRoot 14 = .ok (.aload_n 0, 1) := by decide +kernel
theorem dX5_beRoot_15 : decode cX5_beRoot 15 = .ok (.getfield 11, 3) := by decide +kernel
theorem dX5_beRoot_18 : decode cX5_beRoot 18 = .ok (.iload_n 1, 1) := by decide +kernel
theorem dX5_beRoot_19 : decode cX5_beRoot 19 = .ok (.aaload, 1) := by decide +kernel
theorem dX5_beRoot_20 : decode cX5_beRoot 20 = .ok (.iload_n 2, 1) := by decide +kernel
theorem dX5_beRoot_21 : decode cX5_beRoot 21 = .ok (.iload_n 1, 1) := by decide +kernel
theorem dX5_beRoot_22 : decode cX5_beRoot 22 = .ok (.iload_n 2, 1) := by decide +kernel
theorem dX5_beRoot_23 : decode cX5_beRoot 23 = .ok (.if_icmp .ne 7, 3) := by decide +kernel
theorem dX5_beRoot_26 : decode cX5_beRoot 26 = .ok (.lconst 1, 1) := by decide +kernel
theorem dX5_beRoot_27 : decode cX5_beRoot 27 = .ok (.goto 4, 3) := by decide +kernel
theorem dX5_beRoot_30 : decode cX5_beRoot 30 = .ok (.lconst 0, 1) := by decide +kernel
theorem dX5_beRoot_31 : decode cX5_beRoot 31 = .ok (.lastore, 1) := by decide +kernel
theorem dX5_beRoot_32 : decode cX5_beRoot 32 = .ok (.iinc 2 1, 3) := by decide +kernel
theorem dX5_beRoot_35 : decode cX5_beRoot 35 = .ok (.goto (-26), 3) := by decide +kernel
theorem dX5_beRoot_38 : decode cX5_beRoot 38 = .ok (.iinc 1 1, 3) := by decide +kernel
theorem dX5_beRoot_41 : decode cX5_beRoot 41 = .ok (.goto (-39), 3) := by decide +kernel
theorem dX5_beRoot_44 : decode cX5_beRoot 44 = .ok (.return_, 1) := by decide +kernel
theorem dX5_putOver_0 : decode cX5_putOver 0 = .ok (.iconst 0, 1) := by decide +kernel
theorem dX5_putOver_1 : decode cX5_putOver 1 = .ok (.istore_n 2, 1) := by decide +kernel
theorem dX5_putOver_2 : decode cX5_putOver 2 = .ok (.iload_n 2, 1) := by decide +kernel
theorem dX5_putOver_3 : decode cX5_putOver 3 = .ok (.iconst 4, 1) := by decide +kernel
theorem dX5_putOver_4 : decode cX5_putOver 4 = .ok (.if_icmp .ge 76, 3) := by decide +kernel
theorem dX5_putOver_7 : decode cX5_putOver 7 = .ok (.aload_n 0, 1) := by decide +kernel
theorem dX5_putOver_8 : decode cX5_putOver 8 = .ok (.getfield 11, 3) := by decide +kernel
theorem dX5_putOver_11 : decode cX5_putOver 11 = .ok (.iconst 0, 1) := by decide +kernel
theorem dX5_putOver_12 : decode cX5_putOver 12 = .ok (.aaload, 1) := by decide +kernel
theorem dX5_putOver_13 : decode cX5_putOver 13 = .ok (.iload_n 2, 1) := by decide +kernel
theorem dX5_putOver_14 : decode cX5_putOver 14 = .ok (.laload, 1) := by decide +kernel
theorem dX5_putOver_15 : decode cX5_putOver 15 = .ok (.aload_n 0, 1) := by decide +kernel
theorem dX5_putOver_16 : decode cX5_putOver 16 = .ok (.getfield 11, 3) := by decide +kernel
theorem dX5_putOver_19 : decode cX5_putOver 19 = .ok (.iconst 1, 1) := by decide +kernel
theorem dX5_putOver_20 : decode cX5_putOver 20 = .ok (.aaload, 1) := by decide +kernel
theorem dX5_putOver_21 : decode cX5_putOver 21 = .ok (.iload_n 2, 1) := by decide +kernel
theorem dX5_putOver_22 : decode cX5_putOver 22 = .ok (.laload, 1) := by decide +kernel
theorem dX5_putOver_23 : decode cX5_putOver 23 = .ok (.ladd, 1) := by decide +kernel
theorem dX5_putOver_24 : decode cX5_putOver 24 = .ok (.aload_n 0, 1) := by decide +kernel
theorem dX5_putOver_25 : decode cX5_putOver 25 = .ok (.getfield 11, 3) := by decide +kernel
theorem dX5_putOver_28 : decode cX5_putOver 28 = .ok (.iconst 2, 1) := by decide +kernel
theorem dX5_putOver_29 : decode cX5_putOver 29 = .ok (.aaload, 1) := by decide +kernel
theorem dX5_putOver_30 : decode cX5_putOver 30 = .ok (.iload_n 2, 1) := by decide +kernel
theorem dX5_putOver_31 : decode cX5_putOver 31 = .ok (.laload, 1) := by decide +kernel
theorem dX5_putOver_32 : decode cX5_putOver 32 = .ok (.ladd, 1) := by decide +kernel
theorem dX5_putOver_33 : decode cX5_putOver 33 = .ok (.aload_n 0, 1) := by decide +kernel
theorem dX5_putOver_34 : decode cX5_putOver 34 = .ok (.getfield 11, 3) := by decide +kernel
theorem dX5_putOver_37 : decode cX5_putOver 37 = .ok (.iconst 3, 1) := by decide +kernel
theorem dX5_putOver_38 : decode cX5_putOver 38 = .ok (.aaload, 1) := by decide +kernel
theorem dX5_putOver_39 : decode cX5_putOver 39 = .ok (.iload_n 2, 1) := by decide +kernel
theorem dX5_putOver_40 : decode cX5_putOver 40 = .ok (.laload, 1) := by decide +kernel
theorem dX5_putOver_41 : decode cX5_putOver 41 = .ok (.ladd, 1) := by decide +kernel
theorem dX5_putOver_42 : decode cX5_putOver 42 = .ok (.lstore_n 3, 1) := by decide +kernel
theorem dX5_putOver_43 : decode cX5_putOver 43 = .ok (.aload_n 0, 1) := by decide +kernel
theorem dX5_putOver_44 : decode cX5_putOver 44 = .ok (.getfield 11, 3) := by decide +kernel
theorem dX5_putOver_47 : decode cX5_putOver 47 = .ok (.iload_n 1, 1) := by decide +kernel
theorem dX5_putOver_48 : decode cX5_putOver 48 = .ok (.aaload, 1) := by decide +kernel
theorem dX5_putOver_49 : decode cX5_putOver 49 = .ok (.iload_n 2, 1) := by decide +kernel
theorem dX5_putOver_50 : decode cX5_putOver 50 = .ok (.ldc2_w 28, 3) := by decide +kernel
theorem dX5_putOver_53 : decode cX5_putOver 53 = .ok (.lload_n 3, 1) := by decide +kernel
theorem dX5_putOver_54 : decode cX5_putOver 54 = .ok (.aload_n 0, 1) := by decide +kernel
theorem dX5_putOver_55 : decode cX5_putOver 55 = .ok (.getfield 11, 3) := by decide +kernel
theorem dX5_putOver_58 : decode cX5_putOver 58 = .ok (.iload_n 1, 1) := by decide +kernel
theorem dX5_putOver_59 : decode cX5_putOver 59 = .ok (.aaload, 1) := by decide +kernel
theorem dX5_putOver_60 : decode cX5_putOver 60 = .ok (.iload_n 2, 1) := by decide +kernel
theorem dX5_putOver_61 : decode cX5_putOver 61 = .ok (.laload, 1) := by decide +kernel
theorem dX5_putOver_62 : decode cX5_putOver 62 = .ok (.lsub, 1) := by decide +kernel
theorem dX5_putOver_63 : decode cX5_putOver 63 = .ok (.lmul, 1) := by decide +kernel
theorem dX5_putOver_64 : decode cX5_putOver 64 = .ok (.aload_n 0, 1) := by decide +kernel
theorem dX5_putOver_65 : decode cX5_putOver 65 = .ok (.getfield 11, 3) := by decide +kernel
theorem dX5_putOver_68 : decode cX5_putOver 68 = .ok (.iload_n 1, 1) := by decide +kernel
theorem dX5_putOver_69 : decode cX5_putOver 69 = .ok (.aaload, 1) := by decide +kernel
theorem dX5_putOver_70 : decode cX5_putOver 70 = .ok (.iload_n 2, 1) := by decide +kernel
theorem dX5_putOver_71 : decode cX5_putOver 71 = .ok (.laload, 1) := by decide +kernel
theorem dX5_putOver_72 : decode cX5_putOver 72 = .ok (.lsub, 1) := by decide +kernel
theorem dX5_putOver_73 : decode cX5_putOver 73 = .ok (.lastore, 1) := by decide +kernel
theorem dX5_putOver_74 : decode cX5_putOver 74 = .ok (.iinc 2 1, 3) := by decide +kernel
theorem dX5_putOver_77 : decode cX5_putOver 77 = .ok (.goto (-75), 3) := by decide +kernel
theorem dX5_putOver_80 : decode cX5_putOver 80 = .ok (.return_, 1) := by decide +kernel
theorem dX6_init_0 : decode cX6_init 0 = .ok (.aload_n 0, 1) := by decide +kernel
theorem dX6_init_1 : decode cX6_init 1 = .ok (.invokespecial 3, 3) := by decide +kernel
theorem dX6_init_4 : decode cX6_init 4 = .ok (.aload_n 0, 1) := by decide +kernel
theorem dX6_init_5 : decode cX6_init 5 = .ok (.sipush 5001, 3) := by decide +kernel
theorem dX6_init_8 : decode cX6_init 8 = .ok (.newarray .int, 2) := by decide +kernel
theorem dX6_init_10 : decode cX6_init 10 = .ok (.putfield 9, 3) := by decide +kernel
theorem dX6_init_13 : decode cX6_init 13 = .ok (.aload_n 0, 1) := by decide +kernel
theorem dX6_init_14 : decode cX6_init 14 = .ok (.iconst (-1), 1) := by decide +kernel
theorem dX6_init_15 : decode cX6_init 15 = .ok (.putfield 15, 3) := by decide +kernel
theorem dX6_init_18 : decode cX6_init 18 = .ok (.return_, 1) := by decide +kernel
theorem dX6_forget_0 : decode cX6_forget 0 = .ok (.aload_n 0, 1) := by decide +kernel
theorem dX6_forget_1 : decode cX6_forget 1 = .ok (.iconst (-1), 1) := by decide +kernel
theorem dX6_forget_2 : decode cX6_forget 2 = .ok (.putfield 15, 3) := by decide +kernel
theorem dX6_forget_5 : decode cX6_forget 5 = .ok (.return_, 1) := by decide +kernel
set_option maxRecDepth 20000 in
theorem ggX6_reachTo_X6_count : GoodIn wsX6_reachTo wsX6_count := goodIn_r _ [15, 1, 9, 16, 17, 4, 18, 59, 60] (by decide +kernel) (by decide +kernel)
set_option maxRecDepth 20000 in
theorem gX6_reachTo_X6_count : GoodIn wsX6_reachTo (wsV RX6 28 RX6 yX6_count wsX6_count) := goodIn_app (goodIn_of _ (by decide +kernel)) ggX6_reachTo_X6_count
set_option maxRecDepth 20000 in
theorem ggX6_reachTo_X7_start : GoodIn wsX6_reachTo wsX7_start := goodIn_r _ [23, 24, 25, 26, 27, 28, 61, 62, 63] (by decide +kernel) (by decide +kernel)
set_option maxRecDepth 20000 in
theorem gX6_reachTo_X7_start : GoodIn wsX6_reachTo (wsV RX6 32 RX7 yX7_start wsX7_start) := goodIn_app (goodIn_of _ (by decide +kernel)) ggX6_reachTo_X7_start
set_option maxRecDepth 20000 in
theorem ggX6_reachTo_X7_advance : GoodIn wsX6_reachTo wsX7_advance := goodIn_r _ [32, 33, 25, 34, 35, 36, 22, 37, 38, 24, 39, 27, 40, 41, 42, 43, 44, 45, 46, 47, 48, 49, 50, 51, 52, 53, 61, 62, 63] (by decide +kernel) (by decide +kernel)
set_option maxRecDepth 20000 in
theorem gX6_reachTo_X7_advance : GoodIn wsX6_reachTo (wsV RX6 39 RX7 yX7_advance wsX7_advance) := goodIn_app (goodIn_of _ (by decide +kernel)) ggX6_reachTo_X7_advance
set_option maxRecDepth 20000 in
theorem ggX6_reachTo_X7_found : GoodIn wsX6_reachTo wsX7_found := goodIn_r _ [57, 25, 24, 38, 58, 61, 62, 63] (by decide +kernel) (by decide +kernel)
set_option maxRecDepth 20000 in
theorem gX6_reachTo_X7_found : GoodIn wsX6_reachTo (wsV RX6 43 RX7 yX7_found wsX7_found) := goodIn_app (goodIn_of _ (by decide +kernel)) ggX6_reachTo_X7_found
theorem dX6_reachTo_0 : decode cX6_reachTo 0 = .ok (.iload_n 1, 1) := by decide +kernel
theorem dX6_reachTo_1 : decode cX6_reachTo 1 = .ok (.aload_n 0, 1) := by decide +kernel
theorem dX6_reachTo_2 : decode cX6_reachTo 2 = .ok (.getfield 15, 3) := by decide +kernel
theorem dX6_reachTo_5 : decode cX6_reachTo 5 = .ok (.if_icmp .gt 4, 3) := by decide +kernel
theorem dX6_reachTo_8 : decode cX6_reachTo 8 = .ok (.return_, 1) := by decide +kernel
theorem dX6_reachTo_9 : decode cX6_reachTo 9 = .ok (.aload_n 0, 1) := by decide +kernel
theorem dX6_reachTo_10 : decode cX6_reachTo 10 = .ok (.sipush 5000, 3) := by decide +kernel
theorem dX6_reachTo_13 : decode cX6_reachTo 13 = .ok (.iload_n 1, 1) := by decide +kernel
theorem dX6_reachTo_14 : decode cX6_reachTo 14 = .ok (.iconst 2, 1) := by decide +kernel
theorem dX6_reachTo_15 : decode cX6_reachTo 15 = .ok (.aload_n 0, 1) := by decide +kernel
theorem dX6_reachTo_16 : decode cX6_reachTo 16 = .ok (.getfield 15, 3) := by decide +kernel
theorem dX6_reachTo_19 : decode cX6_reachTo 19 = .ok (.imul, 1) := by decide +kernel
theorem dX6_reachTo_20 : decode cX6_reachTo 20 = .ok (.invokestatic 19, 3) := by decide +kernel
theorem dX6_reachTo_23 : decode cX6_reachTo 23 = .ok (.invokestatic 25, 3) := by decide +kernel
theorem dX6_reachTo_26 : decode cX6_reachTo 26 = .ok (.putfield 15, 3) := by decide +kernel
theorem dX6_reachTo_29 : decode cX6_reachTo 29 = .ok (.iconst 0, 1) := by decide +kernel
theorem dX6_reachTo_30 : decode cX6_reachTo 30 = .ok (.istore 4, 2) := by decide +kernel
theorem dX6_reachTo_32 : decode cX6_reachTo 32 = .ok (.iload 4, 2) := by decide +kernel
theorem dX6_reachTo_34 : decode cX6_reachTo 34 = .ok (.aload_n 0, 1) := by decide +kernel
theorem dX6_reachTo_35 : decode cX6_reachTo 35 = .ok (.getfield 15, 3) := by decide +kernel
theorem dX6_reachTo_38 : decode cX6_reachTo 38 = .ok (.if_icmp .gt 17, 3) := by decide +kernel
theorem dX6_reachTo_41 : decode cX6_reachTo 41 = .ok (.aload_n 0, 1) := by decide +kernel
theorem dX6_reachTo_42 : decode cX6_reachTo 42 = .ok (.getfield 9, 3) := by decide +kernel
theorem dX6_reachTo_45 : decode cX6_reachTo 45 = .ok (.iload 4, 2) := by decide +kernel
theorem dX6_reachTo_47 : decode cX6_reachTo 47 = .ok (.iconst 0, 1) := by decide +kernel
theorem dX6_reachTo_48 : decode cX6_reachTo 48 = .ok (.iastore, 1) := by decide +kernel
theorem dX6_reachTo_49 : decode cX6_reachTo 49 = .ok (.iinc 4 1, 3) := by decide +kernel
theorem dX6_reachTo_52 : decode cX6_reachTo 52 = .ok (.goto (-20), 3) := by decide +kernel
theorem dX6_reachTo_55 : decode cX6_reachTo 55 = .ok (.iconst 0, 1) := by decide +kernel
theorem dX6_reachTo_56 : decode cX6_reachTo 56 = .ok (.istore 4, 2) := by decide +kernel
theorem dX6_reachTo_58 : decode cX6_reachTo 58 = .ok (.iload 4, 2) := by decide +kernel
theorem dX6_reachTo_60 : decode cX6_reachTo 60 = .ok (.iconst 4, 1) := by decide +kernel
theorem dX6_reachTo_61 : decode cX6_reachTo 61 = .ok (.if_icmp .ge 17, 3) := by decide +kernel
theorem dX6_reachTo_64 : decode cX6_reachTo 64 = .ok (.aload_n 0, 1) := by decide +kernel
theorem dX6_reachTo_65 : decode cX6_reachTo 65 = .ok (.aload_n 2, 1) := by decide +kernel
theorem dX6_reachTo_66 : decode cX6_reachTo 66 = .ok (.iload 4, 2) := by decide +kernel
theorem dX6_reachTo_68 : decode cX6_reachTo 68 = .ok (.laload, 1) := by decide +kernel
theorem dX6_reachTo_69 : decode cX6_reachTo 69 = .ok (.invokevirtual 28, 3) := by decide +kernel
theorem dX6_reachTo_72 : decode cX6_reachTo 72 = .ok (.iinc 4 1, 3) := by decide +kernel
theorem dX6_reachTo_75 : decode cX6_reachTo 75 = .ok (.goto (-17), 3) := by decide +kernel
theorem dX6_reachTo_78 : decode cX6_reachTo 78 = .ok (.aload_n 3, 1) := by decide +kernel
theorem dX6_reachTo_79 : decode cX6_reachTo 79 = .ok (.aload_n 2, 1) := by decide +kernel
theorem dX6_reachTo_80 : decode cX6_reachTo 80 = .ok (.invokevirtual 32, 3) := by decide +kernel
theorem dX6_reachTo_83 : decode cX6_reachTo 83 = .ok (.iconst 0, 1) := by decide +kernel
theorem dX6_reachTo_84 : decode cX6_reachTo 84 = .ok (.istore 4, 2) := by decide +kernel
theorem dX6_reachTo_86 : decode cX6_reachTo 86 = .ok (.iload 4, 2) := by decide +kernel
theorem dX6_reachTo_88 : decode cX6_reachTo 88 = .ok (.ldc 38, 2) := by decide +kernel
theorem dX6_reachTo_90 : decode cX6_reachTo 90 = .ok (.if_icmp .ge 29, 3) := by decide +kernel
theorem dX6_reachTo_93 : decode cX6_reachTo 93 = .ok (.aload_n 3, 1) := by decide +kernel
theorem dX6_reachTo_94 : decode cX6_reachTo 94 = .ok (.aload_n 0, 1) := by decide +kernel
theorem dX6_reachTo_95 : decode cX6_reachTo 95 = .ok (.getfield 15, 3) := by decide +kernel
theorem dX6_reachTo_98 : decode cX6_reachTo 98 = .ok (.i2l, 1) := by decide +kernel
