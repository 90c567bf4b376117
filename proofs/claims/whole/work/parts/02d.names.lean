theorem dX6_reachTo_99 : decode cX6_reachTo 99 = .ok (.invokevirtual 39, 3) := by decide +kernel
theorem dX6_reachTo_102 : decode cX6_reachTo 102 = .ok (.ifCond .eq 17, 3) := by decide +kernel
theorem dX6_reachTo_105 : decode cX6_reachTo 105 = .ok (.aload_n 0, 1) := by decide +kernel
theorem dX6_reachTo_106 : decode cX6_reachTo 106 = .ok (.aload_n 3, 1) := by decide +kernel
theorem dX6_reachTo_107 : decode cX6_reachTo 107 = .ok (.invokevirtual 43, 3) := by decide +kernel
theorem dX6_reachTo_110 : decode cX6_reachTo 110 = .ok (.invokevirtual 28, 3) := by decide +kernel
theorem dX6_reachTo_113 : decode cX6_reachTo 113 = .ok (.iinc 4 1, 3) := by decide +kernel
theorem dX6_reachTo_116 : decode cX6_reachTo 116 = .ok (.goto (-30), 3) := by decide +kernel
theorem dX6_reachTo_119 : decode cX6_reachTo 119 = .ok (.iconst 1, 1) := by decide +kernel
theorem dX6_reachTo_120 : decode cX6_reachTo 120 = .ok (.istore 4, 2) := by decide +kernel
theorem dX6_reachTo_122 : decode cX6_reachTo 122 = .ok (.iload 4, 2) := by decide +kernel
theorem dX6_reachTo_124 : decode cX6_reachTo 124 = .ok (.aload_n 0, 1) := by decide +kernel
theorem dX6_reachTo_125 : decode cX6_reachTo 125 = .ok (.getfield 15, 3) := by decide +kernel
theorem dX6_reachTo_128 : decode cX6_reachTo 128 = .ok (.if_icmp .gt 28, 3) := by decide +kernel
theorem dX6_reachTo_131 : decode cX6_reachTo 131 = .ok (.aload_n 0, 1) := by decide +kernel
theorem dX6_reachTo_132 : decode cX6_reachTo 132 = .ok (.getfield 9, 3) := by decide +kernel
theorem dX6_reachTo_135 : decode cX6_reachTo 135 = .ok (.iload 4, 2) := by decide +kernel
theorem dX6_reachTo_137 : decode cX6_reachTo 137 = .ok (.dup2, 1) := by decide +kernel
theorem dX6_reachTo_138 : decode cX6_reachTo 138 = .ok (.iaload, 1) := by decide +kernel
theorem dX6_reachTo_139 : decode cX6_reachTo 139 = .ok (.aload_n 0, 1) := by decide +kernel
theorem dX6_reachTo_140 : decode cX6_reachTo 140 = .ok (.getfield 9, 3) := by decide +kernel
theorem dX6_reachTo_143 : decode cX6_reachTo 143 = .ok (.iload 4, 2) := by decide +kernel
theorem dX6_reachTo_145 : decode cX6_reachTo 145 = .ok (.iconst 1, 1) := by decide +kernel
theorem dX6_reachTo_146 : decode cX6_reachTo 146 = .ok (.isub, 1) := by decide +kernel
theorem dX6_reachTo_147 : decode cX6_reachTo 147 = .ok (.iaload, 1) := by decide +kernel
theorem dX6_reachTo_148 : decode cX6_reachTo 148 = .ok (.iadd, 1) := by decide +kernel
theorem dX6_reachTo_149 : decode cX6_reachTo 149 = .ok (.iastore, 1) := by decide +kernel
theorem dX6_reachTo_150 : decode cX6_reachTo 150 = .ok (.iinc 4 1, 3) := by decide +kernel
theorem dX6_reachTo_153 : decode cX6_reachTo 153 = .ok (.goto (-31), 3) := by decide +kernel
theorem dX6_reachTo_156 : decode cX6_reachTo 156 = .ok (.return_, 1) := by decide +kernel
theorem dX6_atMost_0 : decode cX6_atMost 0 = .ok (.iload_n 1, 1) := by decide +kernel
theorem dX6_atMost_1 : decode cX6_atMost 1 = .ok (.ifCond .lt 20, 3) := by decide +kernel
theorem dX6_atMost_4 : decode cX6_atMost 4 = .ok (.iload_n 1, 1) := by decide +kernel
theorem dX6_atMost_5 : decode cX6_atMost 5 = .ok (.aload_n 0, 1) := by decide +kernel
theorem dX6_atMost_6 : decode cX6_atMost 6 = .ok (.getfield 15, 3) := by decide +kernel
theorem dX6_atMost_9 : decode cX6_atMost 9 = .ok (.if_icmp .gt 12, 3) := by decide +kernel
theorem dX6_atMost_12 : decode cX6_atMost 12 = .ok (.aload_n 0, 1) := by decide +kernel
theorem dX6_atMost_13 : decode cX6_atMost 13 = .ok (.getfield 9, 3) := by decide +kernel
theorem dX6_atMost_16 : decode cX6_atMost 16 = .ok (.iload_n 1, 1) := by decide +kernel
theorem dX6_atMost_17 : decode cX6_atMost 17 = .ok (.iaload, 1) := by decide +kernel
theorem dX6_atMost_18 : decode cX6_atMost 18 = .ok (.goto 4, 3) := by decide +kernel
theorem dX6_atMost_21 : decode cX6_atMost 21 = .ok (.iconst 0, 1) := by decide +kernel
theorem dX6_atMost_22 : decode cX6_atMost 22 = .ok (.ireturn, 1) := by decide +kernel
theorem dX6_count_0 : decode cX6_count 0 = .ok (.lload_n 1, 1) := by decide +kernel
theorem dX6_count_1 : decode cX6_count 1 = .ok (.aload_n 0, 1) := by decide +kernel
theorem dX6_count_2 : decode cX6_count 2 = .ok (.getfield 15, 3) := by decide +kernel
theorem dX6_count_5 : decode cX6_count 5 = .ok (.i2l, 1) := by decide +kernel
theorem dX6_count_6 : decode cX6_count 6 = .ok (.lcmp, 1) := by decide +kernel
theorem dX6_count_7 : decode cX6_count 7 = .ok (.ifCond .gt 18, 3) := by decide +kernel
theorem dX6_count_10 : decode cX6_count 10 = .ok (.aload_n 0, 1) := by decide +kernel
theorem dX6_count_11 : decode cX6_count 11 = .ok (.getfield 9, 3) := by decide +kernel
theorem dX6_count_14 : decode cX6_count 14 = .ok (.lload_n 1, 1) := by decide +kernel
theorem dX6_count_15 : decode cX6_count 15 = .ok (.lconst 0, 1) := by decide +kernel
theorem dX6_count_16 : decode cX6_count 16 = .ok (.invokestatic 47, 3) := by decide +kernel
theorem dX6_count_19 : decode cX6_count 19 = .ok (.l2i, 1) := by decide +kernel
theorem dX6_count_20 : decode cX6_count 20 = .ok (.dup2, 1) := by decide +kernel
theorem dX6_count_21 : decode cX6_count 21 = .ok (.iaload, 1) := by decide +kernel
theorem dX6_count_22 : decode cX6_count 22 = .ok (.iconst 1, 1) := by decide +kernel
theorem dX6_count_23 : decode cX6_count 23 = .ok (.iadd, 1) := by decide +kernel
theorem dX6_count_24 : decode cX6_count 24 = .ok (.iastore, 1) := by decide +kernel
theorem dX6_count_25 : decode cX6_count 25 = .ok (.return_, 1) := by decide +kernel
theorem dX7_init_0 : decode cX7_init 0 = .ok (.aload_n 0, 1) := by decide +kernel
theorem dX7_init_1 : decode cX7_init 1 = .ok (.invokespecial 3, 3) := by decide +kernel
theorem dX7_init_4 : decode cX7_init 4 = .ok (.aload_n 0, 1) := by decide +kernel
theorem dX7_init_5 : decode cX7_init 5 = .ok (.sipush 2001, 3) := by decide +kernel
theorem dX7_init_8 : decode cX7_init 8 = .ok (.newarray .int, 2) := by decide +kernel
theorem dX7_init_10 : decode cX7_init 10 = .ok (.putfield 9, 3) := by decide +kernel
theorem dX7_init_13 : decode cX7_init 13 = .ok (.aload_n 0, 1) := by decide +kernel
theorem dX7_init_14 : decode cX7_init 14 = .ok (.iconst 4, 1) := by decide +kernel
theorem dX7_init_15 : decode cX7_init 15 = .ok (.newarray .long, 2) := by decide +kernel
theorem dX7_init_17 : decode cX7_init 17 = .ok (.putfield 15, 3) := by decide +kernel
theorem dX7_init_20 : decode cX7_init 20 = .ok (.return_, 1) := by decide +kernel
set_option maxRecDepth 20000 in
theorem ggX7_start_X8_copyFour : GoodIn wsX7_start wsX8_copyFour := goodIn_r _ [5] (by decide +kernel) (by decide +kernel)
set_option maxRecDepth 20000 in
theorem gX7_start_X8_copyFour_n19 : GoodIn wsX7_start (wsX8_copyFour) := ggX7_start_X8_copyFour
theorem dX7_start_0 : decode cX7_start 0 = .ok (.aload_n 1, 1) := by decide +kernel
theorem dX7_start_1 : decode cX7_start 1 = .ok (.aload_n 0, 1) := by decide +kernel
theorem dX7_start_2 : decode cX7_start 2 = .ok (.getfield 15, 3) := by decide +kernel
theorem dX7_start_5 : decode cX7_start 5 = .ok (.invokestatic 19, 3) := by decide +kernel
theorem dX7_start_8 : decode cX7_start 8 = .ok (.aload_n 0, 1) := by decide +kernel
theorem dX7_start_9 : decode cX7_start 9 = .ok (.iconst 0, 1) := by decide +kernel
theorem dX7_start_10 : decode cX7_start 10 = .ok (.putfield 23, 3) := by decide +kernel
theorem dX7_start_13 : decode cX7_start 13 = .ok (.return_, 1) := by decide +kernel
set_option maxRecDepth 20000 in
theorem ggX7_advance_X7_mayGo : GoodIn wsX7_advance wsX7_mayGo := goodIn_r _ [7, 2, 8, 9, 10, 11, 12, 13, 14, 15, 16, 6, 17, 26, 27, 28] (by decide +kernel) (by decide +kernel)
set_option maxRecDepth 20000 in
theorem gX7_advance_X7_mayGo : GoodIn wsX7_advance (wsV RX7 28 RX7 yX7_mayGo wsX7_mayGo) := goodIn_app (goodIn_of _ (by decide +kernel)) ggX7_advance_X7_mayGo
set_option maxRecDepth 20000 in
theorem ggX7_advance_X7_goDown : GoodIn wsX7_advance wsX7_goDown := goodIn_r _ [21, 9, 8, 2, 10, 11, 12, 13, 26, 27, 28] (by decide +kernel) (by decide +kernel)
set_option maxRecDepth 20000 in
theorem gX7_advance_X7_goDown : GoodIn wsX7_advance (wsV RX7 32 RX7 yX7_goDown wsX7_goDown) := goodIn_app (goodIn_of _ (by decide +kernel)) ggX7_advance_X7_goDown
set_option maxRecDepth 20000 in
theorem ggX7_advance_X7_goUp : GoodIn wsX7_advance wsX7_goUp := goodIn_r _ [25, 2, 8, 9, 10, 11, 12, 13, 26, 27, 28] (by decide +kernel) (by decide +kernel)
set_option maxRecDepth 20000 in
theorem gX7_advance_X7_goUp : GoodIn wsX7_advance (wsV RX7 36 RX7 yX7_goUp wsX7_goUp) := goodIn_app (goodIn_of _ (by decide +kernel)) ggX7_advance_X7_goUp
theorem dX7_advance_0 : decode cX7_advance 0 = .ok (.iconst 0, 1) := by decide +kernel
theorem dX7_advance_1 : decode cX7_advance 1 = .ok (.istore_n 3, 1) := by decide +kernel
theorem dX7_advance_2 : decode cX7_advance 2 = .ok (.iconst 0, 1) := by decide +kernel
theorem dX7_advance_3 : decode cX7_advance 3 = .ok (.istore 4, 2) := by decide +kernel
theorem dX7_advance_5 : decode cX7_advance 5 = .ok (.iload 4, 2) := by decide +kernel
theorem dX7_advance_7 : decode cX7_advance 7 = .ok (.ldc 27, 2) := by decide +kernel
theorem dX7_advance_9 : decode cX7_advance 9 = .ok (.if_icmp .ge 60, 3) := by decide +kernel
theorem dX7_advance_12 : decode cX7_advance 12 = .ok (.iload_n 3, 1) := by decide +kernel
theorem dX7_advance_13 : decode cX7_advance 13 = .ok (.iconst 4, 1) := by decide +kernel
theorem dX7_advance_14 : decode cX7_advance 14 = .ok (.if_icmp .ge 19, 3) := by decide +kernel
theorem dX7_advance_17 : decode cX7_advance 17 = .ok (.aload_n 0, 1) := by decide +kernel
theorem dX7_advance_18 : decode cX7_advance 18 = .ok (.iload_n 3, 1) := by decide +kernel
theorem dX7_advance_19 : decode cX7_advance 19 = .ok (.lload_n 1, 1) := by decide +kernel
theorem dX7_advance_20 : decode cX7_advance 20 = .ok (.invokevirtual 28, 3) := by decide +kernel
theorem dX7_advance_23 : decode cX7_advance 23 = .ok (.ifCond .eq 10, 3) := by decide +kernel
theorem dX7_advance_26 : decode cX7_advance 26 = .ok (.aload_n 0, 1) := by decide +kernel
theorem dX7_advance_27 : decode cX7_advance 27 = .ok (.iload_n 3, 1) := by decide +kernel
theorem dX7_advance_28 : decode cX7_advance 28 = .ok (.invokevirtual 32, 3) := by decide +kernel
theorem dX7_advance_31 : decode cX7_advance 31 = .ok (.iconst 1, 1) := by decide +kernel
theorem dX7_advance_32 : decode cX7_advance 32 = .ok (.ireturn, 1) := by decide +kernel
theorem dX7_advance_33 : decode cX7_advance 33 = .ok (.iload_n 3, 1) := by decide +kernel
theorem dX7_advance_34 : decode cX7_advance 34 = .ok (.iconst 4, 1) := by decide +kernel
theorem dX7_advance_35 : decode cX7_advance 35 = .ok (.if_icmp .ge 9, 3) := by decide +kernel
theorem dX7_advance_38 : decode cX7_advance 38 = .ok (.iinc 3 1, 3) := by decide +kernel
theorem dX7_advance_41 : decode cX7_advance 41 = .ok (.goto 22, 3) := by decide +kernel
theorem dX7_advance_44 : decode cX7_advance 44 = .ok (.aload_n 0, 1) := by decide +kernel
theorem dX7_advance_45 : decode cX7_advance 45 = .ok (.getfield 23, 3) := by decide +kernel
theorem dX7_advance_48 : decode cX7_advance 48 = .ok (.ifCond .le 13, 3) := by decide +kernel
theorem dX7_advance_51 : decode cX7_advance 51 = .ok (.aload_n 0, 1) := by decide +kernel
theorem dX7_advance_52 : decode cX7_advance 52 = .ok (.invokevirtual 36, 3) := by decide +kernel
theorem dX7_advance_55 : decode cX7_advance 55 = .ok (.iconst 1, 1) := by decide +kernel
theorem dX7_advance_56 : decode cX7_advance 56 = .ok (.iadd, 1) := by decide +kernel
theorem dX7_advance_57 : decode cX7_advance 57 = .ok (.istore_n 3, 1) := by decide +kernel
theorem dX7_advance_58 : decode cX7_advance 58 = .ok (.goto 5, 3) := by decide +kernel
theorem dX7_advance_61 : decode cX7_advance 61 = .ok (.iconst 0, 1) := by decide +kernel
theorem dX7_advance_62 : decode cX7_advance 62 = .ok (.ireturn, 1) := by decide +kernel
theorem dX7_advance_63 : decode cX7_advance 63 = .ok (.iinc 4 1, 3) := by decide +kernel
theorem dX7_advance_66 : decode cX7_advance 66 = .ok (.goto (-61), 3) := by decide +kernel
theorem dX7_advance_69 : decode cX7_advance 69 = .ok (.iconst 0, 1) := by decide +kernel
theorem dX7_advance_70 : decode cX7_advance 70 = .ok (.ireturn, 1) := by decide +kernel
theorem dX7_found_0 : decode cX7_found 0 = .ok (.aload_n 0, 1) := by decide +kernel
theorem dX7_found_1 : decode cX7_found 1 = .ok (.getfield 23, 3) := by decide +kernel
theorem dX7_found_4 : decode cX7_found 4 = .ok (.ifCond .le 22, 3) := by decide +kernel
theorem dX7_found_7 : decode cX7_found 7 = .ok (.aload_n 0, 1) := by decide +kernel
theorem dX7_found_8 : decode cX7_found 8 = .ok (.getfield 15, 3) := by decide +kernel
theorem dX7_found_11 : decode cX7_found 11 = .ok (.aload_n 0, 1) := by decide +kernel
theorem dX7_found_12 : decode cX7_found 12 = .ok (.getfield 9, 3) := by decide +kernel
theorem dX7_found_15 : decode cX7_found 15 = .ok (.aload_n 0, 1) := by decide +kernel
theorem dX7_found_16 : decode cX7_found 16 = .ok (.getfield 23, 3) := by decide +kernel
theorem dX7_found_19 : decode cX7_found 19 = .ok (.iconst 1, 1) := by decide +kernel
theorem dX7_found_20 : decode cX7_found 20 = .ok (.isub, 1) := by decide +kernel
theorem dX7_found_21 : decode cX7_found 21 = .ok (.iaload, 1) := by decide +kernel
theorem dX7_found_22 : decode cX7_found 22 = .ok (.laload, 1) := by decide +kernel
theorem dX7_found_23 : decode cX7_found 23 = .ok (.goto 6, 3) := by decide +kernel
theorem dX7_found_26 : decode cX7_found 26 = .ok (.ldc2_w 40, 3) := by decide +kernel
theorem dX7_found_29 : decode cX7_found 29 = .ok (.lreturn, 1) := by decide +kernel
set_option maxRecDepth 20000 in
theorem ggX7_mayGo_X8_turnedOver : GoodIn wsX7_mayGo wsX8_turnedOver := goodIn_r _ [6, 7] (by decide +kernel) (by decide +kernel)
set_option maxRecDepth 20000 in
theorem gX7_mayGo_X8_turnedOver_n42 : GoodIn wsX7_mayGo (wsX8_turnedOver) := ggX7_mayGo_X8_turnedOver
set_option maxRecDepth 20000 in
theorem ggX7_mayGo_X7_isTwiceRunning : GoodIn wsX7_mayGo wsX7_isTwiceRunning := goodIn_r _ [12, 1, 2, 13, 14, 15] (by decide +kernel) (by decide +kernel)
set_option maxRecDepth 20000 in
theorem gX7_mayGo_X7_isTwiceRunning : GoodIn wsX7_mayGo (wsV RX7 46 RX7 yX7_isTwiceRunning wsX7_isTwiceRunning) := goodIn_app (goodIn_of _ (by decide +kernel)) ggX7_mayGo_X7_isTwiceRunning
theorem dX7_mayGo_0 : decode cX7_mayGo 0 = .ok (.aload_n 0, 1) := by decide +kernel
theorem dX7_mayGo_1 : decode cX7_mayGo 1 = .ok (.getfield 23, 3) := by decide +kernel
theorem dX7_mayGo_4 : decode cX7_mayGo 4 = .ok (.aload_n 0, 1) := by decide +kernel
theorem dX7_mayGo_5 : decode cX7_mayGo 5 = .ok (.getfield 9, 3) := by decide +kernel
theorem dX7_mayGo_8 : decode cX7_mayGo 8 = .ok (.arraylength, 1) := by decide +kernel
theorem dX7_mayGo_9 : decode cX7_mayGo 9 = .ok (.if_icmp .ge 28, 3) := by decide +kernel
theorem dX7_mayGo_12 : decode cX7_mayGo 12 = .ok (.aload_n 0, 1) := by decide +kernel
theorem dX7_mayGo_13 : decode cX7_mayGo 13 = .ok (.getfield 15, 3) := by decide +kernel
theorem dX7_mayGo_16 : decode cX7_mayGo 16 = .ok (.iload_n 1, 1) := by decide +kernel
theorem dX7_mayGo_17 : decode cX7_mayGo 17 = .ok (.invokestatic 42, 3) := by decide +kernel
theorem dX7_mayGo_20 : decode cX7_mayGo 20 = .ok (.lload_n 2, 1) := by decide +kernel
theorem dX7_mayGo_21 : decode cX7_mayGo 21 = .ok (.lcmp, 1) := by decide +kernel
theorem dX7_mayGo_22 : decode cX7_mayGo 22 = .ok (.ifCond .gt 15, 3) := by decide +kernel
theorem dX7_mayGo_25 : decode cX7_mayGo 25 = .ok (.aload_n 0, 1) := by decide +kernel
theorem dX7_mayGo_26 : decode cX7_mayGo 26 = .ok (.iload_n 1, 1) := by decide +kernel
theorem dX7_mayGo_27 : decode cX7_mayGo 27 = .ok (.invokevirtual 46, 3) := by decide +kernel
theorem dX7_mayGo_30 : decode cX7_mayGo 30 = .ok (.ifCond .ne 7, 3) := by decide +kernel
theorem dX7_mayGo_33 : decode cX7_mayGo 33 = .ok (.iconst 1, 1) := by decide +kernel
theorem dX7_mayGo_34 : decode cX7_mayGo 34 = .ok (.goto 4, 3) := by decide +kernel
theorem dX7_mayGo_37 : decode cX7_mayGo 37 = .ok (.iconst 0, 1) := by decide +kernel
theorem dX7_mayGo_38 : decode cX7_mayGo 38 = .ok (.ireturn, 1) := by decide +kernel
theorem dX7_isTwiceRunning_0 : decode cX7_isTwiceRunning 0 = .ok (.aload_n 0, 1) := by decide +kernel
theorem dX7_isTwiceRunning_1 : decode cX7_isTwiceRunning 1 = .ok (.getfield 23, 3) := by decide +kernel
theorem dX7_isTwiceRunning_4 : decode cX7_isTwiceRunning 4 = .ok (.ifCond .le 22, 3) := by decide +kernel
theorem dX7_isTwiceRunning_7 : decode cX7_isTwiceRunning 7 = .ok (.aload_n 0, 1) := by decide +kernel
theorem dX7_isTwiceRunning_8 : decode cX7_isTwiceRunning 8 = .ok (.getfield 9, 3) := by decide +kernel
theorem dX7_isTwiceRunning_11 : decode cX7_isTwiceRunning 11 = .ok (.aload_n 0, 1) := by decide +kernel
theorem dX7_isTwiceRunning_12 : decode cX7_isTwiceRunning 12 = .ok (.getfield 23, 3) := by decide +kernel
theorem dX7_isTwiceRunning_15 : decode cX7_isTwiceRunning 15 = .ok (.iconst 1, 1) := by decide +kernel
theorem dX7_isTwiceRunning_16 : decode cX7_isTwiceRunning 16 = .ok (.isub, 1) := by decide +kernel
theorem dX7_isTwiceRunning_17 : decode cX7_isTwiceRunning 17 = .ok (.iaload, 1) := by decide +kernel
theorem dX7_isTwiceRunning_18 : decode cX7_isTwiceRunning 18 = .ok (.iload_n 1, 1) := by decide +kernel
theorem dX7_isTwiceRunning_19 : decode cX7_isTwiceRunning 19 = .ok (.if_icmp .ne 7, 3) := by decide +kernel
theorem dX7_isTwiceRunning_22 : decode cX7_isTwiceRunning 22 = .ok (.iconst 1, 1) := by decide +kernel
theorem dX7_isTwiceRunning_23 : decode cX7_isTwiceRunning 23 = .ok (.goto 4, 3) := by decide +kernel
theorem dX7_isTwiceRunning_26 : decode cX7_isTwiceRunning 26 = .ok (.iconst 0, 1) := by decide +kernel
theorem dX7_isTwiceRunning_27 : decode cX7_isTwiceRunning 27 = .ok (.ireturn, 1) := by decide +kernel
set_option maxRecDepth 20000 in
theorem ggX7_goDown_X8_turnedOver : GoodIn wsX7_goDown wsX8_turnedOver := goodIn_r _ [6, 7] (by decide +kernel) (by decide +kernel)
set_option maxRecDepth 20000 in
theorem gX7_goDown_X8_turnedOver_n42 : GoodIn wsX7_goDown (wsX8_turnedOver) := ggX7_goDown_X8_turnedOver
theorem dX7_goDown_0 : decode cX7_goDown 0 = .ok (.aload_n 0, 1) := by decide +kernel
theorem dX7_goDown_1 : decode cX7_goDown 1 = .ok (.getfield 15, 3) := by decide +kernel
theorem dX7_goDown_4 : decode cX7_goDown 4 = .ok (.iload_n 1, 1) := by decide +kernel
theorem dX7_goDown_5 : decode cX7_goDown 5 = .ok (.aload_n 0, 1) := by decide +kernel
theorem dX7_goDown_6 : decode cX7_goDown 6 = .ok (.getfield 15, 3) := by decide +kernel
theorem dX7_goDown_9 : decode cX7_goDown 9 = .ok (.iload_n 1, 1) := by decide +kernel
theorem dX7_goDown_10 : decode cX7_goDown 10 = .ok (.invokestatic 42, 3) := by decide +kernel
theorem dX7_goDown_13 : decode cX7_goDown 13 = .ok (.lastore, 1) := by decide +kernel
theorem dX7_goDown_14 : decode cX7_goDown 14 = .ok (.aload_n 0, 1) := by decide +kernel
theorem dX7_goDown_15 : decode cX7_goDown 15 = .ok (.getfield 9, 3) := by decide +kernel
theorem dX7_goDown_18 : decode cX7_goDown 18 = .ok (.aload_n 0, 1) := by decide +kernel
theorem dX7_goDown_19 : decode cX7_goDown 19 = .ok (.getfield 23, 3) := by decide +kernel
theorem dX7_goDown_22 : decode cX7_goDown 22 = .ok (.iload_n 1, 1) := by decide +kernel
theorem dX7_goDown_23 : decode cX7_goDown 23 = .ok (.iastore, 1) := by decide +kernel
theorem dX7_goDown_24 : decode cX7_goDown 24 = .ok (.aload_n 0, 1) := by decide +kernel
theorem dX7_goDown_25 : decode cX7_goDown 25 = .ok (.dup, 1) := by decide +kernel
theorem dX7_goDown_26 : decode cX7_goDown 26 = .ok (.getfield 23, 3) := by decide +kernel
theorem dX7_goDown_29 : decode cX7_goDown 29 = .ok (.iconst 1, 1) := by decide +kernel
theorem dX7_goDown_30 : decode cX7_goDown 30 = .ok (.iadd, 1) := by decide +kernel
theorem dX7_goDown_31 : decode cX7_goDown 31 = .ok (.putfield 23, 3) := by decide +kernel
theorem dX7_goDown_34 : decode cX7_goDown 34 = .ok (.return_, 1) := by decide +kernel
set_option maxRecDepth 20000 in
theorem ggX7_goUp_X8_turnedOver : GoodIn wsX7_goUp wsX8_turnedOver := goodIn_r _ [6, 7] (by decide +kernel) (by decide +kernel)
set_option maxRecDepth 20000 in
theorem gX7_goUp_X8_turnedOver_n42 : GoodIn wsX7_goUp (wsX8_turnedOver) := ggX7_goUp_X8_turnedOver
theorem dX7_goUp_0 : decode cX7_goUp 0 = .ok (.aload_n 0, 1) := by decide +kernel
theorem dX7_goUp_1 : decode cX7_goUp 1 = .ok (.dup, 1) := by decide +kernel
theorem dX7_goUp_2 : decode cX7_goUp 2 = .ok (.getfield 23, 3) := by decide +kernel
theorem dX7_goUp_5 : decode cX7_goUp 5 = .ok (.iconst 1, 1) := by decide +kernel
theorem dX7_goUp_6 : decode cX7_goUp 6 = .ok (.isub, 1) := by decide +kernel
theorem dX7_goUp_7 : decode cX7_goUp 7 = .ok (.putfield 23, 3) := by decide +kernel
theorem dX7_goUp_10 : decode cX7_goUp 10 = .ok (.aload_n 0, 1) := by decide +kernel
theorem dX7_goUp_11 : decode cX7_goUp 11 = .ok (.getfield 9, 3) := by decide +kernel
theorem dX7_goUp_14 : decode cX7_goUp 14 = .ok (.aload_n 0, 1) := by decide +kernel
theorem dX7_goUp_15 : decode cX7_goUp 15 = .ok (.getfield 23, 3) := by decide +kernel
theorem dX7_goUp_18 : decode cX7_goUp 18 = .ok (.iaload, 1) := by decide +kernel
theorem dX7_goUp_19 : decode cX7_goUp 19 = .ok (.istore_n 1, 1) := by decide +kernel
theorem dX7_goUp_20 : decode cX7_goUp 20 = .ok (.aload_n 0, 1) := by decide +kernel
theorem dX7_goUp_21 : decode cX7_goUp 21 = .ok (.getfield 15, 3) := by decide +kernel
theorem dX7_goUp_24 : decode cX7_goUp 24 = .ok (.iload_n 1, 1) := by decide +kernel
theorem dX7_goUp_25 : decode cX7_goUp 25 = .ok (.aload_n 0, 1) := by decide +kernel
theorem dX7_goUp_26 : decode cX7_goUp 26 = .ok (.getfield 15, 3) := by decide +kernel
theorem dX7_goUp_29 : decode cX7_goUp 29 = .ok (.iload_n 1, 1) := by decide +kernel
theorem dX7_goUp_30 : decode cX7_goUp 30 = .ok (.invokestatic 42, 3) := by decide +kernel
theorem dX7_goUp_33 : decode cX7_goUp 33 = .ok (.lastore, 1) := by decide +kernel
theorem dX7_goUp_34 : decode cX7_goUp 34 = .ok (.iload_n 1, 1) := by decide +kernel
theorem dX7_goUp_35 : decode cX7_goUp 35 = .ok (.ireturn, 1) := by decide +kernel
set_option maxRecDepth 20000 in
theorem ggX8_init_X0_init : GoodIn wsX8_init wsX0_init := goodIn_r _ [31, 32, 2, 3, 4, 33, 138, 139, 140] (by decide +kernel) (by decide +kernel)
set_option maxRecDepth 20000 in
theorem gX8_init_X0_init_n23 : GoodIn wsX8_init (wsX0_init) := ggX8_init_X0_init
set_option maxRecDepth 20000 in
theorem ggX8_init_X3_init : GoodIn wsX8_init wsX3_init := goodIn_r _ [35, 36, 2, 3, 4, 37, 38, 39, 40, 41, 42, 43, 44, 45, 46, 47, 48, 49, 50, 51, 52, 53, 54, 55, 56, 57, 58, 59, 60, 61, 62, 63, 64, 65, 66, 67, 68, 69, 70, 71, 72, 73, 74, 75, 141, 142, 143, 144, 145, 146, 153, 154, 155, 156, 157, 158, 159, 160, 161, 162, 163, 164] (by decide +kernel) (by decide +kernel)
set_option maxRecDepth 20000 in
theorem gX8_init_X3_init_n30 : GoodIn wsX8_init (wsX3_init) := ggX8_init_X3_init
set_option maxRecDepth 20000 in
theorem ggX8_init_X5_init : GoodIn wsX8_init wsX5_init := goodIn_r _ [77, 78, 2, 3, 79, 4, 80, 147] (by decide +kernel) (by decide +kernel)
set_option maxRecDepth 20000 in
theorem gX8_init_X5_init_n37 : GoodIn wsX8_init (wsX5_init) := ggX8_init_X5_init
set_option maxRecDepth 20000 in
theorem ggX8_init_X4_init : GoodIn wsX8_init wsX4_init := goodIn_r _ [82, 83, 2, 3, 4, 84, 24, 85, 148, 149, 150, 151, 152] (by decide +kernel) (by decide +kernel)
set_option maxRecDepth 20000 in
theorem gX8_init_X4_init_n56 : GoodIn wsX8_init (wsX4_init) := ggX8_init_X4_init
set_option maxRecDepth 20000 in
theorem ggX8_init_X8_findRoot : GoodIn wsX8_init wsX8_findRoot := goodIn_r _ [90, 12, 8, 91, 92, 93, 94, 16, 95, 96, 97, 11, 98, 33, 99, 100, 101, 89, 102, 103, 104, 105, 106, 107, 108, 6, 109, 110, 111, 112, 113, 114, 15, 115, 37, 45, 49, 55, 116, 117, 118, 119, 120, 121, 122, 44, 123, 65, 124, 125, 126, 48, 127, 128, 129, 130, 131, 132, 133, 134, 135, 136, 137, 138, 139, 140, 141, 142, 143, 144, 145, 146, 156, 157, 158, 159, 160] (by decide +kernel) (by decide +kernel)
set_option maxRecDepth 20000 in
theorem gX8_init_X8_findRoot : GoodIn wsX8_init (wsV RX8 61 RX8 yX8_findRoot wsX8_findRoot) := goodIn_app (goodIn_of _ (by decide +kernel)) ggX8_init_X8_findRoot
theorem dX8_init_0 : decode cX8_init 0 = .ok (.aload_n 0, 1) := by decide +kernel
theorem dX8_init_1 : decode cX8_init 1 = .ok (.invokespecial 3, 3) := by decide +kernel
theorem dX8_init_4 : decode cX8_init 4 = .ok (.aload_n 0, 1) := by decide +kernel
theorem dX8_init_5 : decode cX8_init 5 = .ok (.iconst 4, 1) := by decide +kernel
theorem dX8_init_6 : decode cX8_init 6 = .ok (.newarray .long, 2) := by decide +kernel
theorem dX8_init_8 : decode cX8_init 8 = .ok (.dup, 1) := by decide +kernel
theorem dX8_init_9 : decode cX8_init 9 = .ok (.iconst 0, 1) := by decide +kernel
theorem dX8_init_10 : decode cX8_init 10 = .ok (.ldc2_w 9, 3) := by decide +kernel
theorem dX8_init_13 : decode cX8_init 13 = .ok (.lastore, 1) := by decide +kernel
theorem dX8_init_14 : decode cX8_init 14 = .ok (.dup, 1) := by decide +kernel
theorem dX8_init_15 : decode cX8_init 15 = .ok (.iconst 1, 1) := by decide +kernel
theorem dX8_init_16 : decode cX8_init 16 = .ok (.ldc2_w 11, 3) := by decide +kernel
theorem dX8_init_19 : decode cX8_init 19 = .ok (.lastore, 1) := by decide +kernel
theorem dX8_init_20 : decode cX8_init 20 = .ok (.dup, 1) := by decide +kernel
theorem dX8_init_21 : decode cX8_init 21 = .ok (.iconst 2, 1) := by decide +kernel
theorem dX8_init_22 : decode cX8_init 22 = .ok (.ldc2_w 11, 3) := by decide +kernel
theorem dX8_init_25 : decode cX8_init 25 = .ok (.lastore, 1) := by decide +kernel
theorem dX8_init_26 : decode cX8_init 26 = .ok (.dup, 1) := by decide +kernel
theorem dX8_init_27 : decode cX8_init 27 = .ok (.iconst 3, 1) := by decide +kernel
theorem dX8_init_28 : decode cX8_init 28 = .ok (.ldc2_w 13, 3) := by decide +kernel
theorem dX8_init_31 : decode cX8_init 31 = .ok (.lastore, 1) := by decide +kernel
theorem dX8_init_32 : decode cX8_init 32 = .ok (.putfield 15, 3) := by decide +kernel
theorem dX8_init_35 : decode cX8_init 35 = .ok (.aload_n 0, 1) := by decide +kernel
theorem dX8_init_36 : decode cX8_init 36 = .ok (.new 21, 3) := by decide +kernel
theorem dX8_init_39 : decode cX8_init 39 = .ok (.dup, 1) := by decide +kernel
theorem dX8_init_40 : decode cX8_init 40 = .ok (.invokespecial 23, 3) := by decide +kernel
theorem dX8_init_43 : decode cX8_init 43 = .ok (.putfield 24, 3) := by decide +kernel
theorem dX8_init_46 : decode cX8_init 46 = .ok (.aload_n 0, 1) := by decide +kernel
theorem dX8_init_47 : decode cX8_init 47 = .ok (.new 28, 3) := by decide +kernel
theorem dX8_init_50 : decode cX8_init 50 = .ok (.dup, 1) := by decide +kernel
theorem dX8_init_51 : decode cX8_init 51 = .ok (.invokespecial 30, 3) := by decide +kernel
theorem dX8_init_54 : decode cX8_init 54 = .ok (.putfield 31, 3) := by decide +kernel
theorem dX8_init_57 : decode cX8_init 57 = .ok (.aload_n 0, 1) := by decide +kernel
theorem dX8_init_58 : decode cX8_init 58 = .ok (.new 35, 3) := by decide +kernel
theorem dX8_init_61 : decode cX8_init 61 = .ok (.dup, 1) := by decide +kernel
theorem dX8_init_62 : decode cX8_init 62 = .ok (.invokespecial 37, 3) := by decide +kernel
theorem dX8_init_65 : decode cX8_init 65 = .ok (.putfield 38, 3) := by decide +kernel
theorem dX8_init_68 : decode cX8_init 68 = .ok (.aload_n 0, 1) := by decide +kernel
theorem dX8_init_69 : decode cX8_init 69 = .ok (.new 35, 3) := by decide +kernel
theorem dX8_init_72 : decode cX8_init 72 = .ok (.dup, 1) := by decide +kernel
theorem dX8_init_73 : decode cX8_init 73 = .ok (.invokespecial 37, 3) := by decide +kernel
theorem dX8_init_76 : decode cX8_init 76 = .ok (.putfield 42, 3) := by decide +kernel
theorem dX8_init_79 : decode cX8_init 79 = .ok (.aload_n 0, 1) := by decide +kernel
theorem dX8_init_80 : decode cX8_init 80 = .ok (.iconst 3, 1) := by decide +kernel
theorem dX8_init_81 : decode cX8_init 81 = .ok (.iconst 4, 1) := by decide +kernel
theorem dX8_init_82 : decode cX8_init 82 = .ok (.multianewarray 45 2, 4) := by decide +kernel
theorem dX8_init_86 : decode cX8_init 86 = .ok (.putfield 47, 3) := by decide +kernel
theorem dX8_init_89 : decode cX8_init 89 = .ok (.aload_n 0, 1) := by decide +kernel
theorem dX8_init_90 : decode cX8_init 90 = .ok (.iconst 3, 1) := by decide +kernel
theorem dX8_init_91 : decode cX8_init 91 = .ok (.newarray .boolean, 2) := by decide +kernel
theorem dX8_init_93 : decode cX8_init 93 = .ok (.putfield 50, 3) := by decide +kernel
theorem dX8_init_96 : decode cX8_init 96 = .ok (.aload_n 0, 1) := by decide +kernel
theorem dX8_init_97 : decode cX8_init 97 = .ok (.iconst 3, 1) := by decide +kernel
theorem dX8_init_98 : decode cX8_init 98 = .ok (.anewarray 54, 3) := by decide +kernel
theorem dX8_init_101 : decode cX8_init 101 = .ok (.dup, 1) := by decide +kernel
theorem dX8_init_102 : decode cX8_init 102 = .ok (.iconst 0, 1) := by decide +kernel
theorem dX8_init_103 : decode cX8_init 103 = .ok (.new 54, 3) := by decide +kernel
theorem dX8_init_106 : decode cX8_init 106 = .ok (.dup, 1) := by decide +kernel
theorem dX8_init_107 : decode cX8_init 107 = .ok (.invokespecial 56, 3) := by decide +kernel
theorem dX8_init_110 : decode cX8_init 110 = .ok (.aastore, 1) := by decide +kernel
theorem dX8_init_111 : decode cX8_init 111 = .ok (.dup, 1) := by decide +kernel
theorem dX8_init_112 : decode cX8_init 112 = .ok (.iconst 1, 1) := by decide +kernel
theorem dX8_init_113 : decode cX8_init 113 = .ok (.new 54, 3) := by decide +kernel
theorem dX8_init_116 : decode cX8_init 116 = .ok (.dup, 1) := by decide +kernel
theorem dX8_init_117 : decode cX8_init 117 = .ok (.invokespecial 56, 3) := by decide +kernel
theorem dX8_init_120 : decode cX8_init 120 = .ok (.aastore, 1) := by decide +kernel
theorem dX8_init_121 : decode cX8_init 121 = .ok (.dup, 1) := by decide +kernel
theorem dX8_init_122 : decode cX8_init 122 = .ok (.iconst 2, 1) := by decide +kernel
theorem dX8_init_123 : decode cX8_init 123 = .ok (.new 54, 3) := by decide +kernel
theorem dX8_init_126 : decode cX8_init 126 = .ok (.dup, 1) := by decide +kernel
theorem dX8_init_127 : decode cX8_init 127 = .ok (.invokespecial 56, 3) := by decide +kernel
theorem dX8_init_130 : decode cX8_init 130 = .ok (.aastore, 1) := by decide +kernel
theorem dX8_init_131 : decode cX8_init 131 = .ok (.putfield 57, 3) := by decide +kernel
theorem dX8_init_134 : decode cX8_init 134 = .ok (.aload_n 0, 1) := by decide +kernel
theorem dX8_init_135 : decode cX8_init 135 = .ok (.invokevirtual 61, 3) := by decide +kernel
theorem dX8_init_138 : decode cX8_init 138 = .ok (.return_, 1) := by decide +kernel
set_option maxRecDepth 20000 in
theorem ggX8_set_X8_mayBeGiven : GoodIn wsX8_set wsX8_mayBeGiven := goodIn_r _ [5, 6, 7] (by decide +kernel) (by decide +kernel)
set_option maxRecDepth 20000 in
theorem gX8_set_X8_mayBeGiven : GoodIn wsX8_set (va_wsS RX8 64 yX8_mayBeGiven wsX8_mayBeGiven) := goodIn_app (goodIn_of _ (by decide +kernel)) ggX8_set_X8_mayBeGiven
set_option maxRecDepth 20000 in
theorem ggX8_set_X8_isGood : GoodIn wsX8_set wsX8_isGood := goodIn_r _ [10, 11] (by decide +kernel) (by decide +kernel)
set_option maxRecDepth 20000 in
theorem gX8_set_X8_isGood : GoodIn wsX8_set (va_wsS RX8 68 yX8_isGood wsX8_isGood) := goodIn_app (goodIn_of _ (by decide +kernel)) ggX8_set_X8_isGood
set_option maxRecDepth 20000 in
theorem ggX8_set_X8_findRoot : GoodIn wsX8_set wsX8_findRoot := goodIn_r _ [15, 16, 1, 7, 17, 18, 19, 20, 21, 22, 23, 24, 25, 26, 27, 28, 29, 4, 30, 31, 32, 33, 34, 35, 36, 11, 37, 38, 39, 40, 41, 42, 43, 44, 45, 46, 47, 48, 49, 50, 51, 52, 53, 54, 55, 56, 57, 58, 59, 60, 61, 62, 63, 64, 65, 66, 67, 68, 69, 70, 71, 72, 73, 74, 75, 76, 77, 78, 79, 80, 81, 82, 83, 84, 85, 86, 87] (by decide +kernel) (by decide +kernel)
set_option maxRecDepth 20000 in
theorem gX8_set_X8_findRoot : GoodIn wsX8_set (wsV RX8 61 RX8 yX8_findRoot wsX8_findRoot) := goodIn_app (goodIn_of _ (by decide +kernel)) ggX8_set_X8_findRoot
theorem dX8_set_0 : decode cX8_set 0 = .ok (.iload_n 1, 1) := by decide +kernel
theorem dX8_set_1 : decode cX8_set 1 = .ok (.invokestatic 64, 3) := by decide +kernel
theorem dX8_set_4 : decode cX8_set 4 = .ok (.ifCond .eq 25, 3) := by decide +kernel
theorem dX8_set_7 : decode cX8_set 7 = .ok (.iload_n 2, 1) := by decide +kernel
theorem dX8_set_8 : decode cX8_set 8 = .ok (.invokestatic 64, 3) := by decide +kernel
theorem dX8_set_11 : decode cX8_set 11 = .ok (.ifCond .eq 18, 3) := by decide +kernel
theorem dX8_set_14 : decode cX8_set 14 = .ok (.iload_n 3, 1) := by decide +kernel
theorem dX8_set_15 : decode cX8_set 15 = .ok (.invokestatic 64, 3) := by decide +kernel
theorem dX8_set_18 : decode cX8_set 18 = .ok (.ifCond .eq 11, 3) := by decide +kernel
theorem dX8_set_21 : decode cX8_set 21 = .ok (.iload 4, 2) := by decide +kernel
theorem dX8_set_23 : decode cX8_set 23 = .ok (.invokestatic 64, 3) := by decide +kernel
theorem dX8_set_26 : decode cX8_set 26 = .ok (.ifCond .ne 6, 3) := by decide +kernel
theorem dX8_set_29 : decode cX8_set 29 = .ok (.bipush (-2), 2) := by decide +kernel
theorem dX8_set_31 : decode cX8_set 31 = .ok (.ireturn, 1) := by decide +kernel
theorem dX8_set_32 : decode cX8_set 32 = .ok (.iload_n 1, 1) := by decide +kernel
theorem dX8_set_33 : decode cX8_set 33 = .ok (.i2l, 1) := by decide +kernel
theorem dX8_set_34 : decode cX8_set 34 = .ok (.iload_n 2, 1) := by decide +kernel
theorem dX8_set_35 : decode cX8_set 35 = .ok (.i2l, 1) := by decide +kernel
theorem dX8_set_36 : decode cX8_set 36 = .ok (.iload_n 3, 1) := by decide +kernel
theorem dX8_set_37 : decode cX8_set 37 = .ok (.i2l, 1) := by decide +kernel
theorem dX8_set_38 : decode cX8_set 38 = .ok (.iload 4, 2) := by decide +kernel
theorem dX8_set_40 : decode cX8_set 40 = .ok (.i2l, 1) := by decide +kernel
theorem dX8_set_41 : decode cX8_set 41 = .ok (.invokestatic 68, 3) := by decide +kernel
theorem dX8_set_44 : decode cX8_set 44 = .ok (.ifCond .ne 6, 3) := by decide +kernel
theorem dX8_set_47 : decode cX8_set 47 = .ok (.bipush (-3), 2) := by decide +kernel
theorem dX8_set_49 : decode cX8_set 49 = .ok (.ireturn, 1) := by decide +kernel
theorem dX8_set_50 : decode cX8_set 50 = .ok (.aload_n 0, 1) := by decide +kernel
theorem dX8_set_51 : decode cX8_set 51 = .ok (.getfield 15, 3) := by decide +kernel
theorem dX8_set_54 : decode cX8_set 54 = .ok (.iconst 0, 1) := by decide +kernel
theorem dX8_set_55 : decode cX8_set 55 = .ok (.iload_n 1, 1) := by decide +kernel
theorem dX8_set_56 : decode cX8_set 56 = .ok (.i2l, 1) := by decide +kernel
theorem dX8_set_57 : decode cX8_set 57 = .ok (.lastore, 1) := by decide +kernel
theorem dX8_set_58 : decode cX8_set 58 = .ok (.aload_n 0, 1) := by decide +kernel
theorem dX8_set_59 : decode cX8_set 59 = .ok (.getfield 15, 3) := by decide +kernel
theorem dX8_set_62 : decode cX8_set 62 = .ok (.iconst 1, 1) := by decide +kernel
theorem dX8_set_63 : decode cX8_set 63 = .ok (.iload_n 2, 1) := by decide +kernel
theorem dX8_set_64 : decode cX8_set 64 = .ok (.i2l, 1) := by decide +kernel
theorem dX8_set_65 : decode cX8_set 65 = .ok (.lastore, 1) := by decide +kernel
theorem dX8_set_66 : decode cX8_set 66 = .ok (.aload_n 0, 1) := by decide +kernel
theorem dX8_set_67 : decode cX8_set 67 = .ok (.getfield 15, 3) := by decide +kernel
theorem dX8_set_70 : decode cX8_set 70 = .ok (.iconst 2, 1) := by decide +kernel
theorem dX8_set_71 : decode cX8_set 71 = .ok (.iload_n 3, 1) := by decide +kernel
theorem dX8_set_72 : decode cX8_set 72 = .ok (.i2l, 1) := by decide +kernel
theorem dX8_set_73 : decode cX8_set 73 = .ok (.lastore, 1) := by decide +kernel
theorem dX8_set_74 : decode cX8_set 74 = .ok (.aload_n 0, 1) := by decide +kernel
theorem dX8_set_75 : decode cX8_set 75 = .ok (.getfield 15, 3) := by decide +kernel
theorem dX8_set_78 : decode cX8_set 78 = .ok (.iconst 3, 1) := by decide +kernel
theorem dX8_set_79 : decode cX8_set 79 = .ok (.iload 4, 2) := by decide +kernel
theorem dX8_set_81 : decode cX8_set 81 = .ok (.i2l, 1) := by decide +kernel
theorem dX8_set_82 : decode cX8_set 82 = .ok (.lastore, 1) := by decide +kernel
theorem dX8_set_83 : decode cX8_set 83 = .ok (.aload_n 0, 1) := by decide +kernel
theorem dX8_set_84 : decode cX8_set 84 = .ok (.invokevirtual 61, 3) := by decide +kernel
theorem dX8_set_87 : decode cX8_set 87 = .ok (.iconst 1, 1) := by decide +kernel
theorem dX8_set_88 : decode cX8_set 88 = .ok (.ireturn, 1) := by decide +kernel
set_option maxRecDepth 20000 in
theorem ggX8_bend_X8_isPlace : GoodIn wsX8_bend wsX8_isPlace := goodIn_r _ [6] (by decide +kernel) (by decide +kernel)
set_option maxRecDepth 20000 in
theorem gX8_bend_X8_isPlace : GoodIn wsX8_bend (va_wsS RX8 72 yX8_isPlace wsX8_isPlace) := goodIn_app (goodIn_of _ (by decide +kernel)) ggX8_bend_X8_isPlace
theorem dX8_bend_0 : decode cX8_bend 0 = .ok (.iload_n 1, 1) := by decide +kernel
theorem dX8_bend_1 : decode cX8_bend 1 = .ok (.invokestatic 72, 3) := by decide +kernel
theorem dX8_bend_4 : decode cX8_bend 4 = .ok (.ifCond .eq 14, 3) := by decide +kernel
theorem dX8_bend_7 : decode cX8_bend 7 = .ok (.aload_n 0, 1) := by decide +kernel
theorem dX8_bend_8 : decode cX8_bend 8 = .ok (.getfield 15, 3) := by decide +kernel
theorem dX8_bend_11 : decode cX8_bend 11 = .ok (.iload_n 1, 1) := by decide +kernel
theorem dX8_bend_12 : decode cX8_bend 12 = .ok (.iconst 1, 1) := by decide +kernel
theorem dX8_bend_13 : decode cX8_bend 13 = .ok (.isub, 1) := by decide +kernel
theorem dX8_bend_14 : decode cX8_bend 14 = .ok (.laload, 1) := by decide +kernel
theorem dX8_bend_15 : decode cX8_bend 15 = .ok (.goto 6, 3) := by decide +kernel
theorem dX8_bend_18 : decode cX8_bend 18 = .ok (.ldc2_w 75, 3) := by decide +kernel
theorem dX8_bend_21 : decode cX8_bend 21 = .ok (.lreturn, 1) := by decide +kernel
set_option maxRecDepth 20000 in
theorem ggX8_turn_X8_isPlace : GoodIn wsX8_turn wsX8_isPlace := goodIn_r _ [7] (by decide +kernel) (by decide +kernel)
set_option maxRecDepth 20000 in
theorem gX8_turn_X8_isPlace : GoodIn wsX8_turn (va_wsS RX8 72 yX8_isPlace wsX8_isPlace) := goodIn_app (goodIn_of _ (by decide +kernel)) ggX8_turn_X8_isPlace
set_option maxRecDepth 20000 in
theorem ggX8_turn_X8_turnedOver : GoodIn wsX8_turn wsX8_turnedOver := goodIn_r _ [10, 11] (by decide +kernel) (by decide +kernel)
set_option maxRecDepth 20000 in
theorem gX8_turn_X8_turnedOver : GoodIn wsX8_turn (va_wsS RX8 77 yX8_turnedOver wsX8_turnedOver) := goodIn_app (goodIn_of _ (by decide +kernel)) ggX8_turn_X8_turnedOver
set_option maxRecDepth 20000 in
theorem ggX8_turn_X8_findRoot : GoodIn wsX8_turn wsX8_findRoot := goodIn_r _ [15, 16, 1, 17, 18, 19, 20, 21, 22, 23, 24, 25, 26, 27, 28, 29, 30, 6, 31, 32, 33, 34, 35, 9, 10, 11, 36, 37, 38, 39, 40, 41, 42, 43, 44, 45, 46, 47, 48, 49, 50, 51, 52, 53, 54, 55, 56, 57, 58, 59, 60, 61, 62, 63, 64, 65, 66, 67, 68, 69, 70, 71, 72, 73, 74, 75, 76, 77, 78, 79, 80, 81, 82, 83, 84, 85, 86] (by decide +kernel) (by decide +kernel)
set_option maxRecDepth 20000 in
theorem gX8_turn_X8_findRoot : GoodIn wsX8_turn (wsV RX8 61 RX8 yX8_findRoot wsX8_findRoot) := goodIn_app (goodIn_of _ (by decide +kernel)) ggX8_turn_X8_findRoot
theorem dX8_turn_0 : decode cX8_turn 0 = .ok (.iload_n 1, 1) := by decide +kernel
theorem dX8_turn_1 : decode cX8_turn 1 = .ok (.invokestatic 72, 3) := by decide +kernel
theorem dX8_turn_4 : decode cX8_turn 4 = .ok (.ifCond .ne 5, 3) := by decide +kernel
theorem dX8_turn_7 : decode cX8_turn 7 = .ok (.iconst (-1), 1) := by decide +kernel
theorem dX8_turn_8 : decode cX8_turn 8 = .ok (.ireturn, 1) := by decide +kernel
theorem dX8_turn_9 : decode cX8_turn 9 = .ok (.aload_n 0, 1) := by decide +kernel
theorem dX8_turn_10 : decode cX8_turn 10 = .ok (.getfield 15, 3) := by decide +kernel
theorem dX8_turn_13 : decode cX8_turn 13 = .ok (.iload_n 1, 1) := by decide +kernel
theorem dX8_turn_14 : decode cX8_turn 14 = .ok (.iconst 1, 1) := by decide +kernel
theorem dX8_turn_15 : decode cX8_turn 15 = .ok (.isub, 1) := by decide +kernel
theorem dX8_turn_16 : decode cX8_turn 16 = .ok (.invokestatic 77, 3) := by decide +kernel
theorem dX8_turn_19 : decode cX8_turn 19 = .ok (.lstore_n 2, 1) := by decide +kernel
theorem dX8_turn_20 : decode cX8_turn 20 = .ok (.lload_n 2, 1) := by decide +kernel
theorem dX8_turn_21 : decode cX8_turn 21 = .ok (.ldc2_w 81, 3) := by decide +kernel
theorem dX8_turn_24 : decode cX8_turn 24 = .ok (.lcmp, 1) := by decide +kernel
theorem dX8_turn_25 : decode cX8_turn 25 = .ok (.ifCond .gt 11, 3) := by decide +kernel
theorem dX8_turn_28 : decode cX8_turn 28 = .ok (.lload_n 2, 1) := by decide +kernel
theorem dX8_turn_29 : decode cX8_turn 29 = .ok (.ldc2_w 83, 3) := by decide +kernel
theorem dX8_turn_32 : decode cX8_turn 32 = .ok (.lcmp, 1) := by decide +kernel
theorem dX8_turn_33 : decode cX8_turn 33 = .ok (.ifCond .ge 6, 3) := by decide +kernel
theorem dX8_turn_36 : decode cX8_turn 36 = .ok (.bipush (-5), 2) := by decide +kernel
theorem dX8_turn_38 : decode cX8_turn 38 = .ok (.ireturn, 1) := by decide +kernel
theorem dX8_turn_39 : decode cX8_turn 39 = .ok (.aload_n 0, 1) := by decide +kernel
theorem dX8_turn_40 : decode cX8_turn 40 = .ok (.getfield 15, 3) := by decide +kernel
theorem dX8_turn_43 : decode cX8_turn 43 = .ok (.iload_n 1, 1) := by decide +kernel
theorem dX8_turn_44 : decode cX8_turn 44 = .ok (.iconst 1, 1) := by decide +kernel
theorem dX8_turn_45 : decode cX8_turn 45 = .ok (.isub, 1) := by decide +kernel
theorem dX8_turn_46 : decode cX8_turn 46 = .ok (.lload_n 2, 1) := by decide +kernel
theorem dX8_turn_47 : decode cX8_turn 47 = .ok (.lastore, 1) := by decide +kernel
theorem dX8_turn_48 : decode cX8_turn 48 = .ok (.aload_n 0, 1) := by decide +kernel
theorem dX8_turn_49 : decode cX8_turn 49 = .ok (.invokevirtual 61, 3) := by decide +kernel
theorem dX8_turn_52 : decode cX8_turn 52 = .ok (.iconst 1, 1) := by decide +kernel
theorem dX8_turn_53 : decode cX8_turn 53 = .ok (.ireturn, 1) := by decide +kernel
theorem dX8_steps_0 : decode cX8_steps 0 = .ok (.aload_n 0, 1) := by decide +kernel
theorem dX8_steps_1 : decode cX8_steps 1 = .ok (.getfield 85, 3) := by decide +kernel
theorem dX8_steps_4 : decode cX8_steps 4 = .ok (.ireturn, 1) := by decide +kernel
set_option maxRecDepth 20000 in
theorem ggX8_step_X0_go : GoodIn wsX8_step wsX0_go := goodIn_r _ [9, 10, 11, 12, 13, 14, 15, 16, 17, 18, 8, 19, 20, 21, 22, 32, 33, 34] (by decide +kernel) (by decide +kernel)
set_option maxRecDepth 20000 in
theorem gX8_step_X0_go : GoodIn wsX8_step (wsV RX8 89 RX0 yX0_go wsX0_go) := goodIn_app (goodIn_of _ (by decide +kernel)) ggX8_step_X0_go
theorem dX8_step_0 : decode cX8_step 0 = .ok (.iload_n 1, 1) := by decide +kernel
theorem dX8_step_1 : decode cX8_step 1 = .ok (.ifCond .ge 6, 3) := by decide +kernel
theorem dX8_step_4 : decode cX8_step 4 = .ok (.bipush (-2), 2) := by decide +kernel
theorem dX8_step_6 : decode cX8_step 6 = .ok (.ireturn, 1) := by decide +kernel
theorem dX8_step_7 : decode cX8_step 7 = .ok (.iload_n 1, 1) := by decide +kernel
theorem dX8_step_8 : decode cX8_step 8 = .ok (.aload_n 0, 1) := by decide +kernel
theorem dX8_step_9 : decode cX8_step 9 = .ok (.getfield 85, 3) := by decide +kernel
theorem dX8_step_12 : decode cX8_step 12 = .ok (.if_icmp .lt 6, 3) := by decide +kernel
theorem dX8_step_15 : decode cX8_step 15 = .ok (.bipush (-9), 2) := by decide +kernel
theorem dX8_step_17 : decode cX8_step 17 = .ok (.ireturn, 1) := by decide +kernel
theorem dX8_step_18 : decode cX8_step 18 = .ok (.aload_n 0, 1) := by decide +kernel
theorem dX8_step_19 : decode cX8_step 19 = .ok (.getfield 24, 3) := by decide +kernel
theorem dX8_step_22 : decode cX8_step 22 = .ok (.aload_n 0, 1) := by decide +kernel
theorem dX8_step_23 : decode cX8_step 23 = .ok (.getfield 15, 3) := by decide +kernel
theorem dX8_step_26 : decode cX8_step 26 = .ok (.iload_n 1, 1) := by decide +kernel
theorem dX8_step_27 : decode cX8_step 27 = .ok (.iconst 1, 1) := by decide +kernel
theorem dX8_step_28 : decode cX8_step 28 = .ok (.iadd, 1) := by decide +kernel
theorem dX8_step_29 : decode cX8_step 29 = .ok (.invokevirtual 89, 3) := by decide +kernel
theorem dX8_step_32 : decode cX8_step 32 = .ok (.aload_n 0, 1) := by decide +kernel
theorem dX8_step_33 : decode cX8_step 33 = .ok (.getfield 24, 3) := by decide +kernel
theorem dX8_step_36 : decode cX8_step 36 = .ok (.getfield 93, 3) := by decide +kernel
theorem dX8_step_39 : decode cX8_step 39 = .ok (.iconst 1, 1) := by decide +kernel
theorem dX8_step_40 : decode cX8_step 40 = .ok (.iadd, 1) := by decide +kernel
theorem dX8_step_41 : decode cX8_step 41 = .ok (.ireturn, 1) := by decide +kernel
set_option maxRecDepth 20000 in
theorem ggX8_root_X8_isIndex : GoodIn wsX8_root wsX8_isIndex := goodIn_r _ [7] (by decide +kernel) (by decide +kernel)
set_option maxRecDepth 20000 in
theorem gX8_root_X8_isIndex : GoodIn wsX8_root (va_wsS RX8 96 yX8_isIndex wsX8_isIndex) := goodIn_app (goodIn_of _ (by decide +kernel)) ggX8_root_X8_isIndex
theorem dX8_root_0 : decode cX8_root 0 = .ok (.iload_n 1, 1) := by decide +kernel
theorem dX8_root_1 : decode cX8_root 1 = .ok (.invokestatic 96, 3) := by decide +kernel
theorem dX8_root_4 : decode cX8_root 4 = .ok (.ifCond .eq 15, 3) := by decide +kernel
theorem dX8_root_7 : decode cX8_root 7 = .ok (.aload_n 0, 1) := by decide +kernel
theorem dX8_root_8 : decode cX8_root 8 = .ok (.getfield 31, 3) := by decide +kernel
theorem dX8_root_11 : decode cX8_root 11 = .ok (.getfield 99, 3) := by decide +kernel
theorem dX8_root_14 : decode cX8_root 14 = .ok (.iload_n 1, 1) := by decide +kernel
theorem dX8_root_15 : decode cX8_root 15 = .ok (.laload, 1) := by decide +kernel
theorem dX8_root_16 : decode cX8_root 16 = .ok (.goto 6, 3) := by decide +kernel
theorem dX8_root_19 : decode cX8_root 19 = .ok (.ldc2_w 75, 3) := by decide +kernel
theorem dX8_root_22 : decode cX8_root 22 = .ok (.lreturn, 1) := by decide +kernel
set_option maxRecDepth 20000 in
theorem ggX8_common_X8_greatestDivisor : GoodIn wsX8_common wsX8_greatestDivisor := goodIn_r _ [9, 10] (by decide +kernel) (by decide +kernel)
set_option maxRecDepth 20000 in
theorem gX8_common_X8_greatestDivisor : GoodIn wsX8_common (va_wsS RX8 108 yX8_greatestDivisor wsX8_greatestDivisor) := goodIn_app (goodIn_of _ (by decide +kernel)) ggX8_common_X8_greatestDivisor
theorem dX8_common_0 : decode cX8_common 0 = .ok (.lconst 0, 1) := by decide +kernel
theorem dX8_common_1 : decode cX8_common 1 = .ok (.lstore_n 1, 1) := by decide +kernel
theorem dX8_common_2 : decode cX8_common 2 = .ok (.iconst 0, 1) := by decide +kernel
theorem dX8_common_3 : decode cX8_common 3 = .ok (.istore_n 3, 1) := by decide +kernel
theorem dX8_common_4 : decode cX8_common 4 = .ok (.iload_n 3, 1) := by decide +kernel
theorem dX8_common_5 : decode cX8_common 5 = .ok (.iconst 4, 1) := by decide +kernel
theorem dX8_common_6 : decode cX8_common 6 = .ok (.if_icmp .ge 23, 3) := by decide +kernel
theorem dX8_common_9 : decode cX8_common 9 = .ok (.lload_n 1, 1) := by decide +kernel
theorem dX8_common_10 : decode cX8_common 10 = .ok (.aload_n 0, 1) := by decide +kernel
theorem dX8_common_11 : decode cX8_common 11 = .ok (.getfield 15, 3) := by decide +kernel
theorem dX8_common_14 : decode cX8_common 14 = .ok (.iload_n 3, 1) := by decide +kernel
theorem dX8_common_15 : decode cX8_common 15 = .ok (.laload, 1) := by decide +kernel
theorem dX8_common_16 : decode cX8_common 16 = .ok (.invokestatic 102, 3) := by decide +kernel
theorem dX8_common_19 : decode cX8_common 19 = .ok (.invokestatic 108, 3) := by decide +kernel
theorem dX8_common_22 : decode cX8_common 22 = .ok (.lstore_n 1, 1) := by decide +kernel
theorem dX8_common_23 : decode cX8_common 23 = .ok (.iinc 3 1, 3) := by decide +kernel
theorem dX8_common_26 : decode cX8_common 26 = .ok (.goto (-22), 3) := by decide +kernel
theorem dX8_common_29 : decode cX8_common 29 = .ok (.lload_n 1, 1) := by decide +kernel
theorem dX8_common_30 : decode cX8_common 30 = .ok (.l2i, 1) := by decide +kernel
theorem dX8_common_31 : decode cX8_common 31 = .ok (.ireturn, 1) := by decide +kernel
set_option maxRecDepth 20000 in
theorem ggX8_upTo_X8_mayBeAsked : GoodIn wsX8_upTo wsX8_mayBeAsked := goodIn_r _ [5, 6] (by decide +kernel) (by decide +kernel)
set_option maxRecDepth 20000 in
theorem gX8_upTo_X8_mayBeAsked : GoodIn wsX8_upTo (va_wsS RX8 112 yX8_mayBeAsked wsX8_mayBeAsked) := goodIn_app (goodIn_of _ (by decide +kernel)) ggX8_upTo_X8_mayBeAsked
set_option maxRecDepth 20000 in
theorem ggX8_upTo_X3_isBound : GoodIn wsX8_upTo wsX3_isBound := goodIn_r _ [11, 12, 93, 94, 95, 96, 97, 98] (by decide +kernel) (by decide +kernel)
set_option maxRecDepth 20000 in
theorem gX8_upTo_X3_isBound : GoodIn wsX8_upTo (wsV RX8 115 RX3 yX3_isBound wsX3_isBound) := goodIn_app (goodIn_of _ (by decide +kernel)) ggX8_upTo_X3_isBound
set_option maxRecDepth 20000 in
theorem ggX8_upTo_X3_countUpTo : GoodIn wsX8_upTo wsX3_countUpTo := goodIn_r _ [16, 12, 17, 18, 19, 20, 21, 22, 23, 24, 25, 26, 27, 28, 29, 30, 31, 32, 33, 34, 35, 36, 37, 38, 39, 40, 41, 42, 43, 44, 45, 46, 47, 48, 4, 49, 50, 51, 52, 53, 54, 55, 56, 57, 58, 59, 60, 61, 62, 63, 64, 65, 66, 67, 68, 69, 70, 71, 72, 73, 74, 75, 76, 77, 78, 79, 80, 81, 82, 83, 93, 94, 95, 96, 97, 98, 99, 100, 101, 102, 103] (by decide +kernel) (by decide +kernel)
set_option maxRecDepth 20000 in
theorem gX8_upTo_X3_countUpTo : GoodIn wsX8_upTo (wsV RX8 119 RX3 yX3_countUpTo wsX3_countUpTo) := goodIn_app (goodIn_of _ (by decide +kernel)) ggX8_upTo_X3_countUpTo
theorem dX8_upTo_0 : decode cX8_upTo 0 = .ok (.iload_n 1, 1) := by decide +kernel
theorem dX8_upTo_1 : decode cX8_upTo 1 = .ok (.invokestatic 112, 3) := by decide +kernel
theorem dX8_upTo_4 : decode cX8_upTo 4 = .ok (.ifCond .ne 6, 3) := by decide +kernel
theorem dX8_upTo_7 : decode cX8_upTo 7 = .ok (.bipush (-2), 2) := by decide +kernel
theorem dX8_upTo_9 : decode cX8_upTo 9 = .ok (.ireturn, 1) := by decide +kernel
theorem dX8_upTo_10 : decode cX8_upTo 10 = .ok (.aload_n 0, 1) := by decide +kernel
theorem dX8_upTo_11 : decode cX8_upTo 11 = .ok (.getfield 31, 3) := by decide +kernel
theorem dX8_upTo_14 : decode cX8_upTo 14 = .ok (.invokevirtual 115, 3) := by decide +kernel
theorem dX8_upTo_17 : decode cX8_upTo 17 = .ok (.ifCond .eq 14, 3) := by decide +kernel
theorem dX8_upTo_20 : decode cX8_upTo 20 = .ok (.aload_n 0, 1) := by decide +kernel
theorem dX8_upTo_21 : decode cX8_upTo 21 = .ok (.getfield 31, 3) := by decide +kernel
theorem dX8_upTo_24 : decode cX8_upTo 24 = .ok (.iload_n 1, 1) := by decide +kernel
theorem dX8_upTo_25 : decode cX8_upTo 25 = .ok (.invokevirtual 119, 3) := by decide +kernel
theorem dX8_upTo_28 : decode cX8_upTo 28 = .ok (.goto 5, 3) := by decide +kernel
theorem dX8_upTo_31 : decode cX8_upTo 31 = .ok (.bipush (-3), 2) := by decide +kernel
theorem dX8_upTo_33 : decode cX8_upTo 33 = .ok (.ireturn, 1) := by decide +kernel
set_option maxRecDepth 20000 in
theorem ggX8_just_X8_mayBeAsked : GoodIn wsX8_just wsX8_mayBeAsked := goodIn_r _ [5, 6] (by decide +kernel) (by decide +kernel)
set_option maxRecDepth 20000 in
theorem gX8_just_X8_mayBeAsked : GoodIn wsX8_just (va_wsS RX8 112 yX8_mayBeAsked wsX8_mayBeAsked) := goodIn_app (goodIn_of _ (by decide +kernel)) ggX8_just_X8_mayBeAsked
set_option maxRecDepth 20000 in
theorem ggX8_just_X3_isBound : GoodIn wsX8_just wsX3_isBound := goodIn_r _ [11, 12, 93, 94, 95, 96, 97, 98] (by decide +kernel) (by decide +kernel)
set_option maxRecDepth 20000 in
theorem gX8_just_X3_isBound : GoodIn wsX8_just (wsV RX8 115 RX3 yX3_isBound wsX3_isBound) := goodIn_app (goodIn_of _ (by decide +kernel)) ggX8_just_X3_isBound
set_option maxRecDepth 20000 in
theorem ggX8_just_X3_countUpTo : GoodIn wsX8_just wsX3_countUpTo := goodIn_r _ [16, 12, 17, 18, 19, 20, 21, 22, 23, 24, 25, 26, 27, 28, 29, 30, 31, 32, 33, 34, 35, 36, 37, 38, 39, 40, 41, 42, 43, 44, 45, 46, 47, 48, 4, 49, 50, 51, 52, 53, 54, 55, 56, 57, 58, 59, 60, 61, 62, 63, 64, 65, 66, 67, 68, 69, 70, 71, 72, 73, 74, 75, 76, 77, 78, 79, 80, 81, 82, 83, 93, 94, 95, 96, 97, 98, 99, 100, 101, 102, 103] (by decide +kernel) (by decide +kernel)
set_option maxRecDepth 20000 in
theorem gX8_just_X3_countUpTo : GoodIn wsX8_just (wsV RX8 119 RX3 yX3_countUpTo wsX3_countUpTo) := goodIn_app (goodIn_of _ (by decide +kernel)) ggX8_just_X3_countUpTo
theorem dX8_just_0 : decode cX8_just 0 = .ok (.iload_n 1, 1) := by decide +kernel
theorem dX8_just_1 : decode cX8_just 1 = .ok (.invokestatic 112, 3) := by decide +kernel
theorem dX8_just_4 : decode cX8_just 4 = .ok (.ifCond .ne 6, 3) := by decide +kernel
theorem dX8_just_7 : decode cX8_just 7 = .ok (.bipush (-2), 2) := by decide +kernel
theorem dX8_just_9 : decode cX8_just 9 = .ok (.ireturn, 1) := by decide +kernel
theorem dX8_just_10 : decode cX8_just 10 = .ok (.aload_n 0, 1) := by decide +kernel
theorem dX8_just_11 : decode cX8_just 11 = .ok (.getfield 31, 3) := by decide +kernel
theorem dX8_just_14 : decode cX8_just 14 = .ok (.invokevirtual 115, 3) := by decide +kernel
theorem dX8_just_17 : decode cX8_just 17 = .ok (.ifCond .eq 25, 3) := by decide +kernel
theorem dX8_just_20 : decode cX8_just 20 = .ok (.aload_n 0, 1) := by decide +kernel
theorem dX8_just_21 : decode cX8_just 21 = .ok (.getfield 31, 3) := by decide +kernel
theorem dX8_just_24 : decode cX8_just 24 = .ok (.iload_n 1, 1) := by decide +kernel
theorem dX8_just_25 : decode cX8_just 25 = .ok (.invokevirtual 119, 3) := by decide +kernel
theorem dX8_just_28 : decode cX8_just 28 = .ok (.aload_n 0, 1) := by decide +kernel
theorem dX8_just_29 : decode cX8_just 29 = .ok (.getfield 31, 3) := by decide +kernel
theorem dX8_just_32 : decode cX8_just 32 = .ok (.iload_n 1, 1) := by decide +kernel
theorem dX8_just_33 : decode cX8_just 33 = .ok (.iconst 1, 1) := by decide +kernel
theorem dX8_just_34 : decode cX8_just 34 = .ok (.isub, 1) := by decide +kernel
theorem dX8_just_35 : decode cX8_just 35 = .ok (.invokevirtual 119, 3) := by decide +kernel
theorem dX8_just_38 : decode cX8_just 38 = .ok (.isub, 1) := by decide +kernel
theorem dX8_just_39 : decode cX8_just 39 = .ok (.goto 5, 3) := by decide +kernel
theorem dX8_just_42 : decode cX8_just 42 = .ok (.bipush (-3), 2) := by decide +kernel
theorem dX8_just_44 : decode cX8_just 44 = .ok (.ireturn, 1) := by decide +kernel
set_option maxRecDepth 20000 in
theorem ggX8_least_X3_isBound : GoodIn wsX8_least wsX3_isBound := goodIn_r _ [7, 8, 117, 118, 119, 120, 121, 122] (by decide +kernel) (by decide +kernel)
set_option maxRecDepth 20000 in
theorem gX8_least_X3_isBound : GoodIn wsX8_least (wsV RX8 115 RX3 yX3_isBound wsX3_isBound) := goodIn_app (goodIn_of _ (by decide +kernel)) ggX8_least_X3_isBound
set_option maxRecDepth 20000 in
theorem ggX8_least_X3_leastOf : GoodIn wsX8_least wsX3_leastOf := goodIn_r _ [12, 13, 8, 14, 15, 16, 17, 18, 19, 20, 21, 22, 23, 24, 25, 26, 27, 28, 29, 30, 31, 32, 33, 34, 35, 36, 37, 38, 39, 40, 41, 42, 43, 44, 45, 46, 47, 48, 49, 50, 51, 52, 53, 54, 55, 56, 57, 58, 59, 60, 61, 62, 63, 64, 65, 66, 67, 68, 69, 70, 71, 72, 73, 74, 75, 76, 77, 78, 79, 80, 81, 82, 83, 84, 85, 86, 87, 88, 89, 90, 91, 92, 93, 94, 95, 96, 97, 98, 99, 100, 101, 102, 103, 104, 105, 106, 107, 117, 118, 119, 120, 121, 122, 123, 124, 125, 126, 127, 128] (by decide +kernel) (by decide +kernel)
set_option maxRecDepth 20000 in
theorem gX8_least_X3_leastOf : GoodIn wsX8_least (wsV RX8 123 RX3 yX3_leastOf wsX3_leastOf) := goodIn_app (goodIn_of _ (by decide +kernel)) ggX8_least_X3_leastOf
theorem dX8_least_0 : decode cX8_least 0 = .ok (.iload_n 1, 1) := by decide +kernel
theorem dX8_least_1 : decode cX8_least 1 = .ok (.ifCond .lt 20, 3) := by decide +kernel
theorem dX8_least_4 : decode cX8_least 4 = .ok (.iload_n 1, 1) := by decide +kernel
theorem dX8_least_5 : decode cX8_least 5 = .ok (.sipush 2000, 3) := by decide +kernel
theorem dX8_least_8 : decode cX8_least 8 = .ok (.if_icmp .gt 13, 3) := by decide +kernel
theorem dX8_least_11 : decode cX8_least 11 = .ok (.aload_n 0, 1) := by decide +kernel
theorem dX8_least_12 : decode cX8_least 12 = .ok (.getfield 31, 3) := by decide +kernel
theorem dX8_least_15 : decode cX8_least 15 = .ok (.invokevirtual 115, 3) := by decide +kernel
theorem dX8_least_18 : decode cX8_least 18 = .ok (.ifCond .ne 7, 3) := by decide +kernel
theorem dX8_least_21 : decode cX8_least 21 = .ok (.ldc2_w 75, 3) := by decide +kernel
theorem dX8_least_24 : decode cX8_least 24 = .ok (.lreturn, 1) := by decide +kernel
theorem dX8_least_25 : decode cX8_least 25 = .ok (.aload_n 0, 1) := by decide +kernel
theorem dX8_least_26 : decode cX8_least 26 = .ok (.getfield 31, 3) := by decide +kernel
theorem dX8_least_29 : decode cX8_least 29 = .ok (.iload_n 1, 1) := by decide +kernel
theorem dX8_least_30 : decode cX8_least 30 = .ok (.invokevirtual 123, 3) := by decide +kernel
theorem dX8_least_33 : decode cX8_least 33 = .ok (.lreturn, 1) := by decide +kernel
set_option maxRecDepth 20000 in
theorem ggX8_remainders_X3_remaindersBy : GoodIn wsX8_remainders wsX3_remaindersBy := goodIn_r _ [6, 7, 8, 9, 10, 11, 12, 13, 14, 15, 16, 17, 18, 19, 20, 21, 22, 23, 24, 25, 26, 27, 28, 29, 30, 31, 32, 33, 34, 35, 36, 37, 38, 39, 40, 41, 42, 43, 44, 45, 55, 56, 57, 58, 59, 60, 61, 62, 63, 64] (by decide +kernel) (by decide +kernel)
set_option maxRecDepth 20000 in
theorem gX8_remainders_X3_remaindersBy : GoodIn wsX8_remainders (wsV RX8 127 RX3 yX3_remaindersBy wsX3_remaindersBy) := goodIn_app (goodIn_of _ (by decide +kernel)) ggX8_remainders_X3_remaindersBy
theorem dX8_remainders_0 : decode cX8_remainders 0 = .ok (.iload_n 1, 1) := by decide +kernel
theorem dX8_remainders_1 : decode cX8_remainders 1 = .ok (.iconst 2, 1) := by decide +kernel
theorem dX8_remainders_2 : decode cX8_remainders 2 = .ok (.if_icmp .lt 9, 3) := by decide +kernel
theorem dX8_remainders_5 : decode cX8_remainders 5 = .ok (.iload_n 1, 1) := by decide +kernel
theorem dX8_remainders_6 : decode cX8_remainders 6 = .ok (.bipush 12, 2) := by decide +kernel
theorem dX8_remainders_8 : decode cX8_remainders 8 = .ok (.if_icmp .le 8, 3) := by decide +kernel
theorem dX8_remainders_11 : decode cX8_remainders 11 = .ok (.bipush (-2), 2) := by decide +kernel
theorem dX8_remainders_13 : decode cX8_remainders 13 = .ok (.goto 11, 3) := by decide +kernel
theorem dX8_remainders_16 : decode cX8_remainders 16 = .ok (.aload_n 0, 1) := by decide +kernel
theorem dX8_remainders_17 : decode cX8_remainders 17 = .ok (.getfield 31, 3) := by decide +kernel
theorem dX8_remainders_20 : decode cX8_remainders 20 = .ok (.iload_n 1, 1) := by decide +kernel
theorem dX8_remainders_21 : decode cX8_remainders 21 = .ok (.invokevirtual 127, 3) := by decide +kernel
theorem dX8_remainders_24 : decode cX8_remainders 24 = .ok (.ireturn, 1) := by decide +kernel
set_option maxRecDepth 20000 in
theorem ggX8_gap_X3_isBound : GoodIn wsX8_gap wsX3_isBound := goodIn_r _ [6, 7, 131, 132, 133, 134, 135, 136] (by decide +kernel) (by decide +kernel)
set_option maxRecDepth 20000 in
theorem gX8_gap_X3_isBound : GoodIn wsX8_gap (wsV RX8 115 RX3 yX3_isBound wsX3_isBound) := goodIn_app (goodIn_of _ (by decide +kernel)) ggX8_gap_X3_isBound
set_option maxRecDepth 20000 in
theorem ggX8_gap_X3_gapUpTo : GoodIn wsX8_gap wsX3_gapUpTo := goodIn_r _ [11, 12, 7, 13, 14, 15, 16, 5, 17, 18, 19, 20, 21, 22, 23, 24, 25, 26, 27, 28, 29, 30, 31, 32, 33, 34, 35, 36, 37, 38, 39, 40, 41, 42, 43, 44, 45, 46, 47, 48, 49, 50, 51, 52, 53, 54, 55, 56, 57, 58, 59, 60, 61, 62, 63, 64, 65, 66, 67, 68, 69, 70, 71, 72, 73, 74, 75, 76, 77, 78, 79, 80, 81, 82, 83, 84, 85, 86, 87, 88, 89, 90, 91, 92, 93, 94, 95, 96, 97, 98, 99, 100, 101, 102, 103, 104, 105, 106, 107, 108, 109, 110, 111, 112, 113, 114, 115, 116, 117, 118, 119, 120, 121, 131, 132, 133, 134, 135, 136, 137, 138, 139, 140, 141, 142, 143, 144, 145] (by decide +kernel) (by decide +kernel)
set_option maxRecDepth 20000 in
theorem gX8_gap_X3_gapUpTo : GoodIn wsX8_gap (wsV RX8 130 RX3 yX3_gapUpTo wsX3_gapUpTo) := goodIn_app (goodIn_of _ (by decide +kernel)) ggX8_gap_X3_gapUpTo
theorem dX8_gap_0 : decode cX8_gap 0 = .ok (.iload_n 1, 1) := by decide +kernel
theorem dX8_gap_1 : decode cX8_gap 1 = .ok (.iconst 1, 1) := by decide +kernel
theorem dX8_gap_2 : decode cX8_gap 2 = .ok (.if_icmp .lt 22, 3) := by decide +kernel
theorem dX8_gap_5 : decode cX8_gap 5 = .ok (.iload_n 1, 1) := by decide +kernel
theorem dX8_gap_6 : decode cX8_gap 6 = .ok (.sipush 5000, 3) := by decide +kernel
theorem dX8_gap_9 : decode cX8_gap 9 = .ok (.if_icmp .gt 15, 3) := by decide +kernel
theorem dX8_gap_12 : decode cX8_gap 12 = .ok (.iload_n 2, 1) := by decide +kernel
theorem dX8_gap_13 : decode cX8_gap 13 = .ok (.iconst (-1), 1) := by decide +kernel
theorem dX8_gap_14 : decode cX8_gap 14 = .ok (.if_icmp .lt 10, 3) := by decide +kernel
theorem dX8_gap_17 : decode cX8_gap 17 = .ok (.iload_n 2, 1) := by decide +kernel
theorem dX8_gap_18 : decode cX8_gap 18 = .ok (.sipush 5000, 3) := by decide +kernel
theorem dX8_gap_21 : decode cX8_gap 21 = .ok (.if_icmp .le 6, 3) := by decide +kernel
theorem dX8_gap_24 : decode cX8_gap 24 = .ok (.bipush (-2), 2) := by decide +kernel
theorem dX8_gap_26 : decode cX8_gap 26 = .ok (.ireturn, 1) := by decide +kernel
theorem dX8_gap_27 : decode cX8_gap 27 = .ok (.aload_n 0, 1) := by decide +kernel
theorem dX8_gap_28 : decode cX8_gap 28 = .ok (.getfield 31, 3) := by decide +kernel
theorem dX8_gap_31 : decode cX8_gap 31 = .ok (.invokevirtual 115, 3) := by decide +kernel
theorem dX8_gap_34 : decode cX8_gap 34 = .ok (.ifCond .eq 15, 3) := by decide +kernel
theorem dX8_gap_37 : decode cX8_gap 37 = .ok (.aload_n 0, 1) := by decide +kernel
theorem dX8_gap_38 : decode cX8_gap 38 = .ok (.getfield 31, 3) := by decide +kernel
theorem dX8_gap_41 : decode cX8_gap 41 = .ok (.iload_n 1, 1) := by decide +kernel
theorem dX8_gap_42 : decode cX8_gap 42 = .ok (.iload_n 2, 1) := by decide +kernel
theorem dX8_gap_43 : decode cX8_gap 43 = .ok (.invokevirtual 130, 3) := by decide +kernel
theorem dX8_gap_46 : decode cX8_gap 46 = .ok (.goto 5, 3) := by decide +kernel
theorem dX8_gap_49 : decode cX8_gap 49 = .ok (.bipush (-3), 2) := by decide +kernel
theorem dX8_gap_51 : decode cX8_gap 51 = .ok (.ireturn, 1) := by decide +kernel
set_option maxRecDepth 20000 in
theorem ggX8_bendOf_X8_isPlace : GoodIn wsX8_bendOf wsX8_isPlace := goodIn_r _ [8] (by decide +kernel) (by decide +kernel)
set_option maxRecDepth 20000 in
theorem gX8_bendOf_X8_isPlace : GoodIn wsX8_bendOf (va_wsS RX8 72 yX8_isPlace wsX8_isPlace) := goodIn_app (goodIn_of _ (by decide +kernel)) ggX8_bendOf_X8_isPlace
set_option maxRecDepth 20000 in
theorem ggX8_bendOf_X5_read : GoodIn wsX8_bendOf wsX5_read := goodIn_r _ [13, 14, 15, 16, 17, 12, 18, 19, 6, 7, 8, 20, 21, 22, 23, 24, 44] (by decide +kernel) (by decide +kernel)
set_option maxRecDepth 20000 in
theorem gX8_bendOf_X5_read : GoodIn wsX8_bendOf (wsV RX8 134 RX5 yX5_read wsX5_read) := goodIn_app (goodIn_of _ (by decide +kernel)) ggX8_bendOf_X5_read
set_option maxRecDepth 20000 in
theorem ggX8_bendOf_X5_weigh : GoodIn wsX8_bendOf wsX5_weigh := goodIn_r _ [28, 19, 44] (by decide +kernel) (by decide +kernel)
set_option maxRecDepth 20000 in
theorem gX8_bendOf_X5_weigh : GoodIn wsX8_bendOf (wsV RX8 137 RX5 yX5_weigh wsX5_weigh) := goodIn_app (goodIn_of _ (by decide +kernel)) ggX8_bendOf_X5_weigh
theorem dX8_bendOf_0 : decode cX8_bendOf 0 = .ok (.iload_n 2, 1) := by decide +kernel
theorem dX8_bendOf_1 : decode cX8_bendOf 1 = .ok (.invokestatic 72, 3) := by decide +kernel
theorem dX8_bendOf_4 : decode cX8_bendOf 4 = .ok (.ifCond .eq 14, 3) := by decide +kernel
theorem dX8_bendOf_7 : decode cX8_bendOf 7 = .ok (.aload_n 0, 1) := by decide +kernel
theorem dX8_bendOf_8 : decode cX8_bendOf 8 = .ok (.getfield 38, 3) := by decide +kernel
theorem dX8_bendOf_11 : decode cX8_bendOf 11 = .ok (.iload_n 1, 1) := by decide +kernel
theorem dX8_bendOf_12 : decode cX8_bendOf 12 = .ok (.invokevirtual 134, 3) := by decide +kernel
theorem dX8_bendOf_15 : decode cX8_bendOf 15 = .ok (.ifCond .ne 7, 3) := by decide +kernel
theorem dX8_bendOf_18 : decode cX8_bendOf 18 = .ok (.ldc2_w 75, 3) := by decide +kernel
theorem dX8_bendOf_21 : decode cX8_bendOf 21 = .ok (.lreturn, 1) := by decide +kernel
theorem dX8_bendOf_22 : decode cX8_bendOf 22 = .ok (.aload_n 0, 1) := by decide +kernel
theorem dX8_bendOf_23 : decode cX8_bendOf 23 = .ok (.getfield 38, 3) := by decide +kernel
theorem dX8_bendOf_26 : decode cX8_bendOf 26 = .ok (.iload_n 2, 1) := by decide +kernel
theorem dX8_bendOf_27 : decode cX8_bendOf 27 = .ok (.iconst 1, 1) := by decide +kernel
theorem dX8_bendOf_28 : decode cX8_bendOf 28 = .ok (.isub, 1) := by decide +kernel
theorem dX8_bendOf_29 : decode cX8_bendOf 29 = .ok (.aload_n 0, 1) := by decide +kernel
theorem dX8_bendOf_30 : decode cX8_bendOf 30 = .ok (.getfield 31, 3) := by decide +kernel
theorem dX8_bendOf_33 : decode cX8_bendOf 33 = .ok (.getfield 99, 3) := by decide +kernel
theorem dX8_bendOf_36 : decode cX8_bendOf 36 = .ok (.invokevirtual 137, 3) := by decide +kernel
theorem dX8_bendOf_39 : decode cX8_bendOf 39 = .ok (.lreturn, 1) := by decide +kernel
set_option maxRecDepth 20000 in
theorem ggX8_times_X8_isPlace : GoodIn wsX8_times wsX8_isPlace := goodIn_r _ [7] (by decide +kernel) (by decide +kernel)
set_option maxRecDepth 20000 in
theorem gX8_times_X8_isPlace : GoodIn wsX8_times (va_wsS RX8 72 yX8_isPlace wsX8_isPlace) := goodIn_app (goodIn_of _ (by decide +kernel)) ggX8_times_X8_isPlace
set_option maxRecDepth 20000 in
theorem ggX8_times_X8_isIndex : GoodIn wsX8_times wsX8_isIndex := goodIn_r _ [10] (by decide +kernel) (by decide +kernel)
set_option maxRecDepth 20000 in
theorem gX8_times_X8_isIndex : GoodIn wsX8_times (va_wsS RX8 96 yX8_isIndex wsX8_isIndex) := goodIn_app (goodIn_of _ (by decide +kernel)) ggX8_times_X8_isIndex
set_option maxRecDepth 20000 in
theorem ggX8_times_X5_read : GoodIn wsX8_times wsX5_read := goodIn_r _ [15, 16, 17, 18, 19, 14, 20, 21, 5, 6, 7, 22, 23, 24, 25, 26, 36] (by decide +kernel) (by decide +kernel)
set_option maxRecDepth 20000 in
theorem gX8_times_X5_read : GoodIn wsX8_times (wsV RX8 134 RX5 yX5_read wsX5_read) := goodIn_app (goodIn_of _ (by decide +kernel)) ggX8_times_X5_read
theorem dX8_times_0 : decode cX8_times 0 = .ok (.iload_n 2, 1) := by decide +kernel
theorem dX8_times_1 : decode cX8_times 1 = .ok (.invokestatic 72, 3) := by decide +kernel
theorem dX8_times_4 : decode cX8_times 4 = .ok (.ifCond .eq 21, 3) := by decide +kernel
theorem dX8_times_7 : decode cX8_times 7 = .ok (.iload_n 3, 1) := by decide +kernel
theorem dX8_times_8 : decode cX8_times 8 = .ok (.invokestatic 96, 3) := by decide +kernel
theorem dX8_times_11 : decode cX8_times 11 = .ok (.ifCond .eq 14, 3) := by decide +kernel
theorem dX8_times_14 : decode cX8_times 14 = .ok (.aload_n 0, 1) := by decide +kernel
theorem dX8_times_15 : decode cX8_times 15 = .ok (.getfield 38, 3) := by decide +kernel
theorem dX8_times_18 : decode cX8_times 18 = .ok (.iload_n 1, 1) := by decide +kernel
theorem dX8_times_19 : decode cX8_times 19 = .ok (.invokevirtual 134, 3) := by decide +kernel
theorem dX8_times_22 : decode cX8_times 22 = .ok (.ifCond .ne 7, 3) := by decide +kernel
theorem dX8_times_25 : decode cX8_times 25 = .ok (.ldc2_w 75, 3) := by decide +kernel
theorem dX8_times_28 : decode cX8_times 28 = .ok (.lreturn, 1) := by decide +kernel
theorem dX8_times_29 : decode cX8_times 29 = .ok (.aload_n 0, 1) := by decide +kernel
theorem dX8_times_30 : decode cX8_times 30 = .ok (.getfield 38, 3) := by decide +kernel
theorem dX8_times_33 : decode cX8_times 33 = .ok (.getfield 141, 3) := by decide +kernel
theorem dX8_times_36 : decode cX8_times 36 = .ok (.iload_n 2, 1) := by decide +kernel
theorem dX8_times_37 : decode cX8_times 37 = .ok (.iconst 1, 1) := by decide +kernel
theorem dX8_times_38 : decode cX8_times 38 = .ok (.isub, 1) := by decide +kernel
theorem dX8_times_39 : decode cX8_times 39 = .ok (.aaload, 1) := by decide +kernel
theorem dX8_times_40 : decode cX8_times 40 = .ok (.iload_n 3, 1) := by decide +kernel
theorem dX8_times_41 : decode cX8_times 41 = .ok (.laload, 1) := by decide +kernel
theorem dX8_times_42 : decode cX8_times 42 = .ok (.lreturn, 1) := by decide +kernel
set_option maxRecDepth 20000 in
theorem ggX8_product_X8_isPlace : GoodIn wsX8_product wsX8_isPlace := goodIn_r _ [8] (by decide +kernel) (by decide +kernel)
set_option maxRecDepth 20000 in
theorem gX8_product_X8_isPlace : GoodIn wsX8_product (va_wsS RX8 72 yX8_isPlace wsX8_isPlace) := goodIn_app (goodIn_of _ (by decide +kernel)) ggX8_product_X8_isPlace
set_option maxRecDepth 20000 in
theorem ggX8_product_X5_read : GoodIn wsX8_product wsX5_read := goodIn_r _ [13, 14, 15, 16, 17, 12, 18, 19, 6, 7, 8, 20, 21, 22, 23, 24, 38] (by decide +kernel) (by decide +kernel)
set_option maxRecDepth 20000 in
theorem gX8_product_X5_read : GoodIn wsX8_product (wsV RX8 134 RX5 yX5_read wsX5_read) := goodIn_app (goodIn_of _ (by decide +kernel)) ggX8_product_X5_read
set_option maxRecDepth 20000 in
theorem ggX8_product_X8_productOf : GoodIn wsX8_product wsX8_productOf := goodIn_r _ [27, 28] (by decide +kernel) (by decide +kernel)
set_option maxRecDepth 20000 in
theorem gX8_product_X8_productOf : GoodIn wsX8_product (va_wsS RX8 144 yX8_productOf wsX8_productOf) := goodIn_app (goodIn_of _ (by decide +kernel)) ggX8_product_X8_productOf
theorem dX8_product_0 : decode cX8_product 0 = .ok (.iload_n 2, 1) := by decide +kernel
theorem dX8_product_1 : decode cX8_product 1 = .ok (.invokestatic 72, 3) := by decide +kernel
theorem dX8_product_4 : decode cX8_product 4 = .ok (.ifCond .eq 33, 3) := by decide +kernel
theorem dX8_product_7 : decode cX8_product 7 = .ok (.iload 4, 2) := by decide +kernel
theorem dX8_product_9 : decode cX8_product 9 = .ok (.invokestatic 72, 3) := by decide +kernel
theorem dX8_product_12 : decode cX8_product 12 = .ok (.ifCond .eq 25, 3) := by decide +kernel
theorem dX8_product_15 : decode cX8_product 15 = .ok (.aload_n 0, 1) := by decide +kernel
theorem dX8_product_16 : decode cX8_product 16 = .ok (.getfield 38, 3) := by decide +kernel
theorem dX8_product_19 : decode cX8_product 19 = .ok (.iload_n 1, 1) := by decide +kernel
theorem dX8_product_20 : decode cX8_product 20 = .ok (.invokevirtual 134, 3) := by decide +kernel
theorem dX8_product_23 : decode cX8_product 23 = .ok (.ifCond .eq 14, 3) := by decide +kernel
theorem dX8_product_26 : decode cX8_product 26 = .ok (.aload_n 0, 1) := by decide +kernel
theorem dX8_product_27 : decode cX8_product 27 = .ok (.getfield 42, 3) := by decide +kernel
theorem dX8_product_30 : decode cX8_product 30 = .ok (.iload_n 3, 1) := by decide +kernel
theorem dX8_product_31 : decode cX8_product 31 = .ok (.invokevirtual 134, 3) := by decide +kernel
theorem dX8_product_34 : decode cX8_product 34 = .ok (.ifCond .ne 7, 3) := by decide +kernel
theorem dX8_product_37 : decode cX8_product 37 = .ok (.ldc2_w 75, 3) := by decide +kernel
theorem dX8_product_40 : decode cX8_product 40 = .ok (.lreturn, 1) := by decide +kernel
theorem dX8_product_41 : decode cX8_product 41 = .ok (.aload_n 0, 1) := by decide +kernel
theorem dX8_product_42 : decode cX8_product 42 = .ok (.getfield 38, 3) := by decide +kernel
theorem dX8_product_45 : decode cX8_product 45 = .ok (.getfield 141, 3) := by decide +kernel
theorem dX8_product_48 : decode cX8_product 48 = .ok (.iload_n 2, 1) := by decide +kernel
theorem dX8_product_49 : decode cX8_product 49 = .ok (.iconst 1, 1) := by decide +kernel
theorem dX8_product_50 : decode cX8_product 50 = .ok (.isub, 1) := by decide +kernel
theorem dX8_product_51 : decode cX8_product 51 = .ok (.aaload, 1) := by decide +kernel
theorem dX8_product_52 : decode cX8_product 52 = .ok (.aload_n 0, 1) := by decide +kernel
theorem dX8_product_53 : decode cX8_product 53 = .ok (.getfield 42, 3) := by decide +kernel
theorem dX8_product_56 : decode cX8_product 56 = .ok (.getfield 141, 3) := by decide +kernel
theorem dX8_product_59 : decode cX8_product 59 = .ok (.iload 4, 2) := by decide +kernel
theorem dX8_product_61 : decode cX8_product 61 = .ok (.iconst 1, 1) := by decide +kernel
theorem dX8_product_62 : decode cX8_product 62 = .ok (.isub, 1) := by decide +kernel
theorem dX8_product_63 : decode cX8_product 63 = .ok (.aaload, 1) := by decide +kernel
theorem dX8_product_64 : decode cX8_product 64 = .ok (.invokestatic 144, 3) := by decide +kernel
theorem dX8_product_67 : decode cX8_product 67 = .ok (.lreturn, 1) := by decide +kernel
set_option maxRecDepth 20000 in
theorem ggX8_touching_X8_isPlace : GoodIn wsX8_touching wsX8_isPlace := goodIn_r _ [8] (by decide +kernel) (by decide +kernel)
set_option maxRecDepth 20000 in
theorem gX8_touching_X8_isPlace : GoodIn wsX8_touching (va_wsS RX8 72 yX8_isPlace wsX8_isPlace) := goodIn_app (goodIn_of _ (by decide +kernel)) ggX8_touching_X8_isPlace
set_option maxRecDepth 20000 in
theorem ggX8_touching_X5_read : GoodIn wsX8_touching wsX5_read := goodIn_r _ [13, 14, 15, 16, 17, 12, 18, 19, 6, 7, 8, 20, 21, 22, 23, 24, 38] (by decide +kernel) (by decide +kernel)
set_option maxRecDepth 20000 in
theorem gX8_touching_X5_read : GoodIn wsX8_touching (wsV RX8 134 RX5 yX5_read wsX5_read) := goodIn_app (goodIn_of _ (by decide +kernel)) ggX8_touching_X5_read
set_option maxRecDepth 20000 in
theorem ggX8_touching_X8_productOf : GoodIn wsX8_touching wsX8_productOf := goodIn_r _ [27, 28] (by decide +kernel) (by decide +kernel)
set_option maxRecDepth 20000 in
theorem gX8_touching_X8_productOf : GoodIn wsX8_touching (va_wsS RX8 144 yX8_productOf wsX8_productOf) := goodIn_app (goodIn_of _ (by decide +kernel)) ggX8_touching_X8_productOf
theorem dX8_touching_0 : decode cX8_touching 0 = .ok (.iload_n 3, 1) := by decide +kernel
theorem dX8_touching_1 : decode cX8_touching 1 = .ok (.invokestatic 72, 3) := by decide +kernel
theorem dX8_touching_4 : decode cX8_touching 4 = .ok (.ifCond .ne 5, 3) := by decide +kernel
theorem dX8_touching_7 : decode cX8_touching 7 = .ok (.iconst (-1), 1) := by decide +kernel
theorem dX8_touching_8 : decode cX8_touching 8 = .ok (.ireturn, 1) := by decide +kernel
theorem dX8_touching_9 : decode cX8_touching 9 = .ok (.aload_n 0, 1) := by decide +kernel
theorem dX8_touching_10 : decode cX8_touching 10 = .ok (.getfield 38, 3) := by decide +kernel
theorem dX8_touching_13 : decode cX8_touching 13 = .ok (.iload_n 1, 1) := by decide +kernel
theorem dX8_touching_14 : decode cX8_touching 14 = .ok (.invokevirtual 134, 3) := by decide +kernel
theorem dX8_touching_17 : decode cX8_touching 17 = .ok (.ifCond .eq 14, 3) := by decide +kernel
theorem dX8_touching_20 : decode cX8_touching 20 = .ok (.aload_n 0, 1) := by decide +kernel
theorem dX8_touching_21 : decode cX8_touching 21 = .ok (.getfield 42, 3) := by decide +kernel
theorem dX8_touching_24 : decode cX8_touching 24 = .ok (.iload_n 2, 1) := by decide +kernel
theorem dX8_touching_25 : decode cX8_touching 25 = .ok (.invokevirtual 134, 3) := by decide +kernel
theorem dX8_touching_28 : decode cX8_touching 28 = .ok (.ifCond .ne 6, 3) := by decide +kernel
theorem dX8_touching_31 : decode cX8_touching 31 = .ok (.bipush (-2), 2) := by decide +kernel
theorem dX8_touching_33 : decode cX8_touching 33 = .ok (.ireturn, 1) := by decide +kernel
theorem dX8_touching_34 : decode cX8_touching 34 = .ok (.iconst 0, 1) := by decide +kernel
theorem dX8_touching_35 : decode cX8_touching 35 = .ok (.istore 4, 2) := by decide +kernel
theorem dX8_touching_37 : decode cX8_touching 37 = .ok (.iconst 0, 1) := by decide +kernel
theorem dX8_touching_38 : decode cX8_touching 38 = .ok (.istore 5, 2) := by decide +kernel
theorem dX8_touching_40 : decode cX8_touching 40 = .ok (.iload 5, 2) := by decide +kernel
theorem dX8_touching_42 : decode cX8_touching 42 = .ok (.iconst 4, 1) := by decide +kernel
theorem dX8_touching_43 : decode cX8_touching 43 = .ok (.if_icmp .ge 43, 3) := by decide +kernel
theorem dX8_touching_46 : decode cX8_touching 46 = .ok (.aload_n 0, 1) := by decide +kernel
theorem dX8_touching_47 : decode cX8_touching 47 = .ok (.getfield 38, 3) := by decide +kernel
theorem dX8_touching_50 : decode cX8_touching 50 = .ok (.getfield 141, 3) := by decide +kernel
theorem dX8_touching_53 : decode cX8_touching 53 = .ok (.iload 5, 2) := by decide +kernel
theorem dX8_touching_55 : decode cX8_touching 55 = .ok (.aaload, 1) := by decide +kernel
theorem dX8_touching_56 : decode cX8_touching 56 = .ok (.aload_n 0, 1) := by decide +kernel
theorem dX8_touching_57 : decode cX8_touching 57 = .ok (.getfield 42, 3) := by decide +kernel
theorem dX8_touching_60 : decode cX8_touching 60 = .ok (.getfield 141, 3) := by decide +kernel
theorem dX8_touching_63 : decode cX8_touching 63 = .ok (.iload_n 3, 1) := by decide +kernel
theorem dX8_touching_64 : decode cX8_touching 64 = .ok (.iconst 1, 1) := by decide +kernel
theorem dX8_touching_65 : decode cX8_touching 65 = .ok (.isub, 1) := by decide +kernel
theorem dX8_touching_66 : decode cX8_touching 66 = .ok (.aaload, 1) := by decide +kernel
theorem dX8_touching_67 : decode cX8_touching 67 = .ok (.invokestatic 144, 3) := by decide +kernel
theorem dX8_touching_70 : decode cX8_touching 70 = .ok (.ldc2_w 9, 3) := by decide +kernel
theorem dX8_touching_73 : decode cX8_touching 73 = .ok (.lcmp, 1) := by decide +kernel
theorem dX8_touching_74 : decode cX8_touching 74 = .ok (.ifCond .ne 6, 3) := by decide +kernel
theorem dX8_touching_77 : decode cX8_touching 77 = .ok (.iinc 4 1, 3) := by decide +kernel
theorem dX8_touching_80 : decode cX8_touching 80 = .ok (.iinc 5 1, 3) := by decide +kernel
theorem dX8_touching_83 : decode cX8_touching 83 = .ok (.goto (-43), 3) := by decide +kernel
theorem dX8_touching_86 : decode cX8_touching 86 = .ok (.iload 4, 2) := by decide +kernel
theorem dX8_touching_88 : decode cX8_touching 88 = .ok (.ireturn, 1) := by decide +kernel
set_option maxRecDepth 20000 in
theorem ggX8_keep_X8_isCopy : GoodIn wsX8_keep wsX8_isCopy := goodIn_r _ [7] (by decide +kernel) (by decide +kernel)
set_option maxRecDepth 20000 in
theorem gX8_keep_X8_isCopy : GoodIn wsX8_keep (va_wsS RX8 148 yX8_isCopy wsX8_isCopy) := goodIn_app (goodIn_of _ (by decide +kernel)) ggX8_keep_X8_isCopy
set_option maxRecDepth 20000 in
theorem ggX8_keep_X8_copyFour : GoodIn wsX8_keep wsX8_copyFour := goodIn_r _ [10] (by decide +kernel) (by decide +kernel)
set_option maxRecDepth 20000 in
theorem gX8_keep_X8_copyFour : GoodIn wsX8_keep (va_wsS RX8 151 yX8_copyFour wsX8_copyFour) := goodIn_app (goodIn_of _ (by decide +kernel)) ggX8_keep_X8_copyFour
theorem dX8_keep_0 : decode cX8_keep 0 = .ok (.iload_n 1, 1) := by decide +kernel
theorem dX8_keep_1 : decode cX8_keep 1 = .ok (.invokestatic 148, 3) := by decide +kernel
theorem dX8_keep_4 : decode cX8_keep 4 = .ok (.ifCond .ne 5, 3) := by decide +kernel
theorem dX8_keep_7 : decode cX8_keep 7 = .ok (.iconst (-1), 1) := by decide +kernel
theorem dX8_keep_8 : decode cX8_keep 8 = .ok (.ireturn, 1) := by decide +kernel
theorem dX8_keep_9 : decode cX8_keep 9 = .ok (.aload_n 0, 1) := by decide +kernel
theorem dX8_keep_10 : decode cX8_keep 10 = .ok (.getfield 15, 3) := by decide +kernel
theorem dX8_keep_13 : decode cX8_keep 13 = .ok (.aload_n 0, 1) := by decide +kernel
theorem dX8_keep_14 : decode cX8_keep 14 = .ok (.getfield 47, 3) := by decide +kernel
theorem dX8_keep_17 : decode cX8_keep 17 = .ok (.iload_n 1, 1) := by decide +kernel
theorem dX8_keep_18 : decode cX8_keep 18 = .ok (.aaload, 1) := by decide +kernel
theorem dX8_keep_19 : decode cX8_keep 19 = .ok (.invokestatic 151, 3) := by decide +kernel
theorem dX8_keep_22 : decode cX8_keep 22 = .ok (.aload_n 0, 1) := by decide +kernel
theorem dX8_keep_23 : decode cX8_keep 23 = .ok (.getfield 50, 3) := by decide +kernel
theorem dX8_keep_26 : decode cX8_keep 26 = .ok (.iload_n 1, 1) := by decide +kernel
theorem dX8_keep_27 : decode cX8_keep 27 = .ok (.iconst 1, 1) := by decide +kernel
theorem dX8_keep_28 : decode cX8_keep 28 = .ok (.bastore, 1) := by decide +kernel
theorem dX8_keep_29 : decode cX8_keep 29 = .ok (.iconst 1, 1) := by decide +kernel
theorem dX8_keep_30 : decode cX8_keep 30 = .ok (.ireturn, 1) := by decide +kernel
set_option maxRecDepth 20000 in
theorem ggX8_back_X8_isCopy : GoodIn wsX8_back wsX8_isCopy := goodIn_r _ [7] (by decide +kernel) (by decide +kernel)
set_option maxRecDepth 20000 in
theorem gX8_back_X8_isCopy : GoodIn wsX8_back (va_wsS RX8 148 yX8_isCopy wsX8_isCopy) := goodIn_app (goodIn_of _ (by decide +kernel)) ggX8_back_X8_isCopy
set_option maxRecDepth 20000 in
theorem ggX8_back_X8_copyFour : GoodIn wsX8_back wsX8_copyFour := goodIn_r _ [10] (by decide +kernel) (by decide +kernel)
set_option maxRecDepth 20000 in
theorem gX8_back_X8_copyFour : GoodIn wsX8_back (va_wsS RX8 151 yX8_copyFour wsX8_copyFour) := goodIn_app (goodIn_of _ (by decide +kernel)) ggX8_back_X8_copyFour
set_option maxRecDepth 20000 in
theorem ggX8_back_X8_findRoot : GoodIn wsX8_back wsX8_findRoot := goodIn_r _ [14, 15, 3, 16, 17, 18, 19, 20, 21, 22, 23, 24, 25, 26, 27, 28, 9, 6, 10, 29, 30, 31, 32, 33, 34, 35, 36, 37, 38, 39, 40, 41, 42, 43, 44, 45, 46, 47, 48, 49, 50, 51, 52, 53, 54, 55, 56, 57, 58, 59, 60, 61, 62, 63, 64, 65, 66, 67, 68, 69, 70, 71, 72, 73, 74, 75, 76, 77, 78, 79, 80, 81, 82, 83, 84, 85, 86] (by decide +kernel) (by decide +kernel)
set_option maxRecDepth 20000 in
theorem gX8_back_X8_findRoot : GoodIn wsX8_back (wsV RX8 61 RX8 yX8_findRoot wsX8_findRoot) := goodIn_app (goodIn_of _ (by decide +kernel)) ggX8_back_X8_findRoot
theorem dX8_back_0 : decode cX8_back 0 = .ok (.iload_n 1, 1) := by decide +kernel
theorem dX8_back_1 : decode cX8_back 1 = .ok (.invokestatic 148, 3) := by decide +kernel
theorem dX8_back_4 : decode cX8_back 4 = .ok (.ifCond .ne 5, 3) := by decide +kernel
theorem dX8_back_7 : decode cX8_back 7 = .ok (.iconst (-1), 1) := by decide +kernel
theorem dX8_back_8 : decode cX8_back 8 = .ok (.ireturn, 1) := by decide +kernel
theorem dX8_back_9 : decode cX8_back 9 = .ok (.aload_n 0, 1) := by decide +kernel
theorem dX8_back_10 : decode cX8_back 10 = .ok (.getfield 50, 3) := by decide +kernel
theorem dX8_back_13 : decode cX8_back 13 = .ok (.iload_n 1, 1) := by decide +kernel
theorem dX8_back_14 : decode cX8_back 14 = .ok (.baload, 1) := by decide +kernel
theorem dX8_back_15 : decode cX8_back 15 = .ok (.ifCond .ne 6, 3) := by decide +kernel
theorem dX8_back_18 : decode cX8_back 18 = .ok (.bipush (-3), 2) := by decide +kernel
theorem dX8_back_20 : decode cX8_back 20 = .ok (.ireturn, 1) := by decide +kernel
theorem dX8_back_21 : decode cX8_back 21 = .ok (.aload_n 0, 1) := by decide +kernel
theorem dX8_back_22 : decode cX8_back 22 = .ok (.getfield 47, 3) := by decide +kernel
theorem dX8_back_25 : decode cX8_back 25 = .ok (.iload_n 1, 1) := by decide +kernel
theorem dX8_back_26 : decode cX8_back 26 = .ok (.aaload, 1) := by decide +kernel
theorem dX8_back_27 : decode cX8_back 27 = .ok (.aload_n 0, 1) := by decide +kernel
theorem dX8_back_28 : decode cX8_back 28 = .ok (.getfield 15, 3) := by decide +kernel
theorem dX8_back_31 : decode cX8_back 31 = .ok (.invokestatic 151, 3) := by decide +kernel
theorem dX8_back_34 : decode cX8_back 34 = .ok (.aload_n 0, 1) := by decide +kernel
theorem dX8_back_35 : decode cX8_back 35 = .ok (.invokevirtual 61, 3) := by decide +kernel
theorem dX8_back_38 : decode cX8_back 38 = .ok (.iconst 1, 1) := by decide +kernel
theorem dX8_back_39 : decode cX8_back 39 = .ok (.ireturn, 1) := by decide +kernel
set_option maxRecDepth 20000 in
theorem ggX8_shelf_X8_isShelf : GoodIn wsX8_shelf wsX8_isShelf := goodIn_r _ [5] (by decide +kernel) (by decide +kernel)
set_option maxRecDepth 20000 in
theorem gX8_shelf_X8_isShelf : GoodIn wsX8_shelf (va_wsS RX8 155 yX8_isShelf wsX8_isShelf) := goodIn_app (goodIn_of _ (by decide +kernel)) ggX8_shelf_X8_isShelf
set_option maxRecDepth 20000 in
theorem ggX8_shelf_X4_renew : GoodIn wsX8_shelf wsX4_renew := goodIn_r _ [10, 11, 12, 13, 14, 24, 25, 26, 27, 28] (by decide +kernel) (by decide +kernel)
set_option maxRecDepth 20000 in
theorem gX8_shelf_X4_renew : GoodIn wsX8_shelf (wsV RX8 158 RX4 yX4_renew wsX4_renew) := goodIn_app (goodIn_of _ (by decide +kernel)) ggX8_shelf_X4_renew
theorem dX8_shelf_0 : decode cX8_shelf 0 = .ok (.iload_n 1, 1) := by decide +kernel
theorem dX8_shelf_1 : decode cX8_shelf 1 = .ok (.invokestatic 155, 3) := by decide +kernel
theorem dX8_shelf_4 : decode cX8_shelf 4 = .ok (.ifCond .ne 5, 3) := by decide +kernel
theorem dX8_shelf_7 : decode cX8_shelf 7 = .ok (.iconst (-1), 1) := by decide +kernel
theorem dX8_shelf_8 : decode cX8_shelf 8 = .ok (.ireturn, 1) := by decide +kernel
theorem dX8_shelf_9 : decode cX8_shelf 9 = .ok (.iload_n 2, 1) := by decide +kernel
theorem dX8_shelf_10 : decode cX8_shelf 10 = .ok (.ifCond .lt 14, 3) := by decide +kernel
theorem dX8_shelf_13 : decode cX8_shelf 13 = .ok (.iload_n 2, 1) := by decide +kernel
theorem dX8_shelf_14 : decode cX8_shelf 14 = .ok (.iconst 3, 1) := by decide +kernel
theorem dX8_shelf_15 : decode cX8_shelf 15 = .ok (.if_icmp .gt 9, 3) := by decide +kernel
theorem dX8_shelf_18 : decode cX8_shelf 18 = .ok (.iload_n 3, 1) := by decide +kernel
theorem dX8_shelf_19 : decode cX8_shelf 19 = .ok (.bipush 6, 2) := by decide +kernel
theorem dX8_shelf_21 : decode cX8_shelf 21 = .ok (.if_icmp .le 6, 3) := by decide +kernel
theorem dX8_shelf_24 : decode cX8_shelf 24 = .ok (.bipush (-2), 2) := by decide +kernel
theorem dX8_shelf_26 : decode cX8_shelf 26 = .ok (.ireturn, 1) := by decide +kernel
theorem dX8_shelf_27 : decode cX8_shelf 27 = .ok (.iload_n 3, 1) := by decide +kernel
theorem dX8_shelf_28 : decode cX8_shelf 28 = .ok (.ifCond .ge 6, 3) := by decide +kernel
theorem dX8_shelf_31 : decode cX8_shelf 31 = .ok (.bipush (-14), 2) := by decide +kernel
theorem dX8_shelf_33 : decode cX8_shelf 33 = .ok (.ireturn, 1) := by decide +kernel
theorem dX8_shelf_34 : decode cX8_shelf 34 = .ok (.aload_n 0, 1) := by decide +kernel
theorem dX8_shelf_35 : decode cX8_shelf 35 = .ok (.getfield 57, 3) := by decide +kernel
theorem dX8_shelf_38 : decode cX8_shelf 38 = .ok (.iload_n 1, 1) := by decide +kernel
theorem dX8_shelf_39 : decode cX8_shelf 39 = .ok (.aaload, 1) := by decide +kernel
theorem dX8_shelf_40 : decode cX8_shelf 40 = .ok (.iload_n 2, 1) := by decide +kernel
theorem dX8_shelf_41 : decode cX8_shelf 41 = .ok (.iload_n 3, 1) := by decide +kernel
theorem dX8_shelf_42 : decode cX8_shelf 42 = .ok (.invokevirtual 158, 3) := by decide +kernel
theorem dX8_shelf_45 : decode cX8_shelf 45 = .ok (.iload_n 3, 1) := by decide +kernel
theorem dX8_shelf_46 : decode cX8_shelf 46 = .ok (.ireturn, 1) := by decide +kernel
set_option maxRecDepth 20000 in
theorem ggX8_lay_X8_isShelf : GoodIn wsX8_lay wsX8_isShelf := goodIn_r _ [6] (by decide +kernel) (by decide +kernel)
set_option maxRecDepth 20000 in
theorem gX8_lay_X8_isShelf : GoodIn wsX8_lay (va_wsS RX8 155 yX8_isShelf wsX8_isShelf) := goodIn_app (goodIn_of _ (by decide +kernel)) ggX8_lay_X8_isShelf
set_option maxRecDepth 20000 in
theorem ggX8_lay_X8_isPlace : GoodIn wsX8_lay wsX8_isPlace := goodIn_r _ [9] (by decide +kernel) (by decide +kernel)
set_option maxRecDepth 20000 in
theorem gX8_lay_X8_isPlace : GoodIn wsX8_lay (va_wsS RX8 72 yX8_isPlace wsX8_isPlace) := goodIn_app (goodIn_of _ (by decide +kernel)) ggX8_lay_X8_isPlace
set_option maxRecDepth 20000 in
theorem ggX8_lay_X4_take : GoodIn wsX8_lay wsX4_take := goodIn_r _ [14, 15, 16, 17, 18, 19, 20, 13, 21, 22, 23, 24, 25, 26, 27, 37, 38, 39, 40, 41] (by decide +kernel) (by decide +kernel)
set_option maxRecDepth 20000 in
theorem gX8_lay_X4_take : GoodIn wsX8_lay (wsV RX8 162 RX4 yX4_take wsX4_take) := goodIn_app (goodIn_of _ (by decide +kernel)) ggX8_lay_X4_take
theorem dX8_lay_0 : decode cX8_lay 0 = .ok (.iload_n 1, 1) := by decide +kernel
theorem dX8_lay_1 : decode cX8_lay 1 = .ok (.invokestatic 155, 3) := by decide +kernel
theorem dX8_lay_4 : decode cX8_lay 4 = .ok (.ifCond .eq 10, 3) := by decide +kernel
theorem dX8_lay_7 : decode cX8_lay 7 = .ok (.iload_n 3, 1) := by decide +kernel
theorem dX8_lay_8 : decode cX8_lay 8 = .ok (.invokestatic 72, 3) := by decide +kernel
theorem dX8_lay_11 : decode cX8_lay 11 = .ok (.ifCond .ne 5, 3) := by decide +kernel
theorem dX8_lay_14 : decode cX8_lay 14 = .ok (.iconst (-1), 1) := by decide +kernel
theorem dX8_lay_15 : decode cX8_lay 15 = .ok (.ireturn, 1) := by decide +kernel
theorem dX8_lay_16 : decode cX8_lay 16 = .ok (.aload_n 0, 1) := by decide +kernel
theorem dX8_lay_17 : decode cX8_lay 17 = .ok (.getfield 57, 3) := by decide +kernel
theorem dX8_lay_20 : decode cX8_lay 20 = .ok (.iload_n 1, 1) := by decide +kernel
theorem dX8_lay_21 : decode cX8_lay 21 = .ok (.aaload, 1) := by decide +kernel
theorem dX8_lay_22 : decode cX8_lay 22 = .ok (.iload_n 2, 1) := by decide +kernel
theorem dX8_lay_23 : decode cX8_lay 23 = .ok (.aload_n 0, 1) := by decide +kernel
theorem dX8_lay_24 : decode cX8_lay 24 = .ok (.getfield 15, 3) := by decide +kernel
theorem dX8_lay_27 : decode cX8_lay 27 = .ok (.iload_n 3, 1) := by decide +kernel
theorem dX8_lay_28 : decode cX8_lay 28 = .ok (.iconst 1, 1) := by decide +kernel
theorem dX8_lay_29 : decode cX8_lay 29 = .ok (.isub, 1) := by decide +kernel
theorem dX8_lay_30 : decode cX8_lay 30 = .ok (.laload, 1) := by decide +kernel
theorem dX8_lay_31 : decode cX8_lay 31 = .ok (.invokevirtual 162, 3) := by decide +kernel
theorem dX8_lay_34 : decode cX8_lay 34 = .ok (.ireturn, 1) := by decide +kernel
set_option maxRecDepth 20000 in
theorem ggX8_seen_X8_isShelf : GoodIn wsX8_seen wsX8_isShelf := goodIn_r _ [6] (by decide +kernel) (by decide +kernel)
set_option maxRecDepth 20000 in
theorem gX8_seen_X8_isShelf : GoodIn wsX8_seen (va_wsS RX8 155 yX8_isShelf wsX8_isShelf) := goodIn_app (goodIn_of _ (by decide +kernel)) ggX8_seen_X8_isShelf
set_option maxRecDepth 20000 in
theorem ggX8_seen_X4_look : GoodIn wsX8_seen wsX4_look := goodIn_r _ [11, 12, 13, 14, 15, 16, 17, 18, 10, 19, 20, 30, 31, 32, 33, 34] (by decide +kernel) (by decide +kernel)
set_option maxRecDepth 20000 in
theorem gX8_seen_X4_look : GoodIn wsX8_seen (wsV RX8 166 RX4 yX4_look wsX4_look) := goodIn_app (goodIn_of _ (by decide +kernel)) ggX8_seen_X4_look
theorem dX8_seen_0 : decode cX8_seen 0 = .ok (.iload_n 1, 1) := by decide +kernel
theorem dX8_seen_1 : decode cX8_seen 1 = .ok (.invokestatic 155, 3) := by decide +kernel
theorem dX8_seen_4 : decode cX8_seen 4 = .ok (.ifCond .eq 16, 3) := by decide +kernel
theorem dX8_seen_7 : decode cX8_seen 7 = .ok (.aload_n 0, 1) := by decide +kernel
theorem dX8_seen_8 : decode cX8_seen 8 = .ok (.getfield 57, 3) := by decide +kernel
theorem dX8_seen_11 : decode cX8_seen 11 = .ok (.iload_n 1, 1) := by decide +kernel
theorem dX8_seen_12 : decode cX8_seen 12 = .ok (.aaload, 1) := by decide +kernel
theorem dX8_seen_13 : decode cX8_seen 13 = .ok (.iload_n 2, 1) := by decide +kernel
theorem dX8_seen_14 : decode cX8_seen 14 = .ok (.invokevirtual 166, 3) := by decide +kernel
theorem dX8_seen_17 : decode cX8_seen 17 = .ok (.goto 6, 3) := by decide +kernel
theorem dX8_seen_20 : decode cX8_seen 20 = .ok (.ldc2_w 75, 3) := by decide +kernel
theorem dX8_seen_23 : decode cX8_seen 23 = .ok (.lreturn, 1) := by decide +kernel
set_option maxRecDepth 20000 in
theorem ggX8_many_X8_countShelves : GoodIn wsX8_many wsX8_countShelves := goodIn_r _ [6, 7, 8, 30, 31, 32, 33, 34, 35, 36, 37, 38, 39, 40, 41, 42, 43] (by decide +kernel) (by decide +kernel)
set_option maxRecDepth 20000 in
theorem gX8_many_X8_countShelves : GoodIn wsX8_many (wsV RX8 169 RX8 yX8_countShelves wsX8_countShelves) := goodIn_app (goodIn_of _ (by decide +kernel)) ggX8_many_X8_countShelves
set_option maxRecDepth 20000 in
theorem ggX8_many_X8_countCopies : GoodIn wsX8_many wsX8_countCopies := goodIn_r _ [12, 13, 30, 31, 32, 33, 34, 35, 36, 37, 38] (by decide +kernel) (by decide +kernel)
set_option maxRecDepth 20000 in
theorem gX8_many_X8_countCopies : GoodIn wsX8_many (wsV RX8 173 RX8 yX8_countCopies wsX8_countCopies) := goodIn_app (goodIn_of _ (by decide +kernel)) ggX8_many_X8_countCopies
set_option maxRecDepth 20000 in
theorem ggX8_many_X8_countLaid : GoodIn wsX8_many wsX8_countLaid := goodIn_r _ [17, 7, 18, 19, 20, 21, 22, 23, 30, 31, 32, 33, 34, 35, 36, 37, 38, 39, 40, 41, 42, 43] (by decide +kernel) (by decide +kernel)
set_option maxRecDepth 20000 in
theorem gX8_many_X8_countLaid : GoodIn wsX8_many (wsV RX8 176 RX8 yX8_countLaid wsX8_countLaid) := goodIn_app (goodIn_of _ (by decide +kernel)) ggX8_many_X8_countLaid
set_option maxRecDepth 20000 in
theorem ggX8_many_X3_isBound : GoodIn wsX8_many wsX3_isBound := goodIn_r _ [28, 29, 44, 45, 46, 47, 48, 49] (by decide +kernel) (by decide +kernel)
set_option maxRecDepth 20000 in
theorem gX8_many_X3_isBound : GoodIn wsX8_many (wsV RX8 115 RX3 yX3_isBound wsX3_isBound) := goodIn_app (goodIn_of _ (by decide +kernel)) ggX8_many_X3_isBound
theorem dX8_many_0 : decode cX8_many 0 = .ok (.iload_n 1, 1) := by decide +kernel
theorem dX8_many_1 : decode cX8_many 1 = .ok (.tableswitch 62 0 3 #[31, 36, 41, 46], 31) := by decide +kernel
theorem dX8_many_32 : decode cX8_many 32 = .ok (.aload_n 0, 1) := by decide +kernel
theorem dX8_many_33 : decode cX8_many 33 = .ok (.invokevirtual 169, 3) := by decide +kernel
theorem dX8_many_36 : decode cX8_many 36 = .ok (.ireturn, 1) := by decide +kernel
theorem dX8_many_37 : decode cX8_many 37 = .ok (.aload_n 0, 1) := by decide +kernel
theorem dX8_many_38 : decode cX8_many 38 = .ok (.invokevirtual 173, 3) := by decide +kernel
theorem dX8_many_41 : decode cX8_many 41 = .ok (.ireturn, 1) := by decide +kernel
theorem dX8_many_42 : decode cX8_many 42 = .ok (.aload_n 0, 1) := by decide +kernel
theorem dX8_many_43 : decode cX8_many 43 = .ok (.invokevirtual 176, 3) := by decide +kernel
theorem dX8_many_46 : decode cX8_many 46 = .ok (.ireturn, 1) := by decide +kernel
theorem dX8_many_47 : decode cX8_many 47 = .ok (.aload_n 0, 1) := by decide +kernel
theorem dX8_many_48 : decode cX8_many 48 = .ok (.getfield 31, 3) := by decide +kernel
theorem dX8_many_51 : decode cX8_many 51 = .ok (.invokevirtual 115, 3) := by decide +kernel
theorem dX8_many_54 : decode cX8_many 54 = .ok (.ifCond .eq 7, 3) := by decide +kernel
theorem dX8_many_57 : decode cX8_many 57 = .ok (.iconst 1, 1) := by decide +kernel
theorem dX8_many_58 : decode cX8_many 58 = .ok (.goto 4, 3) := by decide +kernel
theorem dX8_many_61 : decode cX8_many 61 = .ok (.iconst 0, 1) := by decide +kernel
theorem dX8_many_62 : decode cX8_many 62 = .ok (.ireturn, 1) := by decide +kernel
theorem dX8_many_63 : decode cX8_many 63 = .ok (.bipush (-2), 2) := by decide +kernel
theorem dX8_many_65 : decode cX8_many 65 = .ok (.ireturn, 1) := by decide +kernel
set_option maxRecDepth 20000 in
theorem ggX8_findRoot_X0_go : GoodIn wsX8_findRoot wsX0_go := goodIn_r _ [12, 13, 14, 15, 16, 17, 18, 19, 20, 21, 11, 22, 23, 24, 25, 63, 64, 65] (by decide +kernel) (by decide +kernel)
set_option maxRecDepth 20000 in
theorem gX8_findRoot_X0_go : GoodIn wsX8_findRoot (wsV RX8 89 RX0 yX0_go wsX0_go) := goodIn_app (goodIn_of _ (by decide +kernel)) ggX8_findRoot_X0_go
set_option maxRecDepth 20000 in
theorem ggX8_findRoot_X8_order : GoodIn wsX8_findRoot wsX8_order := goodIn_r _ [28] (by decide +kernel) (by decide +kernel)
set_option maxRecDepth 20000 in
theorem gX8_findRoot_X8_order : GoodIn wsX8_findRoot (va_wsS RX8 186 yX8_order wsX8_order) := goodIn_app (goodIn_of _ (by decide +kernel)) ggX8_findRoot_X8_order
set_option maxRecDepth 20000 in
theorem ggX8_findRoot_X3_become : GoodIn wsX8_findRoot wsX3_become := goodIn_r _ [33, 34, 35, 36, 37, 38, 39, 40, 32, 41, 16, 17, 18, 42, 43, 44, 45, 46, 47, 48, 49, 50, 51, 52, 53, 66, 67, 68, 69, 70, 71, 72, 73, 74, 75, 76] (by decide +kernel) (by decide +kernel)
set_option maxRecDepth 20000 in
theorem gX8_findRoot_X3_become : GoodIn wsX8_findRoot (wsV RX8 190 RX3 yX3_become wsX3_become) := goodIn_app (goodIn_of _ (by decide +kernel)) ggX8_findRoot_X3_become
theorem dX8_findRoot_0 : decode cX8_findRoot 0 = .ok (.aload_n 0, 1) := by decide +kernel
theorem dX8_findRoot_1 : decode cX8_findRoot 1 = .ok (.getfield 24, 3) := by decide +kernel
theorem dX8_findRoot_4 : decode cX8_findRoot 4 = .ok (.aload_n 0, 1) := by decide +kernel
theorem dX8_findRoot_5 : decode cX8_findRoot 5 = .ok (.getfield 15, 3) := by decide +kernel
theorem dX8_findRoot_8 : decode cX8_findRoot 8 = .ok (.ldc 179, 2) := by decide +kernel
theorem dX8_findRoot_10 : decode cX8_findRoot 10 = .ok (.invokevirtual 89, 3) := by decide +kernel
theorem dX8_findRoot_13 : decode cX8_findRoot 13 = .ok (.aload_n 0, 1) := by decide +kernel
theorem dX8_findRoot_14 : decode cX8_findRoot 14 = .ok (.aload_n 0, 1) := by decide +kernel
theorem dX8_findRoot_15 : decode cX8_findRoot 15 = .ok (.getfield 24, 3) := by decide +kernel
theorem dX8_findRoot_18 : decode cX8_findRoot 18 = .ok (.getfield 180, 3) := by decide +kernel
theorem dX8_findRoot_21 : decode cX8_findRoot 21 = .ok (.putfield 85, 3) := by decide +kernel
theorem dX8_findRoot_24 : decode cX8_findRoot 24 = .ok (.aload_n 0, 1) := by decide +kernel
theorem dX8_findRoot_25 : decode cX8_findRoot 25 = .ok (.getfield 24, 3) := by decide +kernel
theorem dX8_findRoot_28 : decode cX8_findRoot 28 = .ok (.getfield 183, 3) := by decide +kernel
theorem dX8_findRoot_31 : decode cX8_findRoot 31 = .ok (.invokestatic 186, 3) := by decide +kernel
theorem dX8_findRoot_34 : decode cX8_findRoot 34 = .ok (.aload_n 0, 1) := by decide +kernel
theorem dX8_findRoot_35 : decode cX8_findRoot 35 = .ok (.getfield 31, 3) := by decide +kernel
theorem dX8_findRoot_38 : decode cX8_findRoot 38 = .ok (.aload_n 0, 1) := by decide +kernel
theorem dX8_findRoot_39 : decode cX8_findRoot 39 = .ok (.getfield 24, 3) := by decide +kernel
theorem dX8_findRoot_42 : decode cX8_findRoot 42 = .ok (.getfield 183, 3) := by decide +kernel
theorem dX8_findRoot_45 : decode cX8_findRoot 45 = .ok (.invokevirtual 190, 3) := by decide +kernel
theorem dX8_findRoot_48 : decode cX8_findRoot 48 = .ok (.return_, 1) := by decide +kernel
theorem dX8_countShelves_0 : decode cX8_countShelves 0 = .ok (.iconst 0, 1) := by decide +kernel
theorem dX8_countShelves_1 : decode cX8_countShelves 1 = .ok (.istore_n 1, 1) := by decide +kernel
theorem dX8_countShelves_2 : decode cX8_countShelves 2 = .ok (.iconst 0, 1) := by decide +kernel
theorem dX8_countShelves_3 : decode cX8_countShelves 3 = .ok (.istore_n 2, 1) := by decide +kernel
theorem dX8_countShelves_4 : decode cX8_countShelves 4 = .ok (.iload_n 2, 1) := by decide +kernel
theorem dX8_countShelves_5 : decode cX8_countShelves 5 = .ok (.iconst 3, 1) := by decide +kernel
theorem dX8_countShelves_6 : decode cX8_countShelves 6 = .ok (.if_icmp .ge 24, 3) := by decide +kernel
theorem dX8_countShelves_9 : decode cX8_countShelves 9 = .ok (.aload_n 0, 1) := by decide +kernel
theorem dX8_countShelves_10 : decode cX8_countShelves 10 = .ok (.getfield 57, 3) := by decide +kernel
theorem dX8_countShelves_13 : decode cX8_countShelves 13 = .ok (.iload_n 2, 1) := by decide +kernel
theorem dX8_countShelves_14 : decode cX8_countShelves 14 = .ok (.aaload, 1) := by decide +kernel
theorem dX8_countShelves_15 : decode cX8_countShelves 15 = .ok (.getfield 193, 3) := by decide +kernel
theorem dX8_countShelves_18 : decode cX8_countShelves 18 = .ok (.ifCond .eq 6, 3) := by decide +kernel
theorem dX8_countShelves_21 : decode cX8_countShelves 21 = .ok (.iinc 1 1, 3) := by decide +kernel
theorem dX8_countShelves_24 : decode cX8_countShelves 24 = .ok (.iinc 2 1, 3) := by decide +kernel
theorem dX8_countShelves_27 : decode cX8_countShelves 27 = .ok (.goto (-23), 3) := by decide +kernel
theorem dX8_countShelves_30 : decode cX8_countShelves 30 = .ok (.iload_n 1, 1) := by decide +kernel
theorem dX8_countShelves_31 : decode cX8_countShelves 31 = .ok (.ireturn, 1) := by decide +kernel
theorem dX8_countCopies_0 : decode cX8_countCopies 0 = .ok (.iconst 0, 1) := by decide +kernel
theorem dX8_countCopies_1 : decode cX8_countCopies 1 = .ok (.istore_n 1, 1) := by decide +kernel
theorem dX8_countCopies_2 : decode cX8_countCopies 2 = .ok (.iconst 0, 1) := by decide +kernel
theorem dX8_countCopies_3 : decode cX8_countCopies 3 = .ok (.istore_n 2, 1) := by decide +kernel
theorem dX8_countCopies_4 : decode cX8_countCopies 4 = .ok (.iload_n 2, 1) := by decide +kernel
theorem dX8_countCopies_5 : decode cX8_countCopies 5 = .ok (.iconst 3, 1) := by decide +kernel
theorem dX8_countCopies_6 : decode cX8_countCopies 6 = .ok (.if_icmp .ge 21, 3) := by decide +kernel
theorem dX8_countCopies_9 : decode cX8_countCopies 9 = .ok (.aload_n 0, 1) := by decide +kernel
theorem dX8_countCopies_10 : decode cX8_countCopies 10 = .ok (.getfield 50, 3) := by decide +kernel
theorem dX8_countCopies_13 : decode cX8_countCopies 13 = .ok (.iload_n 2, 1) := by decide +kernel
theorem dX8_countCopies_14 : decode cX8_countCopies 14 = .ok (.baload, 1) := by decide +kernel
theorem dX8_countCopies_15 : decode cX8_countCopies 15 = .ok (.ifCond .eq 6, 3) := by decide +kernel
theorem dX8_countCopies_18 : decode cX8_countCopies 18 = .ok (.iinc 1 1, 3) := by decide +kernel
theorem dX8_countCopies_21 : decode cX8_countCopies 21 = .ok (.iinc 2 1, 3) := by decide +kernel
theorem dX8_countCopies_24 : decode cX8_countCopies 24 = .ok (.goto (-20), 3) := by decide +kernel
theorem dX8_countCopies_27 : decode cX8_countCopies 27 = .ok (.iload_n 1, 1) := by decide +kernel
theorem dX8_countCopies_28 : decode cX8_countCopies 28 = .ok (.ireturn, 1) := by decide +kernel
set_option maxRecDepth 20000 in
theorem ggX8_countLaid_X4_countFilled : GoodIn wsX8_countLaid wsX4_countFilled := goodIn_r _ [6, 7, 17, 18, 19, 20, 21] (by decide +kernel) (by decide +kernel)
set_option maxRecDepth 20000 in
theorem gX8_countLaid_X4_countFilled : GoodIn wsX8_countLaid (wsV RX8 197 RX4 yX4_countFilled wsX4_countFilled) := goodIn_app (goodIn_of _ (by decide +kernel)) ggX8_countLaid_X4_countFilled
theorem dX8_countLaid_0 : decode cX8_countLaid 0 = .ok (.iconst 0, 1) := by decide +kernel
theorem dX8_countLaid_1 : decode cX8_countLaid 1 = .ok (.istore_n 1, 1) := by decide +kernel
theorem dX8_countLaid_2 : decode cX8_countLaid 2 = .ok (.iconst 0, 1) := by decide +kernel
theorem dX8_countLaid_3 : decode cX8_countLaid 3 = .ok (.istore_n 2, 1) := by decide +kernel
theorem dX8_countLaid_4 : decode cX8_countLaid 4 = .ok (.iload_n 2, 1) := by decide +kernel
theorem dX8_countLaid_5 : decode cX8_countLaid 5 = .ok (.iconst 3, 1) := by decide +kernel
theorem dX8_countLaid_6 : decode cX8_countLaid 6 = .ok (.if_icmp .ge 21, 3) := by decide +kernel
theorem dX8_countLaid_9 : decode cX8_countLaid 9 = .ok (.iload_n 1, 1) := by decide +kernel
theorem dX8_countLaid_10 : decode cX8_countLaid 10 = .ok (.aload_n 0, 1) := by decide +kernel
theorem dX8_countLaid_11 : decode cX8_countLaid 11 = .ok (.getfield 57, 3) := by decide +kernel
theorem dX8_countLaid_14 : decode cX8_countLaid 14 = .ok (.iload_n 2, 1) := by decide +kernel
theorem dX8_countLaid_15 : decode cX8_countLaid 15 = .ok (.aaload, 1) := by decide +kernel
theorem dX8_countLaid_16 : decode cX8_countLaid 16 = .ok (.invokevirtual 197, 3) := by decide +kernel
theorem dX8_countLaid_19 : decode cX8_countLaid 19 = .ok (.iadd, 1) := by decide +kernel
theorem dX8_countLaid_20 : decode cX8_countLaid 20 = .ok (.istore_n 1, 1) := by decide +kernel
theorem dX8_countLaid_21 : decode cX8_countLaid 21 = .ok (.iinc 2 1, 3) := by decide +kernel
theorem dX8_countLaid_24 : decode cX8_countLaid 24 = .ok (.goto (-20), 3) := by decide +kernel
theorem dX8_countLaid_27 : decode cX8_countLaid 27 = .ok (.iload_n 1, 1) := by decide +kernel
theorem dX8_countLaid_28 : decode cX8_countLaid 28 = .ok (.ireturn, 1) := by decide +kernel
theorem dX8_isPlace_0 : decode cX8_isPlace 0 = .ok (.iload_n 0, 1) := by decide +kernel
theorem dX8_isPlace_1 : decode cX8_isPlace 1 = .ok (.iconst 1, 1) := by decide +kernel
theorem dX8_isPlace_2 : decode cX8_isPlace 2 = .ok (.if_icmp .lt 12, 3) := by decide +kernel
theorem dX8_isPlace_5 : decode cX8_isPlace 5 = .ok (.iload_n 0, 1) := by decide +kernel
theorem dX8_isPlace_6 : decode cX8_isPlace 6 = .ok (.iconst 4, 1) := by decide +kernel
theorem dX8_isPlace_7 : decode cX8_isPlace 7 = .ok (.if_icmp .gt 7, 3) := by decide +kernel
theorem dX8_isPlace_10 : decode cX8_isPlace 10 = .ok (.iconst 1, 1) := by decide +kernel
theorem dX8_isPlace_11 : decode cX8_isPlace 11 = .ok (.goto 4, 3) := by decide +kernel
theorem dX8_isPlace_14 : decode cX8_isPlace 14 = .ok (.iconst 0, 1) := by decide +kernel
theorem dX8_isPlace_15 : decode cX8_isPlace 15 = .ok (.ireturn, 1) := by decide +kernel
theorem dX8_isIndex_0 : decode cX8_isIndex 0 = .ok (.iload_n 0, 1) := by decide +kernel
theorem dX8_isIndex_1 : decode cX8_isIndex 1 = .ok (.ifCond .lt 12, 3) := by decide +kernel
theorem dX8_isIndex_4 : decode cX8_isIndex 4 = .ok (.iload_n 0, 1) := by decide +kernel
theorem dX8_isIndex_5 : decode cX8_isIndex 5 = .ok (.iconst 4, 1) := by decide +kernel
theorem dX8_isIndex_6 : decode cX8_isIndex 6 = .ok (.if_icmp .ge 7, 3) := by decide +kernel
theorem dX8_isIndex_9 : decode cX8_isIndex 9 = .ok (.iconst 1, 1) := by decide +kernel
theorem dX8_isIndex_10 : decode cX8_isIndex 10 = .ok (.goto 4, 3) := by decide +kernel
theorem dX8_isIndex_13 : decode cX8_isIndex 13 = .ok (.iconst 0, 1) := by decide +kernel
theorem dX8_isIndex_14 : decode cX8_isIndex 14 = .ok (.ireturn, 1) := by decide +kernel
theorem dX8_isCopy_0 : decode cX8_isCopy 0 = .ok (.iload_n 0, 1) := by decide +kernel
theorem dX8_isCopy_1 : decode cX8_isCopy 1 = .ok (.ifCond .lt 12, 3) := by decide +kernel
theorem dX8_isCopy_4 : decode cX8_isCopy 4 = .ok (.iload_n 0, 1) := by decide +kernel
theorem dX8_isCopy_5 : decode cX8_isCopy 5 = .ok (.iconst 3, 1) := by decide +kernel
theorem dX8_isCopy_6 : decode cX8_isCopy 6 = .ok (.if_icmp .ge 7, 3) := by decide +kernel
theorem dX8_isCopy_9 : decode cX8_isCopy 9 = .ok (.iconst 1, 1) := by decide +kernel
theorem dX8_isCopy_10 : decode cX8_isCopy 10 = .ok (.goto 4, 3) := by decide +kernel
theorem dX8_isCopy_13 : decode cX8_isCopy 13 = .ok (.iconst 0, 1) := by decide +kernel
theorem dX8_isCopy_14 : decode cX8_isCopy 14 = .ok (.ireturn, 1) := by decide +kernel
theorem dX8_isShelf_0 : decode cX8_isShelf 0 = .ok (.iload_n 0, 1) := by decide +kernel
theorem dX8_isShelf_1 : decode cX8_isShelf 1 = .ok (.ifCond .lt 12, 3) := by decide +kernel
theorem dX8_isShelf_4 : decode cX8_isShelf 4 = .ok (.iload_n 0, 1) := by decide +kernel
theorem dX8_isShelf_5 : decode cX8_isShelf 5 = .ok (.iconst 3, 1) := by decide +kernel
theorem dX8_isShelf_6 : decode cX8_isShelf 6 = .ok (.if_icmp .ge 7, 3) := by decide +kernel
theorem dX8_isShelf_9 : decode cX8_isShelf 9 = .ok (.iconst 1, 1) := by decide +kernel
theorem dX8_isShelf_10 : decode cX8_isShelf 10 = .ok (.goto 4, 3) := by decide +kernel
theorem dX8_isShelf_13 : decode cX8_isShelf 13 = .ok (.iconst 0, 1) := by decide +kernel
theorem dX8_isShelf_14 : decode cX8_isShelf 14 = .ok (.ireturn, 1) := by decide +kernel
theorem dX8_mayBeGiven_0 : decode cX8_mayBeGiven 0 = .ok (.iload_n 0, 1) := by decide +kernel
theorem dX8_mayBeGiven_1 : decode cX8_mayBeGiven 1 = .ok (.ldc 200, 2) := by decide +kernel
theorem dX8_mayBeGiven_3 : decode cX8_mayBeGiven 3 = .ok (.if_icmp .lt 13, 3) := by decide +kernel
theorem dX8_mayBeGiven_6 : decode cX8_mayBeGiven 6 = .ok (.iload_n 0, 1) := by decide +kernel
theorem dX8_mayBeGiven_7 : decode cX8_mayBeGiven 7 = .ok (.ldc 179, 2) := by decide +kernel
theorem dX8_mayBeGiven_9 : decode cX8_mayBeGiven 9 = .ok (.if_icmp .gt 7, 3) := by decide +kernel
theorem dX8_mayBeGiven_12 : decode cX8_mayBeGiven 12 = .ok (.iconst 1, 1) := by decide +kernel
theorem dX8_mayBeGiven_13 : decode cX8_mayBeGiven 13 = .ok (.goto 4, 3) := by decide +kernel
theorem dX8_mayBeGiven_16 : decode cX8_mayBeGiven 16 = .ok (.iconst 0, 1) := by decide +kernel
theorem dX8_mayBeGiven_17 : decode cX8_mayBeGiven 17 = .ok (.ireturn, 1) := by decide +kernel
theorem dX8_mayBeAsked_0 : decode cX8_mayBeAsked 0 = .ok (.iload_n 0, 1) := by decide +kernel
theorem dX8_mayBeAsked_1 : decode cX8_mayBeAsked 1 = .ok (.ldc 200, 2) := by decide +kernel
theorem dX8_mayBeAsked_3 : decode cX8_mayBeAsked 3 = .ok (.if_icmp .lt 14, 3) := by decide +kernel
theorem dX8_mayBeAsked_6 : decode cX8_mayBeAsked 6 = .ok (.iload_n 0, 1) := by decide +kernel
theorem dX8_mayBeAsked_7 : decode cX8_mayBeAsked 7 = .ok (.sipush 5000, 3) := by decide +kernel
theorem dX8_mayBeAsked_10 : decode cX8_mayBeAsked 10 = .ok (.if_icmp .gt 7, 3) := by decide +kernel
theorem dX8_mayBeAsked_13 : decode cX8_mayBeAsked 13 = .ok (.iconst 1, 1) := by decide +kernel
theorem dX8_mayBeAsked_14 : decode cX8_mayBeAsked 14 = .ok (.goto 4, 3) := by decide +kernel
theorem dX8_mayBeAsked_17 : decode cX8_mayBeAsked 17 = .ok (.iconst 0, 1) := by decide +kernel
theorem dX8_mayBeAsked_18 : decode cX8_mayBeAsked 18 = .ok (.ireturn, 1) := by decide +kernel
theorem dX8_isGood_0 : decode cX8_isGood 0 = .ok (.lload_n 0, 1) := by decide +kernel
theorem dX8_isGood_1 : decode cX8_isGood 1 = .ok (.lload_n 2, 1) := by decide +kernel
theorem dX8_isGood_2 : decode cX8_isGood 2 = .ok (.ladd, 1) := by decide +kernel
theorem dX8_isGood_3 : decode cX8_isGood 3 = .ok (.lload 4, 2) := by decide +kernel
theorem dX8_isGood_5 : decode cX8_isGood 5 = .ok (.ladd, 1) := by decide +kernel
theorem dX8_isGood_6 : decode cX8_isGood 6 = .ok (.lload 6, 2) := by decide +kernel
theorem dX8_isGood_8 : decode cX8_isGood 8 = .ok (.ladd, 1) := by decide +kernel
theorem dX8_isGood_9 : decode cX8_isGood 9 = .ok (.lstore 8, 2) := by decide +kernel
theorem dX8_isGood_11 : decode cX8_isGood 11 = .ok (.lload 8, 2) := by decide +kernel
theorem dX8_isGood_13 : decode cX8_isGood 13 = .ok (.lconst 0, 1) := by decide +kernel
theorem dX8_isGood_14 : decode cX8_isGood 14 = .ok (.lcmp, 1) := by decide +kernel
theorem dX8_isGood_15 : decode cX8_isGood 15 = .ok (.ifCond .le 39, 3) := by decide +kernel
theorem dX8_isGood_18 : decode cX8_isGood 18 = .ok (.ldc2_w 11, 3) := by decide +kernel
theorem dX8_isGood_21 : decode cX8_isGood 21 = .ok (.lload_n 0, 1) := by decide +kernel
theorem dX8_isGood_22 : decode cX8_isGood 22 = .ok (.lload_n 0, 1) := by decide +kernel
theorem dX8_isGood_23 : decode cX8_isGood 23 = .ok (.lmul, 1) := by decide +kernel
theorem dX8_isGood_24 : decode cX8_isGood 24 = .ok (.lload_n 2, 1) := by decide +kernel
theorem dX8_isGood_25 : decode cX8_isGood 25 = .ok (.lload_n 2, 1) := by decide +kernel
theorem dX8_isGood_26 : decode cX8_isGood 26 = .ok (.lmul, 1) := by decide +kernel
theorem dX8_isGood_27 : decode cX8_isGood 27 = .ok (.ladd, 1) := by decide +kernel
theorem dX8_isGood_28 : decode cX8_isGood 28 = .ok (.lload 4, 2) := by decide +kernel
theorem dX8_isGood_30 : decode cX8_isGood 30 = .ok (.lload 4, 2) := by decide +kernel
theorem dX8_isGood_32 : decode cX8_isGood 32 = .ok (.lmul, 1) := by decide +kernel
theorem dX8_isGood_33 : decode cX8_isGood 33 = .ok (.ladd, 1) := by decide +kernel
theorem dX8_isGood_34 : decode cX8_isGood 34 = .ok (.lload 6, 2) := by decide +kernel
theorem dX8_isGood_36 : decode cX8_isGood 36 = .ok (.lload 6, 2) := by decide +kernel
theorem dX8_isGood_38 : decode cX8_isGood 38 = .ok (.lmul, 1) := by decide +kernel
theorem dX8_isGood_39 : decode cX8_isGood 39 = .ok (.ladd, 1) := by decide +kernel
theorem dX8_isGood_40 : decode cX8_isGood 40 = .ok (.lmul, 1) := by decide +kernel
theorem dX8_isGood_41 : decode cX8_isGood 41 = .ok (.lload 8, 2) := by decide +kernel
theorem dX8_isGood_43 : decode cX8_isGood 43 = .ok (.lload 8, 2) := by decide +kernel
theorem dX8_isGood_45 : decode cX8_isGood 45 = .ok (.lmul, 1) := by decide +kernel
theorem dX8_isGood_46 : decode cX8_isGood 46 = .ok (.lcmp, 1) := by decide +kernel
theorem dX8_isGood_47 : decode cX8_isGood 47 = .ok (.ifCond .ne 7, 3) := by decide +kernel
theorem dX8_isGood_50 : decode cX8_isGood 50 = .ok (.iconst 1, 1) := by decide +kernel
theorem dX8_isGood_51 : decode cX8_isGood 51 = .ok (.goto 4, 3) := by decide +kernel
theorem dX8_isGood_54 : decode cX8_isGood 54 = .ok (.iconst 0, 1) := by decide +kernel
theorem dX8_isGood_55 : decode cX8_isGood 55 = .ok (.ireturn, 1) := by decide +kernel
theorem dX8_turnedOver_0 : decode cX8_turnedOver 0 = .ok (.aload_n 0, 1) := by decide +kernel
theorem dX8_turnedOver_1 : decode cX8_turnedOver 1 = .ok (.iconst 0, 1) := by decide +kernel
theorem dX8_turnedOver_2 : decode cX8_turnedOver 2 = .ok (.laload, 1) := by decide +kernel
theorem dX8_turnedOver_3 : decode cX8_turnedOver 3 = .ok (.aload_n 0, 1) := by decide +kernel
theorem dX8_turnedOver_4 : decode cX8_turnedOver 4 = .ok (.iconst 1, 1) := by decide +kernel
theorem dX8_turnedOver_5 : decode cX8_turnedOver 5 = .ok (.laload, 1) := by decide +kernel
theorem dX8_turnedOver_6 : decode cX8_turnedOver 6 = .ok (.ladd, 1) := by decide +kernel
theorem dX8_turnedOver_7 : decode cX8_turnedOver 7 = .ok (.aload_n 0, 1) := by decide +kernel
theorem dX8_turnedOver_8 : decode cX8_turnedOver 8 = .ok (.iconst 2, 1) := by decide +kernel
theorem dX8_turnedOver_9 : decode cX8_turnedOver 9 = .ok (.laload, 1) := by decide +kernel
theorem dX8_turnedOver_10 : decode cX8_turnedOver 10 = .ok (.ladd, 1) := by decide +kernel
theorem dX8_turnedOver_11 : decode cX8_turnedOver 11 = .ok (.aload_n 0, 1) := by decide +kernel
theorem dX8_turnedOver_12 : decode cX8_turnedOver 12 = .ok (.iconst 3, 1) := by decide +kernel
theorem dX8_turnedOver_13 : decode cX8_turnedOver 13 = .ok (.laload, 1) := by decide +kernel
theorem dX8_turnedOver_14 : decode cX8_turnedOver 14 = .ok (.ladd, 1) := by decide +kernel
theorem dX8_turnedOver_15 : decode cX8_turnedOver 15 = .ok (.lstore_n 2, 1) := by decide +kernel
theorem dX8_turnedOver_16 : decode cX8_turnedOver 16 = .ok (.ldc2_w 11, 3) := by decide +kernel
theorem dX8_turnedOver_19 : decode cX8_turnedOver 19 = .ok (.lload_n 2, 1) := by decide +kernel
theorem dX8_turnedOver_20 : decode cX8_turnedOver 20 = .ok (.aload_n 0, 1) := by decide +kernel
theorem dX8_turnedOver_21 : decode cX8_turnedOver 21 = .ok (.iload_n 1, 1) := by decide +kernel
theorem dX8_turnedOver_22 : decode cX8_turnedOver 22 = .ok (.laload, 1) := by decide +kernel
theorem dX8_turnedOver_23 : decode cX8_turnedOver 23 = .ok (.lsub, 1) := by decide +kernel
theorem dX8_turnedOver_24 : decode cX8_turnedOver 24 = .ok (.lmul, 1) := by decide +kernel
theorem dX8_turnedOver_25 : decode cX8_turnedOver 25 = .ok (.aload_n 0, 1) := by decide +kernel
theorem dX8_turnedOver_26 : decode cX8_turnedOver 26 = .ok (.iload_n 1, 1) := by decide +kernel
theorem dX8_turnedOver_27 : decode cX8_turnedOver 27 = .ok (.laload, 1) := by decide +kernel
theorem dX8_turnedOver_28 : decode cX8_turnedOver 28 = .ok (.lsub, 1) := by decide +kernel
theorem dX8_turnedOver_29 : decode cX8_turnedOver 29 = .ok (.lreturn, 1) := by decide +kernel
theorem dX8_copyFour_0 : decode cX8_copyFour 0 = .ok (.iconst 0, 1) := by decide +kernel
theorem dX8_copyFour_1 : decode cX8_copyFour 1 = .ok (.istore_n 2, 1) := by decide +kernel
theorem dX8_copyFour_2 : decode cX8_copyFour 2 = .ok (.iload_n 2, 1) := by decide +kernel
theorem dX8_copyFour_3 : decode cX8_copyFour 3 = .ok (.iconst 4, 1) := by decide +kernel
theorem dX8_copyFour_4 : decode cX8_copyFour 4 = .ok (.if_icmp .ge 15, 3) := by decide +kernel
theorem dX8_copyFour_7 : decode cX8_copyFour 7 = .ok (.aload_n 1, 1) := by decide +kernel
theorem dX8_copyFour_8 : decode cX8_copyFour 8 = .ok (.iload_n 2, 1) := by decide +kernel
theorem dX8_copyFour_9 : decode cX8_copyFour 9 = .ok (.aload_n 0, 1) := by decide +kernel
theorem dX8_copyFour_10 : decode cX8_copyFour 10 = .ok (.iload_n 2, 1) := by decide +kernel
theorem dX8_copyFour_11 : decode cX8_copyFour 11 = .ok (.laload, 1) := by decide +kernel
theorem dX8_copyFour_12 : decode cX8_copyFour 12 = .ok (.lastore, 1) := by decide +kernel
theorem dX8_copyFour_13 : decode cX8_copyFour 13 = .ok (.iinc 2 1, 3) := by decide +kernel
theorem dX8_copyFour_16 : decode cX8_copyFour 16 = .ok (.goto (-14), 3) := by decide +kernel
theorem dX8_copyFour_19 : decode cX8_copyFour 19 = .ok (.return_, 1) := by decide +kernel
theorem dX8_order_0 : decode cX8_order 0 = .ok (.iconst 3, 1) := by decide +kernel
theorem dX8_order_1 : decode cX8_order 1 = .ok (.istore_n 1, 1) := by decide +kernel
theorem dX8_order_2 : decode cX8_order 2 = .ok (.iload_n 1, 1) := by decide +kernel
theorem dX8_order_3 : decode cX8_order 3 = .ok (.ifCond .le 52, 3) := by decide +kernel
theorem dX8_order_6 : decode cX8_order 6 = .ok (.iconst 0, 1) := by decide +kernel
theorem dX8_order_7 : decode cX8_order 7 = .ok (.istore_n 2, 1) := by decide +kernel
theorem dX8_order_8 : decode cX8_order 8 = .ok (.iload_n 2, 1) := by decide +kernel
theorem dX8_order_9 : decode cX8_order 9 = .ok (.iload_n 1, 1) := by decide +kernel
theorem dX8_order_10 : decode cX8_order 10 = .ok (.if_icmp .ge 39, 3) := by decide +kernel
theorem dX8_order_13 : decode cX8_order 13 = .ok (.aload_n 0, 1) := by decide +kernel
theorem dX8_order_14 : decode cX8_order 14 = .ok (.iload_n 2, 1) := by decide +kernel
theorem dX8_order_15 : decode cX8_order 15 = .ok (.laload, 1) := by decide +kernel
theorem dX8_order_16 : decode cX8_order 16 = .ok (.aload_n 0, 1) := by decide +kernel
theorem dX8_order_17 : decode cX8_order 17 = .ok (.iload_n 2, 1) := by decide +kernel
theorem dX8_order_18 : decode cX8_order 18 = .ok (.iconst 1, 1) := by decide +kernel
theorem dX8_order_19 : decode cX8_order 19 = .ok (.iadd, 1) := by decide +kernel
theorem dX8_order_20 : decode cX8_order 20 = .ok (.laload, 1) := by decide +kernel
theorem dX8_order_21 : decode cX8_order 21 = .ok (.lcmp, 1) := by decide +kernel
theorem dX8_order_22 : decode cX8_order 22 = .ok (.ifCond .le 21, 3) := by decide +kernel
theorem dX8_order_25 : decode cX8_order 25 = .ok (.aload_n 0, 1) := by decide +kernel
theorem dX8_order_26 : decode cX8_order 26 = .ok (.iload_n 2, 1) := by decide +kernel
theorem dX8_order_27 : decode cX8_order 27 = .ok (.laload, 1) := by decide +kernel
theorem dX8_order_28 : decode cX8_order 28 = .ok (.lstore_n 3, 1) := by decide +kernel
theorem dX8_order_29 : decode cX8_order 29 = .ok (.aload_n 0, 1) := by decide +kernel
theorem dX8_order_30 : decode cX8_order 30 = .ok (.iload_n 2, 1) := by decide +kernel
theorem dX8_order_31 : decode cX8_order 31 = .ok (.aload_n 0, 1) := by decide +kernel
theorem dX8_order_32 : decode cX8_order 32 = .ok (.iload_n 2, 1) := by decide +kernel
theorem dX8_order_33 : decode cX8_order 33 = .ok (.iconst 1, 1) := by decide +kernel
theorem dX8_order_34 : decode cX8_order 34 = .ok (.iadd, 1) := by decide +kernel
theorem dX8_order_35 : decode cX8_order 35 = .ok (.laload, 1) := by decide +kernel
theorem dX8_order_36 : decode cX8_order 36 = .ok (.lastore, 1) := by decide +kernel
theorem dX8_order_37 : decode cX8_order 37 = .ok (.aload_n 0, 1) := by decide +kernel
theorem dX8_order_38 : decode cX8_order 38 = .ok (.iload_n 2, 1) := by decide +kernel
theorem dX8_order_39 : decode cX8_order 39 = .ok (.iconst 1, 1) := by decide +kernel
theorem dX8_order_40 : decode cX8_order 40 = .ok (.iadd, 1) := by decide +kernel
theorem dX8_order_41 : decode cX8_order 41 = .ok (.lload_n 3, 1) := by decide +kernel
theorem dX8_order_42 : decode cX8_order 42 = .ok (.lastore, 1) := by decide +kernel
theorem dX8_order_43 : decode cX8_order 43 = .ok (.iinc 2 1, 3) := by decide +kernel
theorem dX8_order_46 : decode cX8_order 46 = .ok (.goto (-38), 3) := by decide +kernel
theorem dX8_order_49 : decode cX8_order 49 = .ok (.iinc 1 (-1), 3) := by decide +kernel
theorem dX8_order_52 : decode cX8_order 52 = .ok (.goto (-50), 3) := by decide +kernel
theorem dX8_order_55 : decode cX8_order 55 = .ok (.return_, 1) := by decide +kernel
theorem dX8_greatestDivisor_0 : decode cX8_greatestDivisor 0 = .ok (.lload_n 0, 1) := by decide +kernel
theorem dX8_greatestDivisor_1 : decode cX8_greatestDivisor 1 = .ok (.lstore 4, 2) := by decide +kernel
theorem dX8_greatestDivisor_3 : decode cX8_greatestDivisor 3 = .ok (.lload_n 2, 1) := by decide +kernel
theorem dX8_greatestDivisor_4 : decode cX8_greatestDivisor 4 = .ok (.lstore 6, 2) := by decide +kernel
theorem dX8_greatestDivisor_6 : decode cX8_greatestDivisor 6 = .ok (.iconst 0, 1) := by decide +kernel
theorem dX8_greatestDivisor_7 : decode cX8_greatestDivisor 7 = .ok (.istore 8, 2) := by decide +kernel
theorem dX8_greatestDivisor_9 : decode cX8_greatestDivisor 9 = .ok (.iload 8, 2) := by decide +kernel
theorem dX8_greatestDivisor_11 : decode cX8_greatestDivisor 11 = .ok (.ldc 179, 2) := by decide +kernel
theorem dX8_greatestDivisor_13 : decode cX8_greatestDivisor 13 = .ok (.if_icmp .ge 31, 3) := by decide +kernel
theorem dX8_greatestDivisor_16 : decode cX8_greatestDivisor 16 = .ok (.lload 6, 2) := by decide +kernel
theorem dX8_greatestDivisor_18 : decode cX8_greatestDivisor 18 = .ok (.lconst 0, 1) := by decide +kernel
theorem dX8_greatestDivisor_19 : decode cX8_greatestDivisor 19 = .ok (.lcmp, 1) := by decide +kernel
theorem dX8_greatestDivisor_20 : decode cX8_greatestDivisor 20 = .ok (.ifCond .eq 24, 3) := by decide +kernel
theorem dX8_greatestDivisor_23 : decode cX8_greatestDivisor 23 = .ok (.lload 4, 2) := by decide +kernel
theorem dX8_greatestDivisor_25 : decode cX8_greatestDivisor 25 = .ok (.lload 6, 2) := by decide +kernel
theorem dX8_greatestDivisor_27 : decode cX8_greatestDivisor 27 = .ok (.lrem, 1) := by decide +kernel
theorem dX8_greatestDivisor_28 : decode cX8_greatestDivisor 28 = .ok (.lstore 9, 2) := by decide +kernel
theorem dX8_greatestDivisor_30 : decode cX8_greatestDivisor 30 = .ok (.lload 6, 2) := by decide +kernel
theorem dX8_greatestDivisor_32 : decode cX8_greatestDivisor 32 = .ok (.lstore 4, 2) := by decide +kernel
theorem dX8_greatestDivisor_34 : decode cX8_greatestDivisor 34 = .ok (.lload 9, 2) := by decide +kernel
theorem dX8_greatestDivisor_36 : decode cX8_greatestDivisor 36 = .ok (.lstore 6, 2) := by decide +kernel
theorem dX8_greatestDivisor_38 : decode cX8_greatestDivisor 38 = .ok (.iinc 8 1, 3) := by decide +kernel
theorem dX8_greatestDivisor_41 : decode cX8_greatestDivisor 41 = .ok (.goto (-32), 3) := by decide +kernel
theorem dX8_greatestDivisor_44 : decode cX8_greatestDivisor 44 = .ok (.lload 4, 2) := by decide +kernel
theorem dX8_greatestDivisor_46 : decode cX8_greatestDivisor 46 = .ok (.lreturn, 1) := by decide +kernel
theorem dX8_productOf_0 : decode cX8_productOf 0 = .ok (.lconst 0, 1) := by decide +kernel
theorem dX8_productOf_1 : decode cX8_productOf 1 = .ok (.lstore_n 2, 1) := by decide +kernel
theorem dX8_productOf_2 : decode cX8_productOf 2 = .ok (.lconst 0, 1) := by decide +kernel
theorem dX8_productOf_3 : decode cX8_productOf 3 = .ok (.lstore 4, 2) := by decide +kernel
theorem dX8_productOf_5 : decode cX8_productOf 5 = .ok (.lconst 0, 1) := by decide +kernel
theorem dX8_productOf_6 : decode cX8_productOf 6 = .ok (.lstore 6, 2) := by decide +kernel
theorem dX8_productOf_8 : decode cX8_productOf 8 = .ok (.iconst 0, 1) := by decide +kernel
theorem dX8_productOf_9 : decode cX8_productOf 9 = .ok (.istore 8, 2) := by decide +kernel
theorem dX8_productOf_11 : decode cX8_productOf 11 = .ok (.iload 8, 2) := by decide +kernel
theorem dX8_productOf_13 : decode cX8_productOf 13 = .ok (.iconst 4, 1) := by decide +kernel
theorem dX8_productOf_14 : decode cX8_productOf 14 = .ok (.if_icmp .ge 39, 3) := by decide +kernel
theorem dX8_productOf_17 : decode cX8_productOf 17 = .ok (.lload_n 2, 1) := by decide +kernel
theorem dX8_productOf_18 : decode cX8_productOf 18 = .ok (.aload_n 0, 1) := by decide +kernel
theorem dX8_productOf_19 : decode cX8_productOf 19 = .ok (.iload 8, 2) := by decide +kernel
theorem dX8_productOf_21 : decode cX8_productOf 21 = .ok (.laload, 1) := by decide +kernel
theorem dX8_productOf_22 : decode cX8_productOf 22 = .ok (.aload_n 1, 1) := by decide +kernel
theorem dX8_productOf_23 : decode cX8_productOf 23 = .ok (.iload 8, 2) := by decide +kernel
theorem dX8_productOf_25 : decode cX8_productOf 25 = .ok (.laload, 1) := by decide +kernel
theorem dX8_productOf_26 : decode cX8_productOf 26 = .ok (.lmul, 1) := by decide +kernel
theorem dX8_productOf_27 : decode cX8_productOf 27 = .ok (.ladd, 1) := by decide +kernel
theorem dX8_productOf_28 : decode cX8_productOf 28 = .ok (.lstore_n 2, 1) := by decide +kernel
theorem dX8_productOf_29 : decode cX8_productOf 29 = .ok (.lload 4, 2) := by decide +kernel
theorem dX8_productOf_31 : decode cX8_productOf 31 = .ok (.aload_n 0, 1) := by decide +kernel
theorem dX8_productOf_32 : decode cX8_productOf 32 = .ok (.iload 8, 2) := by decide +kernel
theorem dX8_productOf_34 : decode cX8_productOf 34 = .ok (.laload, 1) := by decide +kernel
theorem dX8_productOf_35 : decode cX8_productOf 35 = .ok (.ladd, 1) := by decide +kernel
theorem dX8_productOf_36 : decode cX8_productOf 36 = .ok (.lstore 4, 2) := by decide +kernel
theorem dX8_productOf_38 : decode cX8_productOf 38 = .ok (.lload 6, 2) := by decide +kernel
theorem dX8_productOf_40 : decode cX8_productOf 40 = .ok (.aload_n 1, 1) := by decide +kernel
theorem dX8_productOf_41 : decode cX8_productOf 41 = .ok (.iload 8, 2) := by decide +kernel
theorem dX8_productOf_43 : decode cX8_productOf 43 = .ok (.laload, 1) := by decide +kernel
theorem dX8_productOf_44 : decode cX8_productOf 44 = .ok (.ladd, 1) := by decide +kernel
theorem dX8_productOf_45 : decode cX8_productOf 45 = .ok (.lstore 6, 2) := by decide +kernel
theorem dX8_productOf_47 : decode cX8_productOf 47 = .ok (.iinc 8 1, 3) := by decide +kernel
theorem dX8_productOf_50 : decode cX8_productOf 50 = .ok (.goto (-39), 3) := by decide +kernel
theorem dX8_productOf_53 : decode cX8_productOf 53 = .ok (.ldc2_w 11, 3) := by decide +kernel
theorem dX8_productOf_56 : decode cX8_productOf 56 = .ok (.lload_n 2, 1) := by decide +kernel
theorem dX8_productOf_57 : decode cX8_productOf 57 = .ok (.lmul, 1) := by decide +kernel
theorem dX8_productOf_58 : decode cX8_productOf 58 = .ok (.lload 4, 2) := by decide +kernel
theorem dX8_productOf_60 : decode cX8_productOf 60 = .ok (.lload 6, 2) := by decide +kernel
theorem dX8_productOf_62 : decode cX8_productOf 62 = .ok (.lmul, 1) := by decide +kernel
theorem dX8_productOf_63 : decode cX8_productOf 63 = .ok (.lsub, 1) := by decide +kernel
theorem dX8_productOf_64 : decode cX8_productOf 64 = .ok (.lreturn, 1) := by decide +kernel
theorem dX9_init_0 : decode cX9_init 0 = .ok (.aload_n 0, 1) := by decide +kernel
theorem dX9_init_1 : decode cX9_init 1 = .ok (.invokespecial 1, 3) := by decide +kernel
theorem dX9_init_4 : decode cX9_init 4 = .ok (.aload_n 0, 1) := by decide +kernel
theorem dX9_init_5 : decode cX9_init 5 = .ok (.iconst 4, 1) := by decide +kernel
theorem dX9_init_6 : decode cX9_init 6 = .ok (.newarray .long, 2) := by decide +kernel
theorem dX9_init_8 : decode cX9_init 8 = .ok (.putfield 7, 3) := by decide +kernel
theorem dX9_init_11 : decode cX9_init 11 = .ok (.aload_n 0, 1) := by decide +kernel
theorem dX9_init_12 : decode cX9_init 12 = .ok (.iconst 4, 1) := by decide +kernel
theorem dX9_init_13 : decode cX9_init 13 = .ok (.newarray .long, 2) := by decide +kernel
theorem dX9_init_15 : decode cX9_init 15 = .ok (.putfield 13, 3) := by decide +kernel
theorem dX9_init_18 : decode cX9_init 18 = .ok (.aload_n 0, 1) := by decide +kernel
theorem dX9_init_19 : decode cX9_init 19 = .ok (.sipush 10400, 3) := by decide +kernel
theorem dX9_init_22 : decode cX9_init 22 = .ok (.newarray .long, 2) := by decide +kernel
theorem dX9_init_24 : decode cX9_init 24 = .ok (.putfield 16, 3) := by decide +kernel
theorem dX9_init_27 : decode cX9_init 27 = .ok (.aload_n 0, 1) := by decide +kernel
theorem dX9_init_28 : decode cX9_init 28 = .ok (.sipush 2600, 3) := by decide +kernel
theorem dX9_init_31 : decode cX9_init 31 = .ok (.newarray .int, 2) := by decide +kernel
theorem dX9_init_33 : decode cX9_init 33 = .ok (.putfield 19, 3) := by decide +kernel
theorem dX9_init_36 : decode cX9_init 36 = .ok (.aload_n 0, 1) := by decide +kernel
theorem dX9_init_37 : decode cX9_init 37 = .ok (.sipush 2600, 3) := by decide +kernel
theorem dX9_init_40 : decode cX9_init 40 = .ok (.newarray .int, 2) := by decide +kernel
theorem dX9_init_42 : decode cX9_init 42 = .ok (.putfield 23, 3) := by decide +kernel
theorem dX9_init_45 : decode cX9_init 45 = .ok (.aload_n 0, 1) := by decide +kernel
theorem dX9_init_46 : decode cX9_init 46 = .ok (.sipush 5001, 3) := by decide +kernel
