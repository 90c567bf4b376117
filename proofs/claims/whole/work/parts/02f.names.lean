theorem dX9_bendOf_24 : decode cX9_bendOf 24 = .ok (.pop, 1) := by decide +kernel
theorem dX9_bendOf_25 : decode cX9_bendOf 25 = .ok (.aload_n 0, 1) := by decide +kernel
theorem dX9_bendOf_26 : decode cX9_bendOf 26 = .ok (.iload_n 1, 1) := by decide +kernel
theorem dX9_bendOf_27 : decode cX9_bendOf 27 = .ok (.invokevirtual 157, 3) := by decide +kernel
theorem dX9_bendOf_30 : decode cX9_bendOf 30 = .ok (.lconst 0, 1) := by decide +kernel
theorem dX9_bendOf_31 : decode cX9_bendOf 31 = .ok (.lstore_n 3, 1) := by decide +kernel
theorem dX9_bendOf_32 : decode cX9_bendOf 32 = .ok (.iconst 0, 1) := by decide +kernel
theorem dX9_bendOf_33 : decode cX9_bendOf 33 = .ok (.istore 5, 2) := by decide +kernel
theorem dX9_bendOf_35 : decode cX9_bendOf 35 = .ok (.iload 5, 2) := by decide +kernel
theorem dX9_bendOf_37 : decode cX9_bendOf 37 = .ok (.iconst 4, 1) := by decide +kernel
theorem dX9_bendOf_38 : decode cX9_bendOf 38 = .ok (.if_icmp .ge 33, 3) := by decide +kernel
theorem dX9_bendOf_41 : decode cX9_bendOf 41 = .ok (.lload_n 3, 1) := by decide +kernel
theorem dX9_bendOf_42 : decode cX9_bendOf 42 = .ok (.aload_n 0, 1) := by decide +kernel
theorem dX9_bendOf_43 : decode cX9_bendOf 43 = .ok (.getfield 36, 3) := by decide +kernel
theorem dX9_bendOf_46 : decode cX9_bendOf 46 = .ok (.iconst 4, 1) := by decide +kernel
theorem dX9_bendOf_47 : decode cX9_bendOf 47 = .ok (.iload_n 2, 1) := by decide +kernel
theorem dX9_bendOf_48 : decode cX9_bendOf 48 = .ok (.iconst 1, 1) := by decide +kernel
theorem dX9_bendOf_49 : decode cX9_bendOf 49 = .ok (.isub, 1) := by decide +kernel
theorem dX9_bendOf_50 : decode cX9_bendOf 50 = .ok (.imul, 1) := by decide +kernel
theorem dX9_bendOf_51 : decode cX9_bendOf 51 = .ok (.iload 5, 2) := by decide +kernel
theorem dX9_bendOf_53 : decode cX9_bendOf 53 = .ok (.iadd, 1) := by decide +kernel
theorem dX9_bendOf_54 : decode cX9_bendOf 54 = .ok (.laload, 1) := by decide +kernel
theorem dX9_bendOf_55 : decode cX9_bendOf 55 = .ok (.aload_n 0, 1) := by decide +kernel
theorem dX9_bendOf_56 : decode cX9_bendOf 56 = .ok (.getfield 13, 3) := by decide +kernel
theorem dX9_bendOf_59 : decode cX9_bendOf 59 = .ok (.iload 5, 2) := by decide +kernel
theorem dX9_bendOf_61 : decode cX9_bendOf 61 = .ok (.laload, 1) := by decide +kernel
theorem dX9_bendOf_62 : decode cX9_bendOf 62 = .ok (.lmul, 1) := by decide +kernel
theorem dX9_bendOf_63 : decode cX9_bendOf 63 = .ok (.ladd, 1) := by decide +kernel
theorem dX9_bendOf_64 : decode cX9_bendOf 64 = .ok (.lstore_n 3, 1) := by decide +kernel
theorem dX9_bendOf_65 : decode cX9_bendOf 65 = .ok (.iinc 5 1, 3) := by decide +kernel
theorem dX9_bendOf_68 : decode cX9_bendOf 68 = .ok (.goto (-33), 3) := by decide +kernel
theorem dX9_bendOf_71 : decode cX9_bendOf 71 = .ok (.lload_n 3, 1) := by decide +kernel
theorem dX9_bendOf_72 : decode cX9_bendOf 72 = .ok (.lreturn, 1) := by decide +kernel
set_option maxRecDepth 20000 in
theorem ggX9_times_X9_isPlace : GoodIn wsX9_times wsX9_isPlace := goodIn_r _ [6, 7, 8, 5, 9] (by decide +kernel) (by decide +kernel)
set_option maxRecDepth 20000 in
theorem gX9_times_X9_isPlace : GoodIn wsX9_times (va_wsS RX9 77 yX9_isPlace wsX9_isPlace) := goodIn_app (goodIn_of _ (by decide +kernel)) ggX9_times_X9_isPlace
set_option maxRecDepth 20000 in
theorem ggX9_times_X9_isWord : GoodIn wsX9_times wsX9_isWord := goodIn_r _ [12, 13, 3, 4, 5, 6, 7, 8, 9] (by decide +kernel) (by decide +kernel)
set_option maxRecDepth 20000 in
theorem gX9_times_X9_isWord : GoodIn wsX9_times (va_wsS RX9 154 yX9_isWord wsX9_isWord) := goodIn_app (goodIn_of _ (by decide +kernel)) ggX9_times_X9_isWord
set_option maxRecDepth 20000 in
theorem ggX9_times_X9_within : GoodIn wsX9_times wsX9_within := goodIn_r _ [9] (by decide +kernel) (by decide +kernel)
set_option maxRecDepth 20000 in
theorem gX9_times_X9_within : GoodIn wsX9_times (va_wsS RX9 63 yX9_within wsX9_within) := goodIn_app (goodIn_of _ (by decide +kernel)) ggX9_times_X9_within
set_option maxRecDepth 20000 in
theorem ggX9_times_X9_laysWord : GoodIn wsX9_times wsX9_laysWord := goodIn_r _ [17, 2, 18, 19, 20, 5, 21, 22, 23, 24, 25, 26, 27, 28, 29, 30, 31, 32, 33, 34, 35, 36, 37, 38, 39] (by decide +kernel) (by decide +kernel)
set_option maxRecDepth 20000 in
theorem gX9_times_X9_laysWord : GoodIn wsX9_times (wsV RX9 157 RX9 yX9_laysWord wsX9_laysWord) := goodIn_app (goodIn_of _ (by decide +kernel)) ggX9_times_X9_laysWord
theorem dX9_times_0 : decode cX9_times 0 = .ok (.iload_n 2, 1) := by decide +kernel
theorem dX9_times_1 : decode cX9_times 1 = .ok (.invokestatic 77, 3) := by decide +kernel
theorem dX9_times_4 : decode cX9_times 4 = .ok (.ifCond .eq 19, 3) := by decide +kernel
theorem dX9_times_7 : decode cX9_times 7 = .ok (.iload_n 1, 1) := by decide +kernel
theorem dX9_times_8 : decode cX9_times 8 = .ok (.invokestatic 154, 3) := by decide +kernel
theorem dX9_times_11 : decode cX9_times 11 = .ok (.ifCond .eq 12, 3) := by decide +kernel
theorem dX9_times_14 : decode cX9_times 14 = .ok (.iload_n 3, 1) := by decide +kernel
theorem dX9_times_15 : decode cX9_times 15 = .ok (.iconst 0, 1) := by decide +kernel
theorem dX9_times_16 : decode cX9_times 16 = .ok (.iconst 3, 1) := by decide +kernel
theorem dX9_times_17 : decode cX9_times 17 = .ok (.invokestatic 63, 3) := by decide +kernel
theorem dX9_times_20 : decode cX9_times 20 = .ok (.ifCond .ne 7, 3) := by decide +kernel
theorem dX9_times_23 : decode cX9_times 23 = .ok (.ldc2_w 80, 3) := by decide +kernel
theorem dX9_times_26 : decode cX9_times 26 = .ok (.lreturn, 1) := by decide +kernel
theorem dX9_times_27 : decode cX9_times 27 = .ok (.aload_n 0, 1) := by decide +kernel
theorem dX9_times_28 : decode cX9_times 28 = .ok (.iload_n 1, 1) := by decide +kernel
theorem dX9_times_29 : decode cX9_times 29 = .ok (.invokevirtual 157, 3) := by decide +kernel
theorem dX9_times_32 : decode cX9_times 32 = .ok (.aload_n 0, 1) := by decide +kernel
theorem dX9_times_33 : decode cX9_times 33 = .ok (.getfield 36, 3) := by decide +kernel
theorem dX9_times_36 : decode cX9_times 36 = .ok (.iconst 4, 1) := by decide +kernel
theorem dX9_times_37 : decode cX9_times 37 = .ok (.iload_n 2, 1) := by decide +kernel
theorem dX9_times_38 : decode cX9_times 38 = .ok (.iconst 1, 1) := by decide +kernel
theorem dX9_times_39 : decode cX9_times 39 = .ok (.isub, 1) := by decide +kernel
theorem dX9_times_40 : decode cX9_times 40 = .ok (.imul, 1) := by decide +kernel
theorem dX9_times_41 : decode cX9_times 41 = .ok (.iload_n 3, 1) := by decide +kernel
theorem dX9_times_42 : decode cX9_times 42 = .ok (.iadd, 1) := by decide +kernel
theorem dX9_times_43 : decode cX9_times 43 = .ok (.laload, 1) := by decide +kernel
theorem dX9_times_44 : decode cX9_times 44 = .ok (.lreturn, 1) := by decide +kernel
theorem dX9_keeps_0 : decode cX9_keeps 0 = .ok (.iconst 0, 1) := by decide +kernel
theorem dX9_keeps_1 : decode cX9_keeps 1 = .ok (.istore_n 2, 1) := by decide +kernel
theorem dX9_keeps_2 : decode cX9_keeps 2 = .ok (.iload_n 2, 1) := by decide +kernel
theorem dX9_keeps_3 : decode cX9_keeps 3 = .ok (.iconst 4, 1) := by decide +kernel
theorem dX9_keeps_4 : decode cX9_keeps 4 = .ok (.if_icmp .ge 25, 3) := by decide +kernel
theorem dX9_keeps_7 : decode cX9_keeps 7 = .ok (.aload_n 0, 1) := by decide +kernel
theorem dX9_keeps_8 : decode cX9_keeps 8 = .ok (.getfield 39, 3) := by decide +kernel
theorem dX9_keeps_11 : decode cX9_keeps 11 = .ok (.iload_n 2, 1) := by decide +kernel
theorem dX9_keeps_12 : decode cX9_keeps 12 = .ok (.aload_n 0, 1) := by decide +kernel
theorem dX9_keeps_13 : decode cX9_keeps 13 = .ok (.getfield 36, 3) := by decide +kernel
theorem dX9_keeps_16 : decode cX9_keeps 16 = .ok (.iconst 4, 1) := by decide +kernel
theorem dX9_keeps_17 : decode cX9_keeps 17 = .ok (.iload_n 1, 1) := by decide +kernel
theorem dX9_keeps_18 : decode cX9_keeps 18 = .ok (.imul, 1) := by decide +kernel
theorem dX9_keeps_19 : decode cX9_keeps 19 = .ok (.iload_n 2, 1) := by decide +kernel
theorem dX9_keeps_20 : decode cX9_keeps 20 = .ok (.iadd, 1) := by decide +kernel
theorem dX9_keeps_21 : decode cX9_keeps 21 = .ok (.laload, 1) := by decide +kernel
theorem dX9_keeps_22 : decode cX9_keeps 22 = .ok (.lastore, 1) := by decide +kernel
theorem dX9_keeps_23 : decode cX9_keeps 23 = .ok (.iinc 2 1, 3) := by decide +kernel
theorem dX9_keeps_26 : decode cX9_keeps 26 = .ok (.goto (-24), 3) := by decide +kernel
theorem dX9_keeps_29 : decode cX9_keeps 29 = .ok (.return_, 1) := by decide +kernel
theorem dX9_productWith_0 : decode cX9_productWith 0 = .ok (.lconst 0, 1) := by decide +kernel
theorem dX9_productWith_1 : decode cX9_productWith 1 = .ok (.lstore_n 2, 1) := by decide +kernel
theorem dX9_productWith_2 : decode cX9_productWith 2 = .ok (.lconst 0, 1) := by decide +kernel
theorem dX9_productWith_3 : decode cX9_productWith 3 = .ok (.lstore 4, 2) := by decide +kernel
theorem dX9_productWith_5 : decode cX9_productWith 5 = .ok (.lconst 0, 1) := by decide +kernel
theorem dX9_productWith_6 : decode cX9_productWith 6 = .ok (.lstore 6, 2) := by decide +kernel
theorem dX9_productWith_8 : decode cX9_productWith 8 = .ok (.iconst 0, 1) := by decide +kernel
theorem dX9_productWith_9 : decode cX9_productWith 9 = .ok (.istore 8, 2) := by decide +kernel
theorem dX9_productWith_11 : decode cX9_productWith 11 = .ok (.iload 8, 2) := by decide +kernel
theorem dX9_productWith_13 : decode cX9_productWith 13 = .ok (.iconst 4, 1) := by decide +kernel
theorem dX9_productWith_14 : decode cX9_productWith 14 = .ok (.if_icmp .ge 59, 3) := by decide +kernel
theorem dX9_productWith_17 : decode cX9_productWith 17 = .ok (.lload_n 2, 1) := by decide +kernel
theorem dX9_productWith_18 : decode cX9_productWith 18 = .ok (.aload_n 0, 1) := by decide +kernel
theorem dX9_productWith_19 : decode cX9_productWith 19 = .ok (.getfield 39, 3) := by decide +kernel
theorem dX9_productWith_22 : decode cX9_productWith 22 = .ok (.iload 8, 2) := by decide +kernel
theorem dX9_productWith_24 : decode cX9_productWith 24 = .ok (.laload, 1) := by decide +kernel
theorem dX9_productWith_25 : decode cX9_productWith 25 = .ok (.aload_n 0, 1) := by decide +kernel
theorem dX9_productWith_26 : decode cX9_productWith 26 = .ok (.getfield 36, 3) := by decide +kernel
theorem dX9_productWith_29 : decode cX9_productWith 29 = .ok (.iconst 4, 1) := by decide +kernel
theorem dX9_productWith_30 : decode cX9_productWith 30 = .ok (.iload_n 1, 1) := by decide +kernel
theorem dX9_productWith_31 : decode cX9_productWith 31 = .ok (.imul, 1) := by decide +kernel
theorem dX9_productWith_32 : decode cX9_productWith 32 = .ok (.iload 8, 2) := by decide +kernel
theorem dX9_productWith_34 : decode cX9_productWith 34 = .ok (.iadd, 1) := by decide +kernel
theorem dX9_productWith_35 : decode cX9_productWith 35 = .ok (.laload, 1) := by decide +kernel
theorem dX9_productWith_36 : decode cX9_productWith 36 = .ok (.lmul, 1) := by decide +kernel
theorem dX9_productWith_37 : decode cX9_productWith 37 = .ok (.ladd, 1) := by decide +kernel
theorem dX9_productWith_38 : decode cX9_productWith 38 = .ok (.lstore_n 2, 1) := by decide +kernel
theorem dX9_productWith_39 : decode cX9_productWith 39 = .ok (.lload 4, 2) := by decide +kernel
theorem dX9_productWith_41 : decode cX9_productWith 41 = .ok (.aload_n 0, 1) := by decide +kernel
theorem dX9_productWith_42 : decode cX9_productWith 42 = .ok (.getfield 39, 3) := by decide +kernel
theorem dX9_productWith_45 : decode cX9_productWith 45 = .ok (.iload 8, 2) := by decide +kernel
theorem dX9_productWith_47 : decode cX9_productWith 47 = .ok (.laload, 1) := by decide +kernel
theorem dX9_productWith_48 : decode cX9_productWith 48 = .ok (.ladd, 1) := by decide +kernel
theorem dX9_productWith_49 : decode cX9_productWith 49 = .ok (.lstore 4, 2) := by decide +kernel
theorem dX9_productWith_51 : decode cX9_productWith 51 = .ok (.lload 6, 2) := by decide +kernel
theorem dX9_productWith_53 : decode cX9_productWith 53 = .ok (.aload_n 0, 1) := by decide +kernel
theorem dX9_productWith_54 : decode cX9_productWith 54 = .ok (.getfield 36, 3) := by decide +kernel
theorem dX9_productWith_57 : decode cX9_productWith 57 = .ok (.iconst 4, 1) := by decide +kernel
theorem dX9_productWith_58 : decode cX9_productWith 58 = .ok (.iload_n 1, 1) := by decide +kernel
theorem dX9_productWith_59 : decode cX9_productWith 59 = .ok (.imul, 1) := by decide +kernel
theorem dX9_productWith_60 : decode cX9_productWith 60 = .ok (.iload 8, 2) := by decide +kernel
theorem dX9_productWith_62 : decode cX9_productWith 62 = .ok (.iadd, 1) := by decide +kernel
theorem dX9_productWith_63 : decode cX9_productWith 63 = .ok (.laload, 1) := by decide +kernel
theorem dX9_productWith_64 : decode cX9_productWith 64 = .ok (.ladd, 1) := by decide +kernel
theorem dX9_productWith_65 : decode cX9_productWith 65 = .ok (.lstore 6, 2) := by decide +kernel
theorem dX9_productWith_67 : decode cX9_productWith 67 = .ok (.iinc 8 1, 3) := by decide +kernel
theorem dX9_productWith_70 : decode cX9_productWith 70 = .ok (.goto (-59), 3) := by decide +kernel
theorem dX9_productWith_73 : decode cX9_productWith 73 = .ok (.ldc2_w 59, 3) := by decide +kernel
theorem dX9_productWith_76 : decode cX9_productWith 76 = .ok (.lload_n 2, 1) := by decide +kernel
theorem dX9_productWith_77 : decode cX9_productWith 77 = .ok (.lmul, 1) := by decide +kernel
theorem dX9_productWith_78 : decode cX9_productWith 78 = .ok (.lload 4, 2) := by decide +kernel
theorem dX9_productWith_80 : decode cX9_productWith 80 = .ok (.lload 6, 2) := by decide +kernel
theorem dX9_productWith_82 : decode cX9_productWith 82 = .ok (.lmul, 1) := by decide +kernel
theorem dX9_productWith_83 : decode cX9_productWith 83 = .ok (.lsub, 1) := by decide +kernel
theorem dX9_productWith_84 : decode cX9_productWith 84 = .ok (.lreturn, 1) := by decide +kernel
set_option maxRecDepth 20000 in
theorem ggX9_product_X9_isPlace : GoodIn wsX9_product wsX9_isPlace := goodIn_r _ [5, 6, 7, 4, 8] (by decide +kernel) (by decide +kernel)
set_option maxRecDepth 20000 in
theorem gX9_product_X9_isPlace : GoodIn wsX9_product (va_wsS RX9 77 yX9_isPlace wsX9_isPlace) := goodIn_app (goodIn_of _ (by decide +kernel)) ggX9_product_X9_isPlace
set_option maxRecDepth 20000 in
theorem ggX9_product_X9_isWord : GoodIn wsX9_product wsX9_isWord := goodIn_r _ [11, 12, 2, 3, 4, 5, 6, 7, 8] (by decide +kernel) (by decide +kernel)
set_option maxRecDepth 20000 in
theorem gX9_product_X9_isWord : GoodIn wsX9_product (va_wsS RX9 154 yX9_isWord wsX9_isWord) := goodIn_app (goodIn_of _ (by decide +kernel)) ggX9_product_X9_isWord
set_option maxRecDepth 20000 in
theorem ggX9_product_X9_laysWord : GoodIn wsX9_product wsX9_laysWord := goodIn_r _ [16, 17, 18, 19, 20, 4, 21, 22, 32, 33, 34, 35, 36, 37, 38, 39, 40, 41, 42, 43, 44, 45, 46, 47, 48] (by decide +kernel) (by decide +kernel)
set_option maxRecDepth 20000 in
theorem gX9_product_X9_laysWord : GoodIn wsX9_product (wsV RX9 157 RX9 yX9_laysWord wsX9_laysWord) := goodIn_app (goodIn_of _ (by decide +kernel)) ggX9_product_X9_laysWord
set_option maxRecDepth 20000 in
theorem ggX9_product_X9_keeps : GoodIn wsX9_product wsX9_keeps := goodIn_r _ [26, 27, 17, 32, 33, 34, 35, 36, 37, 38, 39, 40, 41, 42, 43, 44, 45, 46, 47, 48] (by decide +kernel) (by decide +kernel)
set_option maxRecDepth 20000 in
theorem gX9_product_X9_keeps : GoodIn wsX9_product (wsV RX9 160 RX9 yX9_keeps wsX9_keeps) := goodIn_app (goodIn_of _ (by decide +kernel)) ggX9_product_X9_keeps
set_option maxRecDepth 20000 in
theorem ggX9_product_X9_productWith : GoodIn wsX9_product wsX9_productWith := goodIn_r _ [31, 27, 17, 22, 32, 33, 34, 35, 36, 37, 38, 39, 40, 41, 42, 43, 44, 45, 46, 47, 48] (by decide +kernel) (by decide +kernel)
set_option maxRecDepth 20000 in
theorem gX9_product_X9_productWith : GoodIn wsX9_product (wsV RX9 163 RX9 yX9_productWith wsX9_productWith) := goodIn_app (goodIn_of _ (by decide +kernel)) ggX9_product_X9_productWith
theorem dX9_product_0 : decode cX9_product 0 = .ok (.iload_n 2, 1) := by decide +kernel
theorem dX9_product_1 : decode cX9_product 1 = .ok (.invokestatic 77, 3) := by decide +kernel
theorem dX9_product_4 : decode cX9_product 4 = .ok (.ifCond .eq 25, 3) := by decide +kernel
theorem dX9_product_7 : decode cX9_product 7 = .ok (.iload 4, 2) := by decide +kernel
theorem dX9_product_9 : decode cX9_product 9 = .ok (.invokestatic 77, 3) := by decide +kernel
theorem dX9_product_12 : decode cX9_product 12 = .ok (.ifCond .eq 17, 3) := by decide +kernel
theorem dX9_product_15 : decode cX9_product 15 = .ok (.iload_n 1, 1) := by decide +kernel
theorem dX9_product_16 : decode cX9_product 16 = .ok (.invokestatic 154, 3) := by decide +kernel
theorem dX9_product_19 : decode cX9_product 19 = .ok (.ifCond .eq 10, 3) := by decide +kernel
theorem dX9_product_22 : decode cX9_product 22 = .ok (.iload_n 3, 1) := by decide +kernel
theorem dX9_product_23 : decode cX9_product 23 = .ok (.invokestatic 154, 3) := by decide +kernel
theorem dX9_product_26 : decode cX9_product 26 = .ok (.ifCond .ne 7, 3) := by decide +kernel
theorem dX9_product_29 : decode cX9_product 29 = .ok (.ldc2_w 80, 3) := by decide +kernel
theorem dX9_product_32 : decode cX9_product 32 = .ok (.lreturn, 1) := by decide +kernel
theorem dX9_product_33 : decode cX9_product 33 = .ok (.aload_n 0, 1) := by decide +kernel
theorem dX9_product_34 : decode cX9_product 34 = .ok (.iload_n 1, 1) := by decide +kernel
theorem dX9_product_35 : decode cX9_product 35 = .ok (.invokevirtual 157, 3) := by decide +kernel
theorem dX9_product_38 : decode cX9_product 38 = .ok (.aload_n 0, 1) := by decide +kernel
theorem dX9_product_39 : decode cX9_product 39 = .ok (.iload_n 2, 1) := by decide +kernel
theorem dX9_product_40 : decode cX9_product 40 = .ok (.iconst 1, 1) := by decide +kernel
theorem dX9_product_41 : decode cX9_product 41 = .ok (.isub, 1) := by decide +kernel
theorem dX9_product_42 : decode cX9_product 42 = .ok (.invokevirtual 160, 3) := by decide +kernel
theorem dX9_product_45 : decode cX9_product 45 = .ok (.aload_n 0, 1) := by decide +kernel
theorem dX9_product_46 : decode cX9_product 46 = .ok (.iload_n 3, 1) := by decide +kernel
theorem dX9_product_47 : decode cX9_product 47 = .ok (.invokevirtual 157, 3) := by decide +kernel
theorem dX9_product_50 : decode cX9_product 50 = .ok (.aload_n 0, 1) := by decide +kernel
theorem dX9_product_51 : decode cX9_product 51 = .ok (.iload 4, 2) := by decide +kernel
theorem dX9_product_53 : decode cX9_product 53 = .ok (.iconst 1, 1) := by decide +kernel
theorem dX9_product_54 : decode cX9_product 54 = .ok (.isub, 1) := by decide +kernel
theorem dX9_product_55 : decode cX9_product 55 = .ok (.invokevirtual 163, 3) := by decide +kernel
theorem dX9_product_58 : decode cX9_product 58 = .ok (.lreturn, 1) := by decide +kernel
set_option maxRecDepth 20000 in
theorem ggX9_touching_X9_isPlace : GoodIn wsX9_touching wsX9_isPlace := goodIn_r _ [5, 6, 7, 4, 8] (by decide +kernel) (by decide +kernel)
set_option maxRecDepth 20000 in
theorem gX9_touching_X9_isPlace : GoodIn wsX9_touching (va_wsS RX9 77 yX9_isPlace wsX9_isPlace) := goodIn_app (goodIn_of _ (by decide +kernel)) ggX9_touching_X9_isPlace
set_option maxRecDepth 20000 in
theorem ggX9_touching_X9_isWord : GoodIn wsX9_touching wsX9_isWord := goodIn_r _ [11, 12, 2, 3, 4, 5, 6, 7, 8] (by decide +kernel) (by decide +kernel)
set_option maxRecDepth 20000 in
theorem gX9_touching_X9_isWord : GoodIn wsX9_touching (va_wsS RX9 154 yX9_isWord wsX9_isWord) := goodIn_app (goodIn_of _ (by decide +kernel)) ggX9_touching_X9_isWord
set_option maxRecDepth 20000 in
theorem ggX9_touching_X9_laysWord : GoodIn wsX9_touching wsX9_laysWord := goodIn_r _ [16, 17, 18, 19, 20, 4, 21, 22, 32, 33, 34, 35, 36, 37, 38, 39, 40, 41, 42, 43, 44, 45, 46, 47, 48] (by decide +kernel) (by decide +kernel)
set_option maxRecDepth 20000 in
theorem gX9_touching_X9_laysWord : GoodIn wsX9_touching (wsV RX9 157 RX9 yX9_laysWord wsX9_laysWord) := goodIn_app (goodIn_of _ (by decide +kernel)) ggX9_touching_X9_laysWord
set_option maxRecDepth 20000 in
theorem ggX9_touching_X9_keeps : GoodIn wsX9_touching wsX9_keeps := goodIn_r _ [26, 27, 17, 32, 33, 34, 35, 36, 37, 38, 39, 40, 41, 42, 43, 44, 45, 46, 47, 48] (by decide +kernel) (by decide +kernel)
set_option maxRecDepth 20000 in
theorem gX9_touching_X9_keeps : GoodIn wsX9_touching (wsV RX9 160 RX9 yX9_keeps wsX9_keeps) := goodIn_app (goodIn_of _ (by decide +kernel)) ggX9_touching_X9_keeps
set_option maxRecDepth 20000 in
theorem ggX9_touching_X9_productWith : GoodIn wsX9_touching wsX9_productWith := goodIn_r _ [31, 27, 17, 22, 32, 33, 34, 35, 36, 37, 38, 39, 40, 41, 42, 43, 44, 45, 46, 47, 48] (by decide +kernel) (by decide +kernel)
set_option maxRecDepth 20000 in
theorem gX9_touching_X9_productWith : GoodIn wsX9_touching (wsV RX9 163 RX9 yX9_productWith wsX9_productWith) := goodIn_app (goodIn_of _ (by decide +kernel)) ggX9_touching_X9_productWith
theorem dX9_touching_0 : decode cX9_touching 0 = .ok (.iload_n 3, 1) := by decide +kernel
theorem dX9_touching_1 : decode cX9_touching 1 = .ok (.invokestatic 77, 3) := by decide +kernel
theorem dX9_touching_4 : decode cX9_touching 4 = .ok (.ifCond .ne 5, 3) := by decide +kernel
theorem dX9_touching_7 : decode cX9_touching 7 = .ok (.iconst (-1), 1) := by decide +kernel
theorem dX9_touching_8 : decode cX9_touching 8 = .ok (.ireturn, 1) := by decide +kernel
theorem dX9_touching_9 : decode cX9_touching 9 = .ok (.iload_n 1, 1) := by decide +kernel
theorem dX9_touching_10 : decode cX9_touching 10 = .ok (.invokestatic 154, 3) := by decide +kernel
theorem dX9_touching_13 : decode cX9_touching 13 = .ok (.ifCond .eq 10, 3) := by decide +kernel
theorem dX9_touching_16 : decode cX9_touching 16 = .ok (.iload_n 2, 1) := by decide +kernel
theorem dX9_touching_17 : decode cX9_touching 17 = .ok (.invokestatic 154, 3) := by decide +kernel
theorem dX9_touching_20 : decode cX9_touching 20 = .ok (.ifCond .ne 6, 3) := by decide +kernel
theorem dX9_touching_23 : decode cX9_touching 23 = .ok (.bipush (-2), 2) := by decide +kernel
theorem dX9_touching_25 : decode cX9_touching 25 = .ok (.ireturn, 1) := by decide +kernel
theorem dX9_touching_26 : decode cX9_touching 26 = .ok (.aload_n 0, 1) := by decide +kernel
theorem dX9_touching_27 : decode cX9_touching 27 = .ok (.iload_n 2, 1) := by decide +kernel
theorem dX9_touching_28 : decode cX9_touching 28 = .ok (.invokevirtual 157, 3) := by decide +kernel
theorem dX9_touching_31 : decode cX9_touching 31 = .ok (.aload_n 0, 1) := by decide +kernel
theorem dX9_touching_32 : decode cX9_touching 32 = .ok (.iload_n 3, 1) := by decide +kernel
theorem dX9_touching_33 : decode cX9_touching 33 = .ok (.iconst 1, 1) := by decide +kernel
theorem dX9_touching_34 : decode cX9_touching 34 = .ok (.isub, 1) := by decide +kernel
theorem dX9_touching_35 : decode cX9_touching 35 = .ok (.invokevirtual 160, 3) := by decide +kernel
theorem dX9_touching_38 : decode cX9_touching 38 = .ok (.aload_n 0, 1) := by decide +kernel
theorem dX9_touching_39 : decode cX9_touching 39 = .ok (.iload_n 1, 1) := by decide +kernel
theorem dX9_touching_40 : decode cX9_touching 40 = .ok (.invokevirtual 157, 3) := by decide +kernel
theorem dX9_touching_43 : decode cX9_touching 43 = .ok (.iconst 0, 1) := by decide +kernel
theorem dX9_touching_44 : decode cX9_touching 44 = .ok (.istore 4, 2) := by decide +kernel
theorem dX9_touching_46 : decode cX9_touching 46 = .ok (.iconst 0, 1) := by decide +kernel
theorem dX9_touching_47 : decode cX9_touching 47 = .ok (.istore 5, 2) := by decide +kernel
theorem dX9_touching_49 : decode cX9_touching 49 = .ok (.iload 5, 2) := by decide +kernel
theorem dX9_touching_51 : decode cX9_touching 51 = .ok (.iconst 4, 1) := by decide +kernel
theorem dX9_touching_52 : decode cX9_touching 52 = .ok (.if_icmp .ge 32, 3) := by decide +kernel
theorem dX9_touching_55 : decode cX9_touching 55 = .ok (.iload 4, 2) := by decide +kernel
theorem dX9_touching_57 : decode cX9_touching 57 = .ok (.aload_n 0, 1) := by decide +kernel
theorem dX9_touching_58 : decode cX9_touching 58 = .ok (.iload 5, 2) := by decide +kernel
theorem dX9_touching_60 : decode cX9_touching 60 = .ok (.invokevirtual 163, 3) := by decide +kernel
theorem dX9_touching_63 : decode cX9_touching 63 = .ok (.ldc2_w 57, 3) := by decide +kernel
theorem dX9_touching_66 : decode cX9_touching 66 = .ok (.lcmp, 1) := by decide +kernel
theorem dX9_touching_67 : decode cX9_touching 67 = .ok (.ifCond .ne 7, 3) := by decide +kernel
theorem dX9_touching_70 : decode cX9_touching 70 = .ok (.iconst 1, 1) := by decide +kernel
theorem dX9_touching_71 : decode cX9_touching 71 = .ok (.goto 4, 3) := by decide +kernel
theorem dX9_touching_74 : decode cX9_touching 74 = .ok (.iconst 0, 1) := by decide +kernel
theorem dX9_touching_75 : decode cX9_touching 75 = .ok (.iadd, 1) := by decide +kernel
theorem dX9_touching_76 : decode cX9_touching 76 = .ok (.istore 4, 2) := by decide +kernel
theorem dX9_touching_78 : decode cX9_touching 78 = .ok (.iinc 5 1, 3) := by decide +kernel
theorem dX9_touching_81 : decode cX9_touching 81 = .ok (.goto (-32), 3) := by decide +kernel
theorem dX9_touching_84 : decode cX9_touching 84 = .ok (.iload 4, 2) := by decide +kernel
theorem dX9_touching_86 : decode cX9_touching 86 = .ok (.ireturn, 1) := by decide +kernel
set_option maxRecDepth 20000 in
theorem ggX9_keep_X9_within : GoodIn wsX9_keep wsX9_within := goodIn_r _ [7] (by decide +kernel) (by decide +kernel)
set_option maxRecDepth 20000 in
theorem gX9_keep_X9_within : GoodIn wsX9_keep (va_wsS RX9 63 yX9_within wsX9_within) := goodIn_app (goodIn_of _ (by decide +kernel)) ggX9_keep_X9_within
theorem dX9_keep_0 : decode cX9_keep 0 = .ok (.iload_n 1, 1) := by decide +kernel
theorem dX9_keep_1 : decode cX9_keep 1 = .ok (.iconst 0, 1) := by decide +kernel
theorem dX9_keep_2 : decode cX9_keep 2 = .ok (.iconst 2, 1) := by decide +kernel
theorem dX9_keep_3 : decode cX9_keep 3 = .ok (.invokestatic 63, 3) := by decide +kernel
theorem dX9_keep_6 : decode cX9_keep 6 = .ok (.ifCond .ne 5, 3) := by decide +kernel
theorem dX9_keep_9 : decode cX9_keep 9 = .ok (.iconst (-1), 1) := by decide +kernel
theorem dX9_keep_10 : decode cX9_keep 10 = .ok (.ireturn, 1) := by decide +kernel
theorem dX9_keep_11 : decode cX9_keep 11 = .ok (.aload_n 0, 1) := by decide +kernel
theorem dX9_keep_12 : decode cX9_keep 12 = .ok (.getfield 42, 3) := by decide +kernel
theorem dX9_keep_15 : decode cX9_keep 15 = .ok (.iload_n 1, 1) := by decide +kernel
theorem dX9_keep_16 : decode cX9_keep 16 = .ok (.iconst 1, 1) := by decide +kernel
theorem dX9_keep_17 : decode cX9_keep 17 = .ok (.bastore, 1) := by decide +kernel
theorem dX9_keep_18 : decode cX9_keep 18 = .ok (.iconst 0, 1) := by decide +kernel
theorem dX9_keep_19 : decode cX9_keep 19 = .ok (.istore_n 2, 1) := by decide +kernel
theorem dX9_keep_20 : decode cX9_keep 20 = .ok (.iload_n 2, 1) := by decide +kernel
theorem dX9_keep_21 : decode cX9_keep 21 = .ok (.iconst 4, 1) := by decide +kernel
theorem dX9_keep_22 : decode cX9_keep 22 = .ok (.if_icmp .ge 25, 3) := by decide +kernel
theorem dX9_keep_25 : decode cX9_keep 25 = .ok (.aload_n 0, 1) := by decide +kernel
theorem dX9_keep_26 : decode cX9_keep 26 = .ok (.getfield 45, 3) := by decide +kernel
theorem dX9_keep_29 : decode cX9_keep 29 = .ok (.iconst 4, 1) := by decide +kernel
theorem dX9_keep_30 : decode cX9_keep 30 = .ok (.iload_n 1, 1) := by decide +kernel
theorem dX9_keep_31 : decode cX9_keep 31 = .ok (.imul, 1) := by decide +kernel
theorem dX9_keep_32 : decode cX9_keep 32 = .ok (.iload_n 2, 1) := by decide +kernel
theorem dX9_keep_33 : decode cX9_keep 33 = .ok (.iadd, 1) := by decide +kernel
theorem dX9_keep_34 : decode cX9_keep 34 = .ok (.aload_n 0, 1) := by decide +kernel
theorem dX9_keep_35 : decode cX9_keep 35 = .ok (.getfield 7, 3) := by decide +kernel
theorem dX9_keep_38 : decode cX9_keep 38 = .ok (.iload_n 2, 1) := by decide +kernel
theorem dX9_keep_39 : decode cX9_keep 39 = .ok (.laload, 1) := by decide +kernel
theorem dX9_keep_40 : decode cX9_keep 40 = .ok (.lastore, 1) := by decide +kernel
theorem dX9_keep_41 : decode cX9_keep 41 = .ok (.iinc 2 1, 3) := by decide +kernel
theorem dX9_keep_44 : decode cX9_keep 44 = .ok (.goto (-24), 3) := by decide +kernel
theorem dX9_keep_47 : decode cX9_keep 47 = .ok (.iconst 1, 1) := by decide +kernel
theorem dX9_keep_48 : decode cX9_keep 48 = .ok (.ireturn, 1) := by decide +kernel
set_option maxRecDepth 20000 in
theorem ggX9_back_X9_within : GoodIn wsX9_back wsX9_within := goodIn_r _ [7] (by decide +kernel) (by decide +kernel)
set_option maxRecDepth 20000 in
theorem gX9_back_X9_within : GoodIn wsX9_back (va_wsS RX9 63 yX9_within wsX9_within) := goodIn_app (goodIn_of _ (by decide +kernel)) ggX9_back_X9_within
theorem dX9_back_0 : decode cX9_back 0 = .ok (.iload_n 1, 1) := by decide +kernel
theorem dX9_back_1 : decode cX9_back 1 = .ok (.iconst 0, 1) := by decide +kernel
theorem dX9_back_2 : decode cX9_back 2 = .ok (.iconst 2, 1) := by decide +kernel
theorem dX9_back_3 : decode cX9_back 3 = .ok (.invokestatic 63, 3) := by decide +kernel
theorem dX9_back_6 : decode cX9_back 6 = .ok (.ifCond .ne 5, 3) := by decide +kernel
theorem dX9_back_9 : decode cX9_back 9 = .ok (.iconst (-1), 1) := by decide +kernel
theorem dX9_back_10 : decode cX9_back 10 = .ok (.ireturn, 1) := by decide +kernel
theorem dX9_back_11 : decode cX9_back 11 = .ok (.aload_n 0, 1) := by decide +kernel
theorem dX9_back_12 : decode cX9_back 12 = .ok (.getfield 42, 3) := by decide +kernel
theorem dX9_back_15 : decode cX9_back 15 = .ok (.iload_n 1, 1) := by decide +kernel
theorem dX9_back_16 : decode cX9_back 16 = .ok (.baload, 1) := by decide +kernel
theorem dX9_back_17 : decode cX9_back 17 = .ok (.ifCond .ne 6, 3) := by decide +kernel
theorem dX9_back_20 : decode cX9_back 20 = .ok (.bipush (-3), 2) := by decide +kernel
theorem dX9_back_22 : decode cX9_back 22 = .ok (.ireturn, 1) := by decide +kernel
theorem dX9_back_23 : decode cX9_back 23 = .ok (.iconst 0, 1) := by decide +kernel
theorem dX9_back_24 : decode cX9_back 24 = .ok (.istore_n 2, 1) := by decide +kernel
theorem dX9_back_25 : decode cX9_back 25 = .ok (.iload_n 2, 1) := by decide +kernel
theorem dX9_back_26 : decode cX9_back 26 = .ok (.iconst 4, 1) := by decide +kernel
theorem dX9_back_27 : decode cX9_back 27 = .ok (.if_icmp .ge 25, 3) := by decide +kernel
theorem dX9_back_30 : decode cX9_back 30 = .ok (.aload_n 0, 1) := by decide +kernel
theorem dX9_back_31 : decode cX9_back 31 = .ok (.getfield 7, 3) := by decide +kernel
theorem dX9_back_34 : decode cX9_back 34 = .ok (.iload_n 2, 1) := by decide +kernel
theorem dX9_back_35 : decode cX9_back 35 = .ok (.aload_n 0, 1) := by decide +kernel
theorem dX9_back_36 : decode cX9_back 36 = .ok (.getfield 45, 3) := by decide +kernel
theorem dX9_back_39 : decode cX9_back 39 = .ok (.iconst 4, 1) := by decide +kernel
theorem dX9_back_40 : decode cX9_back 40 = .ok (.iload_n 1, 1) := by decide +kernel
theorem dX9_back_41 : decode cX9_back 41 = .ok (.imul, 1) := by decide +kernel
theorem dX9_back_42 : decode cX9_back 42 = .ok (.iload_n 2, 1) := by decide +kernel
theorem dX9_back_43 : decode cX9_back 43 = .ok (.iadd, 1) := by decide +kernel
theorem dX9_back_44 : decode cX9_back 44 = .ok (.laload, 1) := by decide +kernel
theorem dX9_back_45 : decode cX9_back 45 = .ok (.lastore, 1) := by decide +kernel
theorem dX9_back_46 : decode cX9_back 46 = .ok (.iinc 2 1, 3) := by decide +kernel
theorem dX9_back_49 : decode cX9_back 49 = .ok (.goto (-24), 3) := by decide +kernel
theorem dX9_back_52 : decode cX9_back 52 = .ok (.iconst 1, 1) := by decide +kernel
theorem dX9_back_53 : decode cX9_back 53 = .ok (.ireturn, 1) := by decide +kernel
set_option maxRecDepth 20000 in
theorem ggX9_isShelf_X9_within : GoodIn wsX9_isShelf wsX9_within := goodIn_r _ [4] (by decide +kernel) (by decide +kernel)
set_option maxRecDepth 20000 in
theorem gX9_isShelf_X9_within : GoodIn wsX9_isShelf (va_wsS RX9 63 yX9_within wsX9_within) := goodIn_app (goodIn_of _ (by decide +kernel)) ggX9_isShelf_X9_within
theorem dX9_isShelf_0 : decode cX9_isShelf 0 = .ok (.iload_n 0, 1) := by decide +kernel
theorem dX9_isShelf_1 : decode cX9_isShelf 1 = .ok (.iconst 0, 1) := by decide +kernel
theorem dX9_isShelf_2 : decode cX9_isShelf 2 = .ok (.iconst 2, 1) := by decide +kernel
theorem dX9_isShelf_3 : decode cX9_isShelf 3 = .ok (.invokestatic 63, 3) := by decide +kernel
theorem dX9_isShelf_6 : decode cX9_isShelf 6 = .ok (.ireturn, 1) := by decide +kernel
set_option maxRecDepth 20000 in
theorem ggX9_shelf_X9_isShelf : GoodIn wsX9_shelf wsX9_isShelf := goodIn_r _ [8, 9, 10, 7, 11] (by decide +kernel) (by decide +kernel)
set_option maxRecDepth 20000 in
theorem gX9_shelf_X9_isShelf : GoodIn wsX9_shelf (va_wsS RX9 167 yX9_isShelf wsX9_isShelf) := goodIn_app (goodIn_of _ (by decide +kernel)) ggX9_shelf_X9_isShelf
set_option maxRecDepth 20000 in
theorem ggX9_shelf_X9_within : GoodIn wsX9_shelf wsX9_within := goodIn_r _ [11] (by decide +kernel) (by decide +kernel)
set_option maxRecDepth 20000 in
theorem gX9_shelf_X9_within : GoodIn wsX9_shelf (va_wsS RX9 63 yX9_within wsX9_within) := goodIn_app (goodIn_of _ (by decide +kernel)) ggX9_shelf_X9_within
theorem dX9_shelf_0 : decode cX9_shelf 0 = .ok (.iload_n 1, 1) := by decide +kernel
theorem dX9_shelf_1 : decode cX9_shelf 1 = .ok (.invokestatic 167, 3) := by decide +kernel
theorem dX9_shelf_4 : decode cX9_shelf 4 = .ok (.ifCond .ne 5, 3) := by decide +kernel
theorem dX9_shelf_7 : decode cX9_shelf 7 = .ok (.iconst (-1), 1) := by decide +kernel
theorem dX9_shelf_8 : decode cX9_shelf 8 = .ok (.ireturn, 1) := by decide +kernel
theorem dX9_shelf_9 : decode cX9_shelf 9 = .ok (.iload_n 2, 1) := by decide +kernel
theorem dX9_shelf_10 : decode cX9_shelf 10 = .ok (.iconst 0, 1) := by decide +kernel
theorem dX9_shelf_11 : decode cX9_shelf 11 = .ok (.iconst 3, 1) := by decide +kernel
theorem dX9_shelf_12 : decode cX9_shelf 12 = .ok (.invokestatic 63, 3) := by decide +kernel
theorem dX9_shelf_15 : decode cX9_shelf 15 = .ok (.ifCond .eq 9, 3) := by decide +kernel
theorem dX9_shelf_18 : decode cX9_shelf 18 = .ok (.iload_n 3, 1) := by decide +kernel
theorem dX9_shelf_19 : decode cX9_shelf 19 = .ok (.bipush 6, 2) := by decide +kernel
theorem dX9_shelf_21 : decode cX9_shelf 21 = .ok (.if_icmp .le 6, 3) := by decide +kernel
theorem dX9_shelf_24 : decode cX9_shelf 24 = .ok (.bipush (-2), 2) := by decide +kernel
theorem dX9_shelf_26 : decode cX9_shelf 26 = .ok (.ireturn, 1) := by decide +kernel
theorem dX9_shelf_27 : decode cX9_shelf 27 = .ok (.iload_n 3, 1) := by decide +kernel
theorem dX9_shelf_28 : decode cX9_shelf 28 = .ok (.ifCond .ge 6, 3) := by decide +kernel
theorem dX9_shelf_31 : decode cX9_shelf 31 = .ok (.bipush (-14), 2) := by decide +kernel
theorem dX9_shelf_33 : decode cX9_shelf 33 = .ok (.ireturn, 1) := by decide +kernel
theorem dX9_shelf_34 : decode cX9_shelf 34 = .ok (.aload_n 0, 1) := by decide +kernel
theorem dX9_shelf_35 : decode cX9_shelf 35 = .ok (.getfield 48, 3) := by decide +kernel
theorem dX9_shelf_38 : decode cX9_shelf 38 = .ok (.iload_n 1, 1) := by decide +kernel
theorem dX9_shelf_39 : decode cX9_shelf 39 = .ok (.iload_n 3, 1) := by decide +kernel
theorem dX9_shelf_40 : decode cX9_shelf 40 = .ok (.iastore, 1) := by decide +kernel
theorem dX9_shelf_41 : decode cX9_shelf 41 = .ok (.aload_n 0, 1) := by decide +kernel
theorem dX9_shelf_42 : decode cX9_shelf 42 = .ok (.getfield 51, 3) := by decide +kernel
theorem dX9_shelf_45 : decode cX9_shelf 45 = .ok (.iload_n 1, 1) := by decide +kernel
theorem dX9_shelf_46 : decode cX9_shelf 46 = .ok (.iload_n 2, 1) := by decide +kernel
theorem dX9_shelf_47 : decode cX9_shelf 47 = .ok (.iastore, 1) := by decide +kernel
theorem dX9_shelf_48 : decode cX9_shelf 48 = .ok (.iconst 0, 1) := by decide +kernel
theorem dX9_shelf_49 : decode cX9_shelf 49 = .ok (.istore 4, 2) := by decide +kernel
theorem dX9_shelf_51 : decode cX9_shelf 51 = .ok (.iload 4, 2) := by decide +kernel
theorem dX9_shelf_53 : decode cX9_shelf 53 = .ok (.bipush 6, 2) := by decide +kernel
theorem dX9_shelf_55 : decode cX9_shelf 55 = .ok (.if_icmp .ge 24, 3) := by decide +kernel
theorem dX9_shelf_58 : decode cX9_shelf 58 = .ok (.aload_n 0, 1) := by decide +kernel
theorem dX9_shelf_59 : decode cX9_shelf 59 = .ok (.getfield 54, 3) := by decide +kernel
theorem dX9_shelf_62 : decode cX9_shelf 62 = .ok (.bipush 6, 2) := by decide +kernel
theorem dX9_shelf_64 : decode cX9_shelf 64 = .ok (.iload_n 1, 1) := by decide +kernel
theorem dX9_shelf_65 : decode cX9_shelf 65 = .ok (.imul, 1) := by decide +kernel
theorem dX9_shelf_66 : decode cX9_shelf 66 = .ok (.iload 4, 2) := by decide +kernel
theorem dX9_shelf_68 : decode cX9_shelf 68 = .ok (.iadd, 1) := by decide +kernel
theorem dX9_shelf_69 : decode cX9_shelf 69 = .ok (.ldc2_w 80, 3) := by decide +kernel
theorem dX9_shelf_72 : decode cX9_shelf 72 = .ok (.lastore, 1) := by decide +kernel
theorem dX9_shelf_73 : decode cX9_shelf 73 = .ok (.iinc 4 1, 3) := by decide +kernel
theorem dX9_shelf_76 : decode cX9_shelf 76 = .ok (.goto (-25), 3) := by decide +kernel
theorem dX9_shelf_79 : decode cX9_shelf 79 = .ok (.iload_n 3, 1) := by decide +kernel
theorem dX9_shelf_80 : decode cX9_shelf 80 = .ok (.ireturn, 1) := by decide +kernel
set_option maxRecDepth 20000 in
theorem ggX9_faultOf_X9_within : GoodIn wsX9_faultOf wsX9_within := goodIn_r _ [5] (by decide +kernel) (by decide +kernel)
set_option maxRecDepth 20000 in
theorem gX9_faultOf_X9_within : GoodIn wsX9_faultOf (va_wsS RX9 63 yX9_within wsX9_within) := goodIn_app (goodIn_of _ (by decide +kernel)) ggX9_faultOf_X9_within
theorem dX9_faultOf_0 : decode cX9_faultOf 0 = .ok (.aload_n 0, 1) := by decide +kernel
theorem dX9_faultOf_1 : decode cX9_faultOf 1 = .ok (.getfield 48, 3) := by decide +kernel
theorem dX9_faultOf_4 : decode cX9_faultOf 4 = .ok (.iload_n 1, 1) := by decide +kernel
theorem dX9_faultOf_5 : decode cX9_faultOf 5 = .ok (.iaload, 1) := by decide +kernel
theorem dX9_faultOf_6 : decode cX9_faultOf 6 = .ok (.bipush (-9), 2) := by decide +kernel
theorem dX9_faultOf_8 : decode cX9_faultOf 8 = .ok (.if_icmp .ne 8, 3) := by decide +kernel
theorem dX9_faultOf_11 : decode cX9_faultOf 11 = .ok (.bipush (-11), 2) := by decide +kernel
theorem dX9_faultOf_13 : decode cX9_faultOf 13 = .ok (.goto 25, 3) := by decide +kernel
theorem dX9_faultOf_16 : decode cX9_faultOf 16 = .ok (.iload_n 2, 1) := by decide +kernel
theorem dX9_faultOf_17 : decode cX9_faultOf 17 = .ok (.iconst 0, 1) := by decide +kernel
theorem dX9_faultOf_18 : decode cX9_faultOf 18 = .ok (.aload_n 0, 1) := by decide +kernel
theorem dX9_faultOf_19 : decode cX9_faultOf 19 = .ok (.getfield 48, 3) := by decide +kernel
theorem dX9_faultOf_22 : decode cX9_faultOf 22 = .ok (.iload_n 1, 1) := by decide +kernel
theorem dX9_faultOf_23 : decode cX9_faultOf 23 = .ok (.iaload, 1) := by decide +kernel
theorem dX9_faultOf_24 : decode cX9_faultOf 24 = .ok (.iconst 1, 1) := by decide +kernel
theorem dX9_faultOf_25 : decode cX9_faultOf 25 = .ok (.isub, 1) := by decide +kernel
theorem dX9_faultOf_26 : decode cX9_faultOf 26 = .ok (.invokestatic 63, 3) := by decide +kernel
theorem dX9_faultOf_29 : decode cX9_faultOf 29 = .ok (.ifCond .eq 7, 3) := by decide +kernel
theorem dX9_faultOf_32 : decode cX9_faultOf 32 = .ok (.iconst 0, 1) := by decide +kernel
theorem dX9_faultOf_33 : decode cX9_faultOf 33 = .ok (.goto 5, 3) := by decide +kernel
theorem dX9_faultOf_36 : decode cX9_faultOf 36 = .ok (.bipush (-13), 2) := by decide +kernel
theorem dX9_faultOf_38 : decode cX9_faultOf 38 = .ok (.ireturn, 1) := by decide +kernel
theorem dX9_sortOf_0 : decode cX9_sortOf 0 = .ok (.lload_n 0, 1) := by decide +kernel
theorem dX9_sortOf_1 : decode cX9_sortOf 1 = .ok (.lconst 0, 1) := by decide +kernel
theorem dX9_sortOf_2 : decode cX9_sortOf 2 = .ok (.lcmp, 1) := by decide +kernel
theorem dX9_sortOf_3 : decode cX9_sortOf 3 = .ok (.ifCond .le 7, 3) := by decide +kernel
theorem dX9_sortOf_6 : decode cX9_sortOf 6 = .ok (.iconst 0, 1) := by decide +kernel
theorem dX9_sortOf_7 : decode cX9_sortOf 7 = .ok (.goto 14, 3) := by decide +kernel
theorem dX9_sortOf_10 : decode cX9_sortOf 10 = .ok (.lload_n 0, 1) := by decide +kernel
theorem dX9_sortOf_11 : decode cX9_sortOf 11 = .ok (.lconst 0, 1) := by decide +kernel
theorem dX9_sortOf_12 : decode cX9_sortOf 12 = .ok (.lcmp, 1) := by decide +kernel
theorem dX9_sortOf_13 : decode cX9_sortOf 13 = .ok (.ifCond .ge 7, 3) := by decide +kernel
theorem dX9_sortOf_16 : decode cX9_sortOf 16 = .ok (.iconst 1, 1) := by decide +kernel
theorem dX9_sortOf_17 : decode cX9_sortOf 17 = .ok (.goto 4, 3) := by decide +kernel
theorem dX9_sortOf_20 : decode cX9_sortOf 20 = .ok (.iconst 2, 1) := by decide +kernel
theorem dX9_sortOf_21 : decode cX9_sortOf 21 = .ok (.ireturn, 1) := by decide +kernel
set_option maxRecDepth 20000 in
theorem ggX9_lay_X9_isShelf : GoodIn wsX9_lay wsX9_isShelf := goodIn_r _ [7, 8, 9, 6, 10] (by decide +kernel) (by decide +kernel)
set_option maxRecDepth 20000 in
theorem gX9_lay_X9_isShelf : GoodIn wsX9_lay (va_wsS RX9 167 yX9_isShelf wsX9_isShelf) := goodIn_app (goodIn_of _ (by decide +kernel)) ggX9_lay_X9_isShelf
set_option maxRecDepth 20000 in
theorem ggX9_lay_X9_isPlace : GoodIn wsX9_lay wsX9_isPlace := goodIn_r _ [13, 8, 9, 6, 10] (by decide +kernel) (by decide +kernel)
set_option maxRecDepth 20000 in
theorem gX9_lay_X9_isPlace : GoodIn wsX9_lay (va_wsS RX9 77 yX9_isPlace wsX9_isPlace) := goodIn_app (goodIn_of _ (by decide +kernel)) ggX9_lay_X9_isPlace
set_option maxRecDepth 20000 in
theorem ggX9_lay_X9_faultOf : GoodIn wsX9_lay wsX9_faultOf := goodIn_r _ [17, 18, 8, 9, 6, 10, 22, 23, 24, 25, 26, 27, 28, 29, 30, 31, 32, 33, 34, 35, 36, 37, 38] (by decide +kernel) (by decide +kernel)
set_option maxRecDepth 20000 in
theorem gX9_lay_X9_faultOf : GoodIn wsX9_lay (wsV RX9 170 RX9 yX9_faultOf wsX9_faultOf) := goodIn_app (goodIn_of _ (by decide +kernel)) ggX9_lay_X9_faultOf
set_option maxRecDepth 20000 in
theorem ggX9_lay_X9_sortOf : GoodIn wsX9_lay wsX9_sortOf := goodIn_r _ [21] (by decide +kernel) (by decide +kernel)
set_option maxRecDepth 20000 in
theorem gX9_lay_X9_sortOf : GoodIn wsX9_lay (va_wsS RX9 173 yX9_sortOf wsX9_sortOf) := goodIn_app (goodIn_of _ (by decide +kernel)) ggX9_lay_X9_sortOf
theorem dX9_lay_0 : decode cX9_lay 0 = .ok (.iload_n 1, 1) := by decide +kernel
theorem dX9_lay_1 : decode cX9_lay 1 = .ok (.invokestatic 167, 3) := by decide +kernel
theorem dX9_lay_4 : decode cX9_lay 4 = .ok (.ifCond .eq 10, 3) := by decide +kernel
theorem dX9_lay_7 : decode cX9_lay 7 = .ok (.iload_n 3, 1) := by decide +kernel
theorem dX9_lay_8 : decode cX9_lay 8 = .ok (.invokestatic 77, 3) := by decide +kernel
theorem dX9_lay_11 : decode cX9_lay 11 = .ok (.ifCond .ne 5, 3) := by decide +kernel
theorem dX9_lay_14 : decode cX9_lay 14 = .ok (.iconst (-1), 1) := by decide +kernel
theorem dX9_lay_15 : decode cX9_lay 15 = .ok (.ireturn, 1) := by decide +kernel
theorem dX9_lay_16 : decode cX9_lay 16 = .ok (.aload_n 0, 1) := by decide +kernel
theorem dX9_lay_17 : decode cX9_lay 17 = .ok (.iload_n 1, 1) := by decide +kernel
theorem dX9_lay_18 : decode cX9_lay 18 = .ok (.iload_n 2, 1) := by decide +kernel
theorem dX9_lay_19 : decode cX9_lay 19 = .ok (.invokevirtual 170, 3) := by decide +kernel
theorem dX9_lay_22 : decode cX9_lay 22 = .ok (.ifCond .eq 10, 3) := by decide +kernel
theorem dX9_lay_25 : decode cX9_lay 25 = .ok (.aload_n 0, 1) := by decide +kernel
theorem dX9_lay_26 : decode cX9_lay 26 = .ok (.iload_n 1, 1) := by decide +kernel
theorem dX9_lay_27 : decode cX9_lay 27 = .ok (.iload_n 2, 1) := by decide +kernel
theorem dX9_lay_28 : decode cX9_lay 28 = .ok (.invokevirtual 170, 3) := by decide +kernel
theorem dX9_lay_31 : decode cX9_lay 31 = .ok (.ireturn, 1) := by decide +kernel
theorem dX9_lay_32 : decode cX9_lay 32 = .ok (.aload_n 0, 1) := by decide +kernel
theorem dX9_lay_33 : decode cX9_lay 33 = .ok (.getfield 51, 3) := by decide +kernel
theorem dX9_lay_36 : decode cX9_lay 36 = .ok (.iload_n 1, 1) := by decide +kernel
theorem dX9_lay_37 : decode cX9_lay 37 = .ok (.iaload, 1) := by decide +kernel
theorem dX9_lay_38 : decode cX9_lay 38 = .ok (.iconst 3, 1) := by decide +kernel
theorem dX9_lay_39 : decode cX9_lay 39 = .ok (.if_icmp .eq 26, 3) := by decide +kernel
theorem dX9_lay_42 : decode cX9_lay 42 = .ok (.aload_n 0, 1) := by decide +kernel
theorem dX9_lay_43 : decode cX9_lay 43 = .ok (.getfield 51, 3) := by decide +kernel
theorem dX9_lay_46 : decode cX9_lay 46 = .ok (.iload_n 1, 1) := by decide +kernel
theorem dX9_lay_47 : decode cX9_lay 47 = .ok (.iaload, 1) := by decide +kernel
theorem dX9_lay_48 : decode cX9_lay 48 = .ok (.aload_n 0, 1) := by decide +kernel
theorem dX9_lay_49 : decode cX9_lay 49 = .ok (.getfield 7, 3) := by decide +kernel
theorem dX9_lay_52 : decode cX9_lay 52 = .ok (.iload_n 3, 1) := by decide +kernel
theorem dX9_lay_53 : decode cX9_lay 53 = .ok (.iconst 1, 1) := by decide +kernel
theorem dX9_lay_54 : decode cX9_lay 54 = .ok (.isub, 1) := by decide +kernel
theorem dX9_lay_55 : decode cX9_lay 55 = .ok (.laload, 1) := by decide +kernel
theorem dX9_lay_56 : decode cX9_lay 56 = .ok (.invokestatic 173, 3) := by decide +kernel
theorem dX9_lay_59 : decode cX9_lay 59 = .ok (.if_icmp .eq 6, 3) := by decide +kernel
theorem dX9_lay_62 : decode cX9_lay 62 = .ok (.bipush (-15), 2) := by decide +kernel
theorem dX9_lay_64 : decode cX9_lay 64 = .ok (.ireturn, 1) := by decide +kernel
theorem dX9_lay_65 : decode cX9_lay 65 = .ok (.aload_n 0, 1) := by decide +kernel
theorem dX9_lay_66 : decode cX9_lay 66 = .ok (.getfield 54, 3) := by decide +kernel
theorem dX9_lay_69 : decode cX9_lay 69 = .ok (.bipush 6, 2) := by decide +kernel
theorem dX9_lay_71 : decode cX9_lay 71 = .ok (.iload_n 1, 1) := by decide +kernel
theorem dX9_lay_72 : decode cX9_lay 72 = .ok (.imul, 1) := by decide +kernel
theorem dX9_lay_73 : decode cX9_lay 73 = .ok (.iload_n 2, 1) := by decide +kernel
theorem dX9_lay_74 : decode cX9_lay 74 = .ok (.iadd, 1) := by decide +kernel
theorem dX9_lay_75 : decode cX9_lay 75 = .ok (.aload_n 0, 1) := by decide +kernel
theorem dX9_lay_76 : decode cX9_lay 76 = .ok (.getfield 7, 3) := by decide +kernel
theorem dX9_lay_79 : decode cX9_lay 79 = .ok (.iload_n 3, 1) := by decide +kernel
theorem dX9_lay_80 : decode cX9_lay 80 = .ok (.iconst 1, 1) := by decide +kernel
theorem dX9_lay_81 : decode cX9_lay 81 = .ok (.isub, 1) := by decide +kernel
theorem dX9_lay_82 : decode cX9_lay 82 = .ok (.laload, 1) := by decide +kernel
theorem dX9_lay_83 : decode cX9_lay 83 = .ok (.lastore, 1) := by decide +kernel
theorem dX9_lay_84 : decode cX9_lay 84 = .ok (.iconst 1, 1) := by decide +kernel
theorem dX9_lay_85 : decode cX9_lay 85 = .ok (.ireturn, 1) := by decide +kernel
set_option maxRecDepth 20000 in
theorem ggX9_seen_X9_isShelf : GoodIn wsX9_seen wsX9_isShelf := goodIn_r _ [6, 7, 8, 5, 9] (by decide +kernel) (by decide +kernel)
set_option maxRecDepth 20000 in
theorem gX9_seen_X9_isShelf : GoodIn wsX9_seen (va_wsS RX9 167 yX9_isShelf wsX9_isShelf) := goodIn_app (goodIn_of _ (by decide +kernel)) ggX9_seen_X9_isShelf
set_option maxRecDepth 20000 in
theorem ggX9_seen_X9_faultOf : GoodIn wsX9_seen wsX9_faultOf := goodIn_r _ [13, 14, 7, 8, 5, 9, 15, 16, 17, 18, 19, 20, 21, 22, 23, 24, 25, 26, 27, 28, 29, 30, 31] (by decide +kernel) (by decide +kernel)
set_option maxRecDepth 20000 in
theorem gX9_seen_X9_faultOf : GoodIn wsX9_seen (wsV RX9 170 RX9 yX9_faultOf wsX9_faultOf) := goodIn_app (goodIn_of _ (by decide +kernel)) ggX9_seen_X9_faultOf
theorem dX9_seen_0 : decode cX9_seen 0 = .ok (.iload_n 1, 1) := by decide +kernel
theorem dX9_seen_1 : decode cX9_seen 1 = .ok (.invokestatic 167, 3) := by decide +kernel
theorem dX9_seen_4 : decode cX9_seen 4 = .ok (.ifCond .eq 26, 3) := by decide +kernel
theorem dX9_seen_7 : decode cX9_seen 7 = .ok (.aload_n 0, 1) := by decide +kernel
theorem dX9_seen_8 : decode cX9_seen 8 = .ok (.iload_n 1, 1) := by decide +kernel
theorem dX9_seen_9 : decode cX9_seen 9 = .ok (.iload_n 2, 1) := by decide +kernel
theorem dX9_seen_10 : decode cX9_seen 10 = .ok (.invokevirtual 170, 3) := by decide +kernel
theorem dX9_seen_13 : decode cX9_seen 13 = .ok (.ifCond .ne 17, 3) := by decide +kernel
theorem dX9_seen_16 : decode cX9_seen 16 = .ok (.aload_n 0, 1) := by decide +kernel
theorem dX9_seen_17 : decode cX9_seen 17 = .ok (.getfield 54, 3) := by decide +kernel
theorem dX9_seen_20 : decode cX9_seen 20 = .ok (.bipush 6, 2) := by decide +kernel
theorem dX9_seen_22 : decode cX9_seen 22 = .ok (.iload_n 1, 1) := by decide +kernel
theorem dX9_seen_23 : decode cX9_seen 23 = .ok (.imul, 1) := by decide +kernel
theorem dX9_seen_24 : decode cX9_seen 24 = .ok (.iload_n 2, 1) := by decide +kernel
theorem dX9_seen_25 : decode cX9_seen 25 = .ok (.iadd, 1) := by decide +kernel
theorem dX9_seen_26 : decode cX9_seen 26 = .ok (.laload, 1) := by decide +kernel
theorem dX9_seen_27 : decode cX9_seen 27 = .ok (.goto 6, 3) := by decide +kernel
theorem dX9_seen_30 : decode cX9_seen 30 = .ok (.ldc2_w 80, 3) := by decide +kernel
theorem dX9_seen_33 : decode cX9_seen 33 = .ok (.lreturn, 1) := by decide +kernel
theorem dX9_manyShelves_0 : decode cX9_manyShelves 0 = .ok (.iconst 0, 1) := by decide +kernel
theorem dX9_manyShelves_1 : decode cX9_manyShelves 1 = .ok (.istore_n 1, 1) := by decide +kernel
theorem dX9_manyShelves_2 : decode cX9_manyShelves 2 = .ok (.iconst 0, 1) := by decide +kernel
theorem dX9_manyShelves_3 : decode cX9_manyShelves 3 = .ok (.istore_n 2, 1) := by decide +kernel
theorem dX9_manyShelves_4 : decode cX9_manyShelves 4 = .ok (.iload_n 2, 1) := by decide +kernel
theorem dX9_manyShelves_5 : decode cX9_manyShelves 5 = .ok (.iconst 3, 1) := by decide +kernel
theorem dX9_manyShelves_6 : decode cX9_manyShelves 6 = .ok (.if_icmp .ge 28, 3) := by decide +kernel
theorem dX9_manyShelves_9 : decode cX9_manyShelves 9 = .ok (.iload_n 1, 1) := by decide +kernel
theorem dX9_manyShelves_10 : decode cX9_manyShelves 10 = .ok (.aload_n 0, 1) := by decide +kernel
theorem dX9_manyShelves_11 : decode cX9_manyShelves 11 = .ok (.getfield 48, 3) := by decide +kernel
theorem dX9_manyShelves_14 : decode cX9_manyShelves 14 = .ok (.iload_n 2, 1) := by decide +kernel
theorem dX9_manyShelves_15 : decode cX9_manyShelves 15 = .ok (.iaload, 1) := by decide +kernel
theorem dX9_manyShelves_16 : decode cX9_manyShelves 16 = .ok (.bipush (-9), 2) := by decide +kernel
theorem dX9_manyShelves_18 : decode cX9_manyShelves 18 = .ok (.if_icmp .eq 7, 3) := by decide +kernel
theorem dX9_manyShelves_21 : decode cX9_manyShelves 21 = .ok (.iconst 1, 1) := by decide +kernel
theorem dX9_manyShelves_22 : decode cX9_manyShelves 22 = .ok (.goto 4, 3) := by decide +kernel
theorem dX9_manyShelves_25 : decode cX9_manyShelves 25 = .ok (.iconst 0, 1) := by decide +kernel
theorem dX9_manyShelves_26 : decode cX9_manyShelves 26 = .ok (.iadd, 1) := by decide +kernel
theorem dX9_manyShelves_27 : decode cX9_manyShelves 27 = .ok (.istore_n 1, 1) := by decide +kernel
theorem dX9_manyShelves_28 : decode cX9_manyShelves 28 = .ok (.iinc 2 1, 3) := by decide +kernel
theorem dX9_manyShelves_31 : decode cX9_manyShelves 31 = .ok (.goto (-27), 3) := by decide +kernel
theorem dX9_manyShelves_34 : decode cX9_manyShelves 34 = .ok (.iload_n 1, 1) := by decide +kernel
theorem dX9_manyShelves_35 : decode cX9_manyShelves 35 = .ok (.ireturn, 1) := by decide +kernel
theorem dX9_manyLie_0 : decode cX9_manyLie 0 = .ok (.iconst 0, 1) := by decide +kernel
theorem dX9_manyLie_1 : decode cX9_manyLie 1 = .ok (.istore_n 1, 1) := by decide +kernel
theorem dX9_manyLie_2 : decode cX9_manyLie 2 = .ok (.iconst 0, 1) := by decide +kernel
theorem dX9_manyLie_3 : decode cX9_manyLie 3 = .ok (.istore_n 2, 1) := by decide +kernel
theorem dX9_manyLie_4 : decode cX9_manyLie 4 = .ok (.iload_n 2, 1) := by decide +kernel
theorem dX9_manyLie_5 : decode cX9_manyLie 5 = .ok (.iconst 3, 1) := by decide +kernel
theorem dX9_manyLie_6 : decode cX9_manyLie 6 = .ok (.if_icmp .ge 53, 3) := by decide +kernel
theorem dX9_manyLie_9 : decode cX9_manyLie 9 = .ok (.iconst 0, 1) := by decide +kernel
theorem dX9_manyLie_10 : decode cX9_manyLie 10 = .ok (.istore_n 3, 1) := by decide +kernel
theorem dX9_manyLie_11 : decode cX9_manyLie 11 = .ok (.iload_n 3, 1) := by decide +kernel
theorem dX9_manyLie_12 : decode cX9_manyLie 12 = .ok (.aload_n 0, 1) := by decide +kernel
theorem dX9_manyLie_13 : decode cX9_manyLie 13 = .ok (.getfield 48, 3) := by decide +kernel
theorem dX9_manyLie_16 : decode cX9_manyLie 16 = .ok (.iload_n 2, 1) := by decide +kernel
theorem dX9_manyLie_17 : decode cX9_manyLie 17 = .ok (.iaload, 1) := by decide +kernel
theorem dX9_manyLie_18 : decode cX9_manyLie 18 = .ok (.if_icmp .ge 35, 3) := by decide +kernel
theorem dX9_manyLie_21 : decode cX9_manyLie 21 = .ok (.iload_n 1, 1) := by decide +kernel
theorem dX9_manyLie_22 : decode cX9_manyLie 22 = .ok (.aload_n 0, 1) := by decide +kernel
theorem dX9_manyLie_23 : decode cX9_manyLie 23 = .ok (.getfield 54, 3) := by decide +kernel
theorem dX9_manyLie_26 : decode cX9_manyLie 26 = .ok (.bipush 6, 2) := by decide +kernel
theorem dX9_manyLie_28 : decode cX9_manyLie 28 = .ok (.iload_n 2, 1) := by decide +kernel
theorem dX9_manyLie_29 : decode cX9_manyLie 29 = .ok (.imul, 1) := by decide +kernel
theorem dX9_manyLie_30 : decode cX9_manyLie 30 = .ok (.iload_n 3, 1) := by decide +kernel
theorem dX9_manyLie_31 : decode cX9_manyLie 31 = .ok (.iadd, 1) := by decide +kernel
theorem dX9_manyLie_32 : decode cX9_manyLie 32 = .ok (.laload, 1) := by decide +kernel
theorem dX9_manyLie_33 : decode cX9_manyLie 33 = .ok (.ldc2_w 80, 3) := by decide +kernel
theorem dX9_manyLie_36 : decode cX9_manyLie 36 = .ok (.lcmp, 1) := by decide +kernel
theorem dX9_manyLie_37 : decode cX9_manyLie 37 = .ok (.ifCond .eq 7, 3) := by decide +kernel
theorem dX9_manyLie_40 : decode cX9_manyLie 40 = .ok (.iconst 1, 1) := by decide +kernel
theorem dX9_manyLie_41 : decode cX9_manyLie 41 = .ok (.goto 4, 3) := by decide +kernel
theorem dX9_manyLie_44 : decode cX9_manyLie 44 = .ok (.iconst 0, 1) := by decide +kernel
theorem dX9_manyLie_45 : decode cX9_manyLie 45 = .ok (.iadd, 1) := by decide +kernel
theorem dX9_manyLie_46 : decode cX9_manyLie 46 = .ok (.istore_n 1, 1) := by decide +kernel
theorem dX9_manyLie_47 : decode cX9_manyLie 47 = .ok (.iinc 3 1, 3) := by decide +kernel
theorem dX9_manyLie_50 : decode cX9_manyLie 50 = .ok (.goto (-39), 3) := by decide +kernel
theorem dX9_manyLie_53 : decode cX9_manyLie 53 = .ok (.iinc 2 1, 3) := by decide +kernel
theorem dX9_manyLie_56 : decode cX9_manyLie 56 = .ok (.goto (-52), 3) := by decide +kernel
theorem dX9_manyLie_59 : decode cX9_manyLie 59 = .ok (.iload_n 1, 1) := by decide +kernel
theorem dX9_manyLie_60 : decode cX9_manyLie 60 = .ok (.ireturn, 1) := by decide +kernel
set_option maxRecDepth 20000 in
theorem ggX9_many_X9_manyShelves : GoodIn wsX9_many wsX9_manyShelves := goodIn_r _ [6, 7, 36, 37, 38, 39, 40, 41, 42, 43, 44, 45, 46, 47, 48, 49, 50, 51, 52] (by decide +kernel) (by decide +kernel)
set_option maxRecDepth 20000 in
theorem gX9_many_X9_manyShelves : GoodIn wsX9_many (wsV RX9 177 RX9 yX9_manyShelves wsX9_manyShelves) := goodIn_app (goodIn_of _ (by decide +kernel)) ggX9_many_X9_manyShelves
set_option maxRecDepth 20000 in
theorem ggX9_many_X9_manyLie : GoodIn wsX9_many wsX9_manyLie := goodIn_r _ [11, 7, 12, 13, 36, 37, 38, 39, 40, 41, 42, 43, 44, 45, 46, 47, 48, 49, 50, 51, 52] (by decide +kernel) (by decide +kernel)
set_option maxRecDepth 20000 in
theorem gX9_many_X9_manyLie : GoodIn wsX9_many (wsV RX9 181 RX9 yX9_manyLie wsX9_manyLie) := goodIn_app (goodIn_of _ (by decide +kernel)) ggX9_many_X9_manyLie
set_option maxRecDepth 20000 in
theorem ggX9_many_X9_isBound : GoodIn wsX9_many wsX9_isBound := goodIn_r _ [17, 18, 19, 20, 21, 5, 22, 23, 24, 25, 26, 27, 28, 29, 30, 31, 32, 33, 34, 35, 36, 37, 38, 39, 40, 41, 42, 43, 44, 45, 46, 47, 48, 49, 50, 51, 52] (by decide +kernel) (by decide +kernel)
set_option maxRecDepth 20000 in
theorem gX9_many_X9_isBound : GoodIn wsX9_many (wsV RX9 127 RX9 yX9_isBound wsX9_isBound) := goodIn_app (goodIn_of _ (by decide +kernel)) ggX9_many_X9_isBound
theorem dX9_many_0 : decode cX9_many 0 = .ok (.iload_n 1, 1) := by decide +kernel
theorem dX9_many_1 : decode cX9_many 1 = .ok (.tableswitch 99 0 3 #[31, 36, 81, 86], 31) := by decide +kernel
theorem dX9_many_32 : decode cX9_many 32 = .ok (.aload_n 0, 1) := by decide +kernel
theorem dX9_many_33 : decode cX9_many 33 = .ok (.invokevirtual 177, 3) := by decide +kernel
theorem dX9_many_36 : decode cX9_many 36 = .ok (.ireturn, 1) := by decide +kernel
theorem dX9_many_37 : decode cX9_many 37 = .ok (.aload_n 0, 1) := by decide +kernel
theorem dX9_many_38 : decode cX9_many 38 = .ok (.getfield 42, 3) := by decide +kernel
theorem dX9_many_41 : decode cX9_many 41 = .ok (.iconst 0, 1) := by decide +kernel
theorem dX9_many_42 : decode cX9_many 42 = .ok (.baload, 1) := by decide +kernel
theorem dX9_many_43 : decode cX9_many 43 = .ok (.ifCond .eq 7, 3) := by decide +kernel
theorem dX9_many_46 : decode cX9_many 46 = .ok (.iconst 1, 1) := by decide +kernel
theorem dX9_many_47 : decode cX9_many 47 = .ok (.goto 4, 3) := by decide +kernel
theorem dX9_many_50 : decode cX9_many 50 = .ok (.iconst 0, 1) := by decide +kernel
theorem dX9_many_51 : decode cX9_many 51 = .ok (.aload_n 0, 1) := by decide +kernel
theorem dX9_many_52 : decode cX9_many 52 = .ok (.getfield 42, 3) := by decide +kernel
theorem dX9_many_55 : decode cX9_many 55 = .ok (.iconst 1, 1) := by decide +kernel
theorem dX9_many_56 : decode cX9_many 56 = .ok (.baload, 1) := by decide +kernel
theorem dX9_many_57 : decode cX9_many 57 = .ok (.ifCond .eq 7, 3) := by decide +kernel
theorem dX9_many_60 : decode cX9_many 60 = .ok (.iconst 1, 1) := by decide +kernel
theorem dX9_many_61 : decode cX9_many 61 = .ok (.goto 4, 3) := by decide +kernel
theorem dX9_many_64 : decode cX9_many 64 = .ok (.iconst 0, 1) := by decide +kernel
theorem dX9_many_65 : decode cX9_many 65 = .ok (.iadd, 1) := by decide +kernel
theorem dX9_many_66 : decode cX9_many 66 = .ok (.aload_n 0, 1) := by decide +kernel
theorem dX9_many_67 : decode cX9_many 67 = .ok (.getfield 42, 3) := by decide +kernel
theorem dX9_many_70 : decode cX9_many 70 = .ok (.iconst 2, 1) := by decide +kernel
theorem dX9_many_71 : decode cX9_many 71 = .ok (.baload, 1) := by decide +kernel
theorem dX9_many_72 : decode cX9_many 72 = .ok (.ifCond .eq 7, 3) := by decide +kernel
theorem dX9_many_75 : decode cX9_many 75 = .ok (.iconst 1, 1) := by decide +kernel
theorem dX9_many_76 : decode cX9_many 76 = .ok (.goto 4, 3) := by decide +kernel
theorem dX9_many_79 : decode cX9_many 79 = .ok (.iconst 0, 1) := by decide +kernel
theorem dX9_many_80 : decode cX9_many 80 = .ok (.iadd, 1) := by decide +kernel
theorem dX9_many_81 : decode cX9_many 81 = .ok (.ireturn, 1) := by decide +kernel
theorem dX9_many_82 : decode cX9_many 82 = .ok (.aload_n 0, 1) := by decide +kernel
theorem dX9_many_83 : decode cX9_many 83 = .ok (.invokevirtual 181, 3) := by decide +kernel
theorem dX9_many_86 : decode cX9_many 86 = .ok (.ireturn, 1) := by decide +kernel
theorem dX9_many_87 : decode cX9_many 87 = .ok (.aload_n 0, 1) := by decide +kernel
theorem dX9_many_88 : decode cX9_many 88 = .ok (.invokevirtual 127, 3) := by decide +kernel
theorem dX9_many_91 : decode cX9_many 91 = .ok (.ifCond .eq 7, 3) := by decide +kernel
theorem dX9_many_94 : decode cX9_many 94 = .ok (.iconst 1, 1) := by decide +kernel
theorem dX9_many_95 : decode cX9_many 95 = .ok (.goto 4, 3) := by decide +kernel
theorem dX9_many_98 : decode cX9_many 98 = .ok (.iconst 0, 1) := by decide +kernel
theorem dX9_many_99 : decode cX9_many 99 = .ok (.ireturn, 1) := by decide +kernel
theorem dX9_many_100 : decode cX9_many 100 = .ok (.bipush (-2), 2) := by decide +kernel
theorem dX9_many_102 : decode cX9_many 102 = .ok (.ireturn, 1) := by decide +kernel
theorem dJ9_floorMod_7cf53_0 : decode cJ9_floorMod_7cf53 0 = .ok (.iload_n 0, 1) := by decide +kernel
theorem dJ9_floorMod_7cf53_1 : decode cJ9_floorMod_7cf53 1 = .ok (.iload_n 1, 1) := by decide +kernel
theorem dJ9_floorMod_7cf53_2 : decode cJ9_floorMod_7cf53 2 = .ok (.irem, 1) := by decide +kernel
theorem dJ9_floorMod_7cf53_3 : decode cJ9_floorMod_7cf53 3 = .ok (.istore_n 2, 1) := by decide +kernel
theorem dJ9_floorMod_7cf53_4 : decode cJ9_floorMod_7cf53 4 = .ok (.iload_n 0, 1) := by decide +kernel
theorem dJ9_floorMod_7cf53_5 : decode cJ9_floorMod_7cf53 5 = .ok (.iload_n 1, 1) := by decide +kernel
theorem dJ9_floorMod_7cf53_6 : decode cJ9_floorMod_7cf53 6 = .ok (.ixor, 1) := by decide +kernel
theorem dJ9_floorMod_7cf53_7 : decode cJ9_floorMod_7cf53 7 = .ok (.ifCond .ge 11, 3) := by decide +kernel
theorem dJ9_floorMod_7cf53_10 : decode cJ9_floorMod_7cf53 10 = .ok (.iload_n 2, 1) := by decide +kernel
theorem dJ9_floorMod_7cf53_11 : decode cJ9_floorMod_7cf53 11 = .ok (.ifCond .eq 7, 3) := by decide +kernel
theorem dJ9_floorMod_7cf53_14 : decode cJ9_floorMod_7cf53 14 = .ok (.iload_n 2, 1) := by decide +kernel
theorem dJ9_floorMod_7cf53_15 : decode cJ9_floorMod_7cf53 15 = .ok (.iload_n 1, 1) := by decide +kernel
theorem dJ9_floorMod_7cf53_16 : decode cJ9_floorMod_7cf53 16 = .ok (.iadd, 1) := by decide +kernel
theorem dJ9_floorMod_7cf53_17 : decode cJ9_floorMod_7cf53 17 = .ok (.ireturn, 1) := by decide +kernel
theorem dJ9_floorMod_7cf53_18 : decode cJ9_floorMod_7cf53 18 = .ok (.iload_n 2, 1) := by decide +kernel
theorem dJ9_floorMod_7cf53_19 : decode cJ9_floorMod_7cf53 19 = .ok (.ireturn, 1) := by decide +kernel
theorem dJ9_floorMod_f86c9_0 : decode cJ9_floorMod_f86c9 0 = .ok (.lload_n 0, 1) := by decide +kernel
theorem dJ9_floorMod_f86c9_1 : decode cJ9_floorMod_f86c9 1 = .ok (.lload_n 2, 1) := by decide +kernel
theorem dJ9_floorMod_f86c9_2 : decode cJ9_floorMod_f86c9 2 = .ok (.lrem, 1) := by decide +kernel
theorem dJ9_floorMod_f86c9_3 : decode cJ9_floorMod_f86c9 3 = .ok (.lstore 4, 2) := by decide +kernel
theorem dJ9_floorMod_f86c9_5 : decode cJ9_floorMod_f86c9 5 = .ok (.lload_n 0, 1) := by decide +kernel
theorem dJ9_floorMod_f86c9_6 : decode cJ9_floorMod_f86c9 6 = .ok (.lload_n 2, 1) := by decide +kernel
theorem dJ9_floorMod_f86c9_7 : decode cJ9_floorMod_f86c9 7 = .ok (.lxor, 1) := by decide +kernel
theorem dJ9_floorMod_f86c9_8 : decode cJ9_floorMod_f86c9 8 = .ok (.lconst 0, 1) := by decide +kernel
theorem dJ9_floorMod_f86c9_9 : decode cJ9_floorMod_f86c9 9 = .ok (.lcmp, 1) := by decide +kernel
theorem dJ9_floorMod_f86c9_10 : decode cJ9_floorMod_f86c9 10 = .ok (.ifCond .ge 15, 3) := by decide +kernel
theorem dJ9_floorMod_f86c9_13 : decode cJ9_floorMod_f86c9 13 = .ok (.lload 4, 2) := by decide +kernel
theorem dJ9_floorMod_f86c9_15 : decode cJ9_floorMod_f86c9 15 = .ok (.lconst 0, 1) := by decide +kernel
theorem dJ9_floorMod_f86c9_16 : decode cJ9_floorMod_f86c9 16 = .ok (.lcmp, 1) := by decide +kernel
theorem dJ9_floorMod_f86c9_17 : decode cJ9_floorMod_f86c9 17 = .ok (.ifCond .eq 8, 3) := by decide +kernel
theorem dJ9_floorMod_f86c9_20 : decode cJ9_floorMod_f86c9 20 = .ok (.lload 4, 2) := by decide +kernel
theorem dJ9_floorMod_f86c9_22 : decode cJ9_floorMod_f86c9 22 = .ok (.lload_n 2, 1) := by decide +kernel
theorem dJ9_floorMod_f86c9_23 : decode cJ9_floorMod_f86c9 23 = .ok (.ladd, 1) := by decide +kernel
theorem dJ9_floorMod_f86c9_24 : decode cJ9_floorMod_f86c9 24 = .ok (.lreturn, 1) := by decide +kernel
theorem dJ9_floorMod_f86c9_25 : decode cJ9_floorMod_f86c9 25 = .ok (.lload 4, 2) := by decide +kernel
theorem dJ9_floorMod_f86c9_27 : decode cJ9_floorMod_f86c9 27 = .ok (.lreturn, 1) := by decide +kernel
theorem dJ9_abs_067f4_0 : decode cJ9_abs_067f4 0 = .ok (.lload_n 0, 1) := by decide +kernel
theorem dJ9_abs_067f4_1 : decode cJ9_abs_067f4 1 = .ok (.lconst 0, 1) := by decide +kernel
theorem dJ9_abs_067f4_2 : decode cJ9_abs_067f4 2 = .ok (.lcmp, 1) := by decide +kernel
theorem dJ9_abs_067f4_3 : decode cJ9_abs_067f4 3 = .ok (.ifCond .ge 8, 3) := by decide +kernel
theorem dJ9_abs_067f4_6 : decode cJ9_abs_067f4 6 = .ok (.lload_n 0, 1) := by decide +kernel
theorem dJ9_abs_067f4_7 : decode cJ9_abs_067f4 7 = .ok (.lneg, 1) := by decide +kernel
theorem dJ9_abs_067f4_8 : decode cJ9_abs_067f4 8 = .ok (.goto 4, 3) := by decide +kernel
theorem dJ9_abs_067f4_11 : decode cJ9_abs_067f4 11 = .ok (.lload_n 0, 1) := by decide +kernel
theorem dJ9_abs_067f4_12 : decode cJ9_abs_067f4 12 = .ok (.lreturn, 1) := by decide +kernel
theorem dJ9_max_7cf53_0 : decode cJ9_max_7cf53 0 = .ok (.iload_n 0, 1) := by decide +kernel
theorem dJ9_max_7cf53_1 : decode cJ9_max_7cf53 1 = .ok (.iload_n 1, 1) := by decide +kernel
theorem dJ9_max_7cf53_2 : decode cJ9_max_7cf53 2 = .ok (.if_icmp .lt 7, 3) := by decide +kernel
theorem dJ9_max_7cf53_5 : decode cJ9_max_7cf53 5 = .ok (.iload_n 0, 1) := by decide +kernel
theorem dJ9_max_7cf53_6 : decode cJ9_max_7cf53 6 = .ok (.goto 4, 3) := by decide +kernel
theorem dJ9_max_7cf53_9 : decode cJ9_max_7cf53 9 = .ok (.iload_n 1, 1) := by decide +kernel
theorem dJ9_max_7cf53_10 : decode cJ9_max_7cf53 10 = .ok (.ireturn, 1) := by decide +kernel
theorem dJ9_max_f86c9_0 : decode cJ9_max_f86c9 0 = .ok (.lload_n 0, 1) := by decide +kernel
theorem dJ9_max_f86c9_1 : decode cJ9_max_f86c9 1 = .ok (.lload_n 2, 1) := by decide +kernel
theorem dJ9_max_f86c9_2 : decode cJ9_max_f86c9 2 = .ok (.lcmp, 1) := by decide +kernel
theorem dJ9_max_f86c9_3 : decode cJ9_max_f86c9 3 = .ok (.ifCond .lt 7, 3) := by decide +kernel
theorem dJ9_max_f86c9_6 : decode cJ9_max_f86c9 6 = .ok (.lload_n 0, 1) := by decide +kernel
theorem dJ9_max_f86c9_7 : decode cJ9_max_f86c9 7 = .ok (.goto 4, 3) := by decide +kernel
theorem dJ9_max_f86c9_10 : decode cJ9_max_f86c9 10 = .ok (.lload_n 2, 1) := by decide +kernel
theorem dJ9_max_f86c9_11 : decode cJ9_max_f86c9 11 = .ok (.lreturn, 1) := by decide +kernel
theorem dJ9_min_7cf53_0 : decode cJ9_min_7cf53 0 = .ok (.iload_n 0, 1) := by decide +kernel
theorem dJ9_min_7cf53_1 : decode cJ9_min_7cf53 1 = .ok (.iload_n 1, 1) := by decide +kernel
theorem dJ9_min_7cf53_2 : decode cJ9_min_7cf53 2 = .ok (.if_icmp .gt 7, 3) := by decide +kernel
theorem dJ9_min_7cf53_5 : decode cJ9_min_7cf53 5 = .ok (.iload_n 0, 1) := by decide +kernel
theorem dJ9_min_7cf53_6 : decode cJ9_min_7cf53 6 = .ok (.goto 4, 3) := by decide +kernel
theorem dJ9_min_7cf53_9 : decode cJ9_min_7cf53 9 = .ok (.iload_n 1, 1) := by decide +kernel
theorem dJ9_min_7cf53_10 : decode cJ9_min_7cf53 10 = .ok (.ireturn, 1) := by decide +kernel
theorem dJ9_min_f86c9_0 : decode cJ9_min_f86c9 0 = .ok (.lload_n 0, 1) := by decide +kernel
theorem dJ9_min_f86c9_1 : decode cJ9_min_f86c9 1 = .ok (.lload_n 2, 1) := by decide +kernel
theorem dJ9_min_f86c9_2 : decode cJ9_min_f86c9 2 = .ok (.lcmp, 1) := by decide +kernel
theorem dJ9_min_f86c9_3 : decode cJ9_min_f86c9 3 = .ok (.ifCond .gt 7, 3) := by decide +kernel
theorem dJ9_min_f86c9_6 : decode cJ9_min_f86c9 6 = .ok (.lload_n 0, 1) := by decide +kernel
theorem dJ9_min_f86c9_7 : decode cJ9_min_f86c9 7 = .ok (.goto 4, 3) := by decide +kernel
theorem dJ9_min_f86c9_10 : decode cJ9_min_f86c9 10 = .ok (.lload_n 2, 1) := by decide +kernel
theorem dJ9_min_f86c9_11 : decode cJ9_min_f86c9 11 = .ok (.lreturn, 1) := by decide +kernel
set_option maxRecDepth 20000 in
theorem ggL_law_X8_init : GoodIn wsL_law wsX8_init := goodIn_r _ [8, 9, 10, 11, 12, 13, 14, 15, 16, 17, 18, 19, 20, 21, 22, 23, 24, 25, 26, 27, 28, 29, 30, 31, 32, 33, 34, 35, 36, 37, 38, 39, 40, 41, 42, 43, 44, 45, 46, 47, 48, 49, 50, 51, 52, 53, 54, 55, 56, 57, 58, 59, 60, 61, 62, 63, 64, 65, 66, 67, 68, 69, 70, 71, 72, 73, 74, 75, 76, 77, 78, 79, 80, 81, 82, 83, 84, 85, 86, 87, 88, 89, 90, 91, 92, 93, 94, 95, 96, 2, 97, 98, 99, 100, 101, 102, 103, 104, 105, 106, 107, 108, 109, 110, 111, 112, 113, 114, 115, 116, 117, 118, 119, 120, 121, 122, 123, 124, 125, 126, 127, 128, 129, 130, 131, 132, 133, 134, 135, 697, 698, 699, 700, 701, 702, 703, 704, 705, 723, 724, 725, 726, 727, 728, 729, 730, 731, 732, 733, 734, 735, 736, 737, 738, 739, 740, 741, 742, 743, 744, 745, 746, 747, 748, 749] (by decide +kernel) (by decide +kernel)
set_option maxRecDepth 20000 in
theorem gL_law_X8_init : GoodIn wsL_law (wsX8_init) := ggL_law_X8_init
set_option maxRecDepth 20000 in
theorem ggL_law_X9_init : GoodIn wsL_law wsX9_init := goodIn_r _ [138, 139, 10, 11, 12, 140, 141, 142, 62, 143, 144, 32, 145, 146, 147, 148, 149, 150, 151, 152, 153, 154, 155, 156, 157, 706, 707, 708, 709, 710, 711, 712, 713, 714, 715, 716, 717, 718, 719, 720, 721, 722] (by decide +kernel) (by decide +kernel)
set_option maxRecDepth 20000 in
theorem gL_law_X9_init : GoodIn wsL_law (wsX9_init) := ggL_law_X9_init
set_option maxRecDepth 20000 in
theorem ggL_law_X8_set : GoodIn wsL_law wsX8_set := goodIn_r _ [161, 16, 162, 163, 2, 164, 165, 98, 166, 167, 168, 14, 94, 95, 96, 97, 20, 99, 100, 101, 24, 102, 103, 104, 19, 105, 41, 106, 107, 108, 109, 110, 111, 112, 113, 114, 115, 116, 117, 118, 119, 120, 121, 23, 122, 45, 53, 57, 63, 123, 124, 125, 126, 127, 128, 129, 52, 130, 73, 131, 132, 133, 56, 134, 135, 697, 698, 699, 700, 701, 702, 703, 704, 705, 723, 724, 725, 726, 727, 728, 729, 730, 731, 741, 742, 743, 744, 745] (by decide +kernel) (by decide +kernel)
set_option maxRecDepth 20000 in
theorem gL_law_X8_set : GoodIn wsL_law (wsV RL 13 RX8 yX8_set wsX8_set) := goodIn_app (goodIn_of _ (by decide +kernel)) ggL_law_X8_set
set_option maxRecDepth 20000 in
theorem ggL_law_X9_set : GoodIn wsL_law wsX9_set := goodIn_r _ [172, 156, 140, 173, 174, 5, 175, 176, 177, 178, 179, 180, 181, 182, 183, 706, 707, 708, 709, 710, 711, 712, 713, 714, 715, 716, 717, 718, 719, 720, 721, 722] (by decide +kernel) (by decide +kernel)
set_option maxRecDepth 20000 in
theorem gL_law_X9_set : GoodIn wsL_law (wsV RL 17 RX9 yX9_set wsX9_set) := goodIn_app (goodIn_of _ (by decide +kernel)) ggL_law_X9_set
set_option maxRecDepth 20000 in
theorem ggL_law_X8_bend : GoodIn wsL_law wsX8_bend := goodIn_r _ [187, 16, 188, 189, 190, 2, 191, 697, 698, 699, 700, 701, 702, 703, 704, 705] (by decide +kernel) (by decide +kernel)
set_option maxRecDepth 20000 in
theorem gL_law_X8_bend : GoodIn wsL_law (wsV RL 18 RX8 yX8_bend wsX8_bend) := goodIn_app (goodIn_of _ (by decide +kernel)) ggL_law_X8_bend
set_option maxRecDepth 20000 in
theorem ggL_law_X9_bend : GoodIn wsL_law wsX9_bend := goodIn_r _ [195, 140, 196, 197, 198, 5, 199, 178, 179, 180, 706, 707, 708, 709, 710, 711, 712, 713, 714, 715, 716, 717, 718, 719, 720, 721, 722] (by decide +kernel) (by decide +kernel)
set_option maxRecDepth 20000 in
theorem gL_law_X9_bend : GoodIn wsL_law (wsV RL 22 RX9 yX9_bend wsX9_bend) := goodIn_app (goodIn_of _ (by decide +kernel)) ggL_law_X9_bend
set_option maxRecDepth 20000 in
theorem ggL_law_X8_turn : GoodIn wsL_law wsX8_turn := goodIn_r _ [203, 16, 204, 205, 189, 190, 2, 191, 206, 114, 115, 14, 94, 95, 96, 97, 20, 98, 99, 100, 101, 24, 102, 103, 104, 19, 105, 41, 106, 107, 108, 109, 110, 111, 112, 113, 116, 117, 118, 119, 120, 121, 23, 122, 45, 53, 57, 63, 123, 124, 125, 126, 127, 128, 129, 52, 130, 73, 131, 132, 133, 56, 134, 135, 697, 698, 699, 700, 701, 702, 703, 704, 705, 723, 724, 725, 726, 727, 728, 729, 730, 731, 741, 742, 743, 744, 745] (by decide +kernel) (by decide +kernel)
set_option maxRecDepth 20000 in
theorem gL_law_X8_turn : GoodIn wsL_law (wsV RL 23 RX8 yX8_turn wsX8_turn) := goodIn_app (goodIn_of _ (by decide +kernel)) ggL_law_X8_turn
set_option maxRecDepth 20000 in
theorem ggL_law_X9_turn : GoodIn wsL_law wsX9_turn := goodIn_r _ [210, 140, 211, 212, 197, 198, 5, 199, 178, 179, 180, 213, 214, 215, 156, 706, 707, 708, 709, 710, 711, 712, 713, 714, 715, 716, 717, 718, 719, 720, 721, 722] (by decide +kernel) (by decide +kernel)
set_option maxRecDepth 20000 in
theorem gL_law_X9_turn : GoodIn wsL_law (wsV RL 27 RX9 yX9_turn wsX9_turn) := goodIn_app (goodIn_of _ (by decide +kernel)) ggL_law_X9_turn
set_option maxRecDepth 20000 in
theorem ggL_law_X8_steps : GoodIn wsL_law wsX8_steps := goodIn_r _ [219, 100, 697, 698, 699, 700, 701, 702, 703, 704, 705] (by decide +kernel) (by decide +kernel)
set_option maxRecDepth 20000 in
theorem gL_law_X8_steps : GoodIn wsL_law (wsV RL 28 RX8 yX8_steps wsX8_steps) := goodIn_app (goodIn_of _ (by decide +kernel)) ggL_law_X8_steps
set_option maxRecDepth 20000 in
theorem ggL_law_X9_steps : GoodIn wsL_law wsX9_steps := goodIn_r _ [223, 224, 225, 226, 5, 227, 141, 140, 228, 229, 230, 231, 213, 214, 215, 156, 232, 233, 234, 235, 706, 707, 708, 709, 710, 711, 712, 713, 714, 715, 716, 717, 718, 719, 720, 721, 722] (by decide +kernel) (by decide +kernel)
set_option maxRecDepth 20000 in
theorem gL_law_X9_steps : GoodIn wsL_law (wsV RL 32 RX9 yX9_steps wsX9_steps) := goodIn_app (goodIn_of _ (by decide +kernel)) ggL_law_X9_steps
set_option maxRecDepth 20000 in
theorem ggL_law_X8_step : GoodIn wsL_law wsX8_step := goodIn_r _ [239, 100, 20, 16, 240, 102, 103, 104, 19, 105, 41, 106, 107, 108, 2, 109, 110, 111, 112, 113, 114, 115, 14, 697, 698, 699, 700, 701, 702, 703, 704, 705, 723, 724, 725] (by decide +kernel) (by decide +kernel)
set_option maxRecDepth 20000 in
theorem gL_law_X8_step : GoodIn wsL_law (wsV RL 33 RX8 yX8_step wsX8_step) := goodIn_app (goodIn_of _ (by decide +kernel)) ggL_law_X8_step
set_option maxRecDepth 20000 in
theorem ggL_law_X9_step : GoodIn wsL_law wsX9_step := goodIn_r _ [244, 228, 224, 225, 226, 5, 227, 141, 140, 229, 230, 231, 213, 214, 215, 156, 232, 233, 234, 235, 706, 707, 708, 709, 710, 711, 712, 713, 714, 715, 716, 717, 718, 719, 720, 721, 722] (by decide +kernel) (by decide +kernel)
set_option maxRecDepth 20000 in
theorem gL_law_X9_step : GoodIn wsL_law (wsV RL 36 RX9 yX9_step wsX9_step) := goodIn_app (goodIn_of _ (by decide +kernel)) ggL_law_X9_step
set_option maxRecDepth 20000 in
theorem ggL_law_X8_root : GoodIn wsL_law wsX8_root := goodIn_r _ [248, 24, 249, 188, 250, 251, 2, 252, 697, 698, 699, 700, 701, 702, 703, 704, 705, 726, 727, 728, 729, 730, 731] (by decide +kernel) (by decide +kernel)
set_option maxRecDepth 20000 in
theorem gL_law_X8_root : GoodIn wsL_law (wsV RL 37 RX8 yX8_root wsX8_root) := goodIn_app (goodIn_of _ (by decide +kernel)) ggL_law_X8_root
set_option maxRecDepth 20000 in
theorem ggL_law_X9_root : GoodIn wsL_law wsX9_root := goodIn_r _ [256, 196, 141, 178, 179, 5, 180, 224, 225, 226, 227, 140, 228, 229, 230, 231, 213, 214, 215, 156, 232, 233, 234, 235, 706, 707, 708, 709, 710, 711, 712, 713, 714, 715, 716, 717, 718, 719, 720, 721, 722] (by decide +kernel) (by decide +kernel)
set_option maxRecDepth 20000 in
theorem gL_law_X9_root : GoodIn wsL_law (wsV RL 40 RX9 yX9_root wsX9_root) := goodIn_app (goodIn_of _ (by decide +kernel)) ggL_law_X9_root
set_option maxRecDepth 20000 in
theorem ggL_law_X8_common : GoodIn wsL_law wsX8_common := goodIn_r _ [260, 16, 261, 262, 263, 264, 265, 266, 2, 267, 98, 697, 698, 699, 700, 701, 702, 703, 704, 705] (by decide +kernel) (by decide +kernel)
set_option maxRecDepth 20000 in
theorem gL_law_X8_common : GoodIn wsL_law (wsV RL 41 RX8 yX8_common wsX8_common) := goodIn_app (goodIn_of _ (by decide +kernel)) ggL_law_X8_common
set_option maxRecDepth 20000 in
theorem ggL_law_X9_common : GoodIn wsL_law wsX9_common := goodIn_r _ [271, 140, 706, 707, 708, 709, 710, 711, 712, 713, 714, 715, 716, 717, 718, 719, 720, 721, 722] (by decide +kernel) (by decide +kernel)
set_option maxRecDepth 20000 in
theorem gL_law_X9_common : GoodIn wsL_law (wsV RL 44 RX9 yX9_common wsX9_common) := goodIn_app (goodIn_of _ (by decide +kernel)) ggL_law_X9_common
set_option maxRecDepth 20000 in
theorem ggL_law_X8_upTo : GoodIn wsL_law wsX8_upTo := goodIn_r _ [275, 24, 276, 277, 2, 278, 165, 279, 280, 281, 23, 282, 45, 283, 284, 285, 286, 53, 49, 287, 288, 289, 52, 290, 73, 291, 292, 263, 293, 294, 295, 296, 72, 297, 298, 299, 300, 301, 302, 303, 304, 305, 306, 307, 48, 308, 68, 309, 108, 109, 310, 311, 312, 313, 314, 315, 316, 317, 318, 67, 114, 115, 14, 319, 320, 321, 322, 323, 324, 325, 326, 327, 328, 329, 330, 331, 332, 333, 334, 335, 336, 337, 338, 339, 697, 698, 699, 700, 701, 702, 703, 704, 705, 726, 727, 728, 729, 730, 731, 741, 742, 738, 739, 740] (by decide +kernel) (by decide +kernel)
set_option maxRecDepth 20000 in
theorem gL_law_X8_upTo : GoodIn wsL_law (wsV RL 45 RX8 yX8_upTo wsX8_upTo) := goodIn_app (goodIn_of _ (by decide +kernel)) ggL_law_X8_upTo
set_option maxRecDepth 20000 in
theorem ggL_law_X9_upTo : GoodIn wsL_law wsX9_upTo := goodIn_r _ [343, 176, 196, 178, 179, 5, 180, 344, 345, 346, 347, 141, 224, 225, 226, 227, 140, 228, 229, 230, 231, 213, 214, 215, 156, 232, 233, 234, 235, 348, 349, 350, 351, 145, 352, 353, 354, 355, 356, 357, 144, 143, 358, 359, 360, 361, 362, 363, 364, 365, 366, 142, 367, 368, 369, 370, 706, 707, 708, 709, 710, 711, 712, 713, 714, 715, 716, 717, 718, 719, 720, 721, 722] (by decide +kernel) (by decide +kernel)
set_option maxRecDepth 20000 in
theorem gL_law_X9_upTo : GoodIn wsL_law (wsV RL 48 RX9 yX9_upTo wsX9_upTo) := goodIn_app (goodIn_of _ (by decide +kernel)) ggL_law_X9_upTo
set_option maxRecDepth 20000 in
theorem ggL_law_X8_just : GoodIn wsL_law wsX8_just := goodIn_r _ [374, 24, 276, 277, 2, 278, 165, 279, 280, 281, 23, 282, 45, 283, 284, 285, 286, 53, 49, 287, 288, 289, 52, 290, 73, 291, 292, 263, 293, 294, 295, 296, 72, 297, 298, 299, 300, 301, 302, 303, 304, 305, 306, 307, 48, 308, 68, 309, 108, 109, 310, 311, 312, 313, 314, 315, 316, 317, 318, 67, 114, 115, 14, 319, 320, 321, 322, 323, 324, 325, 326, 327, 328, 329, 330, 331, 332, 333, 334, 335, 336, 337, 338, 339, 697, 698, 699, 700, 701, 702, 703, 704, 705, 726, 727, 728, 729, 730, 731, 741, 742, 738, 739, 740] (by decide +kernel) (by decide +kernel)
set_option maxRecDepth 20000 in
theorem gL_law_X8_just : GoodIn wsL_law (wsV RL 49 RX8 yX8_just wsX8_just) := goodIn_app (goodIn_of _ (by decide +kernel)) ggL_law_X8_just
set_option maxRecDepth 20000 in
theorem ggL_law_X9_just : GoodIn wsL_law wsX9_just := goodIn_r _ [378, 176, 357, 178, 179, 5, 180, 344, 345, 346, 347, 141, 224, 225, 226, 227, 140, 228, 229, 230, 231, 213, 214, 215, 156, 232, 233, 234, 235, 348, 349, 350, 351, 145, 352, 353, 354, 355, 356, 144, 143, 358, 359, 360, 361, 362, 363, 364, 365, 366, 142, 367, 368, 369, 370, 706, 707, 708, 709, 710, 711, 712, 713, 714, 715, 716, 717, 718, 719, 720, 721, 722] (by decide +kernel) (by decide +kernel)
set_option maxRecDepth 20000 in
theorem gL_law_X9_just : GoodIn wsL_law (wsV RL 52 RX9 yX9_just wsX9_just) := goodIn_app (goodIn_of _ (by decide +kernel)) ggL_law_X9_just
set_option maxRecDepth 20000 in
theorem ggL_law_X8_least : GoodIn wsL_law wsX8_least := goodIn_r _ [382, 24, 188, 279, 280, 281, 23, 282, 45, 383, 384, 385, 386, 57, 49, 387, 388, 389, 56, 390, 135, 77, 391, 292, 263, 293, 392, 295, 296, 393, 394, 395, 396, 397, 398, 399, 400, 401, 402, 403, 404, 405, 406, 407, 408, 409, 410, 411, 412, 413, 414, 415, 416, 306, 307, 48, 308, 68, 309, 108, 2, 109, 417, 418, 419, 420, 421, 422, 423, 424, 311, 312, 313, 314, 315, 316, 317, 318, 67, 114, 115, 14, 319, 320, 321, 322, 323, 324, 325, 326, 327, 328, 329, 330, 425, 332, 333, 334, 335, 426, 427, 428, 429, 430, 431, 432, 433, 434, 697, 698, 699, 700, 701, 702, 703, 704, 705, 726, 727, 728, 729, 730, 731, 743, 744, 745, 738, 739, 740] (by decide +kernel) (by decide +kernel)
set_option maxRecDepth 20000 in
theorem gL_law_X8_least : GoodIn wsL_law (wsV RL 53 RX8 yX8_least wsX8_least) := goodIn_app (goodIn_of _ (by decide +kernel)) ggL_law_X8_least
set_option maxRecDepth 20000 in
theorem ggL_law_X9_least : GoodIn wsL_law wsX9_least := goodIn_r _ [438, 196, 141, 156, 178, 179, 5, 180, 344, 345, 346, 347, 224, 225, 226, 227, 140, 228, 229, 230, 231, 213, 214, 215, 232, 233, 234, 235, 353, 354, 355, 356, 357, 144, 143, 358, 359, 360, 361, 362, 145, 363, 364, 365, 366, 142, 367, 368, 369, 370, 706, 707, 708, 709, 710, 711, 712, 713, 714, 715, 716, 717, 718, 719, 720, 721, 722] (by decide +kernel) (by decide +kernel)
set_option maxRecDepth 20000 in
theorem gL_law_X9_least : GoodIn wsL_law (wsV RL 56 RX9 yX9_least wsX9_least) := goodIn_app (goodIn_of _ (by decide +kernel)) ggL_law_X9_least
set_option maxRecDepth 20000 in
theorem ggL_law_X8_remainders : GoodIn wsL_law wsX8_remainders := goodIn_r _ [442, 24, 443, 444, 445, 23, 446, 63, 61, 45, 447, 448, 449, 60, 450, 83, 451, 82, 452, 453, 454, 455, 81, 456, 457, 458, 459, 460, 461, 462, 463, 464, 465, 466, 467, 468, 469, 470, 471, 472, 473, 474, 475, 476, 477, 478, 697, 698, 699, 700, 701, 702, 703, 704, 705, 726, 727, 728, 729, 730, 731, 746, 747, 748, 749] (by decide +kernel) (by decide +kernel)
set_option maxRecDepth 20000 in
theorem gL_law_X8_remainders : GoodIn wsL_law (wsV RL 57 RX8 yX8_remainders wsX8_remainders) := goodIn_app (goodIn_of _ (by decide +kernel)) ggL_law_X8_remainders
set_option maxRecDepth 20000 in
theorem ggL_law_X9_remainders : GoodIn wsL_law wsX9_remainders := goodIn_r _ [482, 178, 179, 5, 180, 224, 225, 226, 227, 141, 140, 228, 229, 230, 231, 213, 214, 215, 156, 232, 233, 234, 235, 483, 484, 485, 486, 146, 147, 487, 488, 489, 490, 491, 492, 493, 494, 495, 706, 707, 708, 709, 710, 711, 712, 713, 714, 715, 716, 717, 718, 719, 720, 721, 722] (by decide +kernel) (by decide +kernel)
set_option maxRecDepth 20000 in
theorem gL_law_X9_remainders : GoodIn wsL_law (wsV RL 60 RX9 yX9_remainders wsX9_remainders) := goodIn_app (goodIn_of _ (by decide +kernel)) ggL_law_X9_remainders
set_option maxRecDepth 20000 in
theorem ggL_law_X8_gap : GoodIn wsL_law wsX8_gap := goodIn_r _ [499, 24, 279, 280, 281, 23, 282, 45, 500, 501, 502, 503, 53, 49, 504, 444, 445, 446, 63, 61, 447, 448, 449, 60, 450, 83, 451, 82, 452, 453, 454, 455, 81, 456, 457, 458, 459, 460, 461, 462, 463, 464, 465, 466, 467, 468, 469, 470, 471, 472, 473, 474, 475, 476, 477, 478, 287, 288, 289, 52, 290, 73, 291, 292, 263, 293, 294, 295, 296, 72, 297, 298, 299, 300, 301, 302, 303, 304, 305, 306, 307, 48, 308, 68, 309, 108, 2, 109, 310, 311, 312, 313, 314, 315, 316, 317, 318, 67, 114, 115, 14, 319, 320, 321, 322, 323, 324, 325, 326, 327, 328, 329, 330, 331, 332, 333, 334, 335, 336, 337, 338, 339, 697, 698, 699, 700, 701, 702, 703, 704, 705, 726, 727, 728, 729, 730, 731, 746, 747, 748, 749, 741, 742, 738, 739, 740] (by decide +kernel) (by decide +kernel)
set_option maxRecDepth 20000 in
theorem gL_law_X8_gap : GoodIn wsL_law (wsV RL 61 RX8 yX8_gap wsX8_gap) := goodIn_app (goodIn_of _ (by decide +kernel)) ggL_law_X8_gap
set_option maxRecDepth 20000 in
theorem ggL_law_X9_gap : GoodIn wsL_law wsX9_gap := goodIn_r _ [508, 196, 145, 178, 179, 5, 180, 344, 345, 346, 347, 141, 224, 225, 226, 227, 140, 228, 229, 230, 231, 213, 214, 215, 156, 232, 233, 234, 235, 483, 484, 485, 486, 146, 147, 487, 488, 489, 490, 491, 492, 493, 494, 495, 348, 349, 350, 351, 352, 353, 354, 355, 356, 357, 144, 143, 358, 359, 360, 361, 362, 363, 364, 365, 366, 142, 367, 368, 369, 370, 706, 707, 708, 709, 710, 711, 712, 713, 714, 715, 716, 717, 718, 719, 720, 721, 722] (by decide +kernel) (by decide +kernel)
set_option maxRecDepth 20000 in
theorem gL_law_X9_gap : GoodIn wsL_law (wsV RL 65 RX9 yX9_gap wsX9_gap) := goodIn_app (goodIn_of _ (by decide +kernel)) ggL_law_X9_gap
set_option maxRecDepth 20000 in
theorem ggL_law_X8_bendOf : GoodIn wsL_law wsX8_bendOf := goodIn_r _ [512, 28, 188, 24, 249, 189, 190, 2, 191, 513, 514, 515, 27, 516, 517, 518, 519, 520, 521, 88, 522, 523, 524, 525, 526, 527, 528, 529, 530, 697, 698, 699, 700, 701, 702, 703, 704, 705, 726, 727, 728, 729, 730, 731, 732] (by decide +kernel) (by decide +kernel)
set_option maxRecDepth 20000 in
theorem gL_law_X8_bendOf : GoodIn wsL_law (wsV RL 66 RX8 yX8_bendOf wsX8_bendOf) := goodIn_app (goodIn_of _ (by decide +kernel)) ggL_law_X8_bendOf
set_option maxRecDepth 20000 in
theorem ggL_law_X9_bendOf : GoodIn wsL_law wsX9_bendOf := goodIn_r _ [534, 196, 148, 141, 197, 198, 5, 199, 178, 179, 180, 535, 536, 537, 538, 224, 225, 226, 227, 140, 228, 229, 230, 231, 213, 214, 215, 156, 232, 233, 234, 235, 539, 540, 541, 542, 543, 544, 545, 546, 706, 707, 708, 709, 710, 711, 712, 713, 714, 715, 716, 717, 718, 719, 720, 721, 722] (by decide +kernel) (by decide +kernel)
set_option maxRecDepth 20000 in
theorem gL_law_X9_bendOf : GoodIn wsL_law (wsV RL 70 RX9 yX9_bendOf wsX9_bendOf) := goodIn_app (goodIn_of _ (by decide +kernel)) ggL_law_X9_bendOf
set_option maxRecDepth 20000 in
theorem ggL_law_X8_times : GoodIn wsL_law wsX8_times := goodIn_r _ [550, 28, 188, 551, 189, 190, 2, 191, 250, 251, 252, 513, 514, 515, 27, 516, 517, 518, 519, 520, 521, 88, 522, 523, 524, 525, 526, 697, 698, 699, 700, 701, 702, 703, 704, 705, 732] (by decide +kernel) (by decide +kernel)
set_option maxRecDepth 20000 in
theorem gL_law_X8_times : GoodIn wsL_law (wsV RL 71 RX8 yX8_times wsX8_times) := goodIn_app (goodIn_of _ (by decide +kernel)) ggL_law_X8_times
set_option maxRecDepth 20000 in
theorem ggL_law_X9_times : GoodIn wsL_law wsX9_times := goodIn_r _ [555, 196, 148, 197, 198, 5, 199, 178, 179, 180, 535, 536, 537, 538, 539, 540, 541, 542, 543, 544, 545, 546, 156, 706, 707, 708, 709, 710, 711, 712, 713, 714, 715, 716, 717, 718, 719, 720, 721, 722] (by decide +kernel) (by decide +kernel)
set_option maxRecDepth 20000 in
theorem gL_law_X9_times : GoodIn wsL_law (wsV RL 75 RX9 yX9_times wsX9_times) := goodIn_app (goodIn_of _ (by decide +kernel)) ggL_law_X9_times
set_option maxRecDepth 20000 in
theorem ggL_law_X8_product : GoodIn wsL_law wsX8_product := goodIn_r _ [559, 28, 29, 188, 551, 189, 190, 2, 191, 513, 514, 515, 27, 516, 517, 518, 519, 520, 521, 88, 522, 523, 524, 525, 526, 560, 561, 562, 14, 697, 698, 699, 700, 701, 702, 703, 704, 705, 732] (by decide +kernel) (by decide +kernel)
set_option maxRecDepth 20000 in
theorem gL_law_X8_product : GoodIn wsL_law (wsV RL 76 RX8 yX8_product wsX8_product) := goodIn_app (goodIn_of _ (by decide +kernel)) ggL_law_X8_product
set_option maxRecDepth 20000 in
theorem ggL_law_X9_product : GoodIn wsL_law wsX9_product := goodIn_r _ [566, 196, 197, 198, 5, 199, 178, 179, 180, 535, 536, 537, 538, 539, 540, 541, 542, 148, 543, 544, 545, 546, 156, 567, 568, 569, 570, 149, 571, 572, 573, 574, 706, 707, 708, 709, 710, 711, 712, 713, 714, 715, 716, 717, 718, 719, 720, 721, 722] (by decide +kernel) (by decide +kernel)
set_option maxRecDepth 20000 in
theorem gL_law_X9_product : GoodIn wsL_law (wsV RL 80 RX9 yX9_product wsX9_product) := goodIn_app (goodIn_of _ (by decide +kernel)) ggL_law_X9_product
set_option maxRecDepth 20000 in
theorem ggL_law_X8_touching : GoodIn wsL_law wsX8_touching := goodIn_r _ [578, 28, 29, 551, 13, 189, 190, 2, 191, 513, 514, 515, 27, 516, 517, 518, 519, 520, 521, 88, 522, 523, 524, 525, 526, 560, 561, 562, 14, 697, 698, 699, 700, 701, 702, 703, 704, 705, 732] (by decide +kernel) (by decide +kernel)
set_option maxRecDepth 20000 in
theorem gL_law_X8_touching : GoodIn wsL_law (wsV RL 81 RX8 yX8_touching wsX8_touching) := goodIn_app (goodIn_of _ (by decide +kernel)) ggL_law_X8_touching
set_option maxRecDepth 20000 in
theorem ggL_law_X9_touching : GoodIn wsL_law wsX9_touching := goodIn_r _ [582, 155, 197, 198, 5, 199, 178, 179, 180, 535, 536, 537, 538, 539, 540, 541, 542, 148, 543, 544, 545, 546, 156, 567, 568, 569, 570, 149, 571, 572, 573, 574, 706, 707, 708, 709, 710, 711, 712, 713, 714, 715, 716, 717, 718, 719, 720, 721, 722] (by decide +kernel) (by decide +kernel)
set_option maxRecDepth 20000 in
theorem gL_law_X9_touching : GoodIn wsL_law (wsV RL 85 RX9 yX9_touching wsX9_touching) := goodIn_app (goodIn_of _ (by decide +kernel)) ggL_law_X9_touching
set_option maxRecDepth 20000 in
theorem ggL_law_X8_keep : GoodIn wsL_law wsX8_keep := goodIn_r _ [586, 16, 31, 33, 587, 588, 2, 589, 590, 108, 109, 697, 698, 699, 700, 701, 702, 703, 704, 705] (by decide +kernel) (by decide +kernel)
set_option maxRecDepth 20000 in
theorem gL_law_X8_keep : GoodIn wsL_law (wsV RL 86 RX8 yX8_keep wsX8_keep) := goodIn_app (goodIn_of _ (by decide +kernel)) ggL_law_X8_keep
set_option maxRecDepth 20000 in
theorem ggL_law_X9_keep : GoodIn wsL_law wsX9_keep := goodIn_r _ [594, 150, 151, 140, 178, 179, 5, 180, 706, 707, 708, 709, 710, 711, 712, 713, 714, 715, 716, 717, 718, 719, 720, 721, 722] (by decide +kernel) (by decide +kernel)
set_option maxRecDepth 20000 in
theorem gL_law_X9_keep : GoodIn wsL_law (wsV RL 89 RX9 yX9_keep wsX9_keep) := goodIn_app (goodIn_of _ (by decide +kernel)) ggL_law_X9_keep
set_option maxRecDepth 20000 in
theorem ggL_law_X8_back : GoodIn wsL_law wsX8_back := goodIn_r _ [598, 33, 31, 16, 587, 588, 2, 589, 590, 108, 109, 94, 95, 96, 97, 20, 98, 99, 100, 101, 24, 102, 103, 104, 19, 105, 41, 106, 107, 110, 111, 112, 113, 114, 115, 14, 116, 117, 118, 119, 120, 121, 23, 122, 45, 53, 57, 63, 123, 124, 125, 126, 127, 128, 129, 52, 130, 73, 131, 132, 133, 56, 134, 135, 697, 698, 699, 700, 701, 702, 703, 704, 705, 723, 724, 725, 726, 727, 728, 729, 730, 731, 741, 742, 743, 744, 745] (by decide +kernel) (by decide +kernel)
set_option maxRecDepth 20000 in
theorem gL_law_X8_back : GoodIn wsL_law (wsV RL 90 RX8 yX8_back wsX8_back) := goodIn_app (goodIn_of _ (by decide +kernel)) ggL_law_X8_back
set_option maxRecDepth 20000 in
theorem ggL_law_X9_back : GoodIn wsL_law wsX9_back := goodIn_r _ [602, 150, 140, 151, 178, 179, 5, 180, 706, 707, 708, 709, 710, 711, 712, 713, 714, 715, 716, 717, 718, 719, 720, 721, 722] (by decide +kernel) (by decide +kernel)
set_option maxRecDepth 20000 in
theorem gL_law_X9_back : GoodIn wsL_law (wsV RL 93 RX9 yX9_back wsX9_back) := goodIn_app (goodIn_of _ (by decide +kernel)) ggL_law_X9_back
set_option maxRecDepth 20000 in
theorem ggL_law_X8_shelf : GoodIn wsL_law wsX8_shelf := goodIn_r _ [606, 37, 607, 608, 2, 609, 610, 611, 612, 36, 613, 614, 615, 616, 93, 697, 698, 699, 700, 701, 702, 703, 704, 705, 733, 734, 735, 736, 737] (by decide +kernel) (by decide +kernel)
set_option maxRecDepth 20000 in
theorem gL_law_X8_shelf : GoodIn wsL_law (wsV RL 94 RX8 yX8_shelf wsX8_shelf) := goodIn_app (goodIn_of _ (by decide +kernel)) ggL_law_X8_shelf
set_option maxRecDepth 20000 in
theorem ggL_law_X9_shelf : GoodIn wsL_law wsX9_shelf := goodIn_r _ [620, 152, 153, 154, 196, 621, 622, 5, 623, 178, 179, 180, 706, 707, 708, 709, 710, 711, 712, 713, 714, 715, 716, 717, 718, 719, 720, 721, 722] (by decide +kernel) (by decide +kernel)
set_option maxRecDepth 20000 in
theorem gL_law_X9_shelf : GoodIn wsL_law (wsV RL 97 RX9 yX9_shelf wsX9_shelf) := goodIn_app (goodIn_of _ (by decide +kernel)) ggL_law_X9_shelf
set_option maxRecDepth 20000 in
theorem ggL_law_X8_lay : GoodIn wsL_law wsX8_lay := goodIn_r _ [627, 37, 16, 607, 608, 2, 609, 189, 190, 191, 628, 629, 630, 36, 631, 614, 92, 93, 632, 633, 634, 635, 616, 636, 637, 638, 639, 615, 697, 698, 699, 700, 701, 702, 703, 704, 705, 733, 734, 735, 736, 737] (by decide +kernel) (by decide +kernel)
set_option maxRecDepth 20000 in
theorem gL_law_X8_lay : GoodIn wsL_law (wsV RL 98 RX8 yX8_lay wsX8_lay) := goodIn_app (goodIn_of _ (by decide +kernel)) ggL_law_X8_lay
set_option maxRecDepth 20000 in
theorem ggL_law_X9_lay : GoodIn wsL_law wsX9_lay := goodIn_r _ [643, 153, 140, 154, 621, 622, 5, 623, 178, 179, 180, 197, 198, 199, 644, 645, 646, 647, 152, 648, 649, 650, 706, 707, 708, 709, 710, 711, 712, 713, 714, 715, 716, 717, 718, 719, 720, 721, 722] (by decide +kernel) (by decide +kernel)
set_option maxRecDepth 20000 in
theorem gL_law_X9_lay : GoodIn wsL_law (wsV RL 101 RX9 yX9_lay wsX9_lay) := goodIn_app (goodIn_of _ (by decide +kernel)) ggL_law_X9_lay
set_option maxRecDepth 20000 in
theorem ggL_law_X8_seen : GoodIn wsL_law wsX8_seen := goodIn_r _ [654, 37, 188, 607, 608, 2, 609, 655, 656, 657, 36, 658, 614, 93, 92, 659, 632, 633, 634, 635, 616, 697, 698, 699, 700, 701, 702, 703, 704, 705, 733, 734, 735, 736, 737] (by decide +kernel) (by decide +kernel)
set_option maxRecDepth 20000 in
theorem gL_law_X8_seen : GoodIn wsL_law (wsV RL 102 RX8 yX8_seen wsX8_seen) := goodIn_app (goodIn_of _ (by decide +kernel)) ggL_law_X8_seen
set_option maxRecDepth 20000 in
theorem ggL_law_X9_seen : GoodIn wsL_law wsX9_seen := goodIn_r _ [663, 154, 196, 621, 622, 5, 623, 178, 179, 180, 644, 645, 646, 647, 152, 706, 707, 708, 709, 710, 711, 712, 713, 714, 715, 716, 717, 718, 719, 720, 721, 722] (by decide +kernel) (by decide +kernel)
set_option maxRecDepth 20000 in
theorem gL_law_X9_seen : GoodIn wsL_law (wsV RL 105 RX9 yX9_seen wsX9_seen) := goodIn_app (goodIn_of _ (by decide +kernel)) ggL_law_X9_seen
set_option maxRecDepth 20000 in
theorem ggL_law_X8_many : GoodIn wsL_law wsX8_many := goodIn_r _ [667, 24, 668, 669, 670, 2, 671, 37, 672, 673, 674, 675, 676, 33, 677, 678, 679, 680, 681, 682, 683, 36, 684, 93, 279, 280, 281, 23, 282, 45, 697, 698, 699, 700, 701, 702, 703, 704, 705, 733, 734, 735, 736, 737, 726, 727, 728, 729, 730, 731] (by decide +kernel) (by decide +kernel)
set_option maxRecDepth 20000 in
theorem gL_law_X8_many : GoodIn wsL_law (wsV RL 106 RX8 yX8_many wsX8_many) := goodIn_app (goodIn_of _ (by decide +kernel)) ggL_law_X8_many
set_option maxRecDepth 20000 in
theorem ggL_law_X9_many : GoodIn wsL_law wsX9_many := goodIn_r _ [688, 150, 689, 690, 691, 5, 692, 152, 693, 694, 695, 696, 154, 196, 344, 345, 346, 347, 141, 224, 225, 226, 227, 140, 228, 229, 230, 231, 213, 214, 215, 156, 232, 233, 234, 235, 706, 707, 708, 709, 710, 711, 712, 713, 714, 715, 716, 717, 718, 719, 720, 721, 722] (by decide +kernel) (by decide +kernel)
set_option maxRecDepth 20000 in
theorem gL_law_X9_many : GoodIn wsL_law (wsV RL 109 RX9 yX9_many wsX9_many) := goodIn_app (goodIn_of _ (by decide +kernel)) ggL_law_X9_many
theorem dL_law_0 : decode cL_law 0 = .ok (.new 7, 3) := by decide +kernel
theorem dL_law_3 : decode cL_law 3 = .ok (.dup, 1) := by decide +kernel
theorem dL_law_4 : decode cL_law 4 = .ok (.invokespecial 9, 3) := by decide +kernel
theorem dL_law_7 : decode cL_law 7 = .ok (.astore_n 1, 1) := by decide +kernel
theorem dL_law_8 : decode cL_law 8 = .ok (.new 10, 3) := by decide +kernel
theorem dL_law_11 : decode cL_law 11 = .ok (.dup, 1) := by decide +kernel
theorem dL_law_12 : decode cL_law 12 = .ok (.invokespecial 12, 3) := by decide +kernel
theorem dL_law_15 : decode cL_law 15 = .ok (.astore_n 2, 1) := by decide +kernel
theorem dL_law_16 : decode cL_law 16 = .ok (.iconst 0, 1) := by decide +kernel
theorem dL_law_17 : decode cL_law 17 = .ok (.istore_n 3, 1) := by decide +kernel
theorem dL_law_18 : decode cL_law 18 = .ok (.iload_n 3, 1) := by decide +kernel
theorem dL_law_19 : decode cL_law 19 = .ok (.aload_n 0, 1) := by decide +kernel
theorem dL_law_20 : decode cL_law 20 = .ok (.arraylength, 1) := by decide +kernel
theorem dL_law_21 : decode cL_law 21 = .ok (.iconst 5, 1) := by decide +kernel
theorem dL_law_22 : decode cL_law 22 = .ok (.isub, 1) := by decide +kernel
theorem dL_law_23 : decode cL_law 23 = .ok (.if_icmp .gt 782, 3) := by decide +kernel
theorem dL_law_26 : decode cL_law 26 = .ok (.aload_n 0, 1) := by decide +kernel
theorem dL_law_27 : decode cL_law 27 = .ok (.iload_n 3, 1) := by decide +kernel
theorem dL_law_28 : decode cL_law 28 = .ok (.iaload, 1) := by decide +kernel
theorem dL_law_29 : decode cL_law 29 = .ok (.bipush 31, 2) := by decide +kernel
theorem dL_law_31 : decode cL_law 31 = .ok (.iand, 1) := by decide +kernel
theorem dL_law_32 : decode cL_law 32 = .ok (.tableswitch 767 0 21 #[104, 157, 181, 204, 217, 240, 264, 277, 300, 323, 347, 370, 403, 437, 481, 535, 578, 601, 624, 667, 710, 744], 104) := by decide +kernel
theorem dL_law_136 : decode cL_law 136 = .ok (.aload_n 1, 1) := by decide +kernel
theorem dL_law_137 : decode cL_law 137 = .ok (.aload_n 0, 1) := by decide +kernel
theorem dL_law_138 : decode cL_law 138 = .ok (.iload_n 3, 1) := by decide +kernel
theorem dL_law_139 : decode cL_law 139 = .ok (.iconst 1, 1) := by decide +kernel
theorem dL_law_140 : decode cL_law 140 = .ok (.iadd, 1) := by decide +kernel
theorem dL_law_141 : decode cL_law 141 = .ok (.iaload, 1) := by decide +kernel
theorem dL_law_142 : decode cL_law 142 = .ok (.aload_n 0, 1) := by decide +kernel
theorem dL_law_143 : decode cL_law 143 = .ok (.iload_n 3, 1) := by decide +kernel
theorem dL_law_144 : decode cL_law 144 = .ok (.iconst 2, 1) := by decide +kernel
theorem dL_law_145 : decode cL_law 145 = .ok (.iadd, 1) := by decide +kernel
theorem dL_law_146 : decode cL_law 146 = .ok (.iaload, 1) := by decide +kernel
theorem dL_law_147 : decode cL_law 147 = .ok (.aload_n 0, 1) := by decide +kernel
theorem dL_law_148 : decode cL_law 148 = .ok (.iload_n 3, 1) := by decide +kernel
theorem dL_law_149 : decode cL_law 149 = .ok (.iconst 3, 1) := by decide +kernel
theorem dL_law_150 : decode cL_law 150 = .ok (.iadd, 1) := by decide +kernel
theorem dL_law_151 : decode cL_law 151 = .ok (.iaload, 1) := by decide +kernel
theorem dL_law_152 : decode cL_law 152 = .ok (.aload_n 0, 1) := by decide +kernel
theorem dL_law_153 : decode cL_law 153 = .ok (.iload_n 3, 1) := by decide +kernel
theorem dL_law_154 : decode cL_law 154 = .ok (.iconst 4, 1) := by decide +kernel
theorem dL_law_155 : decode cL_law 155 = .ok (.iadd, 1) := by decide +kernel
theorem dL_law_156 : decode cL_law 156 = .ok (.iaload, 1) := by decide +kernel
theorem dL_law_157 : decode cL_law 157 = .ok (.invokevirtual 13, 3) := by decide +kernel
theorem dL_law_160 : decode cL_law 160 = .ok (.aload_n 2, 1) := by decide +kernel
theorem dL_law_161 : decode cL_law 161 = .ok (.aload_n 0, 1) := by decide +kernel
theorem dL_law_162 : decode cL_law 162 = .ok (.iload_n 3, 1) := by decide +kernel
theorem dL_law_163 : decode cL_law 163 = .ok (.iconst 1, 1) := by decide +kernel
theorem dL_law_164 : decode cL_law 164 = .ok (.iadd, 1) := by decide +kernel
theorem dL_law_165 : decode cL_law 165 = .ok (.iaload, 1) := by decide +kernel
theorem dL_law_166 : decode cL_law 166 = .ok (.aload_n 0, 1) := by decide +kernel
theorem dL_law_167 : decode cL_law 167 = .ok (.iload_n 3, 1) := by decide +kernel
theorem dL_law_168 : decode cL_law 168 = .ok (.iconst 2, 1) := by decide +kernel
theorem dL_law_169 : decode cL_law 169 = .ok (.iadd, 1) := by decide +kernel
theorem dL_law_170 : decode cL_law 170 = .ok (.iaload, 1) := by decide +kernel
theorem dL_law_171 : decode cL_law 171 = .ok (.aload_n 0, 1) := by decide +kernel
theorem dL_law_172 : decode cL_law 172 = .ok (.iload_n 3, 1) := by decide +kernel
theorem dL_law_173 : decode cL_law 173 = .ok (.iconst 3, 1) := by decide +kernel
theorem dL_law_174 : decode cL_law 174 = .ok (.iadd, 1) := by decide +kernel
theorem dL_law_175 : decode cL_law 175 = .ok (.iaload, 1) := by decide +kernel
theorem dL_law_176 : decode cL_law 176 = .ok (.aload_n 0, 1) := by decide +kernel
theorem dL_law_177 : decode cL_law 177 = .ok (.iload_n 3, 1) := by decide +kernel
theorem dL_law_178 : decode cL_law 178 = .ok (.iconst 4, 1) := by decide +kernel
theorem dL_law_179 : decode cL_law 179 = .ok (.iadd, 1) := by decide +kernel
theorem dL_law_180 : decode cL_law 180 = .ok (.iaload, 1) := by decide +kernel
theorem dL_law_181 : decode cL_law 181 = .ok (.invokevirtual 17, 3) := by decide +kernel
theorem dL_law_184 : decode cL_law 184 = .ok (.if_icmp .eq 615, 3) := by decide +kernel
theorem dL_law_187 : decode cL_law 187 = .ok (.iconst 0, 1) := by decide +kernel
theorem dL_law_188 : decode cL_law 188 = .ok (.ireturn, 1) := by decide +kernel
theorem dL_law_189 : decode cL_law 189 = .ok (.aload_n 1, 1) := by decide +kernel
theorem dL_law_190 : decode cL_law 190 = .ok (.aload_n 0, 1) := by decide +kernel
theorem dL_law_191 : decode cL_law 191 = .ok (.iload_n 3, 1) := by decide +kernel
theorem dL_law_192 : decode cL_law 192 = .ok (.iconst 1, 1) := by decide +kernel
theorem dL_law_193 : decode cL_law 193 = .ok (.iadd, 1) := by decide +kernel
theorem dL_law_194 : decode cL_law 194 = .ok (.iaload, 1) := by decide +kernel
theorem dL_law_195 : decode cL_law 195 = .ok (.invokevirtual 18, 3) := by decide +kernel
theorem dL_law_198 : decode cL_law 198 = .ok (.aload_n 2, 1) := by decide +kernel
theorem dL_law_199 : decode cL_law 199 = .ok (.aload_n 0, 1) := by decide +kernel
theorem dL_law_200 : decode cL_law 200 = .ok (.iload_n 3, 1) := by decide +kernel
theorem dL_law_201 : decode cL_law 201 = .ok (.iconst 1, 1) := by decide +kernel
theorem dL_law_202 : decode cL_law 202 = .ok (.iadd, 1) := by decide +kernel
theorem dL_law_203 : decode cL_law 203 = .ok (.iaload, 1) := by decide +kernel
theorem dL_law_204 : decode cL_law 204 = .ok (.invokevirtual 22, 3) := by decide +kernel
theorem dL_law_207 : decode cL_law 207 = .ok (.lcmp, 1) := by decide +kernel
theorem dL_law_208 : decode cL_law 208 = .ok (.ifCond .eq 591, 3) := by decide +kernel
theorem dL_law_211 : decode cL_law 211 = .ok (.iconst 0, 1) := by decide +kernel
theorem dL_law_212 : decode cL_law 212 = .ok (.ireturn, 1) := by decide +kernel
theorem dL_law_213 : decode cL_law 213 = .ok (.aload_n 1, 1) := by decide +kernel
theorem dL_law_214 : decode cL_law 214 = .ok (.aload_n 0, 1) := by decide +kernel
theorem dL_law_215 : decode cL_law 215 = .ok (.iload_n 3, 1) := by decide +kernel
theorem dL_law_216 : decode cL_law 216 = .ok (.iconst 1, 1) := by decide +kernel
theorem dL_law_217 : decode cL_law 217 = .ok (.iadd, 1) := by decide +kernel
theorem dL_law_218 : decode cL_law 218 = .ok (.iaload, 1) := by decide +kernel
theorem dL_law_219 : decode cL_law 219 = .ok (.invokevirtual 23, 3) := by decide +kernel
theorem dL_law_222 : decode cL_law 222 = .ok (.aload_n 2, 1) := by decide +kernel
theorem dL_law_223 : decode cL_law 223 = .ok (.aload_n 0, 1) := by decide +kernel
theorem dL_law_224 : decode cL_law 224 = .ok (.iload_n 3, 1) := by decide +kernel
theorem dL_law_225 : decode cL_law 225 = .ok (.iconst 1, 1) := by decide +kernel
theorem dL_law_226 : decode cL_law 226 = .ok (.iadd, 1) := by decide +kernel
theorem dL_law_227 : decode cL_law 227 = .ok (.iaload, 1) := by decide +kernel
theorem dL_law_228 : decode cL_law 228 = .ok (.invokevirtual 27, 3) := by decide +kernel
theorem dL_law_231 : decode cL_law 231 = .ok (.if_icmp .eq 568, 3) := by decide +kernel
theorem dL_law_234 : decode cL_law 234 = .ok (.iconst 0, 1) := by decide +kernel
theorem dL_law_235 : decode cL_law 235 = .ok (.ireturn, 1) := by decide +kernel
theorem dL_law_236 : decode cL_law 236 = .ok (.aload_n 1, 1) := by decide +kernel
theorem dL_law_237 : decode cL_law 237 = .ok (.invokevirtual 28, 3) := by decide +kernel
theorem dL_law_240 : decode cL_law 240 = .ok (.aload_n 2, 1) := by decide +kernel
theorem dL_law_241 : decode cL_law 241 = .ok (.invokevirtual 32, 3) := by decide +kernel
theorem dL_law_244 : decode cL_law 244 = .ok (.if_icmp .eq 555, 3) := by decide +kernel
theorem dL_law_247 : decode cL_law 247 = .ok (.iconst 0, 1) := by decide +kernel
theorem dL_law_248 : decode cL_law 248 = .ok (.ireturn, 1) := by decide +kernel
theorem dL_law_249 : decode cL_law 249 = .ok (.aload_n 1, 1) := by decide +kernel
theorem dL_law_250 : decode cL_law 250 = .ok (.aload_n 0, 1) := by decide +kernel
theorem dL_law_251 : decode cL_law 251 = .ok (.iload_n 3, 1) := by decide +kernel
theorem dL_law_252 : decode cL_law 252 = .ok (.iconst 1, 1) := by decide +kernel
theorem dL_law_253 : decode cL_law 253 = .ok (.iadd, 1) := by decide +kernel
theorem dL_law_254 : decode cL_law 254 = .ok (.iaload, 1) := by decide +kernel
theorem dL_law_255 : decode cL_law 255 = .ok (.invokevirtual 33, 3) := by decide +kernel
theorem dL_law_258 : decode cL_law 258 = .ok (.aload_n 2, 1) := by decide +kernel
theorem dL_law_259 : decode cL_law 259 = .ok (.aload_n 0, 1) := by decide +kernel
theorem dL_law_260 : decode cL_law 260 = .ok (.iload_n 3, 1) := by decide +kernel
theorem dL_law_261 : decode cL_law 261 = .ok (.iconst 1, 1) := by decide +kernel
theorem dL_law_262 : decode cL_law 262 = .ok (.iadd, 1) := by decide +kernel
theorem dL_law_263 : decode cL_law 263 = .ok (.iaload, 1) := by decide +kernel
theorem dL_law_264 : decode cL_law 264 = .ok (.invokevirtual 36, 3) := by decide +kernel
theorem dL_law_267 : decode cL_law 267 = .ok (.if_icmp .eq 532, 3) := by decide +kernel
theorem dL_law_270 : decode cL_law 270 = .ok (.iconst 0, 1) := by decide +kernel
theorem dL_law_271 : decode cL_law 271 = .ok (.ireturn, 1) := by decide +kernel
theorem dL_law_272 : decode cL_law 272 = .ok (.aload_n 1, 1) := by decide +kernel
theorem dL_law_273 : decode cL_law 273 = .ok (.aload_n 0, 1) := by decide +kernel
theorem dL_law_274 : decode cL_law 274 = .ok (.iload_n 3, 1) := by decide +kernel
theorem dL_law_275 : decode cL_law 275 = .ok (.iconst 1, 1) := by decide +kernel
theorem dL_law_276 : decode cL_law 276 = .ok (.iadd, 1) := by decide +kernel
theorem dL_law_277 : decode cL_law 277 = .ok (.iaload, 1) := by decide +kernel
theorem dL_law_278 : decode cL_law 278 = .ok (.invokevirtual 37, 3) := by decide +kernel
theorem dL_law_281 : decode cL_law 281 = .ok (.aload_n 2, 1) := by decide +kernel
theorem dL_law_282 : decode cL_law 282 = .ok (.aload_n 0, 1) := by decide +kernel
theorem dL_law_283 : decode cL_law 283 = .ok (.iload_n 3, 1) := by decide +kernel
theorem dL_law_284 : decode cL_law 284 = .ok (.iconst 1, 1) := by decide +kernel
theorem dL_law_285 : decode cL_law 285 = .ok (.iadd, 1) := by decide +kernel
theorem dL_law_286 : decode cL_law 286 = .ok (.iaload, 1) := by decide +kernel
theorem dL_law_287 : decode cL_law 287 = .ok (.invokevirtual 40, 3) := by decide +kernel
theorem dL_law_290 : decode cL_law 290 = .ok (.lcmp, 1) := by decide +kernel
theorem dL_law_291 : decode cL_law 291 = .ok (.ifCond .eq 508, 3) := by decide +kernel
theorem dL_law_294 : decode cL_law 294 = .ok (.iconst 0, 1) := by decide +kernel
theorem dL_law_295 : decode cL_law 295 = .ok (.ireturn, 1) := by decide +kernel
theorem dL_law_296 : decode cL_law 296 = .ok (.aload_n 1, 1) := by decide +kernel
theorem dL_law_297 : decode cL_law 297 = .ok (.invokevirtual 41, 3) := by decide +kernel
theorem dL_law_300 : decode cL_law 300 = .ok (.aload_n 2, 1) := by decide +kernel
theorem dL_law_301 : decode cL_law 301 = .ok (.invokevirtual 44, 3) := by decide +kernel
theorem dL_law_304 : decode cL_law 304 = .ok (.if_icmp .eq 495, 3) := by decide +kernel
theorem dL_law_307 : decode cL_law 307 = .ok (.iconst 0, 1) := by decide +kernel
theorem dL_law_308 : decode cL_law 308 = .ok (.ireturn, 1) := by decide +kernel
theorem dL_law_309 : decode cL_law 309 = .ok (.aload_n 1, 1) := by decide +kernel
theorem dL_law_310 : decode cL_law 310 = .ok (.aload_n 0, 1) := by decide +kernel
theorem dL_law_311 : decode cL_law 311 = .ok (.iload_n 3, 1) := by decide +kernel
theorem dL_law_312 : decode cL_law 312 = .ok (.iconst 1, 1) := by decide +kernel
theorem dL_law_313 : decode cL_law 313 = .ok (.iadd, 1) := by decide +kernel
theorem dL_law_314 : decode cL_law 314 = .ok (.iaload, 1) := by decide +kernel
theorem dL_law_315 : decode cL_law 315 = .ok (.invokevirtual 45, 3) := by decide +kernel
theorem dL_law_318 : decode cL_law 318 = .ok (.aload_n 2, 1) := by decide +kernel
theorem dL_law_319 : decode cL_law 319 = .ok (.aload_n 0, 1) := by decide +kernel
theorem dL_law_320 : decode cL_law 320 = .ok (.iload_n 3, 1) := by decide +kernel
theorem dL_law_321 : decode cL_law 321 = .ok (.iconst 1, 1) := by decide +kernel
theorem dL_law_322 : decode cL_law 322 = .ok (.iadd, 1) := by decide +kernel
theorem dL_law_323 : decode cL_law 323 = .ok (.iaload, 1) := by decide +kernel
theorem dL_law_324 : decode cL_law 324 = .ok (.invokevirtual 48, 3) := by decide +kernel
theorem dL_law_327 : decode cL_law 327 = .ok (.if_icmp .eq 472, 3) := by decide +kernel
theorem dL_law_330 : decode cL_law 330 = .ok (.iconst 0, 1) := by decide +kernel
theorem dL_law_331 : decode cL_law 331 = .ok (.ireturn, 1) := by decide +kernel
theorem dL_law_332 : decode cL_law 332 = .ok (.aload_n 1, 1) := by decide +kernel
theorem dL_law_333 : decode cL_law 333 = .ok (.aload_n 0, 1) := by decide +kernel
theorem dL_law_334 : decode cL_law 334 = .ok (.iload_n 3, 1) := by decide +kernel
theorem dL_law_335 : decode cL_law 335 = .ok (.iconst 1, 1) := by decide +kernel
theorem dL_law_336 : decode cL_law 336 = .ok (.iadd, 1) := by decide +kernel
theorem dL_law_337 : decode cL_law 337 = .ok (.iaload, 1) := by decide +kernel
theorem dL_law_338 : decode cL_law 338 = .ok (.invokevirtual 49, 3) := by decide +kernel
theorem dL_law_341 : decode cL_law 341 = .ok (.aload_n 2, 1) := by decide +kernel
theorem dL_law_342 : decode cL_law 342 = .ok (.aload_n 0, 1) := by decide +kernel
theorem dL_law_343 : decode cL_law 343 = .ok (.iload_n 3, 1) := by decide +kernel
theorem dL_law_344 : decode cL_law 344 = .ok (.iconst 1, 1) := by decide +kernel
theorem dL_law_345 : decode cL_law 345 = .ok (.iadd, 1) := by decide +kernel
theorem dL_law_346 : decode cL_law 346 = .ok (.iaload, 1) := by decide +kernel
theorem dL_law_347 : decode cL_law 347 = .ok (.invokevirtual 52, 3) := by decide +kernel
theorem dL_law_350 : decode cL_law 350 = .ok (.if_icmp .eq 449, 3) := by decide +kernel
theorem dL_law_353 : decode cL_law 353 = .ok (.iconst 0, 1) := by decide +kernel
theorem dL_law_354 : decode cL_law 354 = .ok (.ireturn, 1) := by decide +kernel
theorem dL_law_355 : decode cL_law 355 = .ok (.aload_n 1, 1) := by decide +kernel
theorem dL_law_356 : decode cL_law 356 = .ok (.aload_n 0, 1) := by decide +kernel
theorem dL_law_357 : decode cL_law 357 = .ok (.iload_n 3, 1) := by decide +kernel
theorem dL_law_358 : decode cL_law 358 = .ok (.iconst 1, 1) := by decide +kernel
theorem dL_law_359 : decode cL_law 359 = .ok (.iadd, 1) := by decide +kernel
theorem dL_law_360 : decode cL_law 360 = .ok (.iaload, 1) := by decide +kernel
theorem dL_law_361 : decode cL_law 361 = .ok (.invokevirtual 53, 3) := by decide +kernel
theorem dL_law_364 : decode cL_law 364 = .ok (.aload_n 2, 1) := by decide +kernel
theorem dL_law_365 : decode cL_law 365 = .ok (.aload_n 0, 1) := by decide +kernel
theorem dL_law_366 : decode cL_law 366 = .ok (.iload_n 3, 1) := by decide +kernel
theorem dL_law_367 : decode cL_law 367 = .ok (.iconst 1, 1) := by decide +kernel
theorem dL_law_368 : decode cL_law 368 = .ok (.iadd, 1) := by decide +kernel
theorem dL_law_369 : decode cL_law 369 = .ok (.iaload, 1) := by decide +kernel
theorem dL_law_370 : decode cL_law 370 = .ok (.invokevirtual 56, 3) := by decide +kernel
theorem dL_law_373 : decode cL_law 373 = .ok (.lcmp, 1) := by decide +kernel
theorem dL_law_374 : decode cL_law 374 = .ok (.ifCond .eq 425, 3) := by decide +kernel
theorem dL_law_377 : decode cL_law 377 = .ok (.iconst 0, 1) := by decide +kernel
theorem dL_law_378 : decode cL_law 378 = .ok (.ireturn, 1) := by decide +kernel
theorem dL_law_379 : decode cL_law 379 = .ok (.aload_n 1, 1) := by decide +kernel
theorem dL_law_380 : decode cL_law 380 = .ok (.aload_n 0, 1) := by decide +kernel
theorem dL_law_381 : decode cL_law 381 = .ok (.iload_n 3, 1) := by decide +kernel
theorem dL_law_382 : decode cL_law 382 = .ok (.iconst 1, 1) := by decide +kernel
theorem dL_law_383 : decode cL_law 383 = .ok (.iadd, 1) := by decide +kernel
theorem dL_law_384 : decode cL_law 384 = .ok (.iaload, 1) := by decide +kernel
theorem dL_law_385 : decode cL_law 385 = .ok (.invokevirtual 57, 3) := by decide +kernel
theorem dL_law_388 : decode cL_law 388 = .ok (.aload_n 2, 1) := by decide +kernel
theorem dL_law_389 : decode cL_law 389 = .ok (.aload_n 0, 1) := by decide +kernel
theorem dL_law_390 : decode cL_law 390 = .ok (.iload_n 3, 1) := by decide +kernel
theorem dL_law_391 : decode cL_law 391 = .ok (.iconst 1, 1) := by decide +kernel
theorem dL_law_392 : decode cL_law 392 = .ok (.iadd, 1) := by decide +kernel
theorem dL_law_393 : decode cL_law 393 = .ok (.iaload, 1) := by decide +kernel
theorem dL_law_394 : decode cL_law 394 = .ok (.invokevirtual 60, 3) := by decide +kernel
theorem dL_law_397 : decode cL_law 397 = .ok (.if_icmp .eq 402, 3) := by decide +kernel
theorem dL_law_400 : decode cL_law 400 = .ok (.iconst 0, 1) := by decide +kernel
theorem dL_law_401 : decode cL_law 401 = .ok (.ireturn, 1) := by decide +kernel
theorem dL_law_402 : decode cL_law 402 = .ok (.aload_n 1, 1) := by decide +kernel
theorem dL_law_403 : decode cL_law 403 = .ok (.aload_n 0, 1) := by decide +kernel
theorem dL_law_404 : decode cL_law 404 = .ok (.iload_n 3, 1) := by decide +kernel
theorem dL_law_405 : decode cL_law 405 = .ok (.iconst 1, 1) := by decide +kernel
theorem dL_law_406 : decode cL_law 406 = .ok (.iadd, 1) := by decide +kernel
theorem dL_law_407 : decode cL_law 407 = .ok (.iaload, 1) := by decide +kernel
theorem dL_law_408 : decode cL_law 408 = .ok (.aload_n 0, 1) := by decide +kernel
theorem dL_law_409 : decode cL_law 409 = .ok (.iload_n 3, 1) := by decide +kernel
theorem dL_law_410 : decode cL_law 410 = .ok (.iconst 2, 1) := by decide +kernel
theorem dL_law_411 : decode cL_law 411 = .ok (.iadd, 1) := by decide +kernel
theorem dL_law_412 : decode cL_law 412 = .ok (.iaload, 1) := by decide +kernel
theorem dL_law_413 : decode cL_law 413 = .ok (.invokevirtual 61, 3) := by decide +kernel
theorem dL_law_416 : decode cL_law 416 = .ok (.aload_n 2, 1) := by decide +kernel
theorem dL_law_417 : decode cL_law 417 = .ok (.aload_n 0, 1) := by decide +kernel
theorem dL_law_418 : decode cL_law 418 = .ok (.iload_n 3, 1) := by decide +kernel
theorem dL_law_419 : decode cL_law 419 = .ok (.iconst 1, 1) := by decide +kernel
theorem dL_law_420 : decode cL_law 420 = .ok (.iadd, 1) := by decide +kernel
theorem dL_law_421 : decode cL_law 421 = .ok (.iaload, 1) := by decide +kernel
theorem dL_law_422 : decode cL_law 422 = .ok (.aload_n 0, 1) := by decide +kernel
theorem dL_law_423 : decode cL_law 423 = .ok (.iload_n 3, 1) := by decide +kernel
theorem dL_law_424 : decode cL_law 424 = .ok (.iconst 2, 1) := by decide +kernel
theorem dL_law_425 : decode cL_law 425 = .ok (.iadd, 1) := by decide +kernel
theorem dL_law_426 : decode cL_law 426 = .ok (.iaload, 1) := by decide +kernel
theorem dL_law_427 : decode cL_law 427 = .ok (.invokevirtual 65, 3) := by decide +kernel
theorem dL_law_430 : decode cL_law 430 = .ok (.if_icmp .eq 369, 3) := by decide +kernel
theorem dL_law_433 : decode cL_law 433 = .ok (.iconst 0, 1) := by decide +kernel
theorem dL_law_434 : decode cL_law 434 = .ok (.ireturn, 1) := by decide +kernel
theorem dL_law_435 : decode cL_law 435 = .ok (.aload_n 1, 1) := by decide +kernel
theorem dL_law_436 : decode cL_law 436 = .ok (.aload_n 0, 1) := by decide +kernel
theorem dL_law_437 : decode cL_law 437 = .ok (.iload_n 3, 1) := by decide +kernel
theorem dL_law_438 : decode cL_law 438 = .ok (.iconst 1, 1) := by decide +kernel
theorem dL_law_439 : decode cL_law 439 = .ok (.iadd, 1) := by decide +kernel
theorem dL_law_440 : decode cL_law 440 = .ok (.iaload, 1) := by decide +kernel
theorem dL_law_441 : decode cL_law 441 = .ok (.aload_n 0, 1) := by decide +kernel
theorem dL_law_442 : decode cL_law 442 = .ok (.iload_n 3, 1) := by decide +kernel
theorem dL_law_443 : decode cL_law 443 = .ok (.iconst 2, 1) := by decide +kernel
theorem dL_law_444 : decode cL_law 444 = .ok (.iadd, 1) := by decide +kernel
theorem dL_law_445 : decode cL_law 445 = .ok (.iaload, 1) := by decide +kernel
theorem dL_law_446 : decode cL_law 446 = .ok (.invokevirtual 66, 3) := by decide +kernel
theorem dL_law_449 : decode cL_law 449 = .ok (.aload_n 2, 1) := by decide +kernel
theorem dL_law_450 : decode cL_law 450 = .ok (.aload_n 0, 1) := by decide +kernel
theorem dL_law_451 : decode cL_law 451 = .ok (.iload_n 3, 1) := by decide +kernel
theorem dL_law_452 : decode cL_law 452 = .ok (.iconst 1, 1) := by decide +kernel
theorem dL_law_453 : decode cL_law 453 = .ok (.iadd, 1) := by decide +kernel
theorem dL_law_454 : decode cL_law 454 = .ok (.iaload, 1) := by decide +kernel
theorem dL_law_455 : decode cL_law 455 = .ok (.aload_n 0, 1) := by decide +kernel
theorem dL_law_456 : decode cL_law 456 = .ok (.iload_n 3, 1) := by decide +kernel
theorem dL_law_457 : decode cL_law 457 = .ok (.iconst 2, 1) := by decide +kernel
theorem dL_law_458 : decode cL_law 458 = .ok (.iadd, 1) := by decide +kernel
theorem dL_law_459 : decode cL_law 459 = .ok (.iaload, 1) := by decide +kernel
theorem dL_law_460 : decode cL_law 460 = .ok (.invokevirtual 70, 3) := by decide +kernel
theorem dL_law_463 : decode cL_law 463 = .ok (.lcmp, 1) := by decide +kernel
theorem dL_law_464 : decode cL_law 464 = .ok (.ifCond .eq 335, 3) := by decide +kernel
theorem dL_law_467 : decode cL_law 467 = .ok (.iconst 0, 1) := by decide +kernel
theorem dL_law_468 : decode cL_law 468 = .ok (.ireturn, 1) := by decide +kernel
theorem dL_law_469 : decode cL_law 469 = .ok (.aload_n 1, 1) := by decide +kernel
theorem dL_law_470 : decode cL_law 470 = .ok (.aload_n 0, 1) := by decide +kernel
theorem dL_law_471 : decode cL_law 471 = .ok (.iload_n 3, 1) := by decide +kernel
theorem dL_law_472 : decode cL_law 472 = .ok (.iconst 1, 1) := by decide +kernel
theorem dL_law_473 : decode cL_law 473 = .ok (.iadd, 1) := by decide +kernel
theorem dL_law_474 : decode cL_law 474 = .ok (.iaload, 1) := by decide +kernel
theorem dL_law_475 : decode cL_law 475 = .ok (.aload_n 0, 1) := by decide +kernel
theorem dL_law_476 : decode cL_law 476 = .ok (.iload_n 3, 1) := by decide +kernel
theorem dL_law_477 : decode cL_law 477 = .ok (.iconst 2, 1) := by decide +kernel
theorem dL_law_478 : decode cL_law 478 = .ok (.iadd, 1) := by decide +kernel
theorem dL_law_479 : decode cL_law 479 = .ok (.iaload, 1) := by decide +kernel
theorem dL_law_480 : decode cL_law 480 = .ok (.aload_n 0, 1) := by decide +kernel
theorem dL_law_481 : decode cL_law 481 = .ok (.iload_n 3, 1) := by decide +kernel
theorem dL_law_482 : decode cL_law 482 = .ok (.iconst 3, 1) := by decide +kernel
theorem dL_law_483 : decode cL_law 483 = .ok (.iadd, 1) := by decide +kernel
theorem dL_law_484 : decode cL_law 484 = .ok (.iaload, 1) := by decide +kernel
theorem dL_law_485 : decode cL_law 485 = .ok (.invokevirtual 71, 3) := by decide +kernel
theorem dL_law_488 : decode cL_law 488 = .ok (.aload_n 2, 1) := by decide +kernel
theorem dL_law_489 : decode cL_law 489 = .ok (.aload_n 0, 1) := by decide +kernel
theorem dL_law_490 : decode cL_law 490 = .ok (.iload_n 3, 1) := by decide +kernel
theorem dL_law_491 : decode cL_law 491 = .ok (.iconst 1, 1) := by decide +kernel
theorem dL_law_492 : decode cL_law 492 = .ok (.iadd, 1) := by decide +kernel
theorem dL_law_493 : decode cL_law 493 = .ok (.iaload, 1) := by decide +kernel
theorem dL_law_494 : decode cL_law 494 = .ok (.aload_n 0, 1) := by decide +kernel
theorem dL_law_495 : decode cL_law 495 = .ok (.iload_n 3, 1) := by decide +kernel
theorem dL_law_496 : decode cL_law 496 = .ok (.iconst 2, 1) := by decide +kernel
theorem dL_law_497 : decode cL_law 497 = .ok (.iadd, 1) := by decide +kernel
theorem dL_law_498 : decode cL_law 498 = .ok (.iaload, 1) := by decide +kernel
theorem dL_law_499 : decode cL_law 499 = .ok (.aload_n 0, 1) := by decide +kernel
theorem dL_law_500 : decode cL_law 500 = .ok (.iload_n 3, 1) := by decide +kernel
theorem dL_law_501 : decode cL_law 501 = .ok (.iconst 3, 1) := by decide +kernel
theorem dL_law_502 : decode cL_law 502 = .ok (.iadd, 1) := by decide +kernel
theorem dL_law_503 : decode cL_law 503 = .ok (.iaload, 1) := by decide +kernel
theorem dL_law_504 : decode cL_law 504 = .ok (.invokevirtual 75, 3) := by decide +kernel
theorem dL_law_507 : decode cL_law 507 = .ok (.lcmp, 1) := by decide +kernel
theorem dL_law_508 : decode cL_law 508 = .ok (.ifCond .eq 291, 3) := by decide +kernel
theorem dL_law_511 : decode cL_law 511 = .ok (.iconst 0, 1) := by decide +kernel
theorem dL_law_512 : decode cL_law 512 = .ok (.ireturn, 1) := by decide +kernel
theorem dL_law_513 : decode cL_law 513 = .ok (.aload_n 1, 1) := by decide +kernel
theorem dL_law_514 : decode cL_law 514 = .ok (.aload_n 0, 1) := by decide +kernel
theorem dL_law_515 : decode cL_law 515 = .ok (.iload_n 3, 1) := by decide +kernel
theorem dL_law_516 : decode cL_law 516 = .ok (.iconst 1, 1) := by decide +kernel
theorem dL_law_517 : decode cL_law 517 = .ok (.iadd, 1) := by decide +kernel
theorem dL_law_518 : decode cL_law 518 = .ok (.iaload, 1) := by decide +kernel
theorem dL_law_519 : decode cL_law 519 = .ok (.aload_n 0, 1) := by decide +kernel
theorem dL_law_520 : decode cL_law 520 = .ok (.iload_n 3, 1) := by decide +kernel
theorem dL_law_521 : decode cL_law 521 = .ok (.iconst 2, 1) := by decide +kernel
theorem dL_law_522 : decode cL_law 522 = .ok (.iadd, 1) := by decide +kernel
theorem dL_law_523 : decode cL_law 523 = .ok (.iaload, 1) := by decide +kernel
theorem dL_law_524 : decode cL_law 524 = .ok (.aload_n 0, 1) := by decide +kernel
theorem dL_law_525 : decode cL_law 525 = .ok (.iload_n 3, 1) := by decide +kernel
theorem dL_law_526 : decode cL_law 526 = .ok (.iconst 3, 1) := by decide +kernel
theorem dL_law_527 : decode cL_law 527 = .ok (.iadd, 1) := by decide +kernel
theorem dL_law_528 : decode cL_law 528 = .ok (.iaload, 1) := by decide +kernel
theorem dL_law_529 : decode cL_law 529 = .ok (.aload_n 0, 1) := by decide +kernel
theorem dL_law_530 : decode cL_law 530 = .ok (.iload_n 3, 1) := by decide +kernel
theorem dL_law_531 : decode cL_law 531 = .ok (.iconst 4, 1) := by decide +kernel
theorem dL_law_532 : decode cL_law 532 = .ok (.iadd, 1) := by decide +kernel
theorem dL_law_533 : decode cL_law 533 = .ok (.iaload, 1) := by decide +kernel
theorem dL_law_534 : decode cL_law 534 = .ok (.invokevirtual 76, 3) := by decide +kernel
theorem dL_law_537 : decode cL_law 537 = .ok (.aload_n 2, 1) := by decide +kernel
theorem dL_law_538 : decode cL_law 538 = .ok (.aload_n 0, 1) := by decide +kernel
theorem dL_law_539 : decode cL_law 539 = .ok (.iload_n 3, 1) := by decide +kernel
theorem dL_law_540 : decode cL_law 540 = .ok (.iconst 1, 1) := by decide +kernel
theorem dL_law_541 : decode cL_law 541 = .ok (.iadd, 1) := by decide +kernel
theorem dL_law_542 : decode cL_law 542 = .ok (.iaload, 1) := by decide +kernel
theorem dL_law_543 : decode cL_law 543 = .ok (.aload_n 0, 1) := by decide +kernel
theorem dL_law_544 : decode cL_law 544 = .ok (.iload_n 3, 1) := by decide +kernel
theorem dL_law_545 : decode cL_law 545 = .ok (.iconst 2, 1) := by decide +kernel
theorem dL_law_546 : decode cL_law 546 = .ok (.iadd, 1) := by decide +kernel
theorem dL_law_547 : decode cL_law 547 = .ok (.iaload, 1) := by decide +kernel
theorem dL_law_548 : decode cL_law 548 = .ok (.aload_n 0, 1) := by decide +kernel
theorem dL_law_549 : decode cL_law 549 = .ok (.iload_n 3, 1) := by decide +kernel
theorem dL_law_550 : decode cL_law 550 = .ok (.iconst 3, 1) := by decide +kernel
theorem dL_law_551 : decode cL_law 551 = .ok (.iadd, 1) := by decide +kernel
theorem dL_law_552 : decode cL_law 552 = .ok (.iaload, 1) := by decide +kernel
theorem dL_law_553 : decode cL_law 553 = .ok (.aload_n 0, 1) := by decide +kernel
theorem dL_law_554 : decode cL_law 554 = .ok (.iload_n 3, 1) := by decide +kernel
theorem dL_law_555 : decode cL_law 555 = .ok (.iconst 4, 1) := by decide +kernel
theorem dL_law_556 : decode cL_law 556 = .ok (.iadd, 1) := by decide +kernel
theorem dL_law_557 : decode cL_law 557 = .ok (.iaload, 1) := by decide +kernel
theorem dL_law_558 : decode cL_law 558 = .ok (.invokevirtual 80, 3) := by decide +kernel
theorem dL_law_561 : decode cL_law 561 = .ok (.lcmp, 1) := by decide +kernel
theorem dL_law_562 : decode cL_law 562 = .ok (.ifCond .eq 237, 3) := by decide +kernel
theorem dL_law_565 : decode cL_law 565 = .ok (.iconst 0, 1) := by decide +kernel
theorem dL_law_566 : decode cL_law 566 = .ok (.ireturn, 1) := by decide +kernel
theorem dL_law_567 : decode cL_law 567 = .ok (.aload_n 1, 1) := by decide +kernel
theorem dL_law_568 : decode cL_law 568 = .ok (.aload_n 0, 1) := by decide +kernel
theorem dL_law_569 : decode cL_law 569 = .ok (.iload_n 3, 1) := by decide +kernel
theorem dL_law_570 : decode cL_law 570 = .ok (.iconst 1, 1) := by decide +kernel
theorem dL_law_571 : decode cL_law 571 = .ok (.iadd, 1) := by decide +kernel
theorem dL_law_572 : decode cL_law 572 = .ok (.iaload, 1) := by decide +kernel
theorem dL_law_573 : decode cL_law 573 = .ok (.aload_n 0, 1) := by decide +kernel
theorem dL_law_574 : decode cL_law 574 = .ok (.iload_n 3, 1) := by decide +kernel
theorem dL_law_575 : decode cL_law 575 = .ok (.iconst 2, 1) := by decide +kernel
theorem dL_law_576 : decode cL_law 576 = .ok (.iadd, 1) := by decide +kernel
theorem dL_law_577 : decode cL_law 577 = .ok (.iaload, 1) := by decide +kernel
theorem dL_law_578 : decode cL_law 578 = .ok (.aload_n 0, 1) := by decide +kernel
theorem dL_law_579 : decode cL_law 579 = .ok (.iload_n 3, 1) := by decide +kernel
theorem dL_law_580 : decode cL_law 580 = .ok (.iconst 3, 1) := by decide +kernel
theorem dL_law_581 : decode cL_law 581 = .ok (.iadd, 1) := by decide +kernel
theorem dL_law_582 : decode cL_law 582 = .ok (.iaload, 1) := by decide +kernel
theorem dL_law_583 : decode cL_law 583 = .ok (.invokevirtual 81, 3) := by decide +kernel
theorem dL_law_586 : decode cL_law 586 = .ok (.aload_n 2, 1) := by decide +kernel
theorem dL_law_587 : decode cL_law 587 = .ok (.aload_n 0, 1) := by decide +kernel
theorem dL_law_588 : decode cL_law 588 = .ok (.iload_n 3, 1) := by decide +kernel
theorem dL_law_589 : decode cL_law 589 = .ok (.iconst 1, 1) := by decide +kernel
theorem dL_law_590 : decode cL_law 590 = .ok (.iadd, 1) := by decide +kernel
theorem dL_law_591 : decode cL_law 591 = .ok (.iaload, 1) := by decide +kernel
theorem dL_law_592 : decode cL_law 592 = .ok (.aload_n 0, 1) := by decide +kernel
theorem dL_law_593 : decode cL_law 593 = .ok (.iload_n 3, 1) := by decide +kernel
theorem dL_law_594 : decode cL_law 594 = .ok (.iconst 2, 1) := by decide +kernel
theorem dL_law_595 : decode cL_law 595 = .ok (.iadd, 1) := by decide +kernel
theorem dL_law_596 : decode cL_law 596 = .ok (.iaload, 1) := by decide +kernel
theorem dL_law_597 : decode cL_law 597 = .ok (.aload_n 0, 1) := by decide +kernel
theorem dL_law_598 : decode cL_law 598 = .ok (.iload_n 3, 1) := by decide +kernel
theorem dL_law_599 : decode cL_law 599 = .ok (.iconst 3, 1) := by decide +kernel
theorem dL_law_600 : decode cL_law 600 = .ok (.iadd, 1) := by decide +kernel
theorem dL_law_601 : decode cL_law 601 = .ok (.iaload, 1) := by decide +kernel
theorem dL_law_602 : decode cL_law 602 = .ok (.invokevirtual 85, 3) := by decide +kernel
theorem dL_law_605 : decode cL_law 605 = .ok (.if_icmp .eq 194, 3) := by decide +kernel
theorem dL_law_608 : decode cL_law 608 = .ok (.iconst 0, 1) := by decide +kernel
theorem dL_law_609 : decode cL_law 609 = .ok (.ireturn, 1) := by decide +kernel
theorem dL_law_610 : decode cL_law 610 = .ok (.aload_n 1, 1) := by decide +kernel
theorem dL_law_611 : decode cL_law 611 = .ok (.aload_n 0, 1) := by decide +kernel
theorem dL_law_612 : decode cL_law 612 = .ok (.iload_n 3, 1) := by decide +kernel
theorem dL_law_613 : decode cL_law 613 = .ok (.iconst 1, 1) := by decide +kernel
theorem dL_law_614 : decode cL_law 614 = .ok (.iadd, 1) := by decide +kernel
theorem dL_law_615 : decode cL_law 615 = .ok (.iaload, 1) := by decide +kernel
theorem dL_law_616 : decode cL_law 616 = .ok (.invokevirtual 86, 3) := by decide +kernel
theorem dL_law_619 : decode cL_law 619 = .ok (.aload_n 2, 1) := by decide +kernel
theorem dL_law_620 : decode cL_law 620 = .ok (.aload_n 0, 1) := by decide +kernel
theorem dL_law_621 : decode cL_law 621 = .ok (.iload_n 3, 1) := by decide +kernel
theorem dL_law_622 : decode cL_law 622 = .ok (.iconst 1, 1) := by decide +kernel
theorem dL_law_623 : decode cL_law 623 = .ok (.iadd, 1) := by decide +kernel
theorem dL_law_624 : decode cL_law 624 = .ok (.iaload, 1) := by decide +kernel
theorem dL_law_625 : decode cL_law 625 = .ok (.invokevirtual 89, 3) := by decide +kernel
theorem dL_law_628 : decode cL_law 628 = .ok (.if_icmp .eq 171, 3) := by decide +kernel
theorem dL_law_631 : decode cL_law 631 = .ok (.iconst 0, 1) := by decide +kernel
theorem dL_law_632 : decode cL_law 632 = .ok (.ireturn, 1) := by decide +kernel
theorem dL_law_633 : decode cL_law 633 = .ok (.aload_n 1, 1) := by decide +kernel
theorem dL_law_634 : decode cL_law 634 = .ok (.aload_n 0, 1) := by decide +kernel
theorem dL_law_635 : decode cL_law 635 = .ok (.iload_n 3, 1) := by decide +kernel
theorem dL_law_636 : decode cL_law 636 = .ok (.iconst 1, 1) := by decide +kernel
theorem dL_law_637 : decode cL_law 637 = .ok (.iadd, 1) := by decide +kernel
theorem dL_law_638 : decode cL_law 638 = .ok (.iaload, 1) := by decide +kernel
theorem dL_law_639 : decode cL_law 639 = .ok (.invokevirtual 90, 3) := by decide +kernel
theorem dL_law_642 : decode cL_law 642 = .ok (.aload_n 2, 1) := by decide +kernel
theorem dL_law_643 : decode cL_law 643 = .ok (.aload_n 0, 1) := by decide +kernel
theorem dL_law_644 : decode cL_law 644 = .ok (.iload_n 3, 1) := by decide +kernel
theorem dL_law_645 : decode cL_law 645 = .ok (.iconst 1, 1) := by decide +kernel
theorem dL_law_646 : decode cL_law 646 = .ok (.iadd, 1) := by decide +kernel
theorem dL_law_647 : decode cL_law 647 = .ok (.iaload, 1) := by decide +kernel
theorem dL_law_648 : decode cL_law 648 = .ok (.invokevirtual 93, 3) := by decide +kernel
theorem dL_law_651 : decode cL_law 651 = .ok (.if_icmp .eq 148, 3) := by decide +kernel
theorem dL_law_654 : decode cL_law 654 = .ok (.iconst 0, 1) := by decide +kernel
theorem dL_law_655 : decode cL_law 655 = .ok (.ireturn, 1) := by decide +kernel
theorem dL_law_656 : decode cL_law 656 = .ok (.aload_n 1, 1) := by decide +kernel
theorem dL_law_657 : decode cL_law 657 = .ok (.aload_n 0, 1) := by decide +kernel
theorem dL_law_658 : decode cL_law 658 = .ok (.iload_n 3, 1) := by decide +kernel
theorem dL_law_659 : decode cL_law 659 = .ok (.iconst 1, 1) := by decide +kernel
theorem dL_law_660 : decode cL_law 660 = .ok (.iadd, 1) := by decide +kernel
theorem dL_law_661 : decode cL_law 661 = .ok (.iaload, 1) := by decide +kernel
theorem dL_law_662 : decode cL_law 662 = .ok (.aload_n 0, 1) := by decide +kernel
theorem dL_law_663 : decode cL_law 663 = .ok (.iload_n 3, 1) := by decide +kernel
theorem dL_law_664 : decode cL_law 664 = .ok (.iconst 2, 1) := by decide +kernel
theorem dL_law_665 : decode cL_law 665 = .ok (.iadd, 1) := by decide +kernel
theorem dL_law_666 : decode cL_law 666 = .ok (.iaload, 1) := by decide +kernel
theorem dL_law_667 : decode cL_law 667 = .ok (.aload_n 0, 1) := by decide +kernel
theorem dL_law_668 : decode cL_law 668 = .ok (.iload_n 3, 1) := by decide +kernel
theorem dL_law_669 : decode cL_law 669 = .ok (.iconst 3, 1) := by decide +kernel
theorem dL_law_670 : decode cL_law 670 = .ok (.iadd, 1) := by decide +kernel
theorem dL_law_671 : decode cL_law 671 = .ok (.iaload, 1) := by decide +kernel
theorem dL_law_672 : decode cL_law 672 = .ok (.invokevirtual 94, 3) := by decide +kernel
theorem dL_law_675 : decode cL_law 675 = .ok (.aload_n 2, 1) := by decide +kernel
theorem dL_law_676 : decode cL_law 676 = .ok (.aload_n 0, 1) := by decide +kernel
theorem dL_law_677 : decode cL_law 677 = .ok (.iload_n 3, 1) := by decide +kernel
theorem dL_law_678 : decode cL_law 678 = .ok (.iconst 1, 1) := by decide +kernel
theorem dL_law_679 : decode cL_law 679 = .ok (.iadd, 1) := by decide +kernel
theorem dL_law_680 : decode cL_law 680 = .ok (.iaload, 1) := by decide +kernel
theorem dL_law_681 : decode cL_law 681 = .ok (.aload_n 0, 1) := by decide +kernel
theorem dL_law_682 : decode cL_law 682 = .ok (.iload_n 3, 1) := by decide +kernel
theorem dL_law_683 : decode cL_law 683 = .ok (.iconst 2, 1) := by decide +kernel
theorem dL_law_684 : decode cL_law 684 = .ok (.iadd, 1) := by decide +kernel
theorem dL_law_685 : decode cL_law 685 = .ok (.iaload, 1) := by decide +kernel
theorem dL_law_686 : decode cL_law 686 = .ok (.aload_n 0, 1) := by decide +kernel
theorem dL_law_687 : decode cL_law 687 = .ok (.iload_n 3, 1) := by decide +kernel
theorem dL_law_688 : decode cL_law 688 = .ok (.iconst 3, 1) := by decide +kernel
theorem dL_law_689 : decode cL_law 689 = .ok (.iadd, 1) := by decide +kernel
theorem dL_law_690 : decode cL_law 690 = .ok (.iaload, 1) := by decide +kernel
theorem dL_law_691 : decode cL_law 691 = .ok (.invokevirtual 97, 3) := by decide +kernel
theorem dL_law_694 : decode cL_law 694 = .ok (.if_icmp .eq 105, 3) := by decide +kernel
theorem dL_law_697 : decode cL_law 697 = .ok (.iconst 0, 1) := by decide +kernel
theorem dL_law_698 : decode cL_law 698 = .ok (.ireturn, 1) := by decide +kernel
theorem dL_law_699 : decode cL_law 699 = .ok (.aload_n 1, 1) := by decide +kernel
theorem dL_law_700 : decode cL_law 700 = .ok (.aload_n 0, 1) := by decide +kernel
theorem dL_law_701 : decode cL_law 701 = .ok (.iload_n 3, 1) := by decide +kernel
theorem dL_law_702 : decode cL_law 702 = .ok (.iconst 1, 1) := by decide +kernel
theorem dL_law_703 : decode cL_law 703 = .ok (.iadd, 1) := by decide +kernel
theorem dL_law_704 : decode cL_law 704 = .ok (.iaload, 1) := by decide +kernel
theorem dL_law_705 : decode cL_law 705 = .ok (.aload_n 0, 1) := by decide +kernel
