theorem dX9_init_49 : decode cX9_init 49 = .ok (.newarray .boolean, 2) := by decide +kernel
theorem dX9_init_51 : decode cX9_init 51 = .ok (.putfield 26, 3) := by decide +kernel
theorem dX9_init_54 : decode cX9_init 54 = .ok (.aload_n 0, 1) := by decide +kernel
theorem dX9_init_55 : decode cX9_init 55 = .ok (.sipush 20736, 3) := by decide +kernel
theorem dX9_init_58 : decode cX9_init 58 = .ok (.newarray .boolean, 2) := by decide +kernel
theorem dX9_init_60 : decode cX9_init 60 = .ok (.putfield 30, 3) := by decide +kernel
theorem dX9_init_63 : decode cX9_init 63 = .ok (.aload_n 0, 1) := by decide +kernel
theorem dX9_init_64 : decode cX9_init 64 = .ok (.sipush 20736, 3) := by decide +kernel
theorem dX9_init_67 : decode cX9_init 67 = .ok (.newarray .int, 2) := by decide +kernel
theorem dX9_init_69 : decode cX9_init 69 = .ok (.putfield 33, 3) := by decide +kernel
theorem dX9_init_72 : decode cX9_init 72 = .ok (.aload_n 0, 1) := by decide +kernel
theorem dX9_init_73 : decode cX9_init 73 = .ok (.bipush 16, 2) := by decide +kernel
theorem dX9_init_75 : decode cX9_init 75 = .ok (.newarray .long, 2) := by decide +kernel
theorem dX9_init_77 : decode cX9_init 77 = .ok (.putfield 36, 3) := by decide +kernel
theorem dX9_init_80 : decode cX9_init 80 = .ok (.aload_n 0, 1) := by decide +kernel
theorem dX9_init_81 : decode cX9_init 81 = .ok (.iconst 4, 1) := by decide +kernel
theorem dX9_init_82 : decode cX9_init 82 = .ok (.newarray .long, 2) := by decide +kernel
theorem dX9_init_84 : decode cX9_init 84 = .ok (.putfield 39, 3) := by decide +kernel
theorem dX9_init_87 : decode cX9_init 87 = .ok (.aload_n 0, 1) := by decide +kernel
theorem dX9_init_88 : decode cX9_init 88 = .ok (.iconst 3, 1) := by decide +kernel
theorem dX9_init_89 : decode cX9_init 89 = .ok (.newarray .boolean, 2) := by decide +kernel
theorem dX9_init_91 : decode cX9_init 91 = .ok (.putfield 42, 3) := by decide +kernel
theorem dX9_init_94 : decode cX9_init 94 = .ok (.aload_n 0, 1) := by decide +kernel
theorem dX9_init_95 : decode cX9_init 95 = .ok (.bipush 12, 2) := by decide +kernel
theorem dX9_init_97 : decode cX9_init 97 = .ok (.newarray .long, 2) := by decide +kernel
theorem dX9_init_99 : decode cX9_init 99 = .ok (.putfield 45, 3) := by decide +kernel
theorem dX9_init_102 : decode cX9_init 102 = .ok (.aload_n 0, 1) := by decide +kernel
theorem dX9_init_103 : decode cX9_init 103 = .ok (.iconst 3, 1) := by decide +kernel
theorem dX9_init_104 : decode cX9_init 104 = .ok (.newarray .int, 2) := by decide +kernel
theorem dX9_init_106 : decode cX9_init 106 = .ok (.putfield 48, 3) := by decide +kernel
theorem dX9_init_109 : decode cX9_init 109 = .ok (.aload_n 0, 1) := by decide +kernel
theorem dX9_init_110 : decode cX9_init 110 = .ok (.iconst 3, 1) := by decide +kernel
theorem dX9_init_111 : decode cX9_init 111 = .ok (.newarray .int, 2) := by decide +kernel
theorem dX9_init_113 : decode cX9_init 113 = .ok (.putfield 51, 3) := by decide +kernel
theorem dX9_init_116 : decode cX9_init 116 = .ok (.aload_n 0, 1) := by decide +kernel
theorem dX9_init_117 : decode cX9_init 117 = .ok (.bipush 18, 2) := by decide +kernel
theorem dX9_init_119 : decode cX9_init 119 = .ok (.newarray .long, 2) := by decide +kernel
theorem dX9_init_121 : decode cX9_init 121 = .ok (.putfield 54, 3) := by decide +kernel
theorem dX9_init_124 : decode cX9_init 124 = .ok (.aload_n 0, 1) := by decide +kernel
theorem dX9_init_125 : decode cX9_init 125 = .ok (.getfield 7, 3) := by decide +kernel
theorem dX9_init_128 : decode cX9_init 128 = .ok (.iconst 0, 1) := by decide +kernel
theorem dX9_init_129 : decode cX9_init 129 = .ok (.ldc2_w 57, 3) := by decide +kernel
theorem dX9_init_132 : decode cX9_init 132 = .ok (.lastore, 1) := by decide +kernel
theorem dX9_init_133 : decode cX9_init 133 = .ok (.aload_n 0, 1) := by decide +kernel
theorem dX9_init_134 : decode cX9_init 134 = .ok (.getfield 7, 3) := by decide +kernel
theorem dX9_init_137 : decode cX9_init 137 = .ok (.iconst 1, 1) := by decide +kernel
theorem dX9_init_138 : decode cX9_init 138 = .ok (.ldc2_w 59, 3) := by decide +kernel
theorem dX9_init_141 : decode cX9_init 141 = .ok (.lastore, 1) := by decide +kernel
theorem dX9_init_142 : decode cX9_init 142 = .ok (.aload_n 0, 1) := by decide +kernel
theorem dX9_init_143 : decode cX9_init 143 = .ok (.getfield 7, 3) := by decide +kernel
theorem dX9_init_146 : decode cX9_init 146 = .ok (.iconst 2, 1) := by decide +kernel
theorem dX9_init_147 : decode cX9_init 147 = .ok (.ldc2_w 59, 3) := by decide +kernel
theorem dX9_init_150 : decode cX9_init 150 = .ok (.lastore, 1) := by decide +kernel
theorem dX9_init_151 : decode cX9_init 151 = .ok (.aload_n 0, 1) := by decide +kernel
theorem dX9_init_152 : decode cX9_init 152 = .ok (.getfield 7, 3) := by decide +kernel
theorem dX9_init_155 : decode cX9_init 155 = .ok (.iconst 3, 1) := by decide +kernel
theorem dX9_init_156 : decode cX9_init 156 = .ok (.ldc2_w 61, 3) := by decide +kernel
theorem dX9_init_159 : decode cX9_init 159 = .ok (.lastore, 1) := by decide +kernel
theorem dX9_init_160 : decode cX9_init 160 = .ok (.iconst 0, 1) := by decide +kernel
theorem dX9_init_161 : decode cX9_init 161 = .ok (.istore_n 1, 1) := by decide +kernel
theorem dX9_init_162 : decode cX9_init 162 = .ok (.iload_n 1, 1) := by decide +kernel
theorem dX9_init_163 : decode cX9_init 163 = .ok (.iconst 3, 1) := by decide +kernel
theorem dX9_init_164 : decode cX9_init 164 = .ok (.if_icmp .ge 17, 3) := by decide +kernel
theorem dX9_init_167 : decode cX9_init 167 = .ok (.aload_n 0, 1) := by decide +kernel
theorem dX9_init_168 : decode cX9_init 168 = .ok (.getfield 48, 3) := by decide +kernel
theorem dX9_init_171 : decode cX9_init 171 = .ok (.iload_n 1, 1) := by decide +kernel
theorem dX9_init_172 : decode cX9_init 172 = .ok (.bipush (-9), 2) := by decide +kernel
theorem dX9_init_174 : decode cX9_init 174 = .ok (.iastore, 1) := by decide +kernel
theorem dX9_init_175 : decode cX9_init 175 = .ok (.iinc 1 1, 3) := by decide +kernel
theorem dX9_init_178 : decode cX9_init 178 = .ok (.goto (-16), 3) := by decide +kernel
theorem dX9_init_181 : decode cX9_init 181 = .ok (.return_, 1) := by decide +kernel
theorem dX9_within_0 : decode cX9_within 0 = .ok (.iload_n 0, 1) := by decide +kernel
theorem dX9_within_1 : decode cX9_within 1 = .ok (.iload_n 1, 1) := by decide +kernel
theorem dX9_within_2 : decode cX9_within 2 = .ok (.if_icmp .lt 12, 3) := by decide +kernel
theorem dX9_within_5 : decode cX9_within 5 = .ok (.iload_n 0, 1) := by decide +kernel
theorem dX9_within_6 : decode cX9_within 6 = .ok (.iload_n 2, 1) := by decide +kernel
theorem dX9_within_7 : decode cX9_within 7 = .ok (.if_icmp .gt 7, 3) := by decide +kernel
theorem dX9_within_10 : decode cX9_within 10 = .ok (.iconst 1, 1) := by decide +kernel
theorem dX9_within_11 : decode cX9_within 11 = .ok (.goto 4, 3) := by decide +kernel
theorem dX9_within_14 : decode cX9_within 14 = .ok (.iconst 0, 1) := by decide +kernel
theorem dX9_within_15 : decode cX9_within 15 = .ok (.ireturn, 1) := by decide +kernel
set_option maxRecDepth 20000 in
theorem ggX9_isPlace_X9_within : GoodIn wsX9_isPlace wsX9_within := goodIn_r _ [4] (by decide +kernel) (by decide +kernel)
set_option maxRecDepth 20000 in
theorem gX9_isPlace_X9_within : GoodIn wsX9_isPlace (va_wsS RX9 63 yX9_within wsX9_within) := goodIn_app (goodIn_of _ (by decide +kernel)) ggX9_isPlace_X9_within
theorem dX9_isPlace_0 : decode cX9_isPlace 0 = .ok (.iload_n 0, 1) := by decide +kernel
theorem dX9_isPlace_1 : decode cX9_isPlace 1 = .ok (.iconst 1, 1) := by decide +kernel
theorem dX9_isPlace_2 : decode cX9_isPlace 2 = .ok (.iconst 4, 1) := by decide +kernel
theorem dX9_isPlace_3 : decode cX9_isPlace 3 = .ok (.invokestatic 63, 3) := by decide +kernel
theorem dX9_isPlace_6 : decode cX9_isPlace 6 = .ok (.ireturn, 1) := by decide +kernel
set_option maxRecDepth 20000 in
theorem ggX9_isBend_X9_within : GoodIn wsX9_isBend wsX9_within := goodIn_r _ [6] (by decide +kernel) (by decide +kernel)
set_option maxRecDepth 20000 in
theorem gX9_isBend_X9_within : GoodIn wsX9_isBend (va_wsS RX9 63 yX9_within wsX9_within) := goodIn_app (goodIn_of _ (by decide +kernel)) ggX9_isBend_X9_within
theorem dX9_isBend_0 : decode cX9_isBend 0 = .ok (.iload_n 0, 1) := by decide +kernel
theorem dX9_isBend_1 : decode cX9_isBend 1 = .ok (.ldc 67, 2) := by decide +kernel
theorem dX9_isBend_3 : decode cX9_isBend 3 = .ok (.ldc 68, 2) := by decide +kernel
theorem dX9_isBend_5 : decode cX9_isBend 5 = .ok (.invokestatic 63, 3) := by decide +kernel
theorem dX9_isBend_8 : decode cX9_isBend 8 = .ok (.ireturn, 1) := by decide +kernel
theorem dX9_square_0 : decode cX9_square 0 = .ok (.lload_n 0, 1) := by decide +kernel
theorem dX9_square_1 : decode cX9_square 1 = .ok (.lload_n 0, 1) := by decide +kernel
theorem dX9_square_2 : decode cX9_square 2 = .ok (.lmul, 1) := by decide +kernel
theorem dX9_square_3 : decode cX9_square 3 = .ok (.lreturn, 1) := by decide +kernel
set_option maxRecDepth 20000 in
theorem ggX9_set_X9_isBend : GoodIn wsX9_set wsX9_isBend := goodIn_r _ [6, 7, 8, 9, 10, 5, 11] (by decide +kernel) (by decide +kernel)
set_option maxRecDepth 20000 in
theorem gX9_set_X9_isBend : GoodIn wsX9_set (va_wsS RX9 69 yX9_isBend wsX9_isBend) := goodIn_app (goodIn_of _ (by decide +kernel)) ggX9_set_X9_isBend
set_option maxRecDepth 20000 in
theorem ggX9_set_X9_square : GoodIn wsX9_set wsX9_square := goodIn_r _ [14] (by decide +kernel) (by decide +kernel)
set_option maxRecDepth 20000 in
theorem gX9_set_X9_square : GoodIn wsX9_set (va_wsS RX9 73 yX9_square wsX9_square) := goodIn_app (goodIn_of _ (by decide +kernel)) ggX9_set_X9_square
theorem dX9_set_0 : decode cX9_set 0 = .ok (.iload_n 1, 1) := by decide +kernel
theorem dX9_set_1 : decode cX9_set 1 = .ok (.invokestatic 69, 3) := by decide +kernel
theorem dX9_set_4 : decode cX9_set 4 = .ok (.ifCond .eq 25, 3) := by decide +kernel
theorem dX9_set_7 : decode cX9_set 7 = .ok (.iload_n 2, 1) := by decide +kernel
theorem dX9_set_8 : decode cX9_set 8 = .ok (.invokestatic 69, 3) := by decide +kernel
theorem dX9_set_11 : decode cX9_set 11 = .ok (.ifCond .eq 18, 3) := by decide +kernel
theorem dX9_set_14 : decode cX9_set 14 = .ok (.iload_n 3, 1) := by decide +kernel
theorem dX9_set_15 : decode cX9_set 15 = .ok (.invokestatic 69, 3) := by decide +kernel
theorem dX9_set_18 : decode cX9_set 18 = .ok (.ifCond .eq 11, 3) := by decide +kernel
theorem dX9_set_21 : decode cX9_set 21 = .ok (.iload 4, 2) := by decide +kernel
theorem dX9_set_23 : decode cX9_set 23 = .ok (.invokestatic 69, 3) := by decide +kernel
theorem dX9_set_26 : decode cX9_set 26 = .ok (.ifCond .ne 6, 3) := by decide +kernel
theorem dX9_set_29 : decode cX9_set 29 = .ok (.bipush (-2), 2) := by decide +kernel
theorem dX9_set_31 : decode cX9_set 31 = .ok (.ireturn, 1) := by decide +kernel
theorem dX9_set_32 : decode cX9_set 32 = .ok (.iload_n 1, 1) := by decide +kernel
theorem dX9_set_33 : decode cX9_set 33 = .ok (.i2l, 1) := by decide +kernel
theorem dX9_set_34 : decode cX9_set 34 = .ok (.iload_n 2, 1) := by decide +kernel
theorem dX9_set_35 : decode cX9_set 35 = .ok (.i2l, 1) := by decide +kernel
theorem dX9_set_36 : decode cX9_set 36 = .ok (.ladd, 1) := by decide +kernel
theorem dX9_set_37 : decode cX9_set 37 = .ok (.iload_n 3, 1) := by decide +kernel
theorem dX9_set_38 : decode cX9_set 38 = .ok (.i2l, 1) := by decide +kernel
theorem dX9_set_39 : decode cX9_set 39 = .ok (.ladd, 1) := by decide +kernel
theorem dX9_set_40 : decode cX9_set 40 = .ok (.iload 4, 2) := by decide +kernel
theorem dX9_set_42 : decode cX9_set 42 = .ok (.i2l, 1) := by decide +kernel
theorem dX9_set_43 : decode cX9_set 43 = .ok (.ladd, 1) := by decide +kernel
theorem dX9_set_44 : decode cX9_set 44 = .ok (.lstore 5, 2) := by decide +kernel
theorem dX9_set_46 : decode cX9_set 46 = .ok (.lload 5, 2) := by decide +kernel
theorem dX9_set_48 : decode cX9_set 48 = .ok (.lconst 0, 1) := by decide +kernel
theorem dX9_set_49 : decode cX9_set 49 = .ok (.lcmp, 1) := by decide +kernel
theorem dX9_set_50 : decode cX9_set 50 = .ok (.ifCond .le 40, 3) := by decide +kernel
theorem dX9_set_53 : decode cX9_set 53 = .ok (.ldc2_w 59, 3) := by decide +kernel
theorem dX9_set_56 : decode cX9_set 56 = .ok (.iload_n 1, 1) := by decide +kernel
theorem dX9_set_57 : decode cX9_set 57 = .ok (.i2l, 1) := by decide +kernel
theorem dX9_set_58 : decode cX9_set 58 = .ok (.invokestatic 73, 3) := by decide +kernel
theorem dX9_set_61 : decode cX9_set 61 = .ok (.iload_n 2, 1) := by decide +kernel
theorem dX9_set_62 : decode cX9_set 62 = .ok (.i2l, 1) := by decide +kernel
theorem dX9_set_63 : decode cX9_set 63 = .ok (.invokestatic 73, 3) := by decide +kernel
theorem dX9_set_66 : decode cX9_set 66 = .ok (.ladd, 1) := by decide +kernel
theorem dX9_set_67 : decode cX9_set 67 = .ok (.iload_n 3, 1) := by decide +kernel
theorem dX9_set_68 : decode cX9_set 68 = .ok (.i2l, 1) := by decide +kernel
theorem dX9_set_69 : decode cX9_set 69 = .ok (.invokestatic 73, 3) := by decide +kernel
theorem dX9_set_72 : decode cX9_set 72 = .ok (.ladd, 1) := by decide +kernel
theorem dX9_set_73 : decode cX9_set 73 = .ok (.iload 4, 2) := by decide +kernel
theorem dX9_set_75 : decode cX9_set 75 = .ok (.i2l, 1) := by decide +kernel
theorem dX9_set_76 : decode cX9_set 76 = .ok (.invokestatic 73, 3) := by decide +kernel
theorem dX9_set_79 : decode cX9_set 79 = .ok (.ladd, 1) := by decide +kernel
theorem dX9_set_80 : decode cX9_set 80 = .ok (.lmul, 1) := by decide +kernel
theorem dX9_set_81 : decode cX9_set 81 = .ok (.lload 5, 2) := by decide +kernel
theorem dX9_set_83 : decode cX9_set 83 = .ok (.invokestatic 73, 3) := by decide +kernel
theorem dX9_set_86 : decode cX9_set 86 = .ok (.lcmp, 1) := by decide +kernel
theorem dX9_set_87 : decode cX9_set 87 = .ok (.ifCond .eq 6, 3) := by decide +kernel
theorem dX9_set_90 : decode cX9_set 90 = .ok (.bipush (-3), 2) := by decide +kernel
theorem dX9_set_92 : decode cX9_set 92 = .ok (.ireturn, 1) := by decide +kernel
theorem dX9_set_93 : decode cX9_set 93 = .ok (.aload_n 0, 1) := by decide +kernel
theorem dX9_set_94 : decode cX9_set 94 = .ok (.getfield 7, 3) := by decide +kernel
theorem dX9_set_97 : decode cX9_set 97 = .ok (.iconst 0, 1) := by decide +kernel
theorem dX9_set_98 : decode cX9_set 98 = .ok (.iload_n 1, 1) := by decide +kernel
theorem dX9_set_99 : decode cX9_set 99 = .ok (.i2l, 1) := by decide +kernel
theorem dX9_set_100 : decode cX9_set 100 = .ok (.lastore, 1) := by decide +kernel
theorem dX9_set_101 : decode cX9_set 101 = .ok (.aload_n 0, 1) := by decide +kernel
theorem dX9_set_102 : decode cX9_set 102 = .ok (.getfield 7, 3) := by decide +kernel
theorem dX9_set_105 : decode cX9_set 105 = .ok (.iconst 1, 1) := by decide +kernel
theorem dX9_set_106 : decode cX9_set 106 = .ok (.iload_n 2, 1) := by decide +kernel
theorem dX9_set_107 : decode cX9_set 107 = .ok (.i2l, 1) := by decide +kernel
theorem dX9_set_108 : decode cX9_set 108 = .ok (.lastore, 1) := by decide +kernel
theorem dX9_set_109 : decode cX9_set 109 = .ok (.aload_n 0, 1) := by decide +kernel
theorem dX9_set_110 : decode cX9_set 110 = .ok (.getfield 7, 3) := by decide +kernel
theorem dX9_set_113 : decode cX9_set 113 = .ok (.iconst 2, 1) := by decide +kernel
theorem dX9_set_114 : decode cX9_set 114 = .ok (.iload_n 3, 1) := by decide +kernel
theorem dX9_set_115 : decode cX9_set 115 = .ok (.i2l, 1) := by decide +kernel
theorem dX9_set_116 : decode cX9_set 116 = .ok (.lastore, 1) := by decide +kernel
theorem dX9_set_117 : decode cX9_set 117 = .ok (.aload_n 0, 1) := by decide +kernel
theorem dX9_set_118 : decode cX9_set 118 = .ok (.getfield 7, 3) := by decide +kernel
theorem dX9_set_121 : decode cX9_set 121 = .ok (.iconst 3, 1) := by decide +kernel
theorem dX9_set_122 : decode cX9_set 122 = .ok (.iload 4, 2) := by decide +kernel
theorem dX9_set_124 : decode cX9_set 124 = .ok (.i2l, 1) := by decide +kernel
theorem dX9_set_125 : decode cX9_set 125 = .ok (.lastore, 1) := by decide +kernel
theorem dX9_set_126 : decode cX9_set 126 = .ok (.iconst 1, 1) := by decide +kernel
theorem dX9_set_127 : decode cX9_set 127 = .ok (.ireturn, 1) := by decide +kernel
set_option maxRecDepth 20000 in
theorem ggX9_bend_X9_isPlace : GoodIn wsX9_bend wsX9_isPlace := goodIn_r _ [6, 7, 8, 5, 9] (by decide +kernel) (by decide +kernel)
set_option maxRecDepth 20000 in
theorem gX9_bend_X9_isPlace : GoodIn wsX9_bend (va_wsS RX9 77 yX9_isPlace wsX9_isPlace) := goodIn_app (goodIn_of _ (by decide +kernel)) ggX9_bend_X9_isPlace
theorem dX9_bend_0 : decode cX9_bend 0 = .ok (.iload_n 1, 1) := by decide +kernel
theorem dX9_bend_1 : decode cX9_bend 1 = .ok (.invokestatic 77, 3) := by decide +kernel
theorem dX9_bend_4 : decode cX9_bend 4 = .ok (.ifCond .eq 14, 3) := by decide +kernel
theorem dX9_bend_7 : decode cX9_bend 7 = .ok (.aload_n 0, 1) := by decide +kernel
theorem dX9_bend_8 : decode cX9_bend 8 = .ok (.getfield 7, 3) := by decide +kernel
theorem dX9_bend_11 : decode cX9_bend 11 = .ok (.iload_n 1, 1) := by decide +kernel
theorem dX9_bend_12 : decode cX9_bend 12 = .ok (.iconst 1, 1) := by decide +kernel
theorem dX9_bend_13 : decode cX9_bend 13 = .ok (.isub, 1) := by decide +kernel
theorem dX9_bend_14 : decode cX9_bend 14 = .ok (.laload, 1) := by decide +kernel
theorem dX9_bend_15 : decode cX9_bend 15 = .ok (.goto 6, 3) := by decide +kernel
theorem dX9_bend_18 : decode cX9_bend 18 = .ok (.ldc2_w 80, 3) := by decide +kernel
theorem dX9_bend_21 : decode cX9_bend 21 = .ok (.lreturn, 1) := by decide +kernel
theorem dX9_turnedIn_0 : decode cX9_turnedIn 0 = .ok (.ldc2_w 59, 3) := by decide +kernel
theorem dX9_turnedIn_3 : decode cX9_turnedIn 3 = .ok (.aload_n 0, 1) := by decide +kernel
theorem dX9_turnedIn_4 : decode cX9_turnedIn 4 = .ok (.iconst 0, 1) := by decide +kernel
theorem dX9_turnedIn_5 : decode cX9_turnedIn 5 = .ok (.laload, 1) := by decide +kernel
theorem dX9_turnedIn_6 : decode cX9_turnedIn 6 = .ok (.aload_n 0, 1) := by decide +kernel
theorem dX9_turnedIn_7 : decode cX9_turnedIn 7 = .ok (.iconst 1, 1) := by decide +kernel
theorem dX9_turnedIn_8 : decode cX9_turnedIn 8 = .ok (.laload, 1) := by decide +kernel
theorem dX9_turnedIn_9 : decode cX9_turnedIn 9 = .ok (.ladd, 1) := by decide +kernel
theorem dX9_turnedIn_10 : decode cX9_turnedIn 10 = .ok (.aload_n 0, 1) := by decide +kernel
theorem dX9_turnedIn_11 : decode cX9_turnedIn 11 = .ok (.iconst 2, 1) := by decide +kernel
theorem dX9_turnedIn_12 : decode cX9_turnedIn 12 = .ok (.laload, 1) := by decide +kernel
theorem dX9_turnedIn_13 : decode cX9_turnedIn 13 = .ok (.ladd, 1) := by decide +kernel
theorem dX9_turnedIn_14 : decode cX9_turnedIn 14 = .ok (.aload_n 0, 1) := by decide +kernel
theorem dX9_turnedIn_15 : decode cX9_turnedIn 15 = .ok (.iconst 3, 1) := by decide +kernel
theorem dX9_turnedIn_16 : decode cX9_turnedIn 16 = .ok (.laload, 1) := by decide +kernel
theorem dX9_turnedIn_17 : decode cX9_turnedIn 17 = .ok (.ladd, 1) := by decide +kernel
theorem dX9_turnedIn_18 : decode cX9_turnedIn 18 = .ok (.aload_n 0, 1) := by decide +kernel
theorem dX9_turnedIn_19 : decode cX9_turnedIn 19 = .ok (.iload_n 1, 1) := by decide +kernel
theorem dX9_turnedIn_20 : decode cX9_turnedIn 20 = .ok (.laload, 1) := by decide +kernel
theorem dX9_turnedIn_21 : decode cX9_turnedIn 21 = .ok (.lsub, 1) := by decide +kernel
theorem dX9_turnedIn_22 : decode cX9_turnedIn 22 = .ok (.lmul, 1) := by decide +kernel
theorem dX9_turnedIn_23 : decode cX9_turnedIn 23 = .ok (.aload_n 0, 1) := by decide +kernel
theorem dX9_turnedIn_24 : decode cX9_turnedIn 24 = .ok (.iload_n 1, 1) := by decide +kernel
theorem dX9_turnedIn_25 : decode cX9_turnedIn 25 = .ok (.laload, 1) := by decide +kernel
theorem dX9_turnedIn_26 : decode cX9_turnedIn 26 = .ok (.lsub, 1) := by decide +kernel
theorem dX9_turnedIn_27 : decode cX9_turnedIn 27 = .ok (.lreturn, 1) := by decide +kernel
set_option maxRecDepth 20000 in
theorem ggX9_turn_X9_isPlace : GoodIn wsX9_turn wsX9_isPlace := goodIn_r _ [7, 8, 9, 6, 10] (by decide +kernel) (by decide +kernel)
set_option maxRecDepth 20000 in
theorem gX9_turn_X9_isPlace : GoodIn wsX9_turn (va_wsS RX9 77 yX9_isPlace wsX9_isPlace) := goodIn_app (goodIn_of _ (by decide +kernel)) ggX9_turn_X9_isPlace
set_option maxRecDepth 20000 in
theorem ggX9_turn_X9_turnedIn : GoodIn wsX9_turn wsX9_turnedIn := goodIn_r _ [13, 14] (by decide +kernel) (by decide +kernel)
set_option maxRecDepth 20000 in
theorem gX9_turn_X9_turnedIn : GoodIn wsX9_turn (va_wsS RX9 82 yX9_turnedIn wsX9_turnedIn) := goodIn_app (goodIn_of _ (by decide +kernel)) ggX9_turn_X9_turnedIn
theorem dX9_turn_0 : decode cX9_turn 0 = .ok (.iload_n 1, 1) := by decide +kernel
theorem dX9_turn_1 : decode cX9_turn 1 = .ok (.invokestatic 77, 3) := by decide +kernel
theorem dX9_turn_4 : decode cX9_turn 4 = .ok (.ifCond .ne 5, 3) := by decide +kernel
theorem dX9_turn_7 : decode cX9_turn 7 = .ok (.iconst (-1), 1) := by decide +kernel
theorem dX9_turn_8 : decode cX9_turn 8 = .ok (.ireturn, 1) := by decide +kernel
theorem dX9_turn_9 : decode cX9_turn 9 = .ok (.aload_n 0, 1) := by decide +kernel
theorem dX9_turn_10 : decode cX9_turn 10 = .ok (.getfield 7, 3) := by decide +kernel
theorem dX9_turn_13 : decode cX9_turn 13 = .ok (.iload_n 1, 1) := by decide +kernel
theorem dX9_turn_14 : decode cX9_turn 14 = .ok (.iconst 1, 1) := by decide +kernel
theorem dX9_turn_15 : decode cX9_turn 15 = .ok (.isub, 1) := by decide +kernel
theorem dX9_turn_16 : decode cX9_turn 16 = .ok (.invokestatic 82, 3) := by decide +kernel
theorem dX9_turn_19 : decode cX9_turn 19 = .ok (.lstore_n 2, 1) := by decide +kernel
theorem dX9_turn_20 : decode cX9_turn 20 = .ok (.lload_n 2, 1) := by decide +kernel
theorem dX9_turn_21 : decode cX9_turn 21 = .ok (.ldc2_w 86, 3) := by decide +kernel
theorem dX9_turn_24 : decode cX9_turn 24 = .ok (.lcmp, 1) := by decide +kernel
theorem dX9_turn_25 : decode cX9_turn 25 = .ok (.ifCond .gt 11, 3) := by decide +kernel
theorem dX9_turn_28 : decode cX9_turn 28 = .ok (.lload_n 2, 1) := by decide +kernel
theorem dX9_turn_29 : decode cX9_turn 29 = .ok (.ldc2_w 88, 3) := by decide +kernel
theorem dX9_turn_32 : decode cX9_turn 32 = .ok (.lcmp, 1) := by decide +kernel
theorem dX9_turn_33 : decode cX9_turn 33 = .ok (.ifCond .ge 6, 3) := by decide +kernel
theorem dX9_turn_36 : decode cX9_turn 36 = .ok (.bipush (-5), 2) := by decide +kernel
theorem dX9_turn_38 : decode cX9_turn 38 = .ok (.ireturn, 1) := by decide +kernel
theorem dX9_turn_39 : decode cX9_turn 39 = .ok (.aload_n 0, 1) := by decide +kernel
theorem dX9_turn_40 : decode cX9_turn 40 = .ok (.getfield 7, 3) := by decide +kernel
theorem dX9_turn_43 : decode cX9_turn 43 = .ok (.iload_n 1, 1) := by decide +kernel
theorem dX9_turn_44 : decode cX9_turn 44 = .ok (.iconst 1, 1) := by decide +kernel
theorem dX9_turn_45 : decode cX9_turn 45 = .ok (.isub, 1) := by decide +kernel
theorem dX9_turn_46 : decode cX9_turn 46 = .ok (.lload_n 2, 1) := by decide +kernel
theorem dX9_turn_47 : decode cX9_turn 47 = .ok (.lastore, 1) := by decide +kernel
theorem dX9_turn_48 : decode cX9_turn 48 = .ok (.iconst 1, 1) := by decide +kernel
theorem dX9_turn_49 : decode cX9_turn 49 = .ok (.ireturn, 1) := by decide +kernel
theorem dX9_greatestIn_0 : decode cX9_greatestIn 0 = .ok (.iconst 0, 1) := by decide +kernel
theorem dX9_greatestIn_1 : decode cX9_greatestIn 1 = .ok (.istore_n 1, 1) := by decide +kernel
theorem dX9_greatestIn_2 : decode cX9_greatestIn 2 = .ok (.iconst 1, 1) := by decide +kernel
theorem dX9_greatestIn_3 : decode cX9_greatestIn 3 = .ok (.istore_n 2, 1) := by decide +kernel
theorem dX9_greatestIn_4 : decode cX9_greatestIn 4 = .ok (.iload_n 2, 1) := by decide +kernel
theorem dX9_greatestIn_5 : decode cX9_greatestIn 5 = .ok (.iconst 4, 1) := by decide +kernel
theorem dX9_greatestIn_6 : decode cX9_greatestIn 6 = .ok (.if_icmp .ge 25, 3) := by decide +kernel
theorem dX9_greatestIn_9 : decode cX9_greatestIn 9 = .ok (.aload_n 0, 1) := by decide +kernel
theorem dX9_greatestIn_10 : decode cX9_greatestIn 10 = .ok (.iload_n 2, 1) := by decide +kernel
theorem dX9_greatestIn_11 : decode cX9_greatestIn 11 = .ok (.laload, 1) := by decide +kernel
theorem dX9_greatestIn_12 : decode cX9_greatestIn 12 = .ok (.aload_n 0, 1) := by decide +kernel
theorem dX9_greatestIn_13 : decode cX9_greatestIn 13 = .ok (.iload_n 1, 1) := by decide +kernel
theorem dX9_greatestIn_14 : decode cX9_greatestIn 14 = .ok (.laload, 1) := by decide +kernel
theorem dX9_greatestIn_15 : decode cX9_greatestIn 15 = .ok (.lcmp, 1) := by decide +kernel
theorem dX9_greatestIn_16 : decode cX9_greatestIn 16 = .ok (.ifCond .le 7, 3) := by decide +kernel
theorem dX9_greatestIn_19 : decode cX9_greatestIn 19 = .ok (.iload_n 2, 1) := by decide +kernel
theorem dX9_greatestIn_20 : decode cX9_greatestIn 20 = .ok (.goto 4, 3) := by decide +kernel
theorem dX9_greatestIn_23 : decode cX9_greatestIn 23 = .ok (.iload_n 1, 1) := by decide +kernel
theorem dX9_greatestIn_24 : decode cX9_greatestIn 24 = .ok (.istore_n 1, 1) := by decide +kernel
theorem dX9_greatestIn_25 : decode cX9_greatestIn 25 = .ok (.iinc 2 1, 3) := by decide +kernel
theorem dX9_greatestIn_28 : decode cX9_greatestIn 28 = .ok (.goto (-24), 3) := by decide +kernel
theorem dX9_greatestIn_31 : decode cX9_greatestIn 31 = .ok (.iload_n 1, 1) := by decide +kernel
theorem dX9_greatestIn_32 : decode cX9_greatestIn 32 = .ok (.ireturn, 1) := by decide +kernel
theorem dX9_sortsRoot_0 : decode cX9_sortsRoot 0 = .ok (.iconst 0, 1) := by decide +kernel
theorem dX9_sortsRoot_1 : decode cX9_sortsRoot 1 = .ok (.istore_n 1, 1) := by decide +kernel
theorem dX9_sortsRoot_2 : decode cX9_sortsRoot 2 = .ok (.iload_n 1, 1) := by decide +kernel
theorem dX9_sortsRoot_3 : decode cX9_sortsRoot 3 = .ok (.iconst 4, 1) := by decide +kernel
theorem dX9_sortsRoot_4 : decode cX9_sortsRoot 4 = .ok (.if_icmp .ge 79, 3) := by decide +kernel
theorem dX9_sortsRoot_7 : decode cX9_sortsRoot 7 = .ok (.iconst 0, 1) := by decide +kernel
theorem dX9_sortsRoot_8 : decode cX9_sortsRoot 8 = .ok (.istore_n 2, 1) := by decide +kernel
theorem dX9_sortsRoot_9 : decode cX9_sortsRoot 9 = .ok (.iload_n 2, 1) := by decide +kernel
theorem dX9_sortsRoot_10 : decode cX9_sortsRoot 10 = .ok (.iconst 3, 1) := by decide +kernel
theorem dX9_sortsRoot_11 : decode cX9_sortsRoot 11 = .ok (.if_icmp .ge 66, 3) := by decide +kernel
theorem dX9_sortsRoot_14 : decode cX9_sortsRoot 14 = .ok (.aload_n 0, 1) := by decide +kernel
theorem dX9_sortsRoot_15 : decode cX9_sortsRoot 15 = .ok (.getfield 13, 3) := by decide +kernel
theorem dX9_sortsRoot_18 : decode cX9_sortsRoot 18 = .ok (.iload_n 2, 1) := by decide +kernel
theorem dX9_sortsRoot_19 : decode cX9_sortsRoot 19 = .ok (.laload, 1) := by decide +kernel
theorem dX9_sortsRoot_20 : decode cX9_sortsRoot 20 = .ok (.lstore_n 3, 1) := by decide +kernel
theorem dX9_sortsRoot_21 : decode cX9_sortsRoot 21 = .ok (.aload_n 0, 1) := by decide +kernel
theorem dX9_sortsRoot_22 : decode cX9_sortsRoot 22 = .ok (.getfield 13, 3) := by decide +kernel
theorem dX9_sortsRoot_25 : decode cX9_sortsRoot 25 = .ok (.iload_n 2, 1) := by decide +kernel
theorem dX9_sortsRoot_26 : decode cX9_sortsRoot 26 = .ok (.iconst 1, 1) := by decide +kernel
theorem dX9_sortsRoot_27 : decode cX9_sortsRoot 27 = .ok (.iadd, 1) := by decide +kernel
theorem dX9_sortsRoot_28 : decode cX9_sortsRoot 28 = .ok (.laload, 1) := by decide +kernel
theorem dX9_sortsRoot_29 : decode cX9_sortsRoot 29 = .ok (.lstore 5, 2) := by decide +kernel
theorem dX9_sortsRoot_31 : decode cX9_sortsRoot 31 = .ok (.aload_n 0, 1) := by decide +kernel
theorem dX9_sortsRoot_32 : decode cX9_sortsRoot 32 = .ok (.getfield 13, 3) := by decide +kernel
theorem dX9_sortsRoot_35 : decode cX9_sortsRoot 35 = .ok (.iload_n 2, 1) := by decide +kernel
theorem dX9_sortsRoot_36 : decode cX9_sortsRoot 36 = .ok (.lload_n 3, 1) := by decide +kernel
theorem dX9_sortsRoot_37 : decode cX9_sortsRoot 37 = .ok (.lload 5, 2) := by decide +kernel
theorem dX9_sortsRoot_39 : decode cX9_sortsRoot 39 = .ok (.lcmp, 1) := by decide +kernel
theorem dX9_sortsRoot_40 : decode cX9_sortsRoot 40 = .ok (.ifCond .ge 7, 3) := by decide +kernel
theorem dX9_sortsRoot_43 : decode cX9_sortsRoot 43 = .ok (.lload_n 3, 1) := by decide +kernel
theorem dX9_sortsRoot_44 : decode cX9_sortsRoot 44 = .ok (.goto 5, 3) := by decide +kernel
theorem dX9_sortsRoot_47 : decode cX9_sortsRoot 47 = .ok (.lload 5, 2) := by decide +kernel
theorem dX9_sortsRoot_49 : decode cX9_sortsRoot 49 = .ok (.lastore, 1) := by decide +kernel
theorem dX9_sortsRoot_50 : decode cX9_sortsRoot 50 = .ok (.aload_n 0, 1) := by decide +kernel
theorem dX9_sortsRoot_51 : decode cX9_sortsRoot 51 = .ok (.getfield 13, 3) := by decide +kernel
theorem dX9_sortsRoot_54 : decode cX9_sortsRoot 54 = .ok (.iload_n 2, 1) := by decide +kernel
theorem dX9_sortsRoot_55 : decode cX9_sortsRoot 55 = .ok (.iconst 1, 1) := by decide +kernel
theorem dX9_sortsRoot_56 : decode cX9_sortsRoot 56 = .ok (.iadd, 1) := by decide +kernel
theorem dX9_sortsRoot_57 : decode cX9_sortsRoot 57 = .ok (.lload_n 3, 1) := by decide +kernel
theorem dX9_sortsRoot_58 : decode cX9_sortsRoot 58 = .ok (.lload 5, 2) := by decide +kernel
theorem dX9_sortsRoot_60 : decode cX9_sortsRoot 60 = .ok (.lcmp, 1) := by decide +kernel
theorem dX9_sortsRoot_61 : decode cX9_sortsRoot 61 = .ok (.ifCond .ge 8, 3) := by decide +kernel
theorem dX9_sortsRoot_64 : decode cX9_sortsRoot 64 = .ok (.lload 5, 2) := by decide +kernel
theorem dX9_sortsRoot_66 : decode cX9_sortsRoot 66 = .ok (.goto 4, 3) := by decide +kernel
theorem dX9_sortsRoot_69 : decode cX9_sortsRoot 69 = .ok (.lload_n 3, 1) := by decide +kernel
theorem dX9_sortsRoot_70 : decode cX9_sortsRoot 70 = .ok (.lastore, 1) := by decide +kernel
theorem dX9_sortsRoot_71 : decode cX9_sortsRoot 71 = .ok (.iinc 2 1, 3) := by decide +kernel
theorem dX9_sortsRoot_74 : decode cX9_sortsRoot 74 = .ok (.goto (-65), 3) := by decide +kernel
theorem dX9_sortsRoot_77 : decode cX9_sortsRoot 77 = .ok (.iinc 1 1, 3) := by decide +kernel
theorem dX9_sortsRoot_80 : decode cX9_sortsRoot 80 = .ok (.goto (-78), 3) := by decide +kernel
theorem dX9_sortsRoot_83 : decode cX9_sortsRoot 83 = .ok (.return_, 1) := by decide +kernel
set_option maxRecDepth 20000 in
theorem ggX9_findRoot_X9_greatestIn : GoodIn wsX9_findRoot wsX9_greatestIn := goodIn_r _ [7] (by decide +kernel) (by decide +kernel)
set_option maxRecDepth 20000 in
theorem gX9_findRoot_X9_greatestIn : GoodIn wsX9_findRoot (va_wsS RX9 94 yX9_greatestIn wsX9_greatestIn) := goodIn_app (goodIn_of _ (by decide +kernel)) ggX9_findRoot_X9_greatestIn
set_option maxRecDepth 20000 in
theorem ggX9_findRoot_X9_turnedIn : GoodIn wsX9_findRoot wsX9_turnedIn := goodIn_r _ [10, 11] (by decide +kernel) (by decide +kernel)
set_option maxRecDepth 20000 in
theorem gX9_findRoot_X9_turnedIn : GoodIn wsX9_findRoot (va_wsS RX9 82 yX9_turnedIn wsX9_turnedIn) := goodIn_app (goodIn_of _ (by decide +kernel)) ggX9_findRoot_X9_turnedIn
set_option maxRecDepth 20000 in
theorem ggX9_findRoot_X9_sortsRoot : GoodIn wsX9_findRoot wsX9_sortsRoot := goodIn_r _ [15, 1, 16, 17, 18, 19, 20, 21, 22, 23, 24, 25, 26, 27, 28, 29, 30, 31, 32] (by decide +kernel) (by decide +kernel)
set_option maxRecDepth 20000 in
theorem gX9_findRoot_X9_sortsRoot : GoodIn wsX9_findRoot (wsV RX9 98 RX9 yX9_sortsRoot wsX9_sortsRoot) := goodIn_app (goodIn_of _ (by decide +kernel)) ggX9_findRoot_X9_sortsRoot
theorem dX9_findRoot_0 : decode cX9_findRoot 0 = .ok (.iconst 0, 1) := by decide +kernel
theorem dX9_findRoot_1 : decode cX9_findRoot 1 = .ok (.istore_n 2, 1) := by decide +kernel
theorem dX9_findRoot_2 : decode cX9_findRoot 2 = .ok (.iload_n 2, 1) := by decide +kernel
theorem dX9_findRoot_3 : decode cX9_findRoot 3 = .ok (.iconst 4, 1) := by decide +kernel
theorem dX9_findRoot_4 : decode cX9_findRoot 4 = .ok (.if_icmp .ge 21, 3) := by decide +kernel
theorem dX9_findRoot_7 : decode cX9_findRoot 7 = .ok (.aload_n 0, 1) := by decide +kernel
theorem dX9_findRoot_8 : decode cX9_findRoot 8 = .ok (.getfield 13, 3) := by decide +kernel
theorem dX9_findRoot_11 : decode cX9_findRoot 11 = .ok (.iload_n 2, 1) := by decide +kernel
theorem dX9_findRoot_12 : decode cX9_findRoot 12 = .ok (.aload_n 0, 1) := by decide +kernel
theorem dX9_findRoot_13 : decode cX9_findRoot 13 = .ok (.getfield 7, 3) := by decide +kernel
theorem dX9_findRoot_16 : decode cX9_findRoot 16 = .ok (.iload_n 2, 1) := by decide +kernel
theorem dX9_findRoot_17 : decode cX9_findRoot 17 = .ok (.laload, 1) := by decide +kernel
theorem dX9_findRoot_18 : decode cX9_findRoot 18 = .ok (.lastore, 1) := by decide +kernel
theorem dX9_findRoot_19 : decode cX9_findRoot 19 = .ok (.iinc 2 1, 3) := by decide +kernel
theorem dX9_findRoot_22 : decode cX9_findRoot 22 = .ok (.goto (-20), 3) := by decide +kernel
theorem dX9_findRoot_25 : decode cX9_findRoot 25 = .ok (.aload_n 0, 1) := by decide +kernel
theorem dX9_findRoot_26 : decode cX9_findRoot 26 = .ok (.bipush (-9), 2) := by decide +kernel
theorem dX9_findRoot_28 : decode cX9_findRoot 28 = .ok (.putfield 90, 3) := by decide +kernel
theorem dX9_findRoot_31 : decode cX9_findRoot 31 = .ok (.iconst 0, 1) := by decide +kernel
theorem dX9_findRoot_32 : decode cX9_findRoot 32 = .ok (.istore_n 2, 1) := by decide +kernel
theorem dX9_findRoot_33 : decode cX9_findRoot 33 = .ok (.aload_n 0, 1) := by decide +kernel
theorem dX9_findRoot_34 : decode cX9_findRoot 34 = .ok (.getfield 13, 3) := by decide +kernel
theorem dX9_findRoot_37 : decode cX9_findRoot 37 = .ok (.invokestatic 94, 3) := by decide +kernel
theorem dX9_findRoot_40 : decode cX9_findRoot 40 = .ok (.istore_n 3, 1) := by decide +kernel
theorem dX9_findRoot_41 : decode cX9_findRoot 41 = .ok (.aload_n 0, 1) := by decide +kernel
theorem dX9_findRoot_42 : decode cX9_findRoot 42 = .ok (.getfield 13, 3) := by decide +kernel
theorem dX9_findRoot_45 : decode cX9_findRoot 45 = .ok (.iload_n 3, 1) := by decide +kernel
theorem dX9_findRoot_46 : decode cX9_findRoot 46 = .ok (.invokestatic 82, 3) := by decide +kernel
theorem dX9_findRoot_49 : decode cX9_findRoot 49 = .ok (.aload_n 0, 1) := by decide +kernel
theorem dX9_findRoot_50 : decode cX9_findRoot 50 = .ok (.getfield 13, 3) := by decide +kernel
theorem dX9_findRoot_53 : decode cX9_findRoot 53 = .ok (.iload_n 3, 1) := by decide +kernel
theorem dX9_findRoot_54 : decode cX9_findRoot 54 = .ok (.laload, 1) := by decide +kernel
theorem dX9_findRoot_55 : decode cX9_findRoot 55 = .ok (.lcmp, 1) := by decide +kernel
theorem dX9_findRoot_56 : decode cX9_findRoot 56 = .ok (.ifCond .ge 50, 3) := by decide +kernel
theorem dX9_findRoot_59 : decode cX9_findRoot 59 = .ok (.aload_n 0, 1) := by decide +kernel
theorem dX9_findRoot_60 : decode cX9_findRoot 60 = .ok (.getfield 13, 3) := by decide +kernel
theorem dX9_findRoot_63 : decode cX9_findRoot 63 = .ok (.iload_n 3, 1) := by decide +kernel
theorem dX9_findRoot_64 : decode cX9_findRoot 64 = .ok (.aload_n 0, 1) := by decide +kernel
theorem dX9_findRoot_65 : decode cX9_findRoot 65 = .ok (.getfield 13, 3) := by decide +kernel
theorem dX9_findRoot_68 : decode cX9_findRoot 68 = .ok (.iload_n 3, 1) := by decide +kernel
theorem dX9_findRoot_69 : decode cX9_findRoot 69 = .ok (.invokestatic 82, 3) := by decide +kernel
theorem dX9_findRoot_72 : decode cX9_findRoot 72 = .ok (.lastore, 1) := by decide +kernel
theorem dX9_findRoot_73 : decode cX9_findRoot 73 = .ok (.aload_n 0, 1) := by decide +kernel
theorem dX9_findRoot_74 : decode cX9_findRoot 74 = .ok (.iload_n 2, 1) := by decide +kernel
theorem dX9_findRoot_75 : decode cX9_findRoot 75 = .ok (.iload_n 1, 1) := by decide +kernel
theorem dX9_findRoot_76 : decode cX9_findRoot 76 = .ok (.if_icmp .ne 9, 3) := by decide +kernel
theorem dX9_findRoot_79 : decode cX9_findRoot 79 = .ok (.iload_n 3, 1) := by decide +kernel
theorem dX9_findRoot_80 : decode cX9_findRoot 80 = .ok (.iconst 1, 1) := by decide +kernel
theorem dX9_findRoot_81 : decode cX9_findRoot 81 = .ok (.iadd, 1) := by decide +kernel
theorem dX9_findRoot_82 : decode cX9_findRoot 82 = .ok (.goto 7, 3) := by decide +kernel
theorem dX9_findRoot_85 : decode cX9_findRoot 85 = .ok (.aload_n 0, 1) := by decide +kernel
theorem dX9_findRoot_86 : decode cX9_findRoot 86 = .ok (.getfield 90, 3) := by decide +kernel
theorem dX9_findRoot_89 : decode cX9_findRoot 89 = .ok (.putfield 90, 3) := by decide +kernel
theorem dX9_findRoot_92 : decode cX9_findRoot 92 = .ok (.iinc 2 1, 3) := by decide +kernel
theorem dX9_findRoot_95 : decode cX9_findRoot 95 = .ok (.aload_n 0, 1) := by decide +kernel
theorem dX9_findRoot_96 : decode cX9_findRoot 96 = .ok (.getfield 13, 3) := by decide +kernel
theorem dX9_findRoot_99 : decode cX9_findRoot 99 = .ok (.invokestatic 94, 3) := by decide +kernel
theorem dX9_findRoot_102 : decode cX9_findRoot 102 = .ok (.istore_n 3, 1) := by decide +kernel
theorem dX9_findRoot_103 : decode cX9_findRoot 103 = .ok (.goto (-62), 3) := by decide +kernel
theorem dX9_findRoot_106 : decode cX9_findRoot 106 = .ok (.aload_n 0, 1) := by decide +kernel
theorem dX9_findRoot_107 : decode cX9_findRoot 107 = .ok (.invokevirtual 98, 3) := by decide +kernel
theorem dX9_findRoot_110 : decode cX9_findRoot 110 = .ok (.iload_n 2, 1) := by decide +kernel
theorem dX9_findRoot_111 : decode cX9_findRoot 111 = .ok (.ireturn, 1) := by decide +kernel
set_option maxRecDepth 20000 in
theorem ggX9_steps_X9_findRoot : GoodIn wsX9_steps wsX9_findRoot := goodIn_r _ [5, 6, 7, 8, 9, 10, 4, 11, 12, 13, 14, 15, 16, 17, 18, 19, 20, 21, 22, 23, 24, 25, 26, 27, 28, 29, 30, 31, 32, 33, 34, 35, 36] (by decide +kernel) (by decide +kernel)
set_option maxRecDepth 20000 in
theorem gX9_steps_X9_findRoot : GoodIn wsX9_steps (wsV RX9 101 RX9 yX9_findRoot wsX9_findRoot) := goodIn_app (goodIn_of _ (by decide +kernel)) ggX9_steps_X9_findRoot
theorem dX9_steps_0 : decode cX9_steps 0 = .ok (.aload_n 0, 1) := by decide +kernel
theorem dX9_steps_1 : decode cX9_steps 1 = .ok (.bipush (-9), 2) := by decide +kernel
theorem dX9_steps_3 : decode cX9_steps 3 = .ok (.invokevirtual 101, 3) := by decide +kernel
theorem dX9_steps_6 : decode cX9_steps 6 = .ok (.ireturn, 1) := by decide +kernel
set_option maxRecDepth 20000 in
theorem ggX9_step_X9_findRoot : GoodIn wsX9_step wsX9_findRoot := goodIn_r _ [6, 7, 8, 1, 9, 10, 5, 11, 12, 13, 14, 15, 16, 17, 18, 19, 20, 21, 22, 23, 24, 25, 26, 27, 28, 29, 30, 31, 32, 33, 34, 35, 36] (by decide +kernel) (by decide +kernel)
set_option maxRecDepth 20000 in
theorem gX9_step_X9_findRoot : GoodIn wsX9_step (wsV RX9 101 RX9 yX9_findRoot wsX9_findRoot) := goodIn_app (goodIn_of _ (by decide +kernel)) ggX9_step_X9_findRoot
theorem dX9_step_0 : decode cX9_step 0 = .ok (.iload_n 1, 1) := by decide +kernel
theorem dX9_step_1 : decode cX9_step 1 = .ok (.ifCond .ge 6, 3) := by decide +kernel
theorem dX9_step_4 : decode cX9_step 4 = .ok (.bipush (-2), 2) := by decide +kernel
theorem dX9_step_6 : decode cX9_step 6 = .ok (.ireturn, 1) := by decide +kernel
theorem dX9_step_7 : decode cX9_step 7 = .ok (.aload_n 0, 1) := by decide +kernel
theorem dX9_step_8 : decode cX9_step 8 = .ok (.iload_n 1, 1) := by decide +kernel
theorem dX9_step_9 : decode cX9_step 9 = .ok (.invokevirtual 101, 3) := by decide +kernel
theorem dX9_step_12 : decode cX9_step 12 = .ok (.pop, 1) := by decide +kernel
theorem dX9_step_13 : decode cX9_step 13 = .ok (.aload_n 0, 1) := by decide +kernel
theorem dX9_step_14 : decode cX9_step 14 = .ok (.getfield 90, 3) := by decide +kernel
theorem dX9_step_17 : decode cX9_step 17 = .ok (.ireturn, 1) := by decide +kernel
set_option maxRecDepth 20000 in
theorem ggX9_root_X9_within : GoodIn wsX9_root wsX9_within := goodIn_r _ [6] (by decide +kernel) (by decide +kernel)
set_option maxRecDepth 20000 in
theorem gX9_root_X9_within : GoodIn wsX9_root (va_wsS RX9 63 yX9_within wsX9_within) := goodIn_app (goodIn_of _ (by decide +kernel)) ggX9_root_X9_within
set_option maxRecDepth 20000 in
theorem ggX9_root_X9_findRoot : GoodIn wsX9_root wsX9_findRoot := goodIn_r _ [10, 2, 11, 12, 13, 14, 5, 15, 16, 17, 18, 19, 20, 21, 22, 23, 24, 25, 26, 27, 28, 29, 30, 31, 32, 33, 34, 35, 36, 37, 38, 39, 40] (by decide +kernel) (by decide +kernel)
set_option maxRecDepth 20000 in
theorem gX9_root_X9_findRoot : GoodIn wsX9_root (wsV RX9 101 RX9 yX9_findRoot wsX9_findRoot) := goodIn_app (goodIn_of _ (by decide +kernel)) ggX9_root_X9_findRoot
theorem dX9_root_0 : decode cX9_root 0 = .ok (.iload_n 1, 1) := by decide +kernel
theorem dX9_root_1 : decode cX9_root 1 = .ok (.iconst 0, 1) := by decide +kernel
theorem dX9_root_2 : decode cX9_root 2 = .ok (.iconst 3, 1) := by decide +kernel
theorem dX9_root_3 : decode cX9_root 3 = .ok (.invokestatic 63, 3) := by decide +kernel
theorem dX9_root_6 : decode cX9_root 6 = .ok (.ifCond .ne 7, 3) := by decide +kernel
theorem dX9_root_9 : decode cX9_root 9 = .ok (.ldc2_w 80, 3) := by decide +kernel
theorem dX9_root_12 : decode cX9_root 12 = .ok (.lreturn, 1) := by decide +kernel
theorem dX9_root_13 : decode cX9_root 13 = .ok (.aload_n 0, 1) := by decide +kernel
theorem dX9_root_14 : decode cX9_root 14 = .ok (.bipush (-9), 2) := by decide +kernel
theorem dX9_root_16 : decode cX9_root 16 = .ok (.invokevirtual 101, 3) := by decide +kernel
theorem dX9_root_19 : decode cX9_root 19 = .ok (.pop, 1) := by decide +kernel
theorem dX9_root_20 : decode cX9_root 20 = .ok (.aload_n 0, 1) := by decide +kernel
theorem dX9_root_21 : decode cX9_root 21 = .ok (.getfield 13, 3) := by decide +kernel
theorem dX9_root_24 : decode cX9_root 24 = .ok (.iload_n 1, 1) := by decide +kernel
theorem dX9_root_25 : decode cX9_root 25 = .ok (.laload, 1) := by decide +kernel
theorem dX9_root_26 : decode cX9_root 26 = .ok (.lreturn, 1) := by decide +kernel
theorem dX9_common_0 : decode cX9_common 0 = .ok (.lconst 0, 1) := by decide +kernel
theorem dX9_common_1 : decode cX9_common 1 = .ok (.lstore_n 1, 1) := by decide +kernel
theorem dX9_common_2 : decode cX9_common 2 = .ok (.iconst 0, 1) := by decide +kernel
theorem dX9_common_3 : decode cX9_common 3 = .ok (.istore_n 3, 1) := by decide +kernel
theorem dX9_common_4 : decode cX9_common 4 = .ok (.iload_n 3, 1) := by decide +kernel
theorem dX9_common_5 : decode cX9_common 5 = .ok (.iconst 4, 1) := by decide +kernel
theorem dX9_common_6 : decode cX9_common 6 = .ok (.if_icmp .ge 61, 3) := by decide +kernel
theorem dX9_common_9 : decode cX9_common 9 = .ok (.aload_n 0, 1) := by decide +kernel
theorem dX9_common_10 : decode cX9_common 10 = .ok (.getfield 7, 3) := by decide +kernel
theorem dX9_common_13 : decode cX9_common 13 = .ok (.iload_n 3, 1) := by decide +kernel
theorem dX9_common_14 : decode cX9_common 14 = .ok (.laload, 1) := by decide +kernel
theorem dX9_common_15 : decode cX9_common 15 = .ok (.lconst 0, 1) := by decide +kernel
theorem dX9_common_16 : decode cX9_common 16 = .ok (.lcmp, 1) := by decide +kernel
theorem dX9_common_17 : decode cX9_common 17 = .ok (.ifCond .ge 13, 3) := by decide +kernel
theorem dX9_common_20 : decode cX9_common 20 = .ok (.aload_n 0, 1) := by decide +kernel
theorem dX9_common_21 : decode cX9_common 21 = .ok (.getfield 7, 3) := by decide +kernel
theorem dX9_common_24 : decode cX9_common 24 = .ok (.iload_n 3, 1) := by decide +kernel
theorem dX9_common_25 : decode cX9_common 25 = .ok (.laload, 1) := by decide +kernel
theorem dX9_common_26 : decode cX9_common 26 = .ok (.lneg, 1) := by decide +kernel
theorem dX9_common_27 : decode cX9_common 27 = .ok (.goto 9, 3) := by decide +kernel
theorem dX9_common_30 : decode cX9_common 30 = .ok (.aload_n 0, 1) := by decide +kernel
theorem dX9_common_31 : decode cX9_common 31 = .ok (.getfield 7, 3) := by decide +kernel
theorem dX9_common_34 : decode cX9_common 34 = .ok (.iload_n 3, 1) := by decide +kernel
theorem dX9_common_35 : decode cX9_common 35 = .ok (.laload, 1) := by decide +kernel
theorem dX9_common_36 : decode cX9_common 36 = .ok (.lstore 4, 2) := by decide +kernel
theorem dX9_common_38 : decode cX9_common 38 = .ok (.lload 4, 2) := by decide +kernel
theorem dX9_common_40 : decode cX9_common 40 = .ok (.lconst 0, 1) := by decide +kernel
theorem dX9_common_41 : decode cX9_common 41 = .ok (.lcmp, 1) := by decide +kernel
theorem dX9_common_42 : decode cX9_common 42 = .ok (.ifCond .le 19, 3) := by decide +kernel
theorem dX9_common_45 : decode cX9_common 45 = .ok (.lload_n 1, 1) := by decide +kernel
theorem dX9_common_46 : decode cX9_common 46 = .ok (.lload 4, 2) := by decide +kernel
theorem dX9_common_48 : decode cX9_common 48 = .ok (.lrem, 1) := by decide +kernel
theorem dX9_common_49 : decode cX9_common 49 = .ok (.lstore 6, 2) := by decide +kernel
theorem dX9_common_51 : decode cX9_common 51 = .ok (.lload 4, 2) := by decide +kernel
theorem dX9_common_53 : decode cX9_common 53 = .ok (.lstore_n 1, 1) := by decide +kernel
theorem dX9_common_54 : decode cX9_common 54 = .ok (.lload 6, 2) := by decide +kernel
theorem dX9_common_56 : decode cX9_common 56 = .ok (.lstore 4, 2) := by decide +kernel
theorem dX9_common_58 : decode cX9_common 58 = .ok (.goto (-20), 3) := by decide +kernel
theorem dX9_common_61 : decode cX9_common 61 = .ok (.iinc 3 1, 3) := by decide +kernel
theorem dX9_common_64 : decode cX9_common 64 = .ok (.goto (-60), 3) := by decide +kernel
theorem dX9_common_67 : decode cX9_common 67 = .ok (.lload_n 1, 1) := by decide +kernel
theorem dX9_common_68 : decode cX9_common 68 = .ok (.l2i, 1) := by decide +kernel
theorem dX9_common_69 : decode cX9_common 69 = .ok (.ireturn, 1) := by decide +kernel
set_option maxRecDepth 20000 in
theorem ggX9_isBound_X9_findRoot : GoodIn wsX9_isBound wsX9_findRoot := goodIn_r _ [6, 1, 7, 8, 9, 10, 5, 11, 12, 13, 14, 15, 16, 17, 18, 19, 20, 21, 22, 23, 24, 25, 26, 27, 28, 29, 30, 31, 32, 33, 34, 35, 36] (by decide +kernel) (by decide +kernel)
set_option maxRecDepth 20000 in
theorem gX9_isBound_X9_findRoot : GoodIn wsX9_isBound (wsV RX9 101 RX9 yX9_findRoot wsX9_findRoot) := goodIn_app (goodIn_of _ (by decide +kernel)) ggX9_isBound_X9_findRoot
theorem dX9_isBound_0 : decode cX9_isBound 0 = .ok (.aload_n 0, 1) := by decide +kernel
theorem dX9_isBound_1 : decode cX9_isBound 1 = .ok (.bipush (-9), 2) := by decide +kernel
theorem dX9_isBound_3 : decode cX9_isBound 3 = .ok (.invokevirtual 101, 3) := by decide +kernel
theorem dX9_isBound_6 : decode cX9_isBound 6 = .ok (.pop, 1) := by decide +kernel
theorem dX9_isBound_7 : decode cX9_isBound 7 = .ok (.aload_n 0, 1) := by decide +kernel
theorem dX9_isBound_8 : decode cX9_isBound 8 = .ok (.getfield 13, 3) := by decide +kernel
theorem dX9_isBound_11 : decode cX9_isBound 11 = .ok (.iconst 0, 1) := by decide +kernel
theorem dX9_isBound_12 : decode cX9_isBound 12 = .ok (.laload, 1) := by decide +kernel
theorem dX9_isBound_13 : decode cX9_isBound 13 = .ok (.lconst 0, 1) := by decide +kernel
theorem dX9_isBound_14 : decode cX9_isBound 14 = .ok (.lcmp, 1) := by decide +kernel
theorem dX9_isBound_15 : decode cX9_isBound 15 = .ok (.ifCond .ge 7, 3) := by decide +kernel
theorem dX9_isBound_18 : decode cX9_isBound 18 = .ok (.iconst 1, 1) := by decide +kernel
theorem dX9_isBound_19 : decode cX9_isBound 19 = .ok (.goto 4, 3) := by decide +kernel
theorem dX9_isBound_22 : decode cX9_isBound 22 = .ok (.iconst 0, 1) := by decide +kernel
theorem dX9_isBound_23 : decode cX9_isBound 23 = .ok (.ireturn, 1) := by decide +kernel
theorem dX9_countsBend_0 : decode cX9_countsBend 0 = .ok (.aload_n 0, 1) := by decide +kernel
theorem dX9_countsBend_1 : decode cX9_countsBend 1 = .ok (.dup, 1) := by decide +kernel
theorem dX9_countsBend_2 : decode cX9_countsBend 2 = .ok (.getfield 105, 3) := by decide +kernel
theorem dX9_countsBend_5 : decode cX9_countsBend 5 = .ok (.lload_n 1, 1) := by decide +kernel
theorem dX9_countsBend_6 : decode cX9_countsBend 6 = .ok (.lload_n 3, 1) := by decide +kernel
theorem dX9_countsBend_7 : decode cX9_countsBend 7 = .ok (.lcmp, 1) := by decide +kernel
theorem dX9_countsBend_8 : decode cX9_countsBend 8 = .ok (.ifCond .ne 7, 3) := by decide +kernel
theorem dX9_countsBend_11 : decode cX9_countsBend 11 = .ok (.iconst 1, 1) := by decide +kernel
theorem dX9_countsBend_12 : decode cX9_countsBend 12 = .ok (.goto 4, 3) := by decide +kernel
theorem dX9_countsBend_15 : decode cX9_countsBend 15 = .ok (.iconst 0, 1) := by decide +kernel
theorem dX9_countsBend_16 : decode cX9_countsBend 16 = .ok (.iadd, 1) := by decide +kernel
theorem dX9_countsBend_17 : decode cX9_countsBend 17 = .ok (.putfield 105, 3) := by decide +kernel
theorem dX9_countsBend_20 : decode cX9_countsBend 20 = .ok (.lload_n 1, 1) := by decide +kernel
theorem dX9_countsBend_21 : decode cX9_countsBend 21 = .ok (.lconst 0, 1) := by decide +kernel
theorem dX9_countsBend_22 : decode cX9_countsBend 22 = .ok (.lcmp, 1) := by decide +kernel
theorem dX9_countsBend_23 : decode cX9_countsBend 23 = .ok (.ifCond .lt 19, 3) := by decide +kernel
theorem dX9_countsBend_26 : decode cX9_countsBend 26 = .ok (.lload_n 1, 1) := by decide +kernel
theorem dX9_countsBend_27 : decode cX9_countsBend 27 = .ok (.ldc2_w 108, 3) := by decide +kernel
theorem dX9_countsBend_30 : decode cX9_countsBend 30 = .ok (.lcmp, 1) := by decide +kernel
theorem dX9_countsBend_31 : decode cX9_countsBend 31 = .ok (.ifCond .gt 11, 3) := by decide +kernel
theorem dX9_countsBend_34 : decode cX9_countsBend 34 = .ok (.aload_n 0, 1) := by decide +kernel
theorem dX9_countsBend_35 : decode cX9_countsBend 35 = .ok (.getfield 26, 3) := by decide +kernel
theorem dX9_countsBend_38 : decode cX9_countsBend 38 = .ok (.lload_n 1, 1) := by decide +kernel
theorem dX9_countsBend_39 : decode cX9_countsBend 39 = .ok (.l2i, 1) := by decide +kernel
theorem dX9_countsBend_40 : decode cX9_countsBend 40 = .ok (.iconst 1, 1) := by decide +kernel
theorem dX9_countsBend_41 : decode cX9_countsBend 41 = .ok (.bastore, 1) := by decide +kernel
theorem dX9_countsBend_42 : decode cX9_countsBend 42 = .ok (.return_, 1) := by decide +kernel
theorem dX9_turnedOn_0 : decode cX9_turnedOn 0 = .ok (.lconst 0, 1) := by decide +kernel
theorem dX9_turnedOn_1 : decode cX9_turnedOn 1 = .ok (.lstore_n 3, 1) := by decide +kernel
theorem dX9_turnedOn_2 : decode cX9_turnedOn 2 = .ok (.iconst 0, 1) := by decide +kernel
theorem dX9_turnedOn_3 : decode cX9_turnedOn 3 = .ok (.istore 5, 2) := by decide +kernel
theorem dX9_turnedOn_5 : decode cX9_turnedOn 5 = .ok (.iload 5, 2) := by decide +kernel
theorem dX9_turnedOn_7 : decode cX9_turnedOn 7 = .ok (.iconst 4, 1) := by decide +kernel
theorem dX9_turnedOn_8 : decode cX9_turnedOn 8 = .ok (.if_icmp .ge 23, 3) := by decide +kernel
theorem dX9_turnedOn_11 : decode cX9_turnedOn 11 = .ok (.lload_n 3, 1) := by decide +kernel
theorem dX9_turnedOn_12 : decode cX9_turnedOn 12 = .ok (.aload_n 0, 1) := by decide +kernel
theorem dX9_turnedOn_13 : decode cX9_turnedOn 13 = .ok (.getfield 16, 3) := by decide +kernel
theorem dX9_turnedOn_16 : decode cX9_turnedOn 16 = .ok (.iconst 4, 1) := by decide +kernel
theorem dX9_turnedOn_17 : decode cX9_turnedOn 17 = .ok (.iload_n 1, 1) := by decide +kernel
theorem dX9_turnedOn_18 : decode cX9_turnedOn 18 = .ok (.imul, 1) := by decide +kernel
theorem dX9_turnedOn_19 : decode cX9_turnedOn 19 = .ok (.iload 5, 2) := by decide +kernel
theorem dX9_turnedOn_21 : decode cX9_turnedOn 21 = .ok (.iadd, 1) := by decide +kernel
theorem dX9_turnedOn_22 : decode cX9_turnedOn 22 = .ok (.laload, 1) := by decide +kernel
theorem dX9_turnedOn_23 : decode cX9_turnedOn 23 = .ok (.ladd, 1) := by decide +kernel
theorem dX9_turnedOn_24 : decode cX9_turnedOn 24 = .ok (.lstore_n 3, 1) := by decide +kernel
theorem dX9_turnedOn_25 : decode cX9_turnedOn 25 = .ok (.iinc 5 1, 3) := by decide +kernel
theorem dX9_turnedOn_28 : decode cX9_turnedOn 28 = .ok (.goto (-23), 3) := by decide +kernel
theorem dX9_turnedOn_31 : decode cX9_turnedOn 31 = .ok (.ldc2_w 59, 3) := by decide +kernel
theorem dX9_turnedOn_34 : decode cX9_turnedOn 34 = .ok (.lload_n 3, 1) := by decide +kernel
theorem dX9_turnedOn_35 : decode cX9_turnedOn 35 = .ok (.aload_n 0, 1) := by decide +kernel
theorem dX9_turnedOn_36 : decode cX9_turnedOn 36 = .ok (.getfield 16, 3) := by decide +kernel
theorem dX9_turnedOn_39 : decode cX9_turnedOn 39 = .ok (.iconst 4, 1) := by decide +kernel
theorem dX9_turnedOn_40 : decode cX9_turnedOn 40 = .ok (.iload_n 1, 1) := by decide +kernel
theorem dX9_turnedOn_41 : decode cX9_turnedOn 41 = .ok (.imul, 1) := by decide +kernel
theorem dX9_turnedOn_42 : decode cX9_turnedOn 42 = .ok (.iload_n 2, 1) := by decide +kernel
theorem dX9_turnedOn_43 : decode cX9_turnedOn 43 = .ok (.iadd, 1) := by decide +kernel
theorem dX9_turnedOn_44 : decode cX9_turnedOn 44 = .ok (.laload, 1) := by decide +kernel
theorem dX9_turnedOn_45 : decode cX9_turnedOn 45 = .ok (.lsub, 1) := by decide +kernel
theorem dX9_turnedOn_46 : decode cX9_turnedOn 46 = .ok (.lmul, 1) := by decide +kernel
theorem dX9_turnedOn_47 : decode cX9_turnedOn 47 = .ok (.aload_n 0, 1) := by decide +kernel
theorem dX9_turnedOn_48 : decode cX9_turnedOn 48 = .ok (.getfield 16, 3) := by decide +kernel
theorem dX9_turnedOn_51 : decode cX9_turnedOn 51 = .ok (.iconst 4, 1) := by decide +kernel
theorem dX9_turnedOn_52 : decode cX9_turnedOn 52 = .ok (.iload_n 1, 1) := by decide +kernel
theorem dX9_turnedOn_53 : decode cX9_turnedOn 53 = .ok (.imul, 1) := by decide +kernel
theorem dX9_turnedOn_54 : decode cX9_turnedOn 54 = .ok (.iload_n 2, 1) := by decide +kernel
theorem dX9_turnedOn_55 : decode cX9_turnedOn 55 = .ok (.iadd, 1) := by decide +kernel
theorem dX9_turnedOn_56 : decode cX9_turnedOn 56 = .ok (.laload, 1) := by decide +kernel
theorem dX9_turnedOn_57 : decode cX9_turnedOn 57 = .ok (.lsub, 1) := by decide +kernel
theorem dX9_turnedOn_58 : decode cX9_turnedOn 58 = .ok (.lreturn, 1) := by decide +kernel
theorem dX9_lays_0 : decode cX9_lays 0 = .ok (.iconst 0, 1) := by decide +kernel
theorem dX9_lays_1 : decode cX9_lays 1 = .ok (.istore 5, 2) := by decide +kernel
theorem dX9_lays_3 : decode cX9_lays 3 = .ok (.iload 5, 2) := by decide +kernel
theorem dX9_lays_5 : decode cX9_lays 5 = .ok (.iconst 4, 1) := by decide +kernel
theorem dX9_lays_6 : decode cX9_lays 6 = .ok (.if_icmp .ge 57, 3) := by decide +kernel
theorem dX9_lays_9 : decode cX9_lays 9 = .ok (.aload_n 0, 1) := by decide +kernel
theorem dX9_lays_10 : decode cX9_lays 10 = .ok (.getfield 16, 3) := by decide +kernel
theorem dX9_lays_13 : decode cX9_lays 13 = .ok (.iconst 4, 1) := by decide +kernel
theorem dX9_lays_14 : decode cX9_lays 14 = .ok (.iload_n 1, 1) := by decide +kernel
theorem dX9_lays_15 : decode cX9_lays 15 = .ok (.imul, 1) := by decide +kernel
theorem dX9_lays_16 : decode cX9_lays 16 = .ok (.iload 5, 2) := by decide +kernel
theorem dX9_lays_18 : decode cX9_lays 18 = .ok (.iadd, 1) := by decide +kernel
theorem dX9_lays_19 : decode cX9_lays 19 = .ok (.iload 5, 2) := by decide +kernel
theorem dX9_lays_21 : decode cX9_lays 21 = .ok (.iload_n 2, 1) := by decide +kernel
theorem dX9_lays_22 : decode cX9_lays 22 = .ok (.if_icmp .ne 7, 3) := by decide +kernel
theorem dX9_lays_25 : decode cX9_lays 25 = .ok (.lload_n 3, 1) := by decide +kernel
theorem dX9_lays_26 : decode cX9_lays 26 = .ok (.goto 30, 3) := by decide +kernel
theorem dX9_lays_29 : decode cX9_lays 29 = .ok (.iload_n 1, 1) := by decide +kernel
theorem dX9_lays_30 : decode cX9_lays 30 = .ok (.ifCond .ne 13, 3) := by decide +kernel
theorem dX9_lays_33 : decode cX9_lays 33 = .ok (.aload_n 0, 1) := by decide +kernel
theorem dX9_lays_34 : decode cX9_lays 34 = .ok (.getfield 13, 3) := by decide +kernel
theorem dX9_lays_37 : decode cX9_lays 37 = .ok (.iload 5, 2) := by decide +kernel
theorem dX9_lays_39 : decode cX9_lays 39 = .ok (.laload, 1) := by decide +kernel
theorem dX9_lays_40 : decode cX9_lays 40 = .ok (.goto 16, 3) := by decide +kernel
theorem dX9_lays_43 : decode cX9_lays 43 = .ok (.aload_n 0, 1) := by decide +kernel
theorem dX9_lays_44 : decode cX9_lays 44 = .ok (.getfield 16, 3) := by decide +kernel
theorem dX9_lays_47 : decode cX9_lays 47 = .ok (.iconst 4, 1) := by decide +kernel
theorem dX9_lays_48 : decode cX9_lays 48 = .ok (.iload_n 1, 1) := by decide +kernel
theorem dX9_lays_49 : decode cX9_lays 49 = .ok (.iconst 1, 1) := by decide +kernel
theorem dX9_lays_50 : decode cX9_lays 50 = .ok (.isub, 1) := by decide +kernel
theorem dX9_lays_51 : decode cX9_lays 51 = .ok (.imul, 1) := by decide +kernel
theorem dX9_lays_52 : decode cX9_lays 52 = .ok (.iload 5, 2) := by decide +kernel
theorem dX9_lays_54 : decode cX9_lays 54 = .ok (.iadd, 1) := by decide +kernel
theorem dX9_lays_55 : decode cX9_lays 55 = .ok (.laload, 1) := by decide +kernel
theorem dX9_lays_56 : decode cX9_lays 56 = .ok (.lastore, 1) := by decide +kernel
theorem dX9_lays_57 : decode cX9_lays 57 = .ok (.iinc 5 1, 3) := by decide +kernel
theorem dX9_lays_60 : decode cX9_lays 60 = .ok (.goto (-57), 3) := by decide +kernel
theorem dX9_lays_63 : decode cX9_lays 63 = .ok (.aload_n 0, 1) := by decide +kernel
theorem dX9_lays_64 : decode cX9_lays 64 = .ok (.getfield 19, 3) := by decide +kernel
theorem dX9_lays_67 : decode cX9_lays 67 = .ok (.iload_n 1, 1) := by decide +kernel
theorem dX9_lays_68 : decode cX9_lays 68 = .ok (.iload_n 2, 1) := by decide +kernel
theorem dX9_lays_69 : decode cX9_lays 69 = .ok (.iastore, 1) := by decide +kernel
theorem dX9_lays_70 : decode cX9_lays 70 = .ok (.aload_n 0, 1) := by decide +kernel
theorem dX9_lays_71 : decode cX9_lays 71 = .ok (.getfield 23, 3) := by decide +kernel
theorem dX9_lays_74 : decode cX9_lays 74 = .ok (.iload_n 1, 1) := by decide +kernel
theorem dX9_lays_75 : decode cX9_lays 75 = .ok (.iconst 0, 1) := by decide +kernel
theorem dX9_lays_76 : decode cX9_lays 76 = .ok (.iastore, 1) := by decide +kernel
theorem dX9_lays_77 : decode cX9_lays 77 = .ok (.return_, 1) := by decide +kernel
set_option maxRecDepth 20000 in
theorem ggX9_goesUpTo_X9_countsBend : GoodIn wsX9_goesUpTo wsX9_countsBend := goodIn_r _ [9, 1, 10, 11, 22, 23, 24, 25, 26, 27, 28, 29, 30, 31, 32, 33, 34, 35, 36, 37, 38] (by decide +kernel) (by decide +kernel)
set_option maxRecDepth 20000 in
theorem gX9_goesUpTo_X9_countsBend : GoodIn wsX9_goesUpTo (wsV RX9 110 RX9 yX9_countsBend wsX9_countsBend) := goodIn_app (goodIn_of _ (by decide +kernel)) ggX9_goesUpTo_X9_countsBend
set_option maxRecDepth 20000 in
theorem ggX9_goesUpTo_X9_lays : GoodIn wsX9_goesUpTo wsX9_lays := goodIn_r _ [15, 16, 2, 4, 3, 22, 23, 24, 25, 26, 27, 28, 29, 30, 31, 32, 33, 34, 35, 36, 37, 38] (by decide +kernel) (by decide +kernel)
set_option maxRecDepth 20000 in
theorem gX9_goesUpTo_X9_lays : GoodIn wsX9_goesUpTo (wsV RX9 114 RX9 yX9_lays wsX9_lays) := goodIn_app (goodIn_of _ (by decide +kernel)) ggX9_goesUpTo_X9_lays
set_option maxRecDepth 20000 in
theorem ggX9_goesUpTo_X9_turnedOn : GoodIn wsX9_goesUpTo wsX9_turnedOn := goodIn_r _ [20, 16, 21, 22, 23, 24, 25, 26, 27, 28, 29, 30, 31, 32, 33, 34, 35, 36, 37, 38] (by decide +kernel) (by decide +kernel)
set_option maxRecDepth 20000 in
theorem gX9_goesUpTo_X9_turnedOn : GoodIn wsX9_goesUpTo (wsV RX9 118 RX9 yX9_turnedOn wsX9_turnedOn) := goodIn_app (goodIn_of _ (by decide +kernel)) ggX9_goesUpTo_X9_turnedOn
theorem dX9_goesUpTo_0 : decode cX9_goesUpTo 0 = .ok (.iconst 0, 1) := by decide +kernel
theorem dX9_goesUpTo_1 : decode cX9_goesUpTo 1 = .ok (.istore 6, 2) := by decide +kernel
theorem dX9_goesUpTo_3 : decode cX9_goesUpTo 3 = .ok (.aload_n 0, 1) := by decide +kernel
theorem dX9_goesUpTo_4 : decode cX9_goesUpTo 4 = .ok (.iconst 0, 1) := by decide +kernel
theorem dX9_goesUpTo_5 : decode cX9_goesUpTo 5 = .ok (.putfield 105, 3) := by decide +kernel
theorem dX9_goesUpTo_8 : decode cX9_goesUpTo 8 = .ok (.iconst 0, 1) := by decide +kernel
theorem dX9_goesUpTo_9 : decode cX9_goesUpTo 9 = .ok (.istore 7, 2) := by decide +kernel
theorem dX9_goesUpTo_11 : decode cX9_goesUpTo 11 = .ok (.iload 7, 2) := by decide +kernel
theorem dX9_goesUpTo_13 : decode cX9_goesUpTo 13 = .ok (.iconst 4, 1) := by decide +kernel
theorem dX9_goesUpTo_14 : decode cX9_goesUpTo 14 = .ok (.if_icmp .ge 37, 3) := by decide +kernel
theorem dX9_goesUpTo_17 : decode cX9_goesUpTo 17 = .ok (.aload_n 0, 1) := by decide +kernel
theorem dX9_goesUpTo_18 : decode cX9_goesUpTo 18 = .ok (.getfield 13, 3) := by decide +kernel
theorem dX9_goesUpTo_21 : decode cX9_goesUpTo 21 = .ok (.iload 7, 2) := by decide +kernel
theorem dX9_goesUpTo_23 : decode cX9_goesUpTo 23 = .ok (.laload, 1) := by decide +kernel
theorem dX9_goesUpTo_24 : decode cX9_goesUpTo 24 = .ok (.lload_n 1, 1) := by decide +kernel
theorem dX9_goesUpTo_25 : decode cX9_goesUpTo 25 = .ok (.lcmp, 1) := by decide +kernel
theorem dX9_goesUpTo_26 : decode cX9_goesUpTo 26 = .ok (.ifCond .gt 19, 3) := by decide +kernel
theorem dX9_goesUpTo_29 : decode cX9_goesUpTo 29 = .ok (.iinc 6 1, 3) := by decide +kernel
theorem dX9_goesUpTo_32 : decode cX9_goesUpTo 32 = .ok (.aload_n 0, 1) := by decide +kernel
theorem dX9_goesUpTo_33 : decode cX9_goesUpTo 33 = .ok (.aload_n 0, 1) := by decide +kernel
theorem dX9_goesUpTo_34 : decode cX9_goesUpTo 34 = .ok (.getfield 13, 3) := by decide +kernel
theorem dX9_goesUpTo_37 : decode cX9_goesUpTo 37 = .ok (.iload 7, 2) := by decide +kernel
theorem dX9_goesUpTo_39 : decode cX9_goesUpTo 39 = .ok (.laload, 1) := by decide +kernel
theorem dX9_goesUpTo_40 : decode cX9_goesUpTo 40 = .ok (.lload 4, 2) := by decide +kernel
theorem dX9_goesUpTo_42 : decode cX9_goesUpTo 42 = .ok (.invokevirtual 110, 3) := by decide +kernel
theorem dX9_goesUpTo_45 : decode cX9_goesUpTo 45 = .ok (.iinc 7 1, 3) := by decide +kernel
theorem dX9_goesUpTo_48 : decode cX9_goesUpTo 48 = .ok (.goto (-37), 3) := by decide +kernel
theorem dX9_goesUpTo_51 : decode cX9_goesUpTo 51 = .ok (.iconst 0, 1) := by decide +kernel
theorem dX9_goesUpTo_52 : decode cX9_goesUpTo 52 = .ok (.istore 7, 2) := by decide +kernel
theorem dX9_goesUpTo_54 : decode cX9_goesUpTo 54 = .ok (.aload_n 0, 1) := by decide +kernel
theorem dX9_goesUpTo_55 : decode cX9_goesUpTo 55 = .ok (.iconst 0, 1) := by decide +kernel
theorem dX9_goesUpTo_56 : decode cX9_goesUpTo 56 = .ok (.bipush (-9), 2) := by decide +kernel
theorem dX9_goesUpTo_58 : decode cX9_goesUpTo 58 = .ok (.lconst 0, 1) := by decide +kernel
theorem dX9_goesUpTo_59 : decode cX9_goesUpTo 59 = .ok (.invokevirtual 114, 3) := by decide +kernel
theorem dX9_goesUpTo_62 : decode cX9_goesUpTo 62 = .ok (.iload 7, 2) := by decide +kernel
theorem dX9_goesUpTo_64 : decode cX9_goesUpTo 64 = .ok (.ifCond .lt 97, 3) := by decide +kernel
theorem dX9_goesUpTo_67 : decode cX9_goesUpTo 67 = .ok (.iload 6, 2) := by decide +kernel
theorem dX9_goesUpTo_69 : decode cX9_goesUpTo 69 = .ok (.iload_n 3, 1) := by decide +kernel
theorem dX9_goesUpTo_70 : decode cX9_goesUpTo 70 = .ok (.if_icmp .ge 91, 3) := by decide +kernel
theorem dX9_goesUpTo_73 : decode cX9_goesUpTo 73 = .ok (.aload_n 0, 1) := by decide +kernel
theorem dX9_goesUpTo_74 : decode cX9_goesUpTo 74 = .ok (.getfield 23, 3) := by decide +kernel
theorem dX9_goesUpTo_77 : decode cX9_goesUpTo 77 = .ok (.iload 7, 2) := by decide +kernel
theorem dX9_goesUpTo_79 : decode cX9_goesUpTo 79 = .ok (.iaload, 1) := by decide +kernel
theorem dX9_goesUpTo_80 : decode cX9_goesUpTo 80 = .ok (.istore 8, 2) := by decide +kernel
theorem dX9_goesUpTo_82 : decode cX9_goesUpTo 82 = .ok (.aload_n 0, 1) := by decide +kernel
theorem dX9_goesUpTo_83 : decode cX9_goesUpTo 83 = .ok (.getfield 23, 3) := by decide +kernel
theorem dX9_goesUpTo_86 : decode cX9_goesUpTo 86 = .ok (.iload 7, 2) := by decide +kernel
theorem dX9_goesUpTo_88 : decode cX9_goesUpTo 88 = .ok (.dup2, 1) := by decide +kernel
theorem dX9_goesUpTo_89 : decode cX9_goesUpTo 89 = .ok (.iaload, 1) := by decide +kernel
theorem dX9_goesUpTo_90 : decode cX9_goesUpTo 90 = .ok (.iconst 1, 1) := by decide +kernel
theorem dX9_goesUpTo_91 : decode cX9_goesUpTo 91 = .ok (.iadd, 1) := by decide +kernel
theorem dX9_goesUpTo_92 : decode cX9_goesUpTo 92 = .ok (.iastore, 1) := by decide +kernel
theorem dX9_goesUpTo_93 : decode cX9_goesUpTo 93 = .ok (.iload 8, 2) := by decide +kernel
theorem dX9_goesUpTo_95 : decode cX9_goesUpTo 95 = .ok (.iconst 4, 1) := by decide +kernel
theorem dX9_goesUpTo_96 : decode cX9_goesUpTo 96 = .ok (.if_icmp .ne 9, 3) := by decide +kernel
theorem dX9_goesUpTo_99 : decode cX9_goesUpTo 99 = .ok (.iinc 7 (-1), 3) := by decide +kernel
theorem dX9_goesUpTo_102 : decode cX9_goesUpTo 102 = .ok (.goto 56, 3) := by decide +kernel
theorem dX9_goesUpTo_105 : decode cX9_goesUpTo 105 = .ok (.iload 8, 2) := by decide +kernel
theorem dX9_goesUpTo_107 : decode cX9_goesUpTo 107 = .ok (.aload_n 0, 1) := by decide +kernel
theorem dX9_goesUpTo_108 : decode cX9_goesUpTo 108 = .ok (.getfield 19, 3) := by decide +kernel
theorem dX9_goesUpTo_111 : decode cX9_goesUpTo 111 = .ok (.iload 7, 2) := by decide +kernel
theorem dX9_goesUpTo_113 : decode cX9_goesUpTo 113 = .ok (.iaload, 1) := by decide +kernel
theorem dX9_goesUpTo_114 : decode cX9_goesUpTo 114 = .ok (.if_icmp .eq 44, 3) := by decide +kernel
theorem dX9_goesUpTo_117 : decode cX9_goesUpTo 117 = .ok (.aload_n 0, 1) := by decide +kernel
theorem dX9_goesUpTo_118 : decode cX9_goesUpTo 118 = .ok (.iload 7, 2) := by decide +kernel
theorem dX9_goesUpTo_120 : decode cX9_goesUpTo 120 = .ok (.iload 8, 2) := by decide +kernel
theorem dX9_goesUpTo_122 : decode cX9_goesUpTo 122 = .ok (.invokevirtual 118, 3) := by decide +kernel
theorem dX9_goesUpTo_125 : decode cX9_goesUpTo 125 = .ok (.lstore 9, 2) := by decide +kernel
theorem dX9_goesUpTo_127 : decode cX9_goesUpTo 127 = .ok (.lload 9, 2) := by decide +kernel
theorem dX9_goesUpTo_129 : decode cX9_goesUpTo 129 = .ok (.lload_n 1, 1) := by decide +kernel
theorem dX9_goesUpTo_130 : decode cX9_goesUpTo 130 = .ok (.lcmp, 1) := by decide +kernel
theorem dX9_goesUpTo_131 : decode cX9_goesUpTo 131 = .ok (.ifCond .gt 27, 3) := by decide +kernel
theorem dX9_goesUpTo_134 : decode cX9_goesUpTo 134 = .ok (.iinc 6 1, 3) := by decide +kernel
theorem dX9_goesUpTo_137 : decode cX9_goesUpTo 137 = .ok (.aload_n 0, 1) := by decide +kernel
theorem dX9_goesUpTo_138 : decode cX9_goesUpTo 138 = .ok (.lload 9, 2) := by decide +kernel
theorem dX9_goesUpTo_140 : decode cX9_goesUpTo 140 = .ok (.lload 4, 2) := by decide +kernel
theorem dX9_goesUpTo_142 : decode cX9_goesUpTo 142 = .ok (.invokevirtual 110, 3) := by decide +kernel
theorem dX9_goesUpTo_145 : decode cX9_goesUpTo 145 = .ok (.iinc 7 1, 3) := by decide +kernel
theorem dX9_goesUpTo_148 : decode cX9_goesUpTo 148 = .ok (.aload_n 0, 1) := by decide +kernel
theorem dX9_goesUpTo_149 : decode cX9_goesUpTo 149 = .ok (.iload 7, 2) := by decide +kernel
theorem dX9_goesUpTo_151 : decode cX9_goesUpTo 151 = .ok (.iload 8, 2) := by decide +kernel
theorem dX9_goesUpTo_153 : decode cX9_goesUpTo 153 = .ok (.lload 9, 2) := by decide +kernel
theorem dX9_goesUpTo_155 : decode cX9_goesUpTo 155 = .ok (.invokevirtual 114, 3) := by decide +kernel
theorem dX9_goesUpTo_158 : decode cX9_goesUpTo 158 = .ok (.goto (-96), 3) := by decide +kernel
theorem dX9_goesUpTo_161 : decode cX9_goesUpTo 161 = .ok (.iload 6, 2) := by decide +kernel
theorem dX9_goesUpTo_163 : decode cX9_goesUpTo 163 = .ok (.ireturn, 1) := by decide +kernel
set_option maxRecDepth 20000 in
theorem ggX9_allUpTo_X9_goesUpTo : GoodIn wsX9_allUpTo wsX9_goesUpTo := goodIn_r _ [7, 8, 9, 10, 11, 12, 13, 14, 6, 15, 16, 1, 17, 18, 19, 20, 21, 22, 23, 24, 25, 26, 27, 28, 29, 30, 31, 32, 33, 34, 35, 36, 37, 38, 39, 40, 41, 42, 43] (by decide +kernel) (by decide +kernel)
set_option maxRecDepth 20000 in
theorem gX9_allUpTo_X9_goesUpTo : GoodIn wsX9_allUpTo (wsV RX9 123 RX9 yX9_goesUpTo wsX9_goesUpTo) := goodIn_app (goodIn_of _ (by decide +kernel)) ggX9_allUpTo_X9_goesUpTo
theorem dX9_allUpTo_0 : decode cX9_allUpTo 0 = .ok (.iconst 0, 1) := by decide +kernel
theorem dX9_allUpTo_1 : decode cX9_allUpTo 1 = .ok (.istore 4, 2) := by decide +kernel
theorem dX9_allUpTo_3 : decode cX9_allUpTo 3 = .ok (.iload 4, 2) := by decide +kernel
theorem dX9_allUpTo_5 : decode cX9_allUpTo 5 = .ok (.sipush 5000, 3) := by decide +kernel
theorem dX9_allUpTo_8 : decode cX9_allUpTo 8 = .ok (.if_icmp .gt 17, 3) := by decide +kernel
theorem dX9_allUpTo_11 : decode cX9_allUpTo 11 = .ok (.aload_n 0, 1) := by decide +kernel
theorem dX9_allUpTo_12 : decode cX9_allUpTo 12 = .ok (.getfield 26, 3) := by decide +kernel
theorem dX9_allUpTo_15 : decode cX9_allUpTo 15 = .ok (.iload 4, 2) := by decide +kernel
theorem dX9_allUpTo_17 : decode cX9_allUpTo 17 = .ok (.iconst 0, 1) := by decide +kernel
theorem dX9_allUpTo_18 : decode cX9_allUpTo 18 = .ok (.bastore, 1) := by decide +kernel
theorem dX9_allUpTo_19 : decode cX9_allUpTo 19 = .ok (.iinc 4 1, 3) := by decide +kernel
theorem dX9_allUpTo_22 : decode cX9_allUpTo 22 = .ok (.goto (-19), 3) := by decide +kernel
theorem dX9_allUpTo_25 : decode cX9_allUpTo 25 = .ok (.aload_n 0, 1) := by decide +kernel
theorem dX9_allUpTo_26 : decode cX9_allUpTo 26 = .ok (.iload_n 1, 1) := by decide +kernel
theorem dX9_allUpTo_27 : decode cX9_allUpTo 27 = .ok (.i2l, 1) := by decide +kernel
theorem dX9_allUpTo_28 : decode cX9_allUpTo 28 = .ok (.ldc 122, 2) := by decide +kernel
theorem dX9_allUpTo_30 : decode cX9_allUpTo 30 = .ok (.lload_n 2, 1) := by decide +kernel
theorem dX9_allUpTo_31 : decode cX9_allUpTo 31 = .ok (.invokevirtual 123, 3) := by decide +kernel
theorem dX9_allUpTo_34 : decode cX9_allUpTo 34 = .ok (.ireturn, 1) := by decide +kernel
set_option maxRecDepth 20000 in
theorem ggX9_upTo_X9_within : GoodIn wsX9_upTo wsX9_within := goodIn_r _ [6] (by decide +kernel) (by decide +kernel)
set_option maxRecDepth 20000 in
theorem gX9_upTo_X9_within : GoodIn wsX9_upTo (va_wsS RX9 63 yX9_within wsX9_within) := goodIn_app (goodIn_of _ (by decide +kernel)) ggX9_upTo_X9_within
set_option maxRecDepth 20000 in
theorem ggX9_upTo_X9_isBound : GoodIn wsX9_upTo wsX9_isBound := goodIn_r _ [10, 11, 12, 13, 14, 5, 15, 16, 17, 18, 19, 20, 21, 22, 23, 24, 25, 26, 27, 28, 56, 57, 58, 59, 60, 61, 62, 63, 64, 65, 66, 67, 68, 69, 70, 71, 72] (by decide +kernel) (by decide +kernel)
set_option maxRecDepth 20000 in
theorem gX9_upTo_X9_isBound : GoodIn wsX9_upTo (wsV RX9 127 RX9 yX9_isBound wsX9_isBound) := goodIn_app (goodIn_of _ (by decide +kernel)) ggX9_upTo_X9_isBound
set_option maxRecDepth 20000 in
theorem ggX9_upTo_X9_allUpTo : GoodIn wsX9_upTo wsX9_allUpTo := goodIn_r _ [32, 33, 34, 35, 36, 37, 5, 38, 39, 11, 40, 41, 42, 43, 44, 45, 46, 47, 48, 49, 50, 51, 52, 53, 54, 55, 24, 56, 57, 58, 59, 60, 61, 62, 63, 64, 65, 66, 67, 68, 69, 70, 71, 72] (by decide +kernel) (by decide +kernel)
set_option maxRecDepth 20000 in
theorem gX9_upTo_X9_allUpTo : GoodIn wsX9_upTo (wsV RX9 131 RX9 yX9_allUpTo wsX9_allUpTo) := goodIn_app (goodIn_of _ (by decide +kernel)) ggX9_upTo_X9_allUpTo
theorem dX9_upTo_0 : decode cX9_upTo 0 = .ok (.iload_n 1, 1) := by decide +kernel
theorem dX9_upTo_1 : decode cX9_upTo 1 = .ok (.ldc 67, 2) := by decide +kernel
theorem dX9_upTo_3 : decode cX9_upTo 3 = .ok (.sipush 5000, 3) := by decide +kernel
theorem dX9_upTo_6 : decode cX9_upTo 6 = .ok (.invokestatic 63, 3) := by decide +kernel
theorem dX9_upTo_9 : decode cX9_upTo 9 = .ok (.ifCond .ne 6, 3) := by decide +kernel
theorem dX9_upTo_12 : decode cX9_upTo 12 = .ok (.bipush (-2), 2) := by decide +kernel
theorem dX9_upTo_14 : decode cX9_upTo 14 = .ok (.ireturn, 1) := by decide +kernel
theorem dX9_upTo_15 : decode cX9_upTo 15 = .ok (.aload_n 0, 1) := by decide +kernel
theorem dX9_upTo_16 : decode cX9_upTo 16 = .ok (.invokevirtual 127, 3) := by decide +kernel
theorem dX9_upTo_19 : decode cX9_upTo 19 = .ok (.ifCond .eq 14, 3) := by decide +kernel
theorem dX9_upTo_22 : decode cX9_upTo 22 = .ok (.aload_n 0, 1) := by decide +kernel
theorem dX9_upTo_23 : decode cX9_upTo 23 = .ok (.iload_n 1, 1) := by decide +kernel
theorem dX9_upTo_24 : decode cX9_upTo 24 = .ok (.ldc2_w 80, 3) := by decide +kernel
theorem dX9_upTo_27 : decode cX9_upTo 27 = .ok (.invokevirtual 131, 3) := by decide +kernel
theorem dX9_upTo_30 : decode cX9_upTo 30 = .ok (.goto 5, 3) := by decide +kernel
theorem dX9_upTo_33 : decode cX9_upTo 33 = .ok (.bipush (-3), 2) := by decide +kernel
theorem dX9_upTo_35 : decode cX9_upTo 35 = .ok (.ireturn, 1) := by decide +kernel
set_option maxRecDepth 20000 in
theorem ggX9_just_X9_within : GoodIn wsX9_just wsX9_within := goodIn_r _ [6] (by decide +kernel) (by decide +kernel)
set_option maxRecDepth 20000 in
theorem gX9_just_X9_within : GoodIn wsX9_just (va_wsS RX9 63 yX9_within wsX9_within) := goodIn_app (goodIn_of _ (by decide +kernel)) ggX9_just_X9_within
set_option maxRecDepth 20000 in
theorem ggX9_just_X9_isBound : GoodIn wsX9_just wsX9_isBound := goodIn_r _ [10, 11, 12, 13, 14, 5, 15, 16, 17, 18, 19, 20, 21, 22, 23, 24, 25, 26, 27, 28, 55, 56, 57, 58, 59, 60, 61, 62, 63, 64, 65, 66, 67, 68, 69, 70, 71] (by decide +kernel) (by decide +kernel)
set_option maxRecDepth 20000 in
theorem gX9_just_X9_isBound : GoodIn wsX9_just (wsV RX9 127 RX9 yX9_isBound wsX9_isBound) := goodIn_app (goodIn_of _ (by decide +kernel)) ggX9_just_X9_isBound
set_option maxRecDepth 20000 in
theorem ggX9_just_X9_allUpTo : GoodIn wsX9_just wsX9_allUpTo := goodIn_r _ [32, 33, 34, 35, 36, 37, 5, 38, 2, 11, 39, 40, 41, 42, 43, 44, 45, 46, 47, 48, 49, 50, 51, 52, 53, 54, 24, 55, 56, 57, 58, 59, 60, 61, 62, 63, 64, 65, 66, 67, 68, 69, 70, 71] (by decide +kernel) (by decide +kernel)
set_option maxRecDepth 20000 in
theorem gX9_just_X9_allUpTo : GoodIn wsX9_just (wsV RX9 131 RX9 yX9_allUpTo wsX9_allUpTo) := goodIn_app (goodIn_of _ (by decide +kernel)) ggX9_just_X9_allUpTo
theorem dX9_just_0 : decode cX9_just 0 = .ok (.iload_n 1, 1) := by decide +kernel
theorem dX9_just_1 : decode cX9_just 1 = .ok (.ldc 67, 2) := by decide +kernel
theorem dX9_just_3 : decode cX9_just 3 = .ok (.sipush 5000, 3) := by decide +kernel
theorem dX9_just_6 : decode cX9_just 6 = .ok (.invokestatic 63, 3) := by decide +kernel
theorem dX9_just_9 : decode cX9_just 9 = .ok (.ifCond .ne 6, 3) := by decide +kernel
theorem dX9_just_12 : decode cX9_just 12 = .ok (.bipush (-2), 2) := by decide +kernel
theorem dX9_just_14 : decode cX9_just 14 = .ok (.ireturn, 1) := by decide +kernel
theorem dX9_just_15 : decode cX9_just 15 = .ok (.aload_n 0, 1) := by decide +kernel
theorem dX9_just_16 : decode cX9_just 16 = .ok (.invokevirtual 127, 3) := by decide +kernel
theorem dX9_just_19 : decode cX9_just 19 = .ok (.ifCond .ne 6, 3) := by decide +kernel
theorem dX9_just_22 : decode cX9_just 22 = .ok (.bipush (-3), 2) := by decide +kernel
theorem dX9_just_24 : decode cX9_just 24 = .ok (.ireturn, 1) := by decide +kernel
theorem dX9_just_25 : decode cX9_just 25 = .ok (.aload_n 0, 1) := by decide +kernel
theorem dX9_just_26 : decode cX9_just 26 = .ok (.iload_n 1, 1) := by decide +kernel
theorem dX9_just_27 : decode cX9_just 27 = .ok (.iload_n 1, 1) := by decide +kernel
theorem dX9_just_28 : decode cX9_just 28 = .ok (.i2l, 1) := by decide +kernel
theorem dX9_just_29 : decode cX9_just 29 = .ok (.invokevirtual 131, 3) := by decide +kernel
theorem dX9_just_32 : decode cX9_just 32 = .ok (.pop, 1) := by decide +kernel
theorem dX9_just_33 : decode cX9_just 33 = .ok (.aload_n 0, 1) := by decide +kernel
theorem dX9_just_34 : decode cX9_just 34 = .ok (.getfield 105, 3) := by decide +kernel
theorem dX9_just_37 : decode cX9_just 37 = .ok (.ireturn, 1) := by decide +kernel
set_option maxRecDepth 20000 in
theorem ggX9_least_X9_within : GoodIn wsX9_least wsX9_within := goodIn_r _ [7] (by decide +kernel) (by decide +kernel)
set_option maxRecDepth 20000 in
theorem gX9_least_X9_within : GoodIn wsX9_least (va_wsS RX9 63 yX9_within wsX9_within) := goodIn_app (goodIn_of _ (by decide +kernel)) ggX9_least_X9_within
set_option maxRecDepth 20000 in
theorem ggX9_least_X9_isBound : GoodIn wsX9_least wsX9_isBound := goodIn_r _ [11, 2, 12, 13, 14, 6, 15, 16, 17, 18, 19, 20, 21, 22, 23, 3, 24, 25, 26, 27, 50, 51, 52, 53, 54, 55, 56, 57, 58, 59, 60, 61, 62, 63, 64, 65, 66] (by decide +kernel) (by decide +kernel)
set_option maxRecDepth 20000 in
theorem gX9_least_X9_isBound : GoodIn wsX9_least (wsV RX9 127 RX9 yX9_isBound wsX9_isBound) := goodIn_app (goodIn_of _ (by decide +kernel)) ggX9_least_X9_isBound
set_option maxRecDepth 20000 in
theorem ggX9_least_X9_goesUpTo : GoodIn wsX9_least wsX9_goesUpTo := goodIn_r _ [31, 32, 2, 33, 34, 35, 36, 37, 6, 38, 39, 40, 41, 42, 43, 44, 45, 46, 47, 48, 49, 3, 50, 51, 52, 53, 54, 55, 56, 57, 58, 59, 60, 61, 62, 63, 64, 65, 66] (by decide +kernel) (by decide +kernel)
set_option maxRecDepth 20000 in
theorem gX9_least_X9_goesUpTo : GoodIn wsX9_least (wsV RX9 123 RX9 yX9_goesUpTo wsX9_goesUpTo) := goodIn_app (goodIn_of _ (by decide +kernel)) ggX9_least_X9_goesUpTo
theorem dX9_least_0 : decode cX9_least 0 = .ok (.iload_n 1, 1) := by decide +kernel
theorem dX9_least_1 : decode cX9_least 1 = .ok (.iconst 0, 1) := by decide +kernel
theorem dX9_least_2 : decode cX9_least 2 = .ok (.sipush 2000, 3) := by decide +kernel
theorem dX9_least_5 : decode cX9_least 5 = .ok (.invokestatic 63, 3) := by decide +kernel
theorem dX9_least_8 : decode cX9_least 8 = .ok (.ifCond .eq 10, 3) := by decide +kernel
theorem dX9_least_11 : decode cX9_least 11 = .ok (.aload_n 0, 1) := by decide +kernel
theorem dX9_least_12 : decode cX9_least 12 = .ok (.invokevirtual 127, 3) := by decide +kernel
theorem dX9_least_15 : decode cX9_least 15 = .ok (.ifCond .ne 7, 3) := by decide +kernel
theorem dX9_least_18 : decode cX9_least 18 = .ok (.ldc2_w 80, 3) := by decide +kernel
theorem dX9_least_21 : decode cX9_least 21 = .ok (.lreturn, 1) := by decide +kernel
theorem dX9_least_22 : decode cX9_least 22 = .ok (.aload_n 0, 1) := by decide +kernel
theorem dX9_least_23 : decode cX9_least 23 = .ok (.getfield 13, 3) := by decide +kernel
theorem dX9_least_26 : decode cX9_least 26 = .ok (.iconst 3, 1) := by decide +kernel
theorem dX9_least_27 : decode cX9_least 27 = .ok (.laload, 1) := by decide +kernel
theorem dX9_least_28 : decode cX9_least 28 = .ok (.lstore_n 2, 1) := by decide +kernel
theorem dX9_least_29 : decode cX9_least 29 = .ok (.aload_n 0, 1) := by decide +kernel
theorem dX9_least_30 : decode cX9_least 30 = .ok (.lload_n 2, 1) := by decide +kernel
theorem dX9_least_31 : decode cX9_least 31 = .ok (.iload_n 1, 1) := by decide +kernel
theorem dX9_least_32 : decode cX9_least 32 = .ok (.iconst 1, 1) := by decide +kernel
theorem dX9_least_33 : decode cX9_least 33 = .ok (.iadd, 1) := by decide +kernel
theorem dX9_least_34 : decode cX9_least 34 = .ok (.ldc2_w 80, 3) := by decide +kernel
theorem dX9_least_37 : decode cX9_least 37 = .ok (.invokevirtual 123, 3) := by decide +kernel
theorem dX9_least_40 : decode cX9_least 40 = .ok (.iload_n 1, 1) := by decide +kernel
theorem dX9_least_41 : decode cX9_least 41 = .ok (.if_icmp .gt 12, 3) := by decide +kernel
theorem dX9_least_44 : decode cX9_least 44 = .ok (.lload_n 2, 1) := by decide +kernel
theorem dX9_least_45 : decode cX9_least 45 = .ok (.ldc2_w 59, 3) := by decide +kernel
theorem dX9_least_48 : decode cX9_least 48 = .ok (.lmul, 1) := by decide +kernel
theorem dX9_least_49 : decode cX9_least 49 = .ok (.lstore_n 2, 1) := by decide +kernel
theorem dX9_least_50 : decode cX9_least 50 = .ok (.goto (-21), 3) := by decide +kernel
theorem dX9_least_53 : decode cX9_least 53 = .ok (.aload_n 0, 1) := by decide +kernel
theorem dX9_least_54 : decode cX9_least 54 = .ok (.getfield 13, 3) := by decide +kernel
theorem dX9_least_57 : decode cX9_least 57 = .ok (.iconst 0, 1) := by decide +kernel
theorem dX9_least_58 : decode cX9_least 58 = .ok (.laload, 1) := by decide +kernel
theorem dX9_least_59 : decode cX9_least 59 = .ok (.lconst 1, 1) := by decide +kernel
theorem dX9_least_60 : decode cX9_least 60 = .ok (.lsub, 1) := by decide +kernel
theorem dX9_least_61 : decode cX9_least 61 = .ok (.lstore 4, 2) := by decide +kernel
theorem dX9_least_63 : decode cX9_least 63 = .ok (.lload_n 2, 1) := by decide +kernel
theorem dX9_least_64 : decode cX9_least 64 = .ok (.lload 4, 2) := by decide +kernel
theorem dX9_least_66 : decode cX9_least 66 = .ok (.lsub, 1) := by decide +kernel
theorem dX9_least_67 : decode cX9_least 67 = .ok (.lconst 1, 1) := by decide +kernel
theorem dX9_least_68 : decode cX9_least 68 = .ok (.lcmp, 1) := by decide +kernel
theorem dX9_least_69 : decode cX9_least 69 = .ok (.ifCond .le 45, 3) := by decide +kernel
theorem dX9_least_72 : decode cX9_least 72 = .ok (.lload 4, 2) := by decide +kernel
theorem dX9_least_74 : decode cX9_least 74 = .ok (.lload_n 2, 1) := by decide +kernel
theorem dX9_least_75 : decode cX9_least 75 = .ok (.lload 4, 2) := by decide +kernel
theorem dX9_least_77 : decode cX9_least 77 = .ok (.lsub, 1) := by decide +kernel
theorem dX9_least_78 : decode cX9_least 78 = .ok (.ldc2_w 59, 3) := by decide +kernel
theorem dX9_least_81 : decode cX9_least 81 = .ok (.ldiv, 1) := by decide +kernel
theorem dX9_least_82 : decode cX9_least 82 = .ok (.ladd, 1) := by decide +kernel
theorem dX9_least_83 : decode cX9_least 83 = .ok (.lstore 6, 2) := by decide +kernel
theorem dX9_least_85 : decode cX9_least 85 = .ok (.aload_n 0, 1) := by decide +kernel
theorem dX9_least_86 : decode cX9_least 86 = .ok (.lload 6, 2) := by decide +kernel
theorem dX9_least_88 : decode cX9_least 88 = .ok (.iload_n 1, 1) := by decide +kernel
theorem dX9_least_89 : decode cX9_least 89 = .ok (.iconst 1, 1) := by decide +kernel
theorem dX9_least_90 : decode cX9_least 90 = .ok (.iadd, 1) := by decide +kernel
theorem dX9_least_91 : decode cX9_least 91 = .ok (.ldc2_w 80, 3) := by decide +kernel
theorem dX9_least_94 : decode cX9_least 94 = .ok (.invokevirtual 123, 3) := by decide +kernel
theorem dX9_least_97 : decode cX9_least 97 = .ok (.iload_n 1, 1) := by decide +kernel
theorem dX9_least_98 : decode cX9_least 98 = .ok (.if_icmp .le 9, 3) := by decide +kernel
theorem dX9_least_101 : decode cX9_least 101 = .ok (.lload 6, 2) := by decide +kernel
theorem dX9_least_103 : decode cX9_least 103 = .ok (.lstore_n 2, 1) := by decide +kernel
theorem dX9_least_104 : decode cX9_least 104 = .ok (.goto 7, 3) := by decide +kernel
theorem dX9_least_107 : decode cX9_least 107 = .ok (.lload 6, 2) := by decide +kernel
theorem dX9_least_109 : decode cX9_least 109 = .ok (.lstore 4, 2) := by decide +kernel
theorem dX9_least_111 : decode cX9_least 111 = .ok (.goto (-48), 3) := by decide +kernel
theorem dX9_least_114 : decode cX9_least 114 = .ok (.lload_n 2, 1) := by decide +kernel
theorem dX9_least_115 : decode cX9_least 115 = .ok (.lreturn, 1) := by decide +kernel
theorem dX9_digit_0 : decode cX9_digit 0 = .ok (.iload_n 0, 1) := by decide +kernel
theorem dX9_digit_1 : decode cX9_digit 1 = .ok (.istore_n 3, 1) := by decide +kernel
theorem dX9_digit_2 : decode cX9_digit 2 = .ok (.iconst 0, 1) := by decide +kernel
theorem dX9_digit_3 : decode cX9_digit 3 = .ok (.istore 4, 2) := by decide +kernel
theorem dX9_digit_5 : decode cX9_digit 5 = .ok (.iload 4, 2) := by decide +kernel
theorem dX9_digit_7 : decode cX9_digit 7 = .ok (.iload_n 1, 1) := by decide +kernel
theorem dX9_digit_8 : decode cX9_digit 8 = .ok (.if_icmp .ge 13, 3) := by decide +kernel
theorem dX9_digit_11 : decode cX9_digit 11 = .ok (.iload_n 3, 1) := by decide +kernel
theorem dX9_digit_12 : decode cX9_digit 12 = .ok (.iload_n 2, 1) := by decide +kernel
theorem dX9_digit_13 : decode cX9_digit 13 = .ok (.idiv, 1) := by decide +kernel
theorem dX9_digit_14 : decode cX9_digit 14 = .ok (.istore_n 3, 1) := by decide +kernel
theorem dX9_digit_15 : decode cX9_digit 15 = .ok (.iinc 4 1, 3) := by decide +kernel
theorem dX9_digit_18 : decode cX9_digit 18 = .ok (.goto (-13), 3) := by decide +kernel
theorem dX9_digit_21 : decode cX9_digit 21 = .ok (.iload_n 3, 1) := by decide +kernel
theorem dX9_digit_22 : decode cX9_digit 22 = .ok (.iload_n 2, 1) := by decide +kernel
theorem dX9_digit_23 : decode cX9_digit 23 = .ok (.irem, 1) := by decide +kernel
theorem dX9_digit_24 : decode cX9_digit 24 = .ok (.ireturn, 1) := by decide +kernel
theorem dX9_power_0 : decode cX9_power 0 = .ok (.iconst 1, 1) := by decide +kernel
theorem dX9_power_1 : decode cX9_power 1 = .ok (.istore_n 2, 1) := by decide +kernel
theorem dX9_power_2 : decode cX9_power 2 = .ok (.iconst 0, 1) := by decide +kernel
theorem dX9_power_3 : decode cX9_power 3 = .ok (.istore_n 3, 1) := by decide +kernel
theorem dX9_power_4 : decode cX9_power 4 = .ok (.iload_n 3, 1) := by decide +kernel
theorem dX9_power_5 : decode cX9_power 5 = .ok (.iload_n 1, 1) := by decide +kernel
theorem dX9_power_6 : decode cX9_power 6 = .ok (.if_icmp .ge 13, 3) := by decide +kernel
theorem dX9_power_9 : decode cX9_power 9 = .ok (.iload_n 2, 1) := by decide +kernel
theorem dX9_power_10 : decode cX9_power 10 = .ok (.iload_n 0, 1) := by decide +kernel
theorem dX9_power_11 : decode cX9_power 11 = .ok (.imul, 1) := by decide +kernel
theorem dX9_power_12 : decode cX9_power 12 = .ok (.istore_n 2, 1) := by decide +kernel
theorem dX9_power_13 : decode cX9_power 13 = .ok (.iinc 3 1, 3) := by decide +kernel
theorem dX9_power_16 : decode cX9_power 16 = .ok (.goto (-12), 3) := by decide +kernel
theorem dX9_power_19 : decode cX9_power 19 = .ok (.iload_n 2, 1) := by decide +kernel
theorem dX9_power_20 : decode cX9_power 20 = .ok (.ireturn, 1) := by decide +kernel
set_option maxRecDepth 20000 in
theorem ggX9_turnedBy_X9_digit : GoodIn wsX9_turnedBy wsX9_digit := goodIn_r _ [4] (by decide +kernel) (by decide +kernel)
set_option maxRecDepth 20000 in
theorem gX9_turnedBy_X9_digit : GoodIn wsX9_turnedBy (va_wsS RX9 135 yX9_digit wsX9_digit) := goodIn_app (goodIn_of _ (by decide +kernel)) ggX9_turnedBy_X9_digit
set_option maxRecDepth 20000 in
theorem ggX9_turnedBy_X9_power : GoodIn wsX9_turnedBy wsX9_power := goodIn_r _ [7] (by decide +kernel) (by decide +kernel)
set_option maxRecDepth 20000 in
theorem gX9_turnedBy_X9_power : GoodIn wsX9_turnedBy (va_wsS RX9 139 yX9_power wsX9_power) := goodIn_app (goodIn_of _ (by decide +kernel)) ggX9_turnedBy_X9_power
theorem dX9_turnedBy_0 : decode cX9_turnedBy 0 = .ok (.iconst 0, 1) := by decide +kernel
theorem dX9_turnedBy_1 : decode cX9_turnedBy 1 = .ok (.istore_n 3, 1) := by decide +kernel
theorem dX9_turnedBy_2 : decode cX9_turnedBy 2 = .ok (.iconst 0, 1) := by decide +kernel
theorem dX9_turnedBy_3 : decode cX9_turnedBy 3 = .ok (.istore 4, 2) := by decide +kernel
theorem dX9_turnedBy_5 : decode cX9_turnedBy 5 = .ok (.iload 4, 2) := by decide +kernel
theorem dX9_turnedBy_7 : decode cX9_turnedBy 7 = .ok (.iconst 4, 1) := by decide +kernel
theorem dX9_turnedBy_8 : decode cX9_turnedBy 8 = .ok (.if_icmp .ge 19, 3) := by decide +kernel
theorem dX9_turnedBy_11 : decode cX9_turnedBy 11 = .ok (.iload_n 3, 1) := by decide +kernel
theorem dX9_turnedBy_12 : decode cX9_turnedBy 12 = .ok (.iload_n 0, 1) := by decide +kernel
theorem dX9_turnedBy_13 : decode cX9_turnedBy 13 = .ok (.iload 4, 2) := by decide +kernel
theorem dX9_turnedBy_15 : decode cX9_turnedBy 15 = .ok (.iload_n 2, 1) := by decide +kernel
theorem dX9_turnedBy_16 : decode cX9_turnedBy 16 = .ok (.invokestatic 135, 3) := by decide +kernel
theorem dX9_turnedBy_19 : decode cX9_turnedBy 19 = .ok (.iadd, 1) := by decide +kernel
theorem dX9_turnedBy_20 : decode cX9_turnedBy 20 = .ok (.istore_n 3, 1) := by decide +kernel
theorem dX9_turnedBy_21 : decode cX9_turnedBy 21 = .ok (.iinc 4 1, 3) := by decide +kernel
theorem dX9_turnedBy_24 : decode cX9_turnedBy 24 = .ok (.goto (-19), 3) := by decide +kernel
theorem dX9_turnedBy_27 : decode cX9_turnedBy 27 = .ok (.iload_n 0, 1) := by decide +kernel
theorem dX9_turnedBy_28 : decode cX9_turnedBy 28 = .ok (.iload_n 1, 1) := by decide +kernel
theorem dX9_turnedBy_29 : decode cX9_turnedBy 29 = .ok (.iload_n 2, 1) := by decide +kernel
theorem dX9_turnedBy_30 : decode cX9_turnedBy 30 = .ok (.invokestatic 135, 3) := by decide +kernel
theorem dX9_turnedBy_33 : decode cX9_turnedBy 33 = .ok (.istore 4, 2) := by decide +kernel
theorem dX9_turnedBy_35 : decode cX9_turnedBy 35 = .ok (.iconst 2, 1) := by decide +kernel
theorem dX9_turnedBy_36 : decode cX9_turnedBy 36 = .ok (.iload_n 3, 1) := by decide +kernel
theorem dX9_turnedBy_37 : decode cX9_turnedBy 37 = .ok (.iload 4, 2) := by decide +kernel
theorem dX9_turnedBy_39 : decode cX9_turnedBy 39 = .ok (.isub, 1) := by decide +kernel
theorem dX9_turnedBy_40 : decode cX9_turnedBy 40 = .ok (.imul, 1) := by decide +kernel
theorem dX9_turnedBy_41 : decode cX9_turnedBy 41 = .ok (.iload 4, 2) := by decide +kernel
theorem dX9_turnedBy_43 : decode cX9_turnedBy 43 = .ok (.isub, 1) := by decide +kernel
theorem dX9_turnedBy_44 : decode cX9_turnedBy 44 = .ok (.iload_n 2, 1) := by decide +kernel
theorem dX9_turnedBy_45 : decode cX9_turnedBy 45 = .ok (.iadd, 1) := by decide +kernel
theorem dX9_turnedBy_46 : decode cX9_turnedBy 46 = .ok (.iload_n 2, 1) := by decide +kernel
theorem dX9_turnedBy_47 : decode cX9_turnedBy 47 = .ok (.irem, 1) := by decide +kernel
theorem dX9_turnedBy_48 : decode cX9_turnedBy 48 = .ok (.istore 5, 2) := by decide +kernel
theorem dX9_turnedBy_50 : decode cX9_turnedBy 50 = .ok (.iload_n 0, 1) := by decide +kernel
theorem dX9_turnedBy_51 : decode cX9_turnedBy 51 = .ok (.iload 5, 2) := by decide +kernel
theorem dX9_turnedBy_53 : decode cX9_turnedBy 53 = .ok (.iload 4, 2) := by decide +kernel
theorem dX9_turnedBy_55 : decode cX9_turnedBy 55 = .ok (.isub, 1) := by decide +kernel
theorem dX9_turnedBy_56 : decode cX9_turnedBy 56 = .ok (.iload_n 2, 1) := by decide +kernel
theorem dX9_turnedBy_57 : decode cX9_turnedBy 57 = .ok (.iload_n 1, 1) := by decide +kernel
theorem dX9_turnedBy_58 : decode cX9_turnedBy 58 = .ok (.invokestatic 139, 3) := by decide +kernel
theorem dX9_turnedBy_61 : decode cX9_turnedBy 61 = .ok (.imul, 1) := by decide +kernel
theorem dX9_turnedBy_62 : decode cX9_turnedBy 62 = .ok (.iadd, 1) := by decide +kernel
theorem dX9_turnedBy_63 : decode cX9_turnedBy 63 = .ok (.ireturn, 1) := by decide +kernel
set_option maxRecDepth 20000 in
theorem ggX9_findRemainders_X9_digit : GoodIn wsX9_findRemainders wsX9_digit := goodIn_r _ [7] (by decide +kernel) (by decide +kernel)
set_option maxRecDepth 20000 in
theorem gX9_findRemainders_X9_digit : GoodIn wsX9_findRemainders (va_wsS RX9 135 yX9_digit wsX9_digit) := goodIn_app (goodIn_of _ (by decide +kernel)) ggX9_findRemainders_X9_digit
set_option maxRecDepth 20000 in
theorem ggX9_findRemainders_X9_turnedBy : GoodIn wsX9_findRemainders wsX9_turnedBy := goodIn_r _ [10, 4, 5, 6, 7, 11, 12, 13] (by decide +kernel) (by decide +kernel)
set_option maxRecDepth 20000 in
theorem gX9_findRemainders_X9_turnedBy : GoodIn wsX9_findRemainders (va_wsS RX9 143 yX9_turnedBy wsX9_turnedBy) := goodIn_app (goodIn_of _ (by decide +kernel)) ggX9_findRemainders_X9_turnedBy
theorem dX9_findRemainders_0 : decode cX9_findRemainders 0 = .ok (.iconst 0, 1) := by decide +kernel
theorem dX9_findRemainders_1 : decode cX9_findRemainders 1 = .ok (.istore_n 2, 1) := by decide +kernel
theorem dX9_findRemainders_2 : decode cX9_findRemainders 2 = .ok (.iload_n 2, 1) := by decide +kernel
theorem dX9_findRemainders_3 : decode cX9_findRemainders 3 = .ok (.sipush 20736, 3) := by decide +kernel
theorem dX9_findRemainders_6 : decode cX9_findRemainders 6 = .ok (.if_icmp .ge 16, 3) := by decide +kernel
theorem dX9_findRemainders_9 : decode cX9_findRemainders 9 = .ok (.aload_n 0, 1) := by decide +kernel
theorem dX9_findRemainders_10 : decode cX9_findRemainders 10 = .ok (.getfield 30, 3) := by decide +kernel
theorem dX9_findRemainders_13 : decode cX9_findRemainders 13 = .ok (.iload_n 2, 1) := by decide +kernel
theorem dX9_findRemainders_14 : decode cX9_findRemainders 14 = .ok (.iconst 0, 1) := by decide +kernel
theorem dX9_findRemainders_15 : decode cX9_findRemainders 15 = .ok (.bastore, 1) := by decide +kernel
theorem dX9_findRemainders_16 : decode cX9_findRemainders 16 = .ok (.iinc 2 1, 3) := by decide +kernel
theorem dX9_findRemainders_19 : decode cX9_findRemainders 19 = .ok (.goto (-17), 3) := by decide +kernel
theorem dX9_findRemainders_22 : decode cX9_findRemainders 22 = .ok (.iconst 0, 1) := by decide +kernel
theorem dX9_findRemainders_23 : decode cX9_findRemainders 23 = .ok (.istore_n 2, 1) := by decide +kernel
theorem dX9_findRemainders_24 : decode cX9_findRemainders 24 = .ok (.iconst 3, 1) := by decide +kernel
theorem dX9_findRemainders_25 : decode cX9_findRemainders 25 = .ok (.istore_n 3, 1) := by decide +kernel
theorem dX9_findRemainders_26 : decode cX9_findRemainders 26 = .ok (.iload_n 3, 1) := by decide +kernel
theorem dX9_findRemainders_27 : decode cX9_findRemainders 27 = .ok (.ifCond .lt 30, 3) := by decide +kernel
theorem dX9_findRemainders_30 : decode cX9_findRemainders 30 = .ok (.iload_n 2, 1) := by decide +kernel
theorem dX9_findRemainders_31 : decode cX9_findRemainders 31 = .ok (.iload_n 1, 1) := by decide +kernel
theorem dX9_findRemainders_32 : decode cX9_findRemainders 32 = .ok (.imul, 1) := by decide +kernel
theorem dX9_findRemainders_33 : decode cX9_findRemainders 33 = .ok (.aload_n 0, 1) := by decide +kernel
theorem dX9_findRemainders_34 : decode cX9_findRemainders 34 = .ok (.getfield 13, 3) := by decide +kernel
theorem dX9_findRemainders_37 : decode cX9_findRemainders 37 = .ok (.iload_n 3, 1) := by decide +kernel
theorem dX9_findRemainders_38 : decode cX9_findRemainders 38 = .ok (.laload, 1) := by decide +kernel
theorem dX9_findRemainders_39 : decode cX9_findRemainders 39 = .ok (.iload_n 1, 1) := by decide +kernel
theorem dX9_findRemainders_40 : decode cX9_findRemainders 40 = .ok (.i2l, 1) := by decide +kernel
theorem dX9_findRemainders_41 : decode cX9_findRemainders 41 = .ok (.lrem, 1) := by decide +kernel
theorem dX9_findRemainders_42 : decode cX9_findRemainders 42 = .ok (.iload_n 1, 1) := by decide +kernel
theorem dX9_findRemainders_43 : decode cX9_findRemainders 43 = .ok (.i2l, 1) := by decide +kernel
theorem dX9_findRemainders_44 : decode cX9_findRemainders 44 = .ok (.ladd, 1) := by decide +kernel
theorem dX9_findRemainders_45 : decode cX9_findRemainders 45 = .ok (.iload_n 1, 1) := by decide +kernel
theorem dX9_findRemainders_46 : decode cX9_findRemainders 46 = .ok (.i2l, 1) := by decide +kernel
theorem dX9_findRemainders_47 : decode cX9_findRemainders 47 = .ok (.lrem, 1) := by decide +kernel
theorem dX9_findRemainders_48 : decode cX9_findRemainders 48 = .ok (.l2i, 1) := by decide +kernel
theorem dX9_findRemainders_49 : decode cX9_findRemainders 49 = .ok (.iadd, 1) := by decide +kernel
theorem dX9_findRemainders_50 : decode cX9_findRemainders 50 = .ok (.istore_n 2, 1) := by decide +kernel
theorem dX9_findRemainders_51 : decode cX9_findRemainders 51 = .ok (.iinc 3 (-1), 3) := by decide +kernel
theorem dX9_findRemainders_54 : decode cX9_findRemainders 54 = .ok (.goto (-28), 3) := by decide +kernel
theorem dX9_findRemainders_57 : decode cX9_findRemainders 57 = .ok (.aload_n 0, 1) := by decide +kernel
theorem dX9_findRemainders_58 : decode cX9_findRemainders 58 = .ok (.getfield 33, 3) := by decide +kernel
theorem dX9_findRemainders_61 : decode cX9_findRemainders 61 = .ok (.iconst 0, 1) := by decide +kernel
theorem dX9_findRemainders_62 : decode cX9_findRemainders 62 = .ok (.iload_n 2, 1) := by decide +kernel
theorem dX9_findRemainders_63 : decode cX9_findRemainders 63 = .ok (.iastore, 1) := by decide +kernel
theorem dX9_findRemainders_64 : decode cX9_findRemainders 64 = .ok (.aload_n 0, 1) := by decide +kernel
theorem dX9_findRemainders_65 : decode cX9_findRemainders 65 = .ok (.getfield 30, 3) := by decide +kernel
theorem dX9_findRemainders_68 : decode cX9_findRemainders 68 = .ok (.iload_n 2, 1) := by decide +kernel
theorem dX9_findRemainders_69 : decode cX9_findRemainders 69 = .ok (.iconst 1, 1) := by decide +kernel
theorem dX9_findRemainders_70 : decode cX9_findRemainders 70 = .ok (.bastore, 1) := by decide +kernel
theorem dX9_findRemainders_71 : decode cX9_findRemainders 71 = .ok (.iconst 1, 1) := by decide +kernel
theorem dX9_findRemainders_72 : decode cX9_findRemainders 72 = .ok (.istore_n 3, 1) := by decide +kernel
theorem dX9_findRemainders_73 : decode cX9_findRemainders 73 = .ok (.iconst 0, 1) := by decide +kernel
theorem dX9_findRemainders_74 : decode cX9_findRemainders 74 = .ok (.istore 4, 2) := by decide +kernel
theorem dX9_findRemainders_76 : decode cX9_findRemainders 76 = .ok (.iconst 0, 1) := by decide +kernel
theorem dX9_findRemainders_77 : decode cX9_findRemainders 77 = .ok (.istore 5, 2) := by decide +kernel
theorem dX9_findRemainders_79 : decode cX9_findRemainders 79 = .ok (.iload 5, 2) := by decide +kernel
theorem dX9_findRemainders_81 : decode cX9_findRemainders 81 = .ok (.iload_n 3, 1) := by decide +kernel
theorem dX9_findRemainders_82 : decode cX9_findRemainders 82 = .ok (.if_icmp .ge 88, 3) := by decide +kernel
theorem dX9_findRemainders_85 : decode cX9_findRemainders 85 = .ok (.iconst 0, 1) := by decide +kernel
theorem dX9_findRemainders_86 : decode cX9_findRemainders 86 = .ok (.istore 6, 2) := by decide +kernel
theorem dX9_findRemainders_88 : decode cX9_findRemainders 88 = .ok (.iload 6, 2) := by decide +kernel
theorem dX9_findRemainders_90 : decode cX9_findRemainders 90 = .ok (.iconst 4, 1) := by decide +kernel
theorem dX9_findRemainders_91 : decode cX9_findRemainders 91 = .ok (.if_icmp .ge 73, 3) := by decide +kernel
theorem dX9_findRemainders_94 : decode cX9_findRemainders 94 = .ok (.iload 4, 2) := by decide +kernel
theorem dX9_findRemainders_96 : decode cX9_findRemainders 96 = .ok (.iconst 1, 1) := by decide +kernel
theorem dX9_findRemainders_97 : decode cX9_findRemainders 97 = .ok (.aload_n 0, 1) := by decide +kernel
theorem dX9_findRemainders_98 : decode cX9_findRemainders 98 = .ok (.getfield 33, 3) := by decide +kernel
theorem dX9_findRemainders_101 : decode cX9_findRemainders 101 = .ok (.iload 5, 2) := by decide +kernel
theorem dX9_findRemainders_103 : decode cX9_findRemainders 103 = .ok (.iaload, 1) := by decide +kernel
theorem dX9_findRemainders_104 : decode cX9_findRemainders 104 = .ok (.iload 6, 2) := by decide +kernel
theorem dX9_findRemainders_106 : decode cX9_findRemainders 106 = .ok (.iload_n 1, 1) := by decide +kernel
theorem dX9_findRemainders_107 : decode cX9_findRemainders 107 = .ok (.invokestatic 135, 3) := by decide +kernel
theorem dX9_findRemainders_110 : decode cX9_findRemainders 110 = .ok (.ishl, 1) := by decide +kernel
theorem dX9_findRemainders_111 : decode cX9_findRemainders 111 = .ok (.ior, 1) := by decide +kernel
theorem dX9_findRemainders_112 : decode cX9_findRemainders 112 = .ok (.istore 4, 2) := by decide +kernel
theorem dX9_findRemainders_114 : decode cX9_findRemainders 114 = .ok (.aload_n 0, 1) := by decide +kernel
theorem dX9_findRemainders_115 : decode cX9_findRemainders 115 = .ok (.getfield 33, 3) := by decide +kernel
theorem dX9_findRemainders_118 : decode cX9_findRemainders 118 = .ok (.iload 5, 2) := by decide +kernel
theorem dX9_findRemainders_120 : decode cX9_findRemainders 120 = .ok (.iaload, 1) := by decide +kernel
theorem dX9_findRemainders_121 : decode cX9_findRemainders 121 = .ok (.iload 6, 2) := by decide +kernel
theorem dX9_findRemainders_123 : decode cX9_findRemainders 123 = .ok (.iload_n 1, 1) := by decide +kernel
theorem dX9_findRemainders_124 : decode cX9_findRemainders 124 = .ok (.invokestatic 143, 3) := by decide +kernel
theorem dX9_findRemainders_127 : decode cX9_findRemainders 127 = .ok (.istore 7, 2) := by decide +kernel
theorem dX9_findRemainders_129 : decode cX9_findRemainders 129 = .ok (.aload_n 0, 1) := by decide +kernel
theorem dX9_findRemainders_130 : decode cX9_findRemainders 130 = .ok (.getfield 30, 3) := by decide +kernel
theorem dX9_findRemainders_133 : decode cX9_findRemainders 133 = .ok (.iload 7, 2) := by decide +kernel
theorem dX9_findRemainders_135 : decode cX9_findRemainders 135 = .ok (.baload, 1) := by decide +kernel
theorem dX9_findRemainders_136 : decode cX9_findRemainders 136 = .ok (.ifCond .ne 22, 3) := by decide +kernel
theorem dX9_findRemainders_139 : decode cX9_findRemainders 139 = .ok (.aload_n 0, 1) := by decide +kernel
theorem dX9_findRemainders_140 : decode cX9_findRemainders 140 = .ok (.getfield 30, 3) := by decide +kernel
theorem dX9_findRemainders_143 : decode cX9_findRemainders 143 = .ok (.iload 7, 2) := by decide +kernel
theorem dX9_findRemainders_145 : decode cX9_findRemainders 145 = .ok (.iconst 1, 1) := by decide +kernel
theorem dX9_findRemainders_146 : decode cX9_findRemainders 146 = .ok (.bastore, 1) := by decide +kernel
theorem dX9_findRemainders_147 : decode cX9_findRemainders 147 = .ok (.aload_n 0, 1) := by decide +kernel
theorem dX9_findRemainders_148 : decode cX9_findRemainders 148 = .ok (.getfield 33, 3) := by decide +kernel
theorem dX9_findRemainders_151 : decode cX9_findRemainders 151 = .ok (.iload_n 3, 1) := by decide +kernel
theorem dX9_findRemainders_152 : decode cX9_findRemainders 152 = .ok (.iload 7, 2) := by decide +kernel
theorem dX9_findRemainders_154 : decode cX9_findRemainders 154 = .ok (.iastore, 1) := by decide +kernel
theorem dX9_findRemainders_155 : decode cX9_findRemainders 155 = .ok (.iinc 3 1, 3) := by decide +kernel
theorem dX9_findRemainders_158 : decode cX9_findRemainders 158 = .ok (.iinc 6 1, 3) := by decide +kernel
theorem dX9_findRemainders_161 : decode cX9_findRemainders 161 = .ok (.goto (-73), 3) := by decide +kernel
theorem dX9_findRemainders_164 : decode cX9_findRemainders 164 = .ok (.iinc 5 1, 3) := by decide +kernel
theorem dX9_findRemainders_167 : decode cX9_findRemainders 167 = .ok (.goto (-88), 3) := by decide +kernel
theorem dX9_findRemainders_170 : decode cX9_findRemainders 170 = .ok (.iload 4, 2) := by decide +kernel
theorem dX9_findRemainders_172 : decode cX9_findRemainders 172 = .ok (.ireturn, 1) := by decide +kernel
set_option maxRecDepth 20000 in
theorem ggX9_remainders_X9_within : GoodIn wsX9_remainders wsX9_within := goodIn_r _ [4] (by decide +kernel) (by decide +kernel)
set_option maxRecDepth 20000 in
theorem gX9_remainders_X9_within : GoodIn wsX9_remainders (va_wsS RX9 63 yX9_within wsX9_within) := goodIn_app (goodIn_of _ (by decide +kernel)) ggX9_remainders_X9_within
set_option maxRecDepth 20000 in
theorem ggX9_remainders_X9_findRoot : GoodIn wsX9_remainders wsX9_findRoot := goodIn_r _ [8, 9, 10, 11, 12, 13, 3, 14, 15, 16, 17, 18, 19, 20, 21, 22, 38, 39, 40, 41, 42, 43, 44, 45, 46, 47, 48, 49, 50, 51, 52, 53, 54] (by decide +kernel) (by decide +kernel)
set_option maxRecDepth 20000 in
theorem gX9_remainders_X9_findRoot : GoodIn wsX9_remainders (wsV RX9 101 RX9 yX9_findRoot wsX9_findRoot) := goodIn_app (goodIn_of _ (by decide +kernel)) ggX9_remainders_X9_findRoot
set_option maxRecDepth 20000 in
theorem ggX9_remainders_X9_findRemainders : GoodIn wsX9_remainders wsX9_findRemainders := goodIn_r _ [26, 27, 9, 28, 29, 30, 3, 31, 32, 33, 34, 35, 36, 37, 38, 39, 40, 41, 42, 43, 44, 45, 46, 47, 48, 49, 50, 51, 52, 53, 54] (by decide +kernel) (by decide +kernel)
set_option maxRecDepth 20000 in
theorem gX9_remainders_X9_findRemainders : GoodIn wsX9_remainders (wsV RX9 146 RX9 yX9_findRemainders wsX9_findRemainders) := goodIn_app (goodIn_of _ (by decide +kernel)) ggX9_remainders_X9_findRemainders
theorem dX9_remainders_0 : decode cX9_remainders 0 = .ok (.iload_n 1, 1) := by decide +kernel
theorem dX9_remainders_1 : decode cX9_remainders 1 = .ok (.iconst 2, 1) := by decide +kernel
theorem dX9_remainders_2 : decode cX9_remainders 2 = .ok (.bipush 12, 2) := by decide +kernel
theorem dX9_remainders_4 : decode cX9_remainders 4 = .ok (.invokestatic 63, 3) := by decide +kernel
theorem dX9_remainders_7 : decode cX9_remainders 7 = .ok (.ifCond .ne 6, 3) := by decide +kernel
theorem dX9_remainders_10 : decode cX9_remainders 10 = .ok (.bipush (-2), 2) := by decide +kernel
theorem dX9_remainders_12 : decode cX9_remainders 12 = .ok (.ireturn, 1) := by decide +kernel
theorem dX9_remainders_13 : decode cX9_remainders 13 = .ok (.aload_n 0, 1) := by decide +kernel
theorem dX9_remainders_14 : decode cX9_remainders 14 = .ok (.bipush (-9), 2) := by decide +kernel
theorem dX9_remainders_16 : decode cX9_remainders 16 = .ok (.invokevirtual 101, 3) := by decide +kernel
theorem dX9_remainders_19 : decode cX9_remainders 19 = .ok (.pop, 1) := by decide +kernel
theorem dX9_remainders_20 : decode cX9_remainders 20 = .ok (.aload_n 0, 1) := by decide +kernel
theorem dX9_remainders_21 : decode cX9_remainders 21 = .ok (.iload_n 1, 1) := by decide +kernel
theorem dX9_remainders_22 : decode cX9_remainders 22 = .ok (.invokevirtual 146, 3) := by decide +kernel
theorem dX9_remainders_25 : decode cX9_remainders 25 = .ok (.ireturn, 1) := by decide +kernel
set_option maxRecDepth 20000 in
theorem ggX9_gap_X9_within : GoodIn wsX9_gap wsX9_within := goodIn_r _ [6] (by decide +kernel) (by decide +kernel)
set_option maxRecDepth 20000 in
theorem gX9_gap_X9_within : GoodIn wsX9_gap (va_wsS RX9 63 yX9_within wsX9_within) := goodIn_app (goodIn_of _ (by decide +kernel)) ggX9_gap_X9_within
set_option maxRecDepth 20000 in
theorem ggX9_gap_X9_isBound : GoodIn wsX9_gap wsX9_isBound := goodIn_r _ [10, 11, 12, 13, 14, 5, 15, 16, 17, 18, 19, 20, 21, 22, 23, 24, 25, 26, 27, 28, 70, 71, 72, 73, 74, 75, 76, 77, 78, 79, 80, 81, 82, 83, 84, 85, 86] (by decide +kernel) (by decide +kernel)
set_option maxRecDepth 20000 in
theorem gX9_gap_X9_isBound : GoodIn wsX9_gap (wsV RX9 127 RX9 yX9_isBound wsX9_isBound) := goodIn_app (goodIn_of _ (by decide +kernel)) ggX9_gap_X9_isBound
set_option maxRecDepth 20000 in
theorem ggX9_gap_X9_findRemainders : GoodIn wsX9_gap wsX9_findRemainders := goodIn_r _ [32, 33, 11, 34, 35, 36, 5, 37, 38, 39, 40, 41, 42, 43, 70, 71, 72, 73, 74, 75, 76, 77, 78, 79, 80, 81, 82, 83, 84, 85, 86] (by decide +kernel) (by decide +kernel)
set_option maxRecDepth 20000 in
theorem gX9_gap_X9_findRemainders : GoodIn wsX9_gap (wsV RX9 146 RX9 yX9_findRemainders wsX9_findRemainders) := goodIn_app (goodIn_of _ (by decide +kernel)) ggX9_gap_X9_findRemainders
set_option maxRecDepth 20000 in
theorem ggX9_gap_X9_allUpTo : GoodIn wsX9_gap wsX9_allUpTo := goodIn_r _ [47, 2, 48, 49, 50, 51, 5, 52, 53, 11, 54, 55, 56, 57, 58, 59, 60, 61, 62, 63, 64, 65, 66, 67, 68, 69, 24, 70, 71, 72, 73, 74, 75, 76, 77, 78, 79, 80, 81, 82, 83, 84, 85, 86] (by decide +kernel) (by decide +kernel)
set_option maxRecDepth 20000 in
theorem gX9_gap_X9_allUpTo : GoodIn wsX9_gap (wsV RX9 131 RX9 yX9_allUpTo wsX9_allUpTo) := goodIn_app (goodIn_of _ (by decide +kernel)) ggX9_gap_X9_allUpTo
theorem dX9_gap_0 : decode cX9_gap 0 = .ok (.iload_n 1, 1) := by decide +kernel
theorem dX9_gap_1 : decode cX9_gap 1 = .ok (.iconst 1, 1) := by decide +kernel
theorem dX9_gap_2 : decode cX9_gap 2 = .ok (.sipush 5000, 3) := by decide +kernel
theorem dX9_gap_5 : decode cX9_gap 5 = .ok (.invokestatic 63, 3) := by decide +kernel
theorem dX9_gap_8 : decode cX9_gap 8 = .ok (.ifCond .eq 14, 3) := by decide +kernel
theorem dX9_gap_11 : decode cX9_gap 11 = .ok (.iload_n 2, 1) := by decide +kernel
theorem dX9_gap_12 : decode cX9_gap 12 = .ok (.iconst (-1), 1) := by decide +kernel
theorem dX9_gap_13 : decode cX9_gap 13 = .ok (.sipush 5000, 3) := by decide +kernel
theorem dX9_gap_16 : decode cX9_gap 16 = .ok (.invokestatic 63, 3) := by decide +kernel
theorem dX9_gap_19 : decode cX9_gap 19 = .ok (.ifCond .ne 6, 3) := by decide +kernel
theorem dX9_gap_22 : decode cX9_gap 22 = .ok (.bipush (-2), 2) := by decide +kernel
theorem dX9_gap_24 : decode cX9_gap 24 = .ok (.ireturn, 1) := by decide +kernel
theorem dX9_gap_25 : decode cX9_gap 25 = .ok (.aload_n 0, 1) := by decide +kernel
theorem dX9_gap_26 : decode cX9_gap 26 = .ok (.invokevirtual 127, 3) := by decide +kernel
theorem dX9_gap_29 : decode cX9_gap 29 = .ok (.ifCond .ne 6, 3) := by decide +kernel
theorem dX9_gap_32 : decode cX9_gap 32 = .ok (.bipush (-3), 2) := by decide +kernel
theorem dX9_gap_34 : decode cX9_gap 34 = .ok (.ireturn, 1) := by decide +kernel
theorem dX9_gap_35 : decode cX9_gap 35 = .ok (.aload_n 0, 1) := by decide +kernel
theorem dX9_gap_36 : decode cX9_gap 36 = .ok (.bipush 12, 2) := by decide +kernel
theorem dX9_gap_38 : decode cX9_gap 38 = .ok (.invokevirtual 146, 3) := by decide +kernel
theorem dX9_gap_41 : decode cX9_gap 41 = .ok (.istore_n 3, 1) := by decide +kernel
theorem dX9_gap_42 : decode cX9_gap 42 = .ok (.aload_n 0, 1) := by decide +kernel
theorem dX9_gap_43 : decode cX9_gap 43 = .ok (.iload_n 1, 1) := by decide +kernel
theorem dX9_gap_44 : decode cX9_gap 44 = .ok (.ldc2_w 80, 3) := by decide +kernel
theorem dX9_gap_47 : decode cX9_gap 47 = .ok (.invokevirtual 131, 3) := by decide +kernel
theorem dX9_gap_50 : decode cX9_gap 50 = .ok (.pop, 1) := by decide +kernel
theorem dX9_gap_51 : decode cX9_gap 51 = .ok (.iconst 0, 1) := by decide +kernel
theorem dX9_gap_52 : decode cX9_gap 52 = .ok (.istore 4, 2) := by decide +kernel
theorem dX9_gap_54 : decode cX9_gap 54 = .ok (.iconst 1, 1) := by decide +kernel
theorem dX9_gap_55 : decode cX9_gap 55 = .ok (.istore 5, 2) := by decide +kernel
theorem dX9_gap_57 : decode cX9_gap 57 = .ok (.iload 5, 2) := by decide +kernel
theorem dX9_gap_59 : decode cX9_gap 59 = .ok (.iload_n 1, 1) := by decide +kernel
theorem dX9_gap_60 : decode cX9_gap 60 = .ok (.if_icmp .gt 44, 3) := by decide +kernel
theorem dX9_gap_63 : decode cX9_gap 63 = .ok (.aload_n 0, 1) := by decide +kernel
theorem dX9_gap_64 : decode cX9_gap 64 = .ok (.getfield 26, 3) := by decide +kernel
theorem dX9_gap_67 : decode cX9_gap 67 = .ok (.iload 5, 2) := by decide +kernel
theorem dX9_gap_69 : decode cX9_gap 69 = .ok (.baload, 1) := by decide +kernel
theorem dX9_gap_70 : decode cX9_gap 70 = .ok (.ifCond .ne 28, 3) := by decide +kernel
theorem dX9_gap_73 : decode cX9_gap 73 = .ok (.iload_n 3, 1) := by decide +kernel
theorem dX9_gap_74 : decode cX9_gap 74 = .ok (.iload 5, 2) := by decide +kernel
theorem dX9_gap_76 : decode cX9_gap 76 = .ok (.bipush 12, 2) := by decide +kernel
theorem dX9_gap_78 : decode cX9_gap 78 = .ok (.irem, 1) := by decide +kernel
theorem dX9_gap_79 : decode cX9_gap 79 = .ok (.ishr, 1) := by decide +kernel
theorem dX9_gap_80 : decode cX9_gap 80 = .ok (.iconst 1, 1) := by decide +kernel
theorem dX9_gap_81 : decode cX9_gap 81 = .ok (.iand, 1) := by decide +kernel
theorem dX9_gap_82 : decode cX9_gap 82 = .ok (.iconst 1, 1) := by decide +kernel
theorem dX9_gap_83 : decode cX9_gap 83 = .ok (.if_icmp .ne 15, 3) := by decide +kernel
theorem dX9_gap_86 : decode cX9_gap 86 = .ok (.iload 4, 2) := by decide +kernel
theorem dX9_gap_88 : decode cX9_gap 88 = .ok (.iload_n 2, 1) := by decide +kernel
theorem dX9_gap_89 : decode cX9_gap 89 = .ok (.if_icmp .ne 6, 3) := by decide +kernel
theorem dX9_gap_92 : decode cX9_gap 92 = .ok (.iload 5, 2) := by decide +kernel
theorem dX9_gap_94 : decode cX9_gap 94 = .ok (.ireturn, 1) := by decide +kernel
theorem dX9_gap_95 : decode cX9_gap 95 = .ok (.iinc 4 1, 3) := by decide +kernel
theorem dX9_gap_98 : decode cX9_gap 98 = .ok (.iinc 5 1, 3) := by decide +kernel
theorem dX9_gap_101 : decode cX9_gap 101 = .ok (.goto (-44), 3) := by decide +kernel
theorem dX9_gap_104 : decode cX9_gap 104 = .ok (.iload_n 2, 1) := by decide +kernel
theorem dX9_gap_105 : decode cX9_gap 105 = .ok (.ifCond .ge 8, 3) := by decide +kernel
theorem dX9_gap_108 : decode cX9_gap 108 = .ok (.iload 4, 2) := by decide +kernel
theorem dX9_gap_110 : decode cX9_gap 110 = .ok (.goto 5, 3) := by decide +kernel
theorem dX9_gap_113 : decode cX9_gap 113 = .ok (.bipush (-9), 2) := by decide +kernel
theorem dX9_gap_115 : decode cX9_gap 115 = .ok (.ireturn, 1) := by decide +kernel
set_option maxRecDepth 20000 in
theorem ggX9_isWord_X9_isPlace : GoodIn wsX9_isWord wsX9_isPlace := goodIn_r _ [5, 6, 7, 4, 8] (by decide +kernel) (by decide +kernel)
set_option maxRecDepth 20000 in
theorem gX9_isWord_X9_isPlace : GoodIn wsX9_isWord (va_wsS RX9 77 yX9_isPlace wsX9_isPlace) := goodIn_app (goodIn_of _ (by decide +kernel)) ggX9_isWord_X9_isPlace
theorem dX9_isWord_0 : decode cX9_isWord 0 = .ok (.iload_n 0, 1) := by decide +kernel
theorem dX9_isWord_1 : decode cX9_isWord 1 = .ok (.ifCond .lt 9, 3) := by decide +kernel
theorem dX9_isWord_4 : decode cX9_isWord 4 = .ok (.iload_n 0, 1) := by decide +kernel
theorem dX9_isWord_5 : decode cX9_isWord 5 = .ok (.ldc 149, 2) := by decide +kernel
theorem dX9_isWord_7 : decode cX9_isWord 7 = .ok (.if_icmp .le 5, 3) := by decide +kernel
theorem dX9_isWord_10 : decode cX9_isWord 10 = .ok (.iconst 0, 1) := by decide +kernel
theorem dX9_isWord_11 : decode cX9_isWord 11 = .ok (.ireturn, 1) := by decide +kernel
theorem dX9_isWord_12 : decode cX9_isWord 12 = .ok (.iconst 1, 1) := by decide +kernel
theorem dX9_isWord_13 : decode cX9_isWord 13 = .ok (.istore_n 1, 1) := by decide +kernel
theorem dX9_isWord_14 : decode cX9_isWord 14 = .ok (.iconst 0, 1) := by decide +kernel
theorem dX9_isWord_15 : decode cX9_isWord 15 = .ok (.istore_n 2, 1) := by decide +kernel
theorem dX9_isWord_16 : decode cX9_isWord 16 = .ok (.iload_n 0, 1) := by decide +kernel
theorem dX9_isWord_17 : decode cX9_isWord 17 = .ok (.istore_n 3, 1) := by decide +kernel
theorem dX9_isWord_18 : decode cX9_isWord 18 = .ok (.iload_n 3, 1) := by decide +kernel
theorem dX9_isWord_19 : decode cX9_isWord 19 = .ok (.ifCond .le 44, 3) := by decide +kernel
theorem dX9_isWord_22 : decode cX9_isWord 22 = .ok (.iload_n 3, 1) := by decide +kernel
theorem dX9_isWord_23 : decode cX9_isWord 23 = .ok (.bipush 10, 2) := by decide +kernel
theorem dX9_isWord_25 : decode cX9_isWord 25 = .ok (.irem, 1) := by decide +kernel
theorem dX9_isWord_26 : decode cX9_isWord 26 = .ok (.istore 4, 2) := by decide +kernel
theorem dX9_isWord_28 : decode cX9_isWord 28 = .ok (.iload_n 1, 1) := by decide +kernel
theorem dX9_isWord_29 : decode cX9_isWord 29 = .ok (.ifCond .eq 21, 3) := by decide +kernel
theorem dX9_isWord_32 : decode cX9_isWord 32 = .ok (.iload 4, 2) := by decide +kernel
theorem dX9_isWord_34 : decode cX9_isWord 34 = .ok (.invokestatic 77, 3) := by decide +kernel
theorem dX9_isWord_37 : decode cX9_isWord 37 = .ok (.ifCond .eq 13, 3) := by decide +kernel
theorem dX9_isWord_40 : decode cX9_isWord 40 = .ok (.iload 4, 2) := by decide +kernel
theorem dX9_isWord_42 : decode cX9_isWord 42 = .ok (.iload_n 2, 1) := by decide +kernel
theorem dX9_isWord_43 : decode cX9_isWord 43 = .ok (.if_icmp .eq 7, 3) := by decide +kernel
theorem dX9_isWord_46 : decode cX9_isWord 46 = .ok (.iconst 1, 1) := by decide +kernel
theorem dX9_isWord_47 : decode cX9_isWord 47 = .ok (.goto 4, 3) := by decide +kernel
theorem dX9_isWord_50 : decode cX9_isWord 50 = .ok (.iconst 0, 1) := by decide +kernel
theorem dX9_isWord_51 : decode cX9_isWord 51 = .ok (.istore_n 1, 1) := by decide +kernel
theorem dX9_isWord_52 : decode cX9_isWord 52 = .ok (.iload 4, 2) := by decide +kernel
theorem dX9_isWord_54 : decode cX9_isWord 54 = .ok (.istore_n 2, 1) := by decide +kernel
theorem dX9_isWord_55 : decode cX9_isWord 55 = .ok (.iload_n 3, 1) := by decide +kernel
theorem dX9_isWord_56 : decode cX9_isWord 56 = .ok (.bipush 10, 2) := by decide +kernel
theorem dX9_isWord_58 : decode cX9_isWord 58 = .ok (.idiv, 1) := by decide +kernel
theorem dX9_isWord_59 : decode cX9_isWord 59 = .ok (.istore_n 3, 1) := by decide +kernel
theorem dX9_isWord_60 : decode cX9_isWord 60 = .ok (.goto (-42), 3) := by decide +kernel
theorem dX9_isWord_63 : decode cX9_isWord 63 = .ok (.iload_n 1, 1) := by decide +kernel
theorem dX9_isWord_64 : decode cX9_isWord 64 = .ok (.ireturn, 1) := by decide +kernel
theorem dX9_turnsSums_0 : decode cX9_turnsSums 0 = .ok (.iconst 0, 1) := by decide +kernel
theorem dX9_turnsSums_1 : decode cX9_turnsSums 1 = .ok (.istore_n 2, 1) := by decide +kernel
theorem dX9_turnsSums_2 : decode cX9_turnsSums 2 = .ok (.iload_n 2, 1) := by decide +kernel
theorem dX9_turnsSums_3 : decode cX9_turnsSums 3 = .ok (.iconst 4, 1) := by decide +kernel
theorem dX9_turnsSums_4 : decode cX9_turnsSums 4 = .ok (.if_icmp .ge 82, 3) := by decide +kernel
theorem dX9_turnsSums_7 : decode cX9_turnsSums 7 = .ok (.aload_n 0, 1) := by decide +kernel
theorem dX9_turnsSums_8 : decode cX9_turnsSums 8 = .ok (.getfield 36, 3) := by decide +kernel
theorem dX9_turnsSums_11 : decode cX9_turnsSums 11 = .ok (.iload_n 2, 1) := by decide +kernel
theorem dX9_turnsSums_12 : decode cX9_turnsSums 12 = .ok (.laload, 1) := by decide +kernel
theorem dX9_turnsSums_13 : decode cX9_turnsSums 13 = .ok (.aload_n 0, 1) := by decide +kernel
theorem dX9_turnsSums_14 : decode cX9_turnsSums 14 = .ok (.getfield 36, 3) := by decide +kernel
theorem dX9_turnsSums_17 : decode cX9_turnsSums 17 = .ok (.iconst 4, 1) := by decide +kernel
theorem dX9_turnsSums_18 : decode cX9_turnsSums 18 = .ok (.iload_n 2, 1) := by decide +kernel
theorem dX9_turnsSums_19 : decode cX9_turnsSums 19 = .ok (.iadd, 1) := by decide +kernel
theorem dX9_turnsSums_20 : decode cX9_turnsSums 20 = .ok (.laload, 1) := by decide +kernel
theorem dX9_turnsSums_21 : decode cX9_turnsSums 21 = .ok (.ladd, 1) := by decide +kernel
theorem dX9_turnsSums_22 : decode cX9_turnsSums 22 = .ok (.aload_n 0, 1) := by decide +kernel
theorem dX9_turnsSums_23 : decode cX9_turnsSums 23 = .ok (.getfield 36, 3) := by decide +kernel
theorem dX9_turnsSums_26 : decode cX9_turnsSums 26 = .ok (.bipush 8, 2) := by decide +kernel
theorem dX9_turnsSums_28 : decode cX9_turnsSums 28 = .ok (.iload_n 2, 1) := by decide +kernel
theorem dX9_turnsSums_29 : decode cX9_turnsSums 29 = .ok (.iadd, 1) := by decide +kernel
theorem dX9_turnsSums_30 : decode cX9_turnsSums 30 = .ok (.laload, 1) := by decide +kernel
theorem dX9_turnsSums_31 : decode cX9_turnsSums 31 = .ok (.ladd, 1) := by decide +kernel
theorem dX9_turnsSums_32 : decode cX9_turnsSums 32 = .ok (.aload_n 0, 1) := by decide +kernel
theorem dX9_turnsSums_33 : decode cX9_turnsSums 33 = .ok (.getfield 36, 3) := by decide +kernel
theorem dX9_turnsSums_36 : decode cX9_turnsSums 36 = .ok (.bipush 12, 2) := by decide +kernel
theorem dX9_turnsSums_38 : decode cX9_turnsSums 38 = .ok (.iload_n 2, 1) := by decide +kernel
theorem dX9_turnsSums_39 : decode cX9_turnsSums 39 = .ok (.iadd, 1) := by decide +kernel
theorem dX9_turnsSums_40 : decode cX9_turnsSums 40 = .ok (.laload, 1) := by decide +kernel
theorem dX9_turnsSums_41 : decode cX9_turnsSums 41 = .ok (.ladd, 1) := by decide +kernel
theorem dX9_turnsSums_42 : decode cX9_turnsSums 42 = .ok (.lstore_n 3, 1) := by decide +kernel
theorem dX9_turnsSums_43 : decode cX9_turnsSums 43 = .ok (.aload_n 0, 1) := by decide +kernel
theorem dX9_turnsSums_44 : decode cX9_turnsSums 44 = .ok (.getfield 36, 3) := by decide +kernel
theorem dX9_turnsSums_47 : decode cX9_turnsSums 47 = .ok (.iconst 4, 1) := by decide +kernel
theorem dX9_turnsSums_48 : decode cX9_turnsSums 48 = .ok (.iload_n 1, 1) := by decide +kernel
theorem dX9_turnsSums_49 : decode cX9_turnsSums 49 = .ok (.imul, 1) := by decide +kernel
theorem dX9_turnsSums_50 : decode cX9_turnsSums 50 = .ok (.iload_n 2, 1) := by decide +kernel
theorem dX9_turnsSums_51 : decode cX9_turnsSums 51 = .ok (.iadd, 1) := by decide +kernel
theorem dX9_turnsSums_52 : decode cX9_turnsSums 52 = .ok (.ldc2_w 59, 3) := by decide +kernel
theorem dX9_turnsSums_55 : decode cX9_turnsSums 55 = .ok (.lload_n 3, 1) := by decide +kernel
theorem dX9_turnsSums_56 : decode cX9_turnsSums 56 = .ok (.aload_n 0, 1) := by decide +kernel
theorem dX9_turnsSums_57 : decode cX9_turnsSums 57 = .ok (.getfield 36, 3) := by decide +kernel
theorem dX9_turnsSums_60 : decode cX9_turnsSums 60 = .ok (.iconst 4, 1) := by decide +kernel
theorem dX9_turnsSums_61 : decode cX9_turnsSums 61 = .ok (.iload_n 1, 1) := by decide +kernel
theorem dX9_turnsSums_62 : decode cX9_turnsSums 62 = .ok (.imul, 1) := by decide +kernel
theorem dX9_turnsSums_63 : decode cX9_turnsSums 63 = .ok (.iload_n 2, 1) := by decide +kernel
theorem dX9_turnsSums_64 : decode cX9_turnsSums 64 = .ok (.iadd, 1) := by decide +kernel
theorem dX9_turnsSums_65 : decode cX9_turnsSums 65 = .ok (.laload, 1) := by decide +kernel
theorem dX9_turnsSums_66 : decode cX9_turnsSums 66 = .ok (.lsub, 1) := by decide +kernel
theorem dX9_turnsSums_67 : decode cX9_turnsSums 67 = .ok (.lmul, 1) := by decide +kernel
theorem dX9_turnsSums_68 : decode cX9_turnsSums 68 = .ok (.aload_n 0, 1) := by decide +kernel
theorem dX9_turnsSums_69 : decode cX9_turnsSums 69 = .ok (.getfield 36, 3) := by decide +kernel
theorem dX9_turnsSums_72 : decode cX9_turnsSums 72 = .ok (.iconst 4, 1) := by decide +kernel
theorem dX9_turnsSums_73 : decode cX9_turnsSums 73 = .ok (.iload_n 1, 1) := by decide +kernel
theorem dX9_turnsSums_74 : decode cX9_turnsSums 74 = .ok (.imul, 1) := by decide +kernel
theorem dX9_turnsSums_75 : decode cX9_turnsSums 75 = .ok (.iload_n 2, 1) := by decide +kernel
theorem dX9_turnsSums_76 : decode cX9_turnsSums 76 = .ok (.iadd, 1) := by decide +kernel
theorem dX9_turnsSums_77 : decode cX9_turnsSums 77 = .ok (.laload, 1) := by decide +kernel
theorem dX9_turnsSums_78 : decode cX9_turnsSums 78 = .ok (.lsub, 1) := by decide +kernel
theorem dX9_turnsSums_79 : decode cX9_turnsSums 79 = .ok (.lastore, 1) := by decide +kernel
theorem dX9_turnsSums_80 : decode cX9_turnsSums 80 = .ok (.iinc 2 1, 3) := by decide +kernel
theorem dX9_turnsSums_83 : decode cX9_turnsSums 83 = .ok (.goto (-81), 3) := by decide +kernel
theorem dX9_turnsSums_86 : decode cX9_turnsSums 86 = .ok (.return_, 1) := by decide +kernel
set_option maxRecDepth 20000 in
theorem ggX9_laysWord_X9_turnsSums : GoodIn wsX9_laysWord wsX9_turnsSums := goodIn_r _ [6, 1, 7, 8, 9, 10, 11, 12, 13, 14, 15, 16, 17, 18, 19, 20, 21, 22, 23, 24] (by decide +kernel) (by decide +kernel)
set_option maxRecDepth 20000 in
theorem gX9_laysWord_X9_turnsSums : GoodIn wsX9_laysWord (wsV RX9 150 RX9 yX9_turnsSums wsX9_turnsSums) := goodIn_app (goodIn_of _ (by decide +kernel)) ggX9_laysWord_X9_turnsSums
theorem dX9_laysWord_0 : decode cX9_laysWord 0 = .ok (.iconst 0, 1) := by decide +kernel
theorem dX9_laysWord_1 : decode cX9_laysWord 1 = .ok (.istore_n 2, 1) := by decide +kernel
theorem dX9_laysWord_2 : decode cX9_laysWord 2 = .ok (.iload_n 2, 1) := by decide +kernel
theorem dX9_laysWord_3 : decode cX9_laysWord 3 = .ok (.bipush 16, 2) := by decide +kernel
theorem dX9_laysWord_5 : decode cX9_laysWord 5 = .ok (.if_icmp .ge 29, 3) := by decide +kernel
theorem dX9_laysWord_8 : decode cX9_laysWord 8 = .ok (.aload_n 0, 1) := by decide +kernel
theorem dX9_laysWord_9 : decode cX9_laysWord 9 = .ok (.getfield 36, 3) := by decide +kernel
theorem dX9_laysWord_12 : decode cX9_laysWord 12 = .ok (.iload_n 2, 1) := by decide +kernel
theorem dX9_laysWord_13 : decode cX9_laysWord 13 = .ok (.iload_n 2, 1) := by decide +kernel
theorem dX9_laysWord_14 : decode cX9_laysWord 14 = .ok (.iconst 4, 1) := by decide +kernel
theorem dX9_laysWord_15 : decode cX9_laysWord 15 = .ok (.idiv, 1) := by decide +kernel
theorem dX9_laysWord_16 : decode cX9_laysWord 16 = .ok (.iload_n 2, 1) := by decide +kernel
theorem dX9_laysWord_17 : decode cX9_laysWord 17 = .ok (.iconst 4, 1) := by decide +kernel
theorem dX9_laysWord_18 : decode cX9_laysWord 18 = .ok (.irem, 1) := by decide +kernel
theorem dX9_laysWord_19 : decode cX9_laysWord 19 = .ok (.if_icmp .ne 7, 3) := by decide +kernel
theorem dX9_laysWord_22 : decode cX9_laysWord 22 = .ok (.lconst 1, 1) := by decide +kernel
theorem dX9_laysWord_23 : decode cX9_laysWord 23 = .ok (.goto 4, 3) := by decide +kernel
theorem dX9_laysWord_26 : decode cX9_laysWord 26 = .ok (.lconst 0, 1) := by decide +kernel
theorem dX9_laysWord_27 : decode cX9_laysWord 27 = .ok (.lastore, 1) := by decide +kernel
theorem dX9_laysWord_28 : decode cX9_laysWord 28 = .ok (.iinc 2 1, 3) := by decide +kernel
theorem dX9_laysWord_31 : decode cX9_laysWord 31 = .ok (.goto (-29), 3) := by decide +kernel
theorem dX9_laysWord_34 : decode cX9_laysWord 34 = .ok (.iconst 1, 1) := by decide +kernel
theorem dX9_laysWord_35 : decode cX9_laysWord 35 = .ok (.istore_n 2, 1) := by decide +kernel
theorem dX9_laysWord_36 : decode cX9_laysWord 36 = .ok (.iload_n 1, 1) := by decide +kernel
theorem dX9_laysWord_37 : decode cX9_laysWord 37 = .ok (.iload_n 2, 1) := by decide +kernel
theorem dX9_laysWord_38 : decode cX9_laysWord 38 = .ok (.idiv, 1) := by decide +kernel
theorem dX9_laysWord_39 : decode cX9_laysWord 39 = .ok (.bipush 9, 2) := by decide +kernel
theorem dX9_laysWord_41 : decode cX9_laysWord 41 = .ok (.if_icmp .le 11, 3) := by decide +kernel
theorem dX9_laysWord_44 : decode cX9_laysWord 44 = .ok (.iload_n 2, 1) := by decide +kernel
theorem dX9_laysWord_45 : decode cX9_laysWord 45 = .ok (.bipush 10, 2) := by decide +kernel
theorem dX9_laysWord_47 : decode cX9_laysWord 47 = .ok (.imul, 1) := by decide +kernel
theorem dX9_laysWord_48 : decode cX9_laysWord 48 = .ok (.istore_n 2, 1) := by decide +kernel
theorem dX9_laysWord_49 : decode cX9_laysWord 49 = .ok (.goto (-13), 3) := by decide +kernel
theorem dX9_laysWord_52 : decode cX9_laysWord 52 = .ok (.iload_n 2, 1) := by decide +kernel
theorem dX9_laysWord_53 : decode cX9_laysWord 53 = .ok (.istore_n 3, 1) := by decide +kernel
theorem dX9_laysWord_54 : decode cX9_laysWord 54 = .ok (.iload_n 3, 1) := by decide +kernel
theorem dX9_laysWord_55 : decode cX9_laysWord 55 = .ok (.ifCond .le 27, 3) := by decide +kernel
theorem dX9_laysWord_58 : decode cX9_laysWord 58 = .ok (.iload_n 1, 1) := by decide +kernel
theorem dX9_laysWord_59 : decode cX9_laysWord 59 = .ok (.ifCond .le 23, 3) := by decide +kernel
theorem dX9_laysWord_62 : decode cX9_laysWord 62 = .ok (.aload_n 0, 1) := by decide +kernel
theorem dX9_laysWord_63 : decode cX9_laysWord 63 = .ok (.iload_n 1, 1) := by decide +kernel
theorem dX9_laysWord_64 : decode cX9_laysWord 64 = .ok (.iload_n 3, 1) := by decide +kernel
theorem dX9_laysWord_65 : decode cX9_laysWord 65 = .ok (.idiv, 1) := by decide +kernel
theorem dX9_laysWord_66 : decode cX9_laysWord 66 = .ok (.bipush 10, 2) := by decide +kernel
theorem dX9_laysWord_68 : decode cX9_laysWord 68 = .ok (.irem, 1) := by decide +kernel
theorem dX9_laysWord_69 : decode cX9_laysWord 69 = .ok (.iconst 1, 1) := by decide +kernel
theorem dX9_laysWord_70 : decode cX9_laysWord 70 = .ok (.isub, 1) := by decide +kernel
theorem dX9_laysWord_71 : decode cX9_laysWord 71 = .ok (.invokevirtual 150, 3) := by decide +kernel
theorem dX9_laysWord_74 : decode cX9_laysWord 74 = .ok (.iload_n 3, 1) := by decide +kernel
theorem dX9_laysWord_75 : decode cX9_laysWord 75 = .ok (.bipush 10, 2) := by decide +kernel
theorem dX9_laysWord_77 : decode cX9_laysWord 77 = .ok (.idiv, 1) := by decide +kernel
theorem dX9_laysWord_78 : decode cX9_laysWord 78 = .ok (.istore_n 3, 1) := by decide +kernel
theorem dX9_laysWord_79 : decode cX9_laysWord 79 = .ok (.goto (-25), 3) := by decide +kernel
theorem dX9_laysWord_82 : decode cX9_laysWord 82 = .ok (.return_, 1) := by decide +kernel
set_option maxRecDepth 20000 in
theorem ggX9_bendOf_X9_isPlace : GoodIn wsX9_bendOf wsX9_isPlace := goodIn_r _ [7, 8, 9, 6, 10] (by decide +kernel) (by decide +kernel)
set_option maxRecDepth 20000 in
theorem gX9_bendOf_X9_isPlace : GoodIn wsX9_bendOf (va_wsS RX9 77 yX9_isPlace wsX9_isPlace) := goodIn_app (goodIn_of _ (by decide +kernel)) ggX9_bendOf_X9_isPlace
set_option maxRecDepth 20000 in
theorem ggX9_bendOf_X9_isWord : GoodIn wsX9_bendOf wsX9_isWord := goodIn_r _ [13, 14, 4, 5, 6, 7, 8, 9, 10] (by decide +kernel) (by decide +kernel)
set_option maxRecDepth 20000 in
theorem gX9_bendOf_X9_isWord : GoodIn wsX9_bendOf (va_wsS RX9 154 yX9_isWord wsX9_isWord) := goodIn_app (goodIn_of _ (by decide +kernel)) ggX9_bendOf_X9_isWord
set_option maxRecDepth 20000 in
theorem ggX9_bendOf_X9_findRoot : GoodIn wsX9_bendOf wsX9_findRoot := goodIn_r _ [18, 3, 19, 20, 21, 22, 6, 23, 24, 25, 26, 27, 28, 29, 30, 31, 40, 41, 42, 43, 44, 45, 46, 47, 48, 49, 50, 51, 52, 53, 54, 55, 56] (by decide +kernel) (by decide +kernel)
set_option maxRecDepth 20000 in
theorem gX9_bendOf_X9_findRoot : GoodIn wsX9_bendOf (wsV RX9 101 RX9 yX9_findRoot wsX9_findRoot) := goodIn_app (goodIn_of _ (by decide +kernel)) ggX9_bendOf_X9_findRoot
set_option maxRecDepth 20000 in
theorem ggX9_bendOf_X9_laysWord : GoodIn wsX9_bendOf wsX9_laysWord := goodIn_r _ [35, 2, 36, 37, 38, 6, 39, 27, 40, 41, 42, 43, 44, 45, 46, 47, 48, 49, 50, 51, 52, 53, 54, 55, 56] (by decide +kernel) (by decide +kernel)
set_option maxRecDepth 20000 in
theorem gX9_bendOf_X9_laysWord : GoodIn wsX9_bendOf (wsV RX9 157 RX9 yX9_laysWord wsX9_laysWord) := goodIn_app (goodIn_of _ (by decide +kernel)) ggX9_bendOf_X9_laysWord
theorem dX9_bendOf_0 : decode cX9_bendOf 0 = .ok (.iload_n 2, 1) := by decide +kernel
theorem dX9_bendOf_1 : decode cX9_bendOf 1 = .ok (.invokestatic 77, 3) := by decide +kernel
theorem dX9_bendOf_4 : decode cX9_bendOf 4 = .ok (.ifCond .eq 10, 3) := by decide +kernel
theorem dX9_bendOf_7 : decode cX9_bendOf 7 = .ok (.iload_n 1, 1) := by decide +kernel
theorem dX9_bendOf_8 : decode cX9_bendOf 8 = .ok (.invokestatic 154, 3) := by decide +kernel
theorem dX9_bendOf_11 : decode cX9_bendOf 11 = .ok (.ifCond .ne 7, 3) := by decide +kernel
theorem dX9_bendOf_14 : decode cX9_bendOf 14 = .ok (.ldc2_w 80, 3) := by decide +kernel
theorem dX9_bendOf_17 : decode cX9_bendOf 17 = .ok (.lreturn, 1) := by decide +kernel
theorem dX9_bendOf_18 : decode cX9_bendOf 18 = .ok (.aload_n 0, 1) := by decide +kernel
theorem dX9_bendOf_19 : decode cX9_bendOf 19 = .ok (.bipush (-9), 2) := by decide +kernel
theorem dX9_bendOf_21 : decode cX9_bendOf 21 = .ok (.invokevirtual 101, 3) := by decide +kernel
