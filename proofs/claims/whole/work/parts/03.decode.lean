theorem dX5_readClause_6 : decode cX5_readClause 6 = .ok (.bipush 103, 2) := by decide +kernel
theorem dX5_readClause_8 : decode cX5_readClause 8 = .ok (.if_icmp .eq 17, 3) := by decide +kernel
theorem dX5_readClause_11 : decode cX5_readClause 11 = .ok (.iload_n 3, 1) := by decide +kernel
theorem dX5_readClause_12 : decode cX5_readClause 12 = .ok (.bipush 112, 2) := by decide +kernel
theorem dX5_readClause_14 : decode cX5_readClause 14 = .ok (.if_icmp .eq 11, 3) := by decide +kernel
theorem dX5_readClause_17 : decode cX5_readClause 17 = .ok (.iload_n 3, 1) := by decide +kernel
theorem dX5_readClause_18 : decode cX5_readClause 18 = .ok (.bipush 120, 2) := by decide +kernel
theorem dX5_readClause_20 : decode cX5_readClause 20 = .ok (.if_icmp .eq 5, 3) := by decide +kernel
theorem dX5_readClause_23 : decode cX5_readClause 23 = .ok (.iconst 0, 1) := by decide +kernel
theorem dX5_readClause_24 : decode cX5_readClause 24 = .ok (.ireturn, 1) := by decide +kernel
theorem dX5_readClause_25 : decode cX5_readClause 25 = .ok (.aload_n 0, 1) := by decide +kernel
theorem dX5_readClause_26 : decode cX5_readClause 26 = .ok (.dup, 1) := by decide +kernel
theorem dX5_readClause_27 : decode cX5_readClause 27 = .ok (.getfield 15, 3) := by decide +kernel
theorem dX5_readClause_30 : decode cX5_readClause 30 = .ok (.iconst 1, 1) := by decide +kernel
theorem dX5_readClause_31 : decode cX5_readClause 31 = .ok (.iadd, 1) := by decide +kernel
theorem dX5_readClause_32 : decode cX5_readClause 32 = .ok (.putfield 15, 3) := by decide +kernel
theorem dX5_readClause_35 : decode cX5_readClause 35 = .ok (.aload_n 0, 1) := by decide +kernel
theorem dX5_readClause_36 : decode cX5_readClause 36 = .ok (.invokevirtual 35, 3) := by decide +kernel
theorem dX5_readClause_39 : decode cX5_readClause 39 = .ok (.bipush 97, 2) := by decide +kernel
theorem dX5_readClause_41 : decode cX5_readClause 41 = .ok (.isub, 1) := by decide +kernel
theorem dX5_readClause_42 : decode cX5_readClause 42 = .ok (.istore 4, 2) := by decide +kernel
theorem dX5_readClause_44 : decode cX5_readClause 44 = .ok (.aload_n 0, 1) := by decide +kernel
theorem dX5_readClause_45 : decode cX5_readClause 45 = .ok (.bipush 97, 2) := by decide +kernel
theorem dX5_readClause_47 : decode cX5_readClause 47 = .ok (.bipush 100, 2) := by decide +kernel
theorem dX5_readClause_49 : decode cX5_readClause 49 = .ok (.invokevirtual 31, 3) := by decide +kernel
theorem dX5_readClause_52 : decode cX5_readClause 52 = .ok (.ifCond .ne 5, 3) := by decide +kernel
theorem dX5_readClause_55 : decode cX5_readClause 55 = .ok (.iconst 0, 1) := by decide +kernel
theorem dX5_readClause_56 : decode cX5_readClause 56 = .ok (.ireturn, 1) := by decide +kernel
theorem dX5_readClause_57 : decode cX5_readClause 57 = .ok (.aload_n 0, 1) := by decide +kernel
theorem dX5_readClause_58 : decode cX5_readClause 58 = .ok (.invokevirtual 35, 3) := by decide +kernel
theorem dX5_readClause_61 : decode cX5_readClause 61 = .ok (.bipush 48, 2) := by decide +kernel
theorem dX5_readClause_63 : decode cX5_readClause 63 = .ok (.isub, 1) := by decide +kernel
theorem dX5_readClause_64 : decode cX5_readClause 64 = .ok (.istore 5, 2) := by decide +kernel
theorem dX5_readClause_66 : decode cX5_readClause 66 = .ok (.aload_n 0, 1) := by decide +kernel
theorem dX5_readClause_67 : decode cX5_readClause 67 = .ok (.bipush 48, 2) := by decide +kernel
theorem dX5_readClause_69 : decode cX5_readClause 69 = .ok (.bipush 57, 2) := by decide +kernel
theorem dX5_readClause_71 : decode cX5_readClause 71 = .ok (.invokevirtual 31, 3) := by decide +kernel
theorem dX5_readClause_74 : decode cX5_readClause 74 = .ok (.ifCond .ne 5, 3) := by decide +kernel
theorem dX5_readClause_77 : decode cX5_readClause 77 = .ok (.iconst 0, 1) := by decide +kernel
theorem dX5_readClause_78 : decode cX5_readClause 78 = .ok (.ireturn, 1) := by decide +kernel
theorem dX5_readClause_79 : decode cX5_readClause 79 = .ok (.aload_n 0, 1) := by decide +kernel
theorem dX5_readClause_80 : decode cX5_readClause 80 = .ok (.invokevirtual 35, 3) := by decide +kernel
theorem dX5_readClause_83 : decode cX5_readClause 83 = .ok (.bipush 48, 2) := by decide +kernel
theorem dX5_readClause_85 : decode cX5_readClause 85 = .ok (.isub, 1) := by decide +kernel
theorem dX5_readClause_86 : decode cX5_readClause 86 = .ok (.istore 6, 2) := by decide +kernel
theorem dX5_readClause_88 : decode cX5_readClause 88 = .ok (.aload_n 0, 1) := by decide +kernel
theorem dX5_readClause_89 : decode cX5_readClause 89 = .ok (.bipush 48, 2) := by decide +kernel
theorem dX5_readClause_91 : decode cX5_readClause 91 = .ok (.bipush 57, 2) := by decide +kernel
theorem dX5_readClause_93 : decode cX5_readClause 93 = .ok (.invokevirtual 31, 3) := by decide +kernel
theorem dX5_readClause_96 : decode cX5_readClause 96 = .ok (.ifCond .eq 13, 3) := by decide +kernel
theorem dX5_readClause_99 : decode cX5_readClause 99 = .ok (.iload 5, 2) := by decide +kernel
theorem dX5_readClause_101 : decode cX5_readClause 101 = .ok (.bipush 10, 2) := by decide +kernel
theorem dX5_readClause_103 : decode cX5_readClause 103 = .ok (.imul, 1) := by decide +kernel
theorem dX5_readClause_104 : decode cX5_readClause 104 = .ok (.iload 6, 2) := by decide +kernel
theorem dX5_readClause_106 : decode cX5_readClause 106 = .ok (.iadd, 1) := by decide +kernel
theorem dX5_readClause_107 : decode cX5_readClause 107 = .ok (.istore 5, 2) := by decide +kernel
theorem dX5_readClause_109 : decode cX5_readClause 109 = .ok (.aload_n 1, 1) := by decide +kernel
theorem dX5_readClause_110 : decode cX5_readClause 110 = .ok (.getfield 39, 3) := by decide +kernel
theorem dX5_readClause_113 : decode cX5_readClause 113 = .ok (.iload_n 2, 1) := by decide +kernel
theorem dX5_readClause_114 : decode cX5_readClause 114 = .ok (.iload_n 3, 1) := by decide +kernel
theorem dX5_readClause_115 : decode cX5_readClause 115 = .ok (.iastore, 1) := by decide +kernel
theorem dX5_readClause_116 : decode cX5_readClause 116 = .ok (.aload_n 1, 1) := by decide +kernel
theorem dX5_readClause_117 : decode cX5_readClause 117 = .ok (.getfield 42, 3) := by decide +kernel
theorem dX5_readClause_120 : decode cX5_readClause 120 = .ok (.iload_n 2, 1) := by decide +kernel
theorem dX5_readClause_121 : decode cX5_readClause 121 = .ok (.iload 4, 2) := by decide +kernel
theorem dX5_readClause_123 : decode cX5_readClause 123 = .ok (.bipush 100, 2) := by decide +kernel
theorem dX5_readClause_125 : decode cX5_readClause 125 = .ok (.imul, 1) := by decide +kernel
theorem dX5_readClause_126 : decode cX5_readClause 126 = .ok (.iload 5, 2) := by decide +kernel
theorem dX5_readClause_128 : decode cX5_readClause 128 = .ok (.iadd, 1) := by decide +kernel
theorem dX5_readClause_129 : decode cX5_readClause 129 = .ok (.iastore, 1) := by decide +kernel
theorem dX5_readClause_130 : decode cX5_readClause 130 = .ok (.iload_n 3, 1) := by decide +kernel
theorem dX5_readClause_131 : decode cX5_readClause 131 = .ok (.bipush 112, 2) := by decide +kernel
theorem dX5_readClause_133 : decode cX5_readClause 133 = .ok (.if_icmp .ne 12, 3) := by decide +kernel
theorem dX5_readClause_136 : decode cX5_readClause 136 = .ok (.aload_n 0, 1) := by decide +kernel
theorem dX5_readClause_137 : decode cX5_readClause 137 = .ok (.aload_n 1, 1) := by decide +kernel
theorem dX5_readClause_138 : decode cX5_readClause 138 = .ok (.iload_n 2, 1) := by decide +kernel
theorem dX5_readClause_139 : decode cX5_readClause 139 = .ok (.invokevirtual 45, 3) := by decide +kernel
theorem dX5_readClause_142 : decode cX5_readClause 142 = .ok (.ifCond .eq 7, 3) := by decide +kernel
theorem dX5_readClause_145 : decode cX5_readClause 145 = .ok (.iconst 1, 1) := by decide +kernel
theorem dX5_readClause_146 : decode cX5_readClause 146 = .ok (.goto 4, 3) := by decide +kernel
theorem dX5_readClause_149 : decode cX5_readClause 149 = .ok (.iconst 0, 1) := by decide +kernel
theorem dX5_readClause_150 : decode cX5_readClause 150 = .ok (.ireturn, 1) := by decide +kernel
set_option maxRecDepth 20000 in
theorem ggX5_readWeight_X5_skip : GoodIn wsX5_readWeight wsX5_skip := goodIn_r _ [6, 7, 8, 9, 10, 5, 11, 12, 13, 18, 19, 20] (by decide +kernel) (by decide +kernel)
set_option maxRecDepth 20000 in
theorem gX5_readWeight_X5_skip : GoodIn wsX5_readWeight (wsV RX5 31 RX5 yX5_skip wsX5_skip) := goodIn_app (goodIn_of _ (by decide +kernel)) ggX5_readWeight_X5_skip
set_option maxRecDepth 20000 in
theorem ggX5_readWeight_X5_next : GoodIn wsX5_readWeight wsX5_next := goodIn_r _ [11, 7, 12, 13, 18, 19, 20] (by decide +kernel) (by decide +kernel)
set_option maxRecDepth 20000 in
theorem gX5_readWeight_X5_next : GoodIn wsX5_readWeight (wsV RX5 35 RX5 yX5_next wsX5_next) := goodIn_app (goodIn_of _ (by decide +kernel)) ggX5_readWeight_X5_next
theorem dX5_readWeight_0 : decode cX5_readWeight 0 = .ok (.aload_n 0, 1) := by decide +kernel
theorem dX5_readWeight_1 : decode cX5_readWeight 1 = .ok (.bipush 61, 2) := by decide +kernel
theorem dX5_readWeight_3 : decode cX5_readWeight 3 = .ok (.bipush 61, 2) := by decide +kernel
theorem dX5_readWeight_5 : decode cX5_readWeight 5 = .ok (.invokevirtual 31, 3) := by decide +kernel
theorem dX5_readWeight_8 : decode cX5_readWeight 8 = .ok (.ifCond .ne 5, 3) := by decide +kernel
theorem dX5_readWeight_11 : decode cX5_readWeight 11 = .ok (.iconst 0, 1) := by decide +kernel
theorem dX5_readWeight_12 : decode cX5_readWeight 12 = .ok (.ireturn, 1) := by decide +kernel
theorem dX5_readWeight_13 : decode cX5_readWeight 13 = .ok (.aload_n 1, 1) := by decide +kernel
theorem dX5_readWeight_14 : decode cX5_readWeight 14 = .ok (.getfield 48, 3) := by decide +kernel
theorem dX5_readWeight_17 : decode cX5_readWeight 17 = .ok (.iload_n 2, 1) := by decide +kernel
theorem dX5_readWeight_18 : decode cX5_readWeight 18 = .ok (.aload_n 0, 1) := by decide +kernel
theorem dX5_readWeight_19 : decode cX5_readWeight 19 = .ok (.invokevirtual 35, 3) := by decide +kernel
theorem dX5_readWeight_22 : decode cX5_readWeight 22 = .ok (.bipush 48, 2) := by decide +kernel
theorem dX5_readWeight_24 : decode cX5_readWeight 24 = .ok (.isub, 1) := by decide +kernel
theorem dX5_readWeight_25 : decode cX5_readWeight 25 = .ok (.iastore, 1) := by decide +kernel
theorem dX5_readWeight_26 : decode cX5_readWeight 26 = .ok (.aload_n 0, 1) := by decide +kernel
theorem dX5_readWeight_27 : decode cX5_readWeight 27 = .ok (.bipush 49, 2) := by decide +kernel
theorem dX5_readWeight_29 : decode cX5_readWeight 29 = .ok (.bipush 57, 2) := by decide +kernel
theorem dX5_readWeight_31 : decode cX5_readWeight 31 = .ok (.invokevirtual 31, 3) := by decide +kernel
theorem dX5_readWeight_34 : decode cX5_readWeight 34 = .ok (.ireturn, 1) := by decide +kernel
set_option maxRecDepth 20000 in
theorem ggX5_skip_X5_next : GoodIn wsX5_skip wsX5_next := goodIn_r _ [6, 1, 7, 8, 9, 10, 11] (by decide +kernel) (by decide +kernel)
set_option maxRecDepth 20000 in
theorem gX5_skip_X5_next : GoodIn wsX5_skip (wsV RX5 35 RX5 yX5_next wsX5_next) := goodIn_app (goodIn_of _ (by decide +kernel)) ggX5_skip_X5_next
theorem dX5_skip_0 : decode cX5_skip 0 = .ok (.aload_n 0, 1) := by decide +kernel
theorem dX5_skip_1 : decode cX5_skip 1 = .ok (.invokevirtual 35, 3) := by decide +kernel
theorem dX5_skip_4 : decode cX5_skip 4 = .ok (.istore_n 3, 1) := by decide +kernel
theorem dX5_skip_5 : decode cX5_skip 5 = .ok (.iload_n 3, 1) := by decide +kernel
theorem dX5_skip_6 : decode cX5_skip 6 = .ok (.iload_n 1, 1) := by decide +kernel
theorem dX5_skip_7 : decode cX5_skip 7 = .ok (.if_icmp .lt 8, 3) := by decide +kernel
theorem dX5_skip_10 : decode cX5_skip 10 = .ok (.iload_n 3, 1) := by decide +kernel
theorem dX5_skip_11 : decode cX5_skip 11 = .ok (.iload_n 2, 1) := by decide +kernel
theorem dX5_skip_12 : decode cX5_skip 12 = .ok (.if_icmp .le 5, 3) := by decide +kernel
theorem dX5_skip_15 : decode cX5_skip 15 = .ok (.iconst 0, 1) := by decide +kernel
theorem dX5_skip_16 : decode cX5_skip 16 = .ok (.ireturn, 1) := by decide +kernel
theorem dX5_skip_17 : decode cX5_skip 17 = .ok (.aload_n 0, 1) := by decide +kernel
theorem dX5_skip_18 : decode cX5_skip 18 = .ok (.dup, 1) := by decide +kernel
theorem dX5_skip_19 : decode cX5_skip 19 = .ok (.getfield 15, 3) := by decide +kernel
theorem dX5_skip_22 : decode cX5_skip 22 = .ok (.iconst 1, 1) := by decide +kernel
theorem dX5_skip_23 : decode cX5_skip 23 = .ok (.iadd, 1) := by decide +kernel
theorem dX5_skip_24 : decode cX5_skip 24 = .ok (.putfield 15, 3) := by decide +kernel
theorem dX5_skip_27 : decode cX5_skip 27 = .ok (.iconst 1, 1) := by decide +kernel
theorem dX5_skip_28 : decode cX5_skip 28 = .ok (.ireturn, 1) := by decide +kernel
theorem dX5_next_0 : decode cX5_next 0 = .ok (.aload_n 0, 1) := by decide +kernel
theorem dX5_next_1 : decode cX5_next 1 = .ok (.getfield 15, 3) := by decide +kernel
theorem dX5_next_4 : decode cX5_next 4 = .ok (.aload_n 0, 1) := by decide +kernel
theorem dX5_next_5 : decode cX5_next 5 = .ok (.getfield 28, 3) := by decide +kernel
theorem dX5_next_8 : decode cX5_next 8 = .ok (.if_icmp .ge 15, 3) := by decide +kernel
theorem dX5_next_11 : decode cX5_next 11 = .ok (.aload_n 0, 1) := by decide +kernel
theorem dX5_next_12 : decode cX5_next 12 = .ok (.getfield 9, 3) := by decide +kernel
theorem dX5_next_15 : decode cX5_next 15 = .ok (.aload_n 0, 1) := by decide +kernel
theorem dX5_next_16 : decode cX5_next 16 = .ok (.getfield 15, 3) := by decide +kernel
theorem dX5_next_19 : decode cX5_next 19 = .ok (.iaload, 1) := by decide +kernel
theorem dX5_next_20 : decode cX5_next 20 = .ok (.goto 5, 3) := by decide +kernel
theorem dX5_next_23 : decode cX5_next 23 = .ok (.bipush (-5), 2) := by decide +kernel
theorem dX5_next_25 : decode cX5_next 25 = .ok (.ireturn, 1) := by decide +kernel
theorem dX6_init_0 : decode cX6_init 0 = .ok (.aload_n 0, 1) := by decide +kernel
theorem dX6_init_1 : decode cX6_init 1 = .ok (.invokespecial 3, 3) := by decide +kernel
theorem dX6_init_4 : decode cX6_init 4 = .ok (.aload_n 0, 1) := by decide +kernel
theorem dX6_init_5 : decode cX6_init 5 = .ok (.bipush 20, 2) := by decide +kernel
theorem dX6_init_7 : decode cX6_init 7 = .ok (.newarray .int, 2) := by decide +kernel
theorem dX6_init_9 : decode cX6_init 9 = .ok (.putfield 9, 3) := by decide +kernel
theorem dX6_init_12 : decode cX6_init 12 = .ok (.aload_n 0, 1) := by decide +kernel
theorem dX6_init_13 : decode cX6_init 13 = .ok (.bipush 20, 2) := by decide +kernel
theorem dX6_init_15 : decode cX6_init 15 = .ok (.newarray .int, 2) := by decide +kernel
theorem dX6_init_17 : decode cX6_init 17 = .ok (.putfield 15, 3) := by decide +kernel
theorem dX6_init_20 : decode cX6_init 20 = .ok (.aload_n 0, 1) := by decide +kernel
theorem dX6_init_21 : decode cX6_init 21 = .ok (.bipush 20, 2) := by decide +kernel
theorem dX6_init_23 : decode cX6_init 23 = .ok (.newarray .int, 2) := by decide +kernel
theorem dX6_init_25 : decode cX6_init 25 = .ok (.putfield 18, 3) := by decide +kernel
theorem dX6_init_28 : decode cX6_init 28 = .ok (.return_, 1) := by decide +kernel
set_option maxRecDepth 20000 in
theorem ggX7_init_X3_init : GoodIn wsX7_init wsX3_init := goodIn_r _ [23, 24, 2, 3, 25, 26, 27, 28, 29, 30, 31, 32, 33, 34, 35, 36, 37, 38, 39, 40, 41, 42, 43, 44, 45, 46, 47, 48, 49, 50, 51, 52, 53, 54, 55, 56, 57, 58, 75, 76, 77, 78, 79, 80, 98, 99, 100, 101, 102, 103, 104, 105, 106] (by decide +kernel) (by decide +kernel)
set_option maxRecDepth 20000 in
theorem gX7_init_X3_init : GoodIn wsX7_init (wsX3_init) := ggX7_init_X3_init
set_option maxRecDepth 20000 in
theorem ggX7_init_X5_init : GoodIn wsX7_init wsX5_init := goodIn_r _ [60, 61, 2, 3, 25, 62, 88, 89, 90] (by decide +kernel) (by decide +kernel)
set_option maxRecDepth 20000 in
theorem gX7_init_X5_init_n23 : GoodIn wsX7_init (wsX5_init) := ggX7_init_X5_init
set_option maxRecDepth 20000 in
theorem ggX7_init_X6_init : GoodIn wsX7_init wsX6_init := goodIn_r _ [64, 65, 2, 3, 25, 66, 67, 68, 91, 92, 93, 94] (by decide +kernel) (by decide +kernel)
set_option maxRecDepth 20000 in
theorem gX7_init_X6_init_n40 : GoodIn wsX7_init (wsX6_init) := ggX7_init_X6_init
set_option maxRecDepth 20000 in
theorem ggX7_init_X4_init : GoodIn wsX7_init wsX4_init := goodIn_r _ [70, 71, 2, 3, 72, 73, 74, 95, 96, 97] (by decide +kernel) (by decide +kernel)
set_option maxRecDepth 20000 in
theorem gX7_init_X4_init_n41 : GoodIn wsX7_init (wsX4_init) := ggX7_init_X4_init
theorem dX7_init_0 : decode cX7_init 0 = .ok (.aload_n 0, 1) := by decide +kernel
theorem dX7_init_1 : decode cX7_init 1 = .ok (.invokespecial 5, 3) := by decide +kernel
theorem dX7_init_4 : decode cX7_init 4 = .ok (.aload_n 0, 1) := by decide +kernel
theorem dX7_init_5 : decode cX7_init 5 = .ok (.new 11, 3) := by decide +kernel
theorem dX7_init_8 : decode cX7_init 8 = .ok (.dup, 1) := by decide +kernel
theorem dX7_init_9 : decode cX7_init 9 = .ok (.invokespecial 13, 3) := by decide +kernel
theorem dX7_init_12 : decode cX7_init 12 = .ok (.putfield 14, 3) := by decide +kernel
theorem dX7_init_15 : decode cX7_init 15 = .ok (.aload_n 0, 1) := by decide +kernel
theorem dX7_init_16 : decode cX7_init 16 = .ok (.new 11, 3) := by decide +kernel
theorem dX7_init_19 : decode cX7_init 19 = .ok (.dup, 1) := by decide +kernel
theorem dX7_init_20 : decode cX7_init 20 = .ok (.invokespecial 13, 3) := by decide +kernel
theorem dX7_init_23 : decode cX7_init 23 = .ok (.putfield 18, 3) := by decide +kernel
theorem dX7_init_26 : decode cX7_init 26 = .ok (.aload_n 0, 1) := by decide +kernel
theorem dX7_init_27 : decode cX7_init 27 = .ok (.new 21, 3) := by decide +kernel
theorem dX7_init_30 : decode cX7_init 30 = .ok (.dup, 1) := by decide +kernel
theorem dX7_init_31 : decode cX7_init 31 = .ok (.invokespecial 23, 3) := by decide +kernel
theorem dX7_init_34 : decode cX7_init 34 = .ok (.putfield 24, 3) := by decide +kernel
theorem dX7_init_37 : decode cX7_init 37 = .ok (.aload_n 0, 1) := by decide +kernel
theorem dX7_init_38 : decode cX7_init 38 = .ok (.bipush 6, 2) := by decide +kernel
theorem dX7_init_40 : decode cX7_init 40 = .ok (.anewarray 28, 3) := by decide +kernel
theorem dX7_init_43 : decode cX7_init 43 = .ok (.putfield 30, 3) := by decide +kernel
theorem dX7_init_46 : decode cX7_init 46 = .ok (.aload_n 0, 1) := by decide +kernel
theorem dX7_init_47 : decode cX7_init 47 = .ok (.bipush 6, 2) := by decide +kernel
theorem dX7_init_49 : decode cX7_init 49 = .ok (.anewarray 34, 3) := by decide +kernel
theorem dX7_init_52 : decode cX7_init 52 = .ok (.putfield 36, 3) := by decide +kernel
theorem dX7_init_55 : decode cX7_init 55 = .ok (.iconst 0, 1) := by decide +kernel
theorem dX7_init_56 : decode cX7_init 56 = .ok (.istore_n 1, 1) := by decide +kernel
theorem dX7_init_57 : decode cX7_init 57 = .ok (.iload_n 1, 1) := by decide +kernel
theorem dX7_init_58 : decode cX7_init 58 = .ok (.bipush 6, 2) := by decide +kernel
theorem dX7_init_60 : decode cX7_init 60 = .ok (.if_icmp .ge 22, 3) := by decide +kernel
theorem dX7_init_63 : decode cX7_init 63 = .ok (.aload_n 0, 1) := by decide +kernel
theorem dX7_init_64 : decode cX7_init 64 = .ok (.getfield 30, 3) := by decide +kernel
theorem dX7_init_67 : decode cX7_init 67 = .ok (.iload_n 1, 1) := by decide +kernel
theorem dX7_init_68 : decode cX7_init 68 = .ok (.new 28, 3) := by decide +kernel
theorem dX7_init_71 : decode cX7_init 71 = .ok (.dup, 1) := by decide +kernel
theorem dX7_init_72 : decode cX7_init 72 = .ok (.invokespecial 40, 3) := by decide +kernel
theorem dX7_init_75 : decode cX7_init 75 = .ok (.aastore, 1) := by decide +kernel
theorem dX7_init_76 : decode cX7_init 76 = .ok (.iinc 1 1, 3) := by decide +kernel
theorem dX7_init_79 : decode cX7_init 79 = .ok (.goto (-22), 3) := by decide +kernel
theorem dX7_init_82 : decode cX7_init 82 = .ok (.iconst 0, 1) := by decide +kernel
theorem dX7_init_83 : decode cX7_init 83 = .ok (.istore_n 1, 1) := by decide +kernel
theorem dX7_init_84 : decode cX7_init 84 = .ok (.iload_n 1, 1) := by decide +kernel
theorem dX7_init_85 : decode cX7_init 85 = .ok (.bipush 6, 2) := by decide +kernel
theorem dX7_init_87 : decode cX7_init 87 = .ok (.if_icmp .ge 22, 3) := by decide +kernel
theorem dX7_init_90 : decode cX7_init 90 = .ok (.aload_n 0, 1) := by decide +kernel
theorem dX7_init_91 : decode cX7_init 91 = .ok (.getfield 36, 3) := by decide +kernel
theorem dX7_init_94 : decode cX7_init 94 = .ok (.iload_n 1, 1) := by decide +kernel
theorem dX7_init_95 : decode cX7_init 95 = .ok (.new 34, 3) := by decide +kernel
theorem dX7_init_98 : decode cX7_init 98 = .ok (.dup, 1) := by decide +kernel
theorem dX7_init_99 : decode cX7_init 99 = .ok (.invokespecial 41, 3) := by decide +kernel
theorem dX7_init_102 : decode cX7_init 102 = .ok (.aastore, 1) := by decide +kernel
theorem dX7_init_103 : decode cX7_init 103 = .ok (.iinc 1 1, 3) := by decide +kernel
theorem dX7_init_106 : decode cX7_init 106 = .ok (.goto (-22), 3) := by decide +kernel
theorem dX7_init_109 : decode cX7_init 109 = .ok (.return_, 1) := by decide +kernel
set_option maxRecDepth 20000 in
theorem ggX7_set_X7_leastOf : GoodIn wsX7_set wsX7_leastOf := goodIn_r _ [10] (by decide +kernel) (by decide +kernel)
set_option maxRecDepth 20000 in
theorem gX7_set_X7_leastOf : GoodIn wsX7_set (va_wsS RX7 42 yX7_leastOf wsX7_leastOf) := goodIn_app (goodIn_of _ (by decide +kernel)) ggX7_set_X7_leastOf
set_option maxRecDepth 20000 in
theorem ggX7_set_X7_mostOf : GoodIn wsX7_set wsX7_mostOf := goodIn_r _ [14, 1, 2, 80, 81, 82, 83, 84, 85, 86, 87, 88, 89, 90, 91, 92] (by decide +kernel) (by decide +kernel)
set_option maxRecDepth 20000 in
theorem gX7_set_X7_mostOf : GoodIn wsX7_set (wsV RX7 46 RX7 yX7_mostOf wsX7_mostOf) := goodIn_app (goodIn_of _ (by decide +kernel)) ggX7_set_X7_mostOf
set_option maxRecDepth 20000 in
theorem ggX7_set_X3_trim : GoodIn wsX7_set wsX3_trim := goodIn_r _ [19, 20, 21, 22, 18, 23, 24, 25, 26, 27, 28, 29, 30, 31, 32, 33, 34, 35, 36, 37, 38, 39, 40, 41, 42, 43, 44, 45, 46, 47, 48, 49, 50, 51, 52, 53, 54, 55, 56, 57, 58, 59, 60, 61, 62, 63, 64, 65, 66, 67, 68, 69, 70, 71, 72, 73, 74, 75, 76, 77, 78, 79, 87, 88, 89, 90, 91, 92, 93, 94, 95, 96, 97, 98] (by decide +kernel) (by decide +kernel)
set_option maxRecDepth 20000 in
theorem gX7_set_X3_trim : GoodIn wsX7_set (wsV RX7 59 RX3 yX3_trim wsX3_trim) := goodIn_app (goodIn_of _ (by decide +kernel)) ggX7_set_X3_trim
theorem dX7_set_0 : decode cX7_set 0 = .ok (.iload_n 1, 1) := by decide +kernel
theorem dX7_set_1 : decode cX7_set 1 = .ok (.ifCond .lt 8, 3) := by decide +kernel
theorem dX7_set_4 : decode cX7_set 4 = .ok (.iload_n 1, 1) := by decide +kernel
theorem dX7_set_5 : decode cX7_set 5 = .ok (.iconst 4, 1) := by decide +kernel
theorem dX7_set_6 : decode cX7_set 6 = .ok (.if_icmp .lt 5, 3) := by decide +kernel
theorem dX7_set_9 : decode cX7_set 9 = .ok (.iconst (-1), 1) := by decide +kernel
theorem dX7_set_10 : decode cX7_set 10 = .ok (.ireturn, 1) := by decide +kernel
theorem dX7_set_11 : decode cX7_set 11 = .ok (.iload_n 2, 1) := by decide +kernel
theorem dX7_set_12 : decode cX7_set 12 = .ok (.iload_n 1, 1) := by decide +kernel
theorem dX7_set_13 : decode cX7_set 13 = .ok (.invokestatic 42, 3) := by decide +kernel
theorem dX7_set_16 : decode cX7_set 16 = .ok (.if_icmp .lt 12, 3) := by decide +kernel
theorem dX7_set_19 : decode cX7_set 19 = .ok (.iload_n 2, 1) := by decide +kernel
theorem dX7_set_20 : decode cX7_set 20 = .ok (.aload_n 0, 1) := by decide +kernel
theorem dX7_set_21 : decode cX7_set 21 = .ok (.iload_n 1, 1) := by decide +kernel
theorem dX7_set_22 : decode cX7_set 22 = .ok (.invokevirtual 46, 3) := by decide +kernel
theorem dX7_set_25 : decode cX7_set 25 = .ok (.if_icmp .le 6, 3) := by decide +kernel
theorem dX7_set_28 : decode cX7_set 28 = .ok (.bipush (-2), 2) := by decide +kernel
theorem dX7_set_30 : decode cX7_set 30 = .ok (.ireturn, 1) := by decide +kernel
theorem dX7_set_31 : decode cX7_set 31 = .ok (.aload_n 0, 1) := by decide +kernel
theorem dX7_set_32 : decode cX7_set 32 = .ok (.getfield 14, 3) := by decide +kernel
theorem dX7_set_35 : decode cX7_set 35 = .ok (.getfield 49, 3) := by decide +kernel
theorem dX7_set_38 : decode cX7_set 38 = .ok (.iload_n 1, 1) := by decide +kernel
theorem dX7_set_39 : decode cX7_set 39 = .ok (.iaload, 1) := by decide +kernel
theorem dX7_set_40 : decode cX7_set 40 = .ok (.istore_n 3, 1) := by decide +kernel
theorem dX7_set_41 : decode cX7_set 41 = .ok (.aload_n 0, 1) := by decide +kernel
theorem dX7_set_42 : decode cX7_set 42 = .ok (.getfield 14, 3) := by decide +kernel
theorem dX7_set_45 : decode cX7_set 45 = .ok (.getfield 49, 3) := by decide +kernel
theorem dX7_set_48 : decode cX7_set 48 = .ok (.iload_n 1, 1) := by decide +kernel
theorem dX7_set_49 : decode cX7_set 49 = .ok (.iload_n 2, 1) := by decide +kernel
theorem dX7_set_50 : decode cX7_set 50 = .ok (.iastore, 1) := by decide +kernel
theorem dX7_set_51 : decode cX7_set 51 = .ok (.iload_n 1, 1) := by decide +kernel
theorem dX7_set_52 : decode cX7_set 52 = .ok (.ifCond .ne 25, 3) := by decide +kernel
theorem dX7_set_55 : decode cX7_set 55 = .ok (.aload_n 0, 1) := by decide +kernel
theorem dX7_set_56 : decode cX7_set 56 = .ok (.getfield 14, 3) := by decide +kernel
theorem dX7_set_59 : decode cX7_set 59 = .ok (.getfield 49, 3) := by decide +kernel
theorem dX7_set_62 : decode cX7_set 62 = .ok (.iconst 1, 1) := by decide +kernel
theorem dX7_set_63 : decode cX7_set 63 = .ok (.aload_n 0, 1) := by decide +kernel
theorem dX7_set_64 : decode cX7_set 64 = .ok (.getfield 14, 3) := by decide +kernel
theorem dX7_set_67 : decode cX7_set 67 = .ok (.getfield 49, 3) := by decide +kernel
theorem dX7_set_70 : decode cX7_set 70 = .ok (.iconst 1, 1) := by decide +kernel
theorem dX7_set_71 : decode cX7_set 71 = .ok (.iaload, 1) := by decide +kernel
theorem dX7_set_72 : decode cX7_set 72 = .ok (.iload_n 2, 1) := by decide +kernel
theorem dX7_set_73 : decode cX7_set 73 = .ok (.invokestatic 53, 3) := by decide +kernel
theorem dX7_set_76 : decode cX7_set 76 = .ok (.iastore, 1) := by decide +kernel
theorem dX7_set_77 : decode cX7_set 77 = .ok (.iload_n 1, 1) := by decide +kernel
theorem dX7_set_78 : decode cX7_set 78 = .ok (.ifCond .eq 8, 3) := by decide +kernel
theorem dX7_set_81 : decode cX7_set 81 = .ok (.iload_n 1, 1) := by decide +kernel
theorem dX7_set_82 : decode cX7_set 82 = .ok (.iconst 1, 1) := by decide +kernel
theorem dX7_set_83 : decode cX7_set 83 = .ok (.if_icmp .ne 10, 3) := by decide +kernel
theorem dX7_set_86 : decode cX7_set 86 = .ok (.aload_n 0, 1) := by decide +kernel
theorem dX7_set_87 : decode cX7_set 87 = .ok (.getfield 14, 3) := by decide +kernel
theorem dX7_set_90 : decode cX7_set 90 = .ok (.invokevirtual 59, 3) := by decide +kernel
theorem dX7_set_93 : decode cX7_set 93 = .ok (.iload_n 3, 1) := by decide +kernel
theorem dX7_set_94 : decode cX7_set 94 = .ok (.ireturn, 1) := by decide +kernel
theorem dX7_told_0 : decode cX7_told 0 = .ok (.iload_n 1, 1) := by decide +kernel
theorem dX7_told_1 : decode cX7_told 1 = .ok (.ifCond .lt 9, 3) := by decide +kernel
theorem dX7_told_4 : decode cX7_told 4 = .ok (.iload_n 1, 1) := by decide +kernel
theorem dX7_told_5 : decode cX7_told 5 = .ok (.bipush 13, 2) := by decide +kernel
theorem dX7_told_7 : decode cX7_told 7 = .ok (.if_icmp .le 5, 3) := by decide +kernel
theorem dX7_told_10 : decode cX7_told 10 = .ok (.iconst (-1), 1) := by decide +kernel
theorem dX7_told_11 : decode cX7_told 11 = .ok (.ireturn, 1) := by decide +kernel
theorem dX7_told_12 : decode cX7_told 12 = .ok (.iload_n 1, 1) := by decide +kernel
theorem dX7_told_13 : decode cX7_told 13 = .ok (.iconst 4, 1) := by decide +kernel
theorem dX7_told_14 : decode cX7_told 14 = .ok (.if_icmp .ge 13, 3) := by decide +kernel
theorem dX7_told_17 : decode cX7_told 17 = .ok (.aload_n 0, 1) := by decide +kernel
theorem dX7_told_18 : decode cX7_told 18 = .ok (.getfield 14, 3) := by decide +kernel
theorem dX7_told_21 : decode cX7_told 21 = .ok (.getfield 49, 3) := by decide +kernel
theorem dX7_told_24 : decode cX7_told 24 = .ok (.iload_n 1, 1) := by decide +kernel
theorem dX7_told_25 : decode cX7_told 25 = .ok (.iaload, 1) := by decide +kernel
theorem dX7_told_26 : decode cX7_told 26 = .ok (.ireturn, 1) := by decide +kernel
theorem dX7_told_27 : decode cX7_told 27 = .ok (.iload_n 1, 1) := by decide +kernel
theorem dX7_told_28 : decode cX7_told 28 = .ok (.bipush 8, 2) := by decide +kernel
theorem dX7_told_30 : decode cX7_told 30 = .ok (.if_icmp .ge 20, 3) := by decide +kernel
theorem dX7_told_33 : decode cX7_told 33 = .ok (.aload_n 0, 1) := by decide +kernel
theorem dX7_told_34 : decode cX7_told 34 = .ok (.getfield 14, 3) := by decide +kernel
theorem dX7_told_37 : decode cX7_told 37 = .ok (.getfield 62, 3) := by decide +kernel
theorem dX7_told_40 : decode cX7_told 40 = .ok (.getfield 66, 3) := by decide +kernel
theorem dX7_told_43 : decode cX7_told 43 = .ok (.iload_n 1, 1) := by decide +kernel
theorem dX7_told_44 : decode cX7_told 44 = .ok (.iconst 4, 1) := by decide +kernel
theorem dX7_told_45 : decode cX7_told 45 = .ok (.isub, 1) := by decide +kernel
theorem dX7_told_46 : decode cX7_told 46 = .ok (.iconst 1, 1) := by decide +kernel
theorem dX7_told_47 : decode cX7_told 47 = .ok (.iadd, 1) := by decide +kernel
theorem dX7_told_48 : decode cX7_told 48 = .ok (.iaload, 1) := by decide +kernel
theorem dX7_told_49 : decode cX7_told 49 = .ok (.ireturn, 1) := by decide +kernel
theorem dX7_told_50 : decode cX7_told 50 = .ok (.iload_n 1, 1) := by decide +kernel
theorem dX7_told_51 : decode cX7_told 51 = .ok (.bipush 13, 2) := by decide +kernel
theorem dX7_told_53 : decode cX7_told 53 = .ok (.if_icmp .ge 16, 3) := by decide +kernel
theorem dX7_told_56 : decode cX7_told 56 = .ok (.aload_n 0, 1) := by decide +kernel
theorem dX7_told_57 : decode cX7_told 57 = .ok (.getfield 14, 3) := by decide +kernel
theorem dX7_told_60 : decode cX7_told 60 = .ok (.getfield 71, 3) := by decide +kernel
theorem dX7_told_63 : decode cX7_told 63 = .ok (.iload_n 1, 1) := by decide +kernel
theorem dX7_told_64 : decode cX7_told 64 = .ok (.bipush 8, 2) := by decide +kernel
theorem dX7_told_66 : decode cX7_told 66 = .ok (.isub, 1) := by decide +kernel
theorem dX7_told_67 : decode cX7_told 67 = .ok (.iaload, 1) := by decide +kernel
theorem dX7_told_68 : decode cX7_told 68 = .ok (.ireturn, 1) := by decide +kernel
theorem dX7_told_69 : decode cX7_told 69 = .ok (.aload_n 0, 1) := by decide +kernel
theorem dX7_told_70 : decode cX7_told 70 = .ok (.getfield 14, 3) := by decide +kernel
theorem dX7_told_73 : decode cX7_told 73 = .ok (.getfield 74, 3) := by decide +kernel
theorem dX7_told_76 : decode cX7_told 76 = .ok (.getfield 78, 3) := by decide +kernel
theorem dX7_told_79 : decode cX7_told 79 = .ok (.ireturn, 1) := by decide +kernel
theorem dX7_leastOf_0 : decode cX7_leastOf 0 = .ok (.iload_n 0, 1) := by decide +kernel
theorem dX7_leastOf_1 : decode cX7_leastOf 1 = .ok (.ifCond .eq 8, 3) := by decide +kernel
theorem dX7_leastOf_4 : decode cX7_leastOf 4 = .ok (.iload_n 0, 1) := by decide +kernel
theorem dX7_leastOf_5 : decode cX7_leastOf 5 = .ok (.iconst 2, 1) := by decide +kernel
theorem dX7_leastOf_6 : decode cX7_leastOf 6 = .ok (.if_icmp .ne 7, 3) := by decide +kernel
theorem dX7_leastOf_9 : decode cX7_leastOf 9 = .ok (.iconst 1, 1) := by decide +kernel
theorem dX7_leastOf_10 : decode cX7_leastOf 10 = .ok (.goto 4, 3) := by decide +kernel
theorem dX7_leastOf_13 : decode cX7_leastOf 13 = .ok (.iconst 0, 1) := by decide +kernel
theorem dX7_leastOf_14 : decode cX7_leastOf 14 = .ok (.ireturn, 1) := by decide +kernel
theorem dX7_mostOf_0 : decode cX7_mostOf 0 = .ok (.iload_n 1, 1) := by decide +kernel
theorem dX7_mostOf_1 : decode cX7_mostOf 1 = .ok (.tableswitch 43 0 2 #[27, 30, 40], 27) := by decide +kernel
theorem dX7_mostOf_28 : decode cX7_mostOf 28 = .ok (.bipush 99, 2) := by decide +kernel
theorem dX7_mostOf_30 : decode cX7_mostOf 30 = .ok (.ireturn, 1) := by decide +kernel
theorem dX7_mostOf_31 : decode cX7_mostOf 31 = .ok (.aload_n 0, 1) := by decide +kernel
theorem dX7_mostOf_32 : decode cX7_mostOf 32 = .ok (.getfield 14, 3) := by decide +kernel
theorem dX7_mostOf_35 : decode cX7_mostOf 35 = .ok (.getfield 49, 3) := by decide +kernel
theorem dX7_mostOf_38 : decode cX7_mostOf 38 = .ok (.iconst 0, 1) := by decide +kernel
theorem dX7_mostOf_39 : decode cX7_mostOf 39 = .ok (.iaload, 1) := by decide +kernel
theorem dX7_mostOf_40 : decode cX7_mostOf 40 = .ok (.ireturn, 1) := by decide +kernel
theorem dX7_mostOf_41 : decode cX7_mostOf 41 = .ok (.bipush 9, 2) := by decide +kernel
theorem dX7_mostOf_43 : decode cX7_mostOf 43 = .ok (.ireturn, 1) := by decide +kernel
theorem dX7_mostOf_44 : decode cX7_mostOf 44 = .ok (.bipush 9, 2) := by decide +kernel
theorem dX7_mostOf_46 : decode cX7_mostOf 46 = .ok (.ireturn, 1) := by decide +kernel
set_option maxRecDepth 20000 in
theorem ggX7_put_X7_keyOf : GoodIn wsX7_put wsX7_keyOf := goodIn_r _ [6] (by decide +kernel) (by decide +kernel)
set_option maxRecDepth 20000 in
theorem gX7_put_X7_keyOf : GoodIn wsX7_put (va_wsS RX7 84 yX7_keyOf wsX7_keyOf) := goodIn_app (goodIn_of _ (by decide +kernel)) ggX7_put_X7_keyOf
set_option maxRecDepth 20000 in
theorem ggX7_put_X3_store : GoodIn wsX7_put wsX3_store := goodIn_r _ [11, 12, 13, 14, 15, 10, 16, 17, 18, 19, 20, 21, 22, 23, 24, 25, 26, 27, 28, 29, 30, 31, 32, 33, 34, 35, 36, 37, 38, 39, 40, 41, 42, 43, 44, 45, 46, 47, 48, 49, 50, 51, 52, 53, 54, 55, 56, 57, 58, 59, 60, 61, 62, 63, 64, 65, 66, 67, 68, 69, 70, 71, 72, 73, 74, 75, 76, 77, 78, 79, 80, 81, 82, 83, 84, 85, 86, 87, 88, 89, 90, 91, 92, 93, 94, 95, 96, 97, 98, 99, 107, 108, 109, 110, 111, 112, 113, 114, 115, 116, 117, 118] (by decide +kernel) (by decide +kernel)
set_option maxRecDepth 20000 in
theorem gX7_put_X3_store : GoodIn wsX7_put (wsV RX7 87 RX3 yX3_store wsX3_store) := goodIn_app (goodIn_of _ (by decide +kernel)) ggX7_put_X3_store
theorem dX7_put_0 : decode cX7_put 0 = .ok (.iload_n 1, 1) := by decide +kernel
theorem dX7_put_1 : decode cX7_put 1 = .ok (.iload_n 2, 1) := by decide +kernel
theorem dX7_put_2 : decode cX7_put 2 = .ok (.invokestatic 84, 3) := by decide +kernel
theorem dX7_put_5 : decode cX7_put 5 = .ok (.istore 6, 2) := by decide +kernel
theorem dX7_put_7 : decode cX7_put 7 = .ok (.iload 6, 2) := by decide +kernel
theorem dX7_put_9 : decode cX7_put 9 = .ok (.ifCond .ge 5, 3) := by decide +kernel
theorem dX7_put_12 : decode cX7_put 12 = .ok (.iconst (-1), 1) := by decide +kernel
theorem dX7_put_13 : decode cX7_put 13 = .ok (.ireturn, 1) := by decide +kernel
theorem dX7_put_14 : decode cX7_put 14 = .ok (.iload 4, 2) := by decide +kernel
theorem dX7_put_16 : decode cX7_put 16 = .ok (.iconst 1, 1) := by decide +kernel
theorem dX7_put_17 : decode cX7_put 17 = .ok (.if_icmp .lt 22, 3) := by decide +kernel
theorem dX7_put_20 : decode cX7_put 20 = .ok (.iload 4, 2) := by decide +kernel
theorem dX7_put_22 : decode cX7_put 22 = .ok (.bipush 9, 2) := by decide +kernel
theorem dX7_put_24 : decode cX7_put 24 = .ok (.if_icmp .gt 15, 3) := by decide +kernel
theorem dX7_put_27 : decode cX7_put 27 = .ok (.iload 5, 2) := by decide +kernel
theorem dX7_put_29 : decode cX7_put 29 = .ok (.ifCond .lt 10, 3) := by decide +kernel
theorem dX7_put_32 : decode cX7_put 32 = .ok (.iload 5, 2) := by decide +kernel
theorem dX7_put_34 : decode cX7_put 34 = .ok (.bipush 99, 2) := by decide +kernel
theorem dX7_put_36 : decode cX7_put 36 = .ok (.if_icmp .le 6, 3) := by decide +kernel
theorem dX7_put_39 : decode cX7_put 39 = .ok (.bipush (-2), 2) := by decide +kernel
theorem dX7_put_41 : decode cX7_put 41 = .ok (.ireturn, 1) := by decide +kernel
theorem dX7_put_42 : decode cX7_put 42 = .ok (.iload 4, 2) := by decide +kernel
theorem dX7_put_44 : decode cX7_put 44 = .ok (.aload_n 0, 1) := by decide +kernel
theorem dX7_put_45 : decode cX7_put 45 = .ok (.getfield 14, 3) := by decide +kernel
theorem dX7_put_48 : decode cX7_put 48 = .ok (.getfield 49, 3) := by decide +kernel
theorem dX7_put_51 : decode cX7_put 51 = .ok (.iconst 0, 1) := by decide +kernel
theorem dX7_put_52 : decode cX7_put 52 = .ok (.iaload, 1) := by decide +kernel
theorem dX7_put_53 : decode cX7_put 53 = .ok (.if_icmp .le 6, 3) := by decide +kernel
theorem dX7_put_56 : decode cX7_put 56 = .ok (.bipush (-4), 2) := by decide +kernel
theorem dX7_put_58 : decode cX7_put 58 = .ok (.ireturn, 1) := by decide +kernel
theorem dX7_put_59 : decode cX7_put 59 = .ok (.aload_n 0, 1) := by decide +kernel
theorem dX7_put_60 : decode cX7_put 60 = .ok (.getfield 14, 3) := by decide +kernel
theorem dX7_put_63 : decode cX7_put 63 = .ok (.iload 6, 2) := by decide +kernel
theorem dX7_put_65 : decode cX7_put 65 = .ok (.iload_n 3, 1) := by decide +kernel
theorem dX7_put_66 : decode cX7_put 66 = .ok (.iload 4, 2) := by decide +kernel
theorem dX7_put_68 : decode cX7_put 68 = .ok (.iload 5, 2) := by decide +kernel
theorem dX7_put_70 : decode cX7_put 70 = .ok (.invokevirtual 87, 3) := by decide +kernel
theorem dX7_put_73 : decode cX7_put 73 = .ok (.ireturn, 1) := by decide +kernel
set_option maxRecDepth 20000 in
theorem ggX7_get_X7_keyOf : GoodIn wsX7_get wsX7_keyOf := goodIn_r _ [7] (by decide +kernel) (by decide +kernel)
set_option maxRecDepth 20000 in
theorem gX7_get_X7_keyOf : GoodIn wsX7_get (va_wsS RX7 84 yX7_keyOf wsX7_keyOf) := goodIn_app (goodIn_of _ (by decide +kernel)) ggX7_get_X7_keyOf
set_option maxRecDepth 20000 in
theorem ggX7_get_X3_fetch : GoodIn wsX7_get wsX3_fetch := goodIn_r _ [12, 13, 14, 15, 16, 17, 11, 18, 19, 20, 21, 22, 23, 24, 25, 26, 27, 28, 29, 30, 31, 32, 33, 34, 35, 36, 37, 38, 39, 40, 41, 42, 43, 44, 45, 46, 47, 48, 49, 50, 51, 52, 53, 54, 55, 56, 57, 58, 59, 60, 61, 62, 63, 64, 65, 66, 67, 68, 69, 70, 71, 72, 73, 74, 75, 76, 77, 78, 79, 80, 81, 82, 83, 84, 85, 86, 87, 88, 89, 97, 98, 99, 100, 101, 102, 103, 104, 105, 106, 107, 108] (by decide +kernel) (by decide +kernel)
set_option maxRecDepth 20000 in
theorem gX7_get_X3_fetch : GoodIn wsX7_get (wsV RX7 93 RX3 yX3_fetch wsX3_fetch) := goodIn_app (goodIn_of _ (by decide +kernel)) ggX7_get_X3_fetch
theorem dX7_get_0 : decode cX7_get 0 = .ok (.iload_n 1, 1) := by decide +kernel
theorem dX7_get_1 : decode cX7_get 1 = .ok (.iload_n 2, 1) := by decide +kernel
theorem dX7_get_2 : decode cX7_get 2 = .ok (.invokestatic 84, 3) := by decide +kernel
theorem dX7_get_5 : decode cX7_get 5 = .ok (.istore_n 3, 1) := by decide +kernel
theorem dX7_get_6 : decode cX7_get 6 = .ok (.iload_n 3, 1) := by decide +kernel
theorem dX7_get_7 : decode cX7_get 7 = .ok (.ifCond .ge 7, 3) := by decide +kernel
theorem dX7_get_10 : decode cX7_get 10 = .ok (.ldc2_w 91, 3) := by decide +kernel
theorem dX7_get_13 : decode cX7_get 13 = .ok (.lreturn, 1) := by decide +kernel
theorem dX7_get_14 : decode cX7_get 14 = .ok (.aload_n 0, 1) := by decide +kernel
theorem dX7_get_15 : decode cX7_get 15 = .ok (.getfield 14, 3) := by decide +kernel
theorem dX7_get_18 : decode cX7_get 18 = .ok (.iload_n 3, 1) := by decide +kernel
theorem dX7_get_19 : decode cX7_get 19 = .ok (.invokevirtual 93, 3) := by decide +kernel
theorem dX7_get_22 : decode cX7_get 22 = .ok (.ifCond .eq 19, 3) := by decide +kernel
theorem dX7_get_25 : decode cX7_get 25 = .ok (.aload_n 0, 1) := by decide +kernel
theorem dX7_get_26 : decode cX7_get 26 = .ok (.getfield 14, 3) := by decide +kernel
theorem dX7_get_29 : decode cX7_get 29 = .ok (.getfield 97, 3) := by decide +kernel
theorem dX7_get_32 : decode cX7_get 32 = .ok (.bipush 6, 2) := by decide +kernel
theorem dX7_get_34 : decode cX7_get 34 = .ok (.aaload, 1) := by decide +kernel
theorem dX7_get_35 : decode cX7_get 35 = .ok (.iload_n 3, 1) := by decide +kernel
theorem dX7_get_36 : decode cX7_get 36 = .ok (.iaload, 1) := by decide +kernel
theorem dX7_get_37 : decode cX7_get 37 = .ok (.i2l, 1) := by decide +kernel
theorem dX7_get_38 : decode cX7_get 38 = .ok (.goto 6, 3) := by decide +kernel
theorem dX7_get_41 : decode cX7_get 41 = .ok (.ldc2_w 91, 3) := by decide +kernel
theorem dX7_get_44 : decode cX7_get 44 = .ok (.lreturn, 1) := by decide +kernel
set_option maxRecDepth 20000 in
theorem ggX7_drop_X7_keyOf : GoodIn wsX7_drop wsX7_keyOf := goodIn_r _ [6] (by decide +kernel) (by decide +kernel)
set_option maxRecDepth 20000 in
theorem gX7_drop_X7_keyOf : GoodIn wsX7_drop (va_wsS RX7 84 yX7_keyOf wsX7_keyOf) := goodIn_app (goodIn_of _ (by decide +kernel)) ggX7_drop_X7_keyOf
set_option maxRecDepth 20000 in
theorem ggX7_drop_X3_move : GoodIn wsX7_drop wsX3_move := goodIn_r _ [11, 12, 13, 14, 15, 16, 17, 18, 19, 20, 21, 22, 23, 24, 25, 26, 34, 35, 36, 37, 38, 39, 40, 41, 42, 43] (by decide +kernel) (by decide +kernel)
set_option maxRecDepth 20000 in
theorem gX7_drop_X3_move : GoodIn wsX7_drop (wsV RX7 101 RX3 yX3_move wsX3_move) := goodIn_app (goodIn_of _ (by decide +kernel)) ggX7_drop_X3_move
theorem dX7_drop_0 : decode cX7_drop 0 = .ok (.iload_n 1, 1) := by decide +kernel
theorem dX7_drop_1 : decode cX7_drop 1 = .ok (.iload_n 2, 1) := by decide +kernel
theorem dX7_drop_2 : decode cX7_drop 2 = .ok (.invokestatic 84, 3) := by decide +kernel
theorem dX7_drop_5 : decode cX7_drop 5 = .ok (.istore_n 3, 1) := by decide +kernel
theorem dX7_drop_6 : decode cX7_drop 6 = .ok (.iload_n 3, 1) := by decide +kernel
theorem dX7_drop_7 : decode cX7_drop 7 = .ok (.ifCond .ge 5, 3) := by decide +kernel
theorem dX7_drop_10 : decode cX7_drop 10 = .ok (.iconst (-1), 1) := by decide +kernel
theorem dX7_drop_11 : decode cX7_drop 11 = .ok (.ireturn, 1) := by decide +kernel
theorem dX7_drop_12 : decode cX7_drop 12 = .ok (.aload_n 0, 1) := by decide +kernel
theorem dX7_drop_13 : decode cX7_drop 13 = .ok (.getfield 14, 3) := by decide +kernel
theorem dX7_drop_16 : decode cX7_drop 16 = .ok (.getfield 97, 3) := by decide +kernel
theorem dX7_drop_19 : decode cX7_drop 19 = .ok (.iconst 0, 1) := by decide +kernel
theorem dX7_drop_20 : decode cX7_drop 20 = .ok (.aaload, 1) := by decide +kernel
theorem dX7_drop_21 : decode cX7_drop 21 = .ok (.iload_n 3, 1) := by decide +kernel
theorem dX7_drop_22 : decode cX7_drop 22 = .ok (.iaload, 1) := by decide +kernel
theorem dX7_drop_23 : decode cX7_drop 23 = .ok (.istore 4, 2) := by decide +kernel
theorem dX7_drop_25 : decode cX7_drop 25 = .ok (.aload_n 0, 1) := by decide +kernel
theorem dX7_drop_26 : decode cX7_drop 26 = .ok (.getfield 14, 3) := by decide +kernel
theorem dX7_drop_29 : decode cX7_drop 29 = .ok (.iload_n 3, 1) := by decide +kernel
theorem dX7_drop_30 : decode cX7_drop 30 = .ok (.iconst 0, 1) := by decide +kernel
theorem dX7_drop_31 : decode cX7_drop 31 = .ok (.invokevirtual 101, 3) := by decide +kernel
theorem dX7_drop_34 : decode cX7_drop 34 = .ok (.iload 4, 2) := by decide +kernel
theorem dX7_drop_36 : decode cX7_drop 36 = .ok (.ireturn, 1) := by decide +kernel
set_option maxRecDepth 20000 in
theorem ggX7_pin_X7_keyOf : GoodIn wsX7_pin wsX7_keyOf := goodIn_r _ [6] (by decide +kernel) (by decide +kernel)
set_option maxRecDepth 20000 in
theorem gX7_pin_X7_keyOf : GoodIn wsX7_pin (va_wsS RX7 84 yX7_keyOf wsX7_keyOf) := goodIn_app (goodIn_of _ (by decide +kernel)) ggX7_pin_X7_keyOf
set_option maxRecDepth 20000 in
theorem ggX7_pin_X3_isThing : GoodIn wsX7_pin wsX3_isThing := goodIn_r _ [11, 12, 20, 21, 22, 23, 24, 25] (by decide +kernel) (by decide +kernel)
set_option maxRecDepth 20000 in
theorem gX7_pin_X3_isThing : GoodIn wsX7_pin (wsV RX7 105 RX3 yX3_isThing wsX3_isThing) := goodIn_app (goodIn_of _ (by decide +kernel)) ggX7_pin_X3_isThing
theorem dX7_pin_0 : decode cX7_pin 0 = .ok (.iload_n 1, 1) := by decide +kernel
theorem dX7_pin_1 : decode cX7_pin 1 = .ok (.iload_n 2, 1) := by decide +kernel
theorem dX7_pin_2 : decode cX7_pin 2 = .ok (.invokestatic 84, 3) := by decide +kernel
theorem dX7_pin_5 : decode cX7_pin 5 = .ok (.istore 4, 2) := by decide +kernel
theorem dX7_pin_7 : decode cX7_pin 7 = .ok (.iload 4, 2) := by decide +kernel
theorem dX7_pin_9 : decode cX7_pin 9 = .ok (.ifCond .ge 5, 3) := by decide +kernel
theorem dX7_pin_12 : decode cX7_pin 12 = .ok (.iconst (-1), 1) := by decide +kernel
theorem dX7_pin_13 : decode cX7_pin 13 = .ok (.ireturn, 1) := by decide +kernel
theorem dX7_pin_14 : decode cX7_pin 14 = .ok (.aload_n 0, 1) := by decide +kernel
theorem dX7_pin_15 : decode cX7_pin 15 = .ok (.getfield 14, 3) := by decide +kernel
theorem dX7_pin_18 : decode cX7_pin 18 = .ok (.iload 4, 2) := by decide +kernel
theorem dX7_pin_20 : decode cX7_pin 20 = .ok (.invokevirtual 105, 3) := by decide +kernel
theorem dX7_pin_23 : decode cX7_pin 23 = .ok (.ifCond .ne 6, 3) := by decide +kernel
theorem dX7_pin_26 : decode cX7_pin 26 = .ok (.bipush (-3), 2) := by decide +kernel
theorem dX7_pin_28 : decode cX7_pin 28 = .ok (.ireturn, 1) := by decide +kernel
theorem dX7_pin_29 : decode cX7_pin 29 = .ok (.aload_n 0, 1) := by decide +kernel
theorem dX7_pin_30 : decode cX7_pin 30 = .ok (.getfield 14, 3) := by decide +kernel
theorem dX7_pin_33 : decode cX7_pin 33 = .ok (.getfield 97, 3) := by decide +kernel
theorem dX7_pin_36 : decode cX7_pin 36 = .ok (.iconst 5, 1) := by decide +kernel
theorem dX7_pin_37 : decode cX7_pin 37 = .ok (.aaload, 1) := by decide +kernel
theorem dX7_pin_38 : decode cX7_pin 38 = .ok (.iload 4, 2) := by decide +kernel
theorem dX7_pin_40 : decode cX7_pin 40 = .ok (.iaload, 1) := by decide +kernel
theorem dX7_pin_41 : decode cX7_pin 41 = .ok (.istore 5, 2) := by decide +kernel
theorem dX7_pin_43 : decode cX7_pin 43 = .ok (.aload_n 0, 1) := by decide +kernel
theorem dX7_pin_44 : decode cX7_pin 44 = .ok (.getfield 14, 3) := by decide +kernel
theorem dX7_pin_47 : decode cX7_pin 47 = .ok (.getfield 97, 3) := by decide +kernel
theorem dX7_pin_50 : decode cX7_pin 50 = .ok (.iconst 5, 1) := by decide +kernel
theorem dX7_pin_51 : decode cX7_pin 51 = .ok (.aaload, 1) := by decide +kernel
theorem dX7_pin_52 : decode cX7_pin 52 = .ok (.iload 4, 2) := by decide +kernel
theorem dX7_pin_54 : decode cX7_pin 54 = .ok (.iload_n 3, 1) := by decide +kernel
theorem dX7_pin_55 : decode cX7_pin 55 = .ok (.ifCond .eq 7, 3) := by decide +kernel
theorem dX7_pin_58 : decode cX7_pin 58 = .ok (.iconst 1, 1) := by decide +kernel
theorem dX7_pin_59 : decode cX7_pin 59 = .ok (.goto 4, 3) := by decide +kernel
theorem dX7_pin_62 : decode cX7_pin 62 = .ok (.iconst 0, 1) := by decide +kernel
theorem dX7_pin_63 : decode cX7_pin 63 = .ok (.iastore, 1) := by decide +kernel
theorem dX7_pin_64 : decode cX7_pin 64 = .ok (.iload 5, 2) := by decide +kernel
theorem dX7_pin_66 : decode cX7_pin 66 = .ok (.ireturn, 1) := by decide +kernel
set_option maxRecDepth 20000 in
theorem ggX7_of_X7_keyOf : GoodIn wsX7_of wsX7_keyOf := goodIn_r _ [6] (by decide +kernel) (by decide +kernel)
set_option maxRecDepth 20000 in
theorem gX7_of_X7_keyOf : GoodIn wsX7_of (va_wsS RX7 84 yX7_keyOf wsX7_keyOf) := goodIn_app (goodIn_of _ (by decide +kernel)) ggX7_of_X7_keyOf
set_option maxRecDepth 20000 in
theorem ggX7_of_X3_placeOf : GoodIn wsX7_of wsX3_placeOf := goodIn_r _ [11, 12, 13, 14, 15, 16, 17, 18, 19, 20, 21, 22, 23, 24, 36, 37, 38, 39, 40, 41, 42, 43, 44, 45] (by decide +kernel) (by decide +kernel)
set_option maxRecDepth 20000 in
theorem gX7_of_X3_placeOf : GoodIn wsX7_of (wsV RX7 108 RX3 yX3_placeOf wsX3_placeOf) := goodIn_app (goodIn_of _ (by decide +kernel)) ggX7_of_X3_placeOf
set_option maxRecDepth 20000 in
theorem ggX7_of_X3_isThing : GoodIn wsX7_of wsX3_isThing := goodIn_r _ [28, 12, 36, 37, 38, 39, 40, 41] (by decide +kernel) (by decide +kernel)
set_option maxRecDepth 20000 in
theorem gX7_of_X3_isThing : GoodIn wsX7_of (wsV RX7 105 RX3 yX3_isThing wsX3_isThing) := goodIn_app (goodIn_of _ (by decide +kernel)) ggX7_of_X3_isThing
theorem dX7_of_0 : decode cX7_of 0 = .ok (.iload_n 1, 1) := by decide +kernel
theorem dX7_of_1 : decode cX7_of 1 = .ok (.iload_n 2, 1) := by decide +kernel
theorem dX7_of_2 : decode cX7_of 2 = .ok (.invokestatic 84, 3) := by decide +kernel
theorem dX7_of_5 : decode cX7_of 5 = .ok (.istore 4, 2) := by decide +kernel
theorem dX7_of_7 : decode cX7_of 7 = .ok (.iload 4, 2) := by decide +kernel
theorem dX7_of_9 : decode cX7_of 9 = .ok (.ifCond .lt 13, 3) := by decide +kernel
theorem dX7_of_12 : decode cX7_of 12 = .ok (.iload_n 3, 1) := by decide +kernel
theorem dX7_of_13 : decode cX7_of 13 = .ok (.ifCond .lt 9, 3) := by decide +kernel
theorem dX7_of_16 : decode cX7_of 16 = .ok (.iload_n 3, 1) := by decide +kernel
theorem dX7_of_17 : decode cX7_of 17 = .ok (.bipush 6, 2) := by decide +kernel
theorem dX7_of_19 : decode cX7_of 19 = .ok (.if_icmp .le 5, 3) := by decide +kernel
theorem dX7_of_22 : decode cX7_of 22 = .ok (.iconst (-1), 1) := by decide +kernel
theorem dX7_of_23 : decode cX7_of 23 = .ok (.ireturn, 1) := by decide +kernel
theorem dX7_of_24 : decode cX7_of 24 = .ok (.aload_n 0, 1) := by decide +kernel
theorem dX7_of_25 : decode cX7_of 25 = .ok (.getfield 14, 3) := by decide +kernel
theorem dX7_of_28 : decode cX7_of 28 = .ok (.getfield 97, 3) := by decide +kernel
theorem dX7_of_31 : decode cX7_of 31 = .ok (.iconst 0, 1) := by decide +kernel
theorem dX7_of_32 : decode cX7_of 32 = .ok (.aaload, 1) := by decide +kernel
theorem dX7_of_33 : decode cX7_of 33 = .ok (.iload 4, 2) := by decide +kernel
theorem dX7_of_35 : decode cX7_of 35 = .ok (.iaload, 1) := by decide +kernel
theorem dX7_of_36 : decode cX7_of 36 = .ok (.istore 5, 2) := by decide +kernel
theorem dX7_of_38 : decode cX7_of 38 = .ok (.iload_n 3, 1) := by decide +kernel
theorem dX7_of_39 : decode cX7_of 39 = .ok (.ifCond .ne 6, 3) := by decide +kernel
theorem dX7_of_42 : decode cX7_of 42 = .ok (.iload 5, 2) := by decide +kernel
theorem dX7_of_44 : decode cX7_of 44 = .ok (.ireturn, 1) := by decide +kernel
theorem dX7_of_45 : decode cX7_of 45 = .ok (.iload_n 3, 1) := by decide +kernel
theorem dX7_of_46 : decode cX7_of 46 = .ok (.bipush 6, 2) := by decide +kernel
theorem dX7_of_48 : decode cX7_of 48 = .ok (.if_icmp .ne 13, 3) := by decide +kernel
theorem dX7_of_51 : decode cX7_of 51 = .ok (.aload_n 0, 1) := by decide +kernel
theorem dX7_of_52 : decode cX7_of 52 = .ok (.getfield 14, 3) := by decide +kernel
theorem dX7_of_55 : decode cX7_of 55 = .ok (.iload 4, 2) := by decide +kernel
theorem dX7_of_57 : decode cX7_of 57 = .ok (.invokevirtual 108, 3) := by decide +kernel
theorem dX7_of_60 : decode cX7_of 60 = .ok (.ireturn, 1) := by decide +kernel
theorem dX7_of_61 : decode cX7_of 61 = .ok (.iload_n 3, 1) := by decide +kernel
theorem dX7_of_62 : decode cX7_of 62 = .ok (.iconst 1, 1) := by decide +kernel
theorem dX7_of_63 : decode cX7_of 63 = .ok (.if_icmp .ne 16, 3) := by decide +kernel
theorem dX7_of_66 : decode cX7_of 66 = .ok (.iload 5, 2) := by decide +kernel
theorem dX7_of_68 : decode cX7_of 68 = .ok (.ifCond .eq 7, 3) := by decide +kernel
theorem dX7_of_71 : decode cX7_of 71 = .ok (.iconst 1, 1) := by decide +kernel
theorem dX7_of_72 : decode cX7_of 72 = .ok (.goto 16, 3) := by decide +kernel
theorem dX7_of_75 : decode cX7_of 75 = .ok (.iconst 0, 1) := by decide +kernel
theorem dX7_of_76 : decode cX7_of 76 = .ok (.goto 12, 3) := by decide +kernel
theorem dX7_of_79 : decode cX7_of 79 = .ok (.aload_n 0, 1) := by decide +kernel
theorem dX7_of_80 : decode cX7_of 80 = .ok (.getfield 14, 3) := by decide +kernel
theorem dX7_of_83 : decode cX7_of 83 = .ok (.iload 4, 2) := by decide +kernel
theorem dX7_of_85 : decode cX7_of 85 = .ok (.invokevirtual 105, 3) := by decide +kernel
theorem dX7_of_88 : decode cX7_of 88 = .ok (.istore 6, 2) := by decide +kernel
theorem dX7_of_90 : decode cX7_of 90 = .ok (.iload 6, 2) := by decide +kernel
theorem dX7_of_92 : decode cX7_of 92 = .ok (.ifCond .eq 18, 3) := by decide +kernel
theorem dX7_of_95 : decode cX7_of 95 = .ok (.aload_n 0, 1) := by decide +kernel
theorem dX7_of_96 : decode cX7_of 96 = .ok (.getfield 14, 3) := by decide +kernel
theorem dX7_of_99 : decode cX7_of 99 = .ok (.getfield 97, 3) := by decide +kernel
theorem dX7_of_102 : decode cX7_of 102 = .ok (.iload_n 3, 1) := by decide +kernel
theorem dX7_of_103 : decode cX7_of 103 = .ok (.aaload, 1) := by decide +kernel
theorem dX7_of_104 : decode cX7_of 104 = .ok (.iload 4, 2) := by decide +kernel
theorem dX7_of_106 : decode cX7_of 106 = .ok (.iaload, 1) := by decide +kernel
theorem dX7_of_107 : decode cX7_of 107 = .ok (.goto 5, 3) := by decide +kernel
theorem dX7_of_110 : decode cX7_of 110 = .ok (.bipush (-5), 2) := by decide +kernel
theorem dX7_of_112 : decode cX7_of 112 = .ok (.ireturn, 1) := by decide +kernel
set_option maxRecDepth 20000 in
theorem ggX7_key_X2_keyAt : GoodIn wsX7_key wsX2_keyAt := goodIn_r _ [7, 8, 9, 10, 11, 12, 6, 13, 27, 28, 29, 30] (by decide +kernel) (by decide +kernel)
set_option maxRecDepth 20000 in
theorem gX7_key_X2_keyAt : GoodIn wsX7_key (wsV RX7 111 RX2 yX2_keyAt wsX2_keyAt) := goodIn_app (goodIn_of _ (by decide +kernel)) ggX7_key_X2_keyAt
theorem dX7_key_0 : decode cX7_key 0 = .ok (.iload_n 1, 1) := by decide +kernel
theorem dX7_key_1 : decode cX7_key 1 = .ok (.iconst 1, 1) := by decide +kernel
theorem dX7_key_2 : decode cX7_key 2 = .ok (.if_icmp .lt 12, 3) := by decide +kernel
theorem dX7_key_5 : decode cX7_key 5 = .ok (.iload_n 1, 1) := by decide +kernel
theorem dX7_key_6 : decode cX7_key 6 = .ok (.iconst 5, 1) := by decide +kernel
theorem dX7_key_7 : decode cX7_key 7 = .ok (.if_icmp .ge 7, 3) := by decide +kernel
theorem dX7_key_10 : decode cX7_key 10 = .ok (.iload_n 2, 1) := by decide +kernel
theorem dX7_key_11 : decode cX7_key 11 = .ok (.ifCond .ge 5, 3) := by decide +kernel
theorem dX7_key_14 : decode cX7_key 14 = .ok (.iconst (-1), 1) := by decide +kernel
theorem dX7_key_15 : decode cX7_key 15 = .ok (.ireturn, 1) := by decide +kernel
theorem dX7_key_16 : decode cX7_key 16 = .ok (.aload_n 0, 1) := by decide +kernel
theorem dX7_key_17 : decode cX7_key 17 = .ok (.getfield 14, 3) := by decide +kernel
theorem dX7_key_20 : decode cX7_key 20 = .ok (.getfield 62, 3) := by decide +kernel
theorem dX7_key_23 : decode cX7_key 23 = .ok (.iload_n 1, 1) := by decide +kernel
theorem dX7_key_24 : decode cX7_key 24 = .ok (.iload_n 2, 1) := by decide +kernel
theorem dX7_key_25 : decode cX7_key 25 = .ok (.invokevirtual 111, 3) := by decide +kernel
theorem dX7_key_28 : decode cX7_key 28 = .ok (.ireturn, 1) := by decide +kernel
set_option maxRecDepth 20000 in
theorem ggX7_gone_X1_at : GoodIn wsX7_gone wsX1_at := goodIn_r _ [12, 13, 14, 15, 16, 17, 31, 32] (by decide +kernel) (by decide +kernel)
set_option maxRecDepth 20000 in
theorem gX7_gone_X1_at : GoodIn wsX7_gone (wsV RX7 114 RX1 yX1_at wsX1_at) := goodIn_app (goodIn_of _ (by decide +kernel)) ggX7_gone_X1_at
theorem dX7_gone_0 : decode cX7_gone 0 = .ok (.iload_n 1, 1) := by decide +kernel
theorem dX7_gone_1 : decode cX7_gone 1 = .ok (.ifCond .ge 5, 3) := by decide +kernel
theorem dX7_gone_4 : decode cX7_gone 4 = .ok (.iconst (-1), 1) := by decide +kernel
theorem dX7_gone_5 : decode cX7_gone 5 = .ok (.ireturn, 1) := by decide +kernel
theorem dX7_gone_6 : decode cX7_gone 6 = .ok (.aload_n 0, 1) := by decide +kernel
theorem dX7_gone_7 : decode cX7_gone 7 = .ok (.getfield 14, 3) := by decide +kernel
theorem dX7_gone_10 : decode cX7_gone 10 = .ok (.getfield 74, 3) := by decide +kernel
theorem dX7_gone_13 : decode cX7_gone 13 = .ok (.getfield 78, 3) := by decide +kernel
theorem dX7_gone_16 : decode cX7_gone 16 = .ok (.istore_n 2, 1) := by decide +kernel
theorem dX7_gone_17 : decode cX7_gone 17 = .ok (.iload_n 1, 1) := by decide +kernel
theorem dX7_gone_18 : decode cX7_gone 18 = .ok (.bipush 20, 2) := by decide +kernel
theorem dX7_gone_20 : decode cX7_gone 20 = .ok (.iload_n 2, 1) := by decide +kernel
theorem dX7_gone_21 : decode cX7_gone 21 = .ok (.invokestatic 53, 3) := by decide +kernel
theorem dX7_gone_24 : decode cX7_gone 24 = .ok (.if_icmp .ge 21, 3) := by decide +kernel
theorem dX7_gone_27 : decode cX7_gone 27 = .ok (.aload_n 0, 1) := by decide +kernel
theorem dX7_gone_28 : decode cX7_gone 28 = .ok (.getfield 14, 3) := by decide +kernel
theorem dX7_gone_31 : decode cX7_gone 31 = .ok (.getfield 74, 3) := by decide +kernel
theorem dX7_gone_34 : decode cX7_gone 34 = .ok (.iload_n 2, 1) := by decide +kernel
theorem dX7_gone_35 : decode cX7_gone 35 = .ok (.iconst 1, 1) := by decide +kernel
theorem dX7_gone_36 : decode cX7_gone 36 = .ok (.isub, 1) := by decide +kernel
theorem dX7_gone_37 : decode cX7_gone 37 = .ok (.iload_n 1, 1) := by decide +kernel
theorem dX7_gone_38 : decode cX7_gone 38 = .ok (.isub, 1) := by decide +kernel
theorem dX7_gone_39 : decode cX7_gone 39 = .ok (.invokevirtual 114, 3) := by decide +kernel
theorem dX7_gone_42 : decode cX7_gone 42 = .ok (.goto 5, 3) := by decide +kernel
theorem dX7_gone_45 : decode cX7_gone 45 = .ok (.bipush (-5), 2) := by decide +kernel
theorem dX7_gone_47 : decode cX7_gone 47 = .ok (.ireturn, 1) := by decide +kernel
set_option maxRecDepth 20000 in
theorem ggX7_victim_X7_rehearse : GoodIn wsX7_victim wsX7_rehearse := goodIn_r _ [9, 4, 1, 10, 11, 12, 13, 14, 15, 16, 17, 18, 19, 20, 21, 22, 23, 24, 25, 26, 27, 28, 29, 30, 31, 32, 33, 34, 35, 36, 37, 38, 39, 40, 41, 42, 43, 44, 45, 46, 47, 48, 49, 50, 51, 52, 53, 54, 55, 56, 57, 58, 59, 60, 61, 62, 63, 64, 65, 66, 67, 68, 69, 70, 71, 72, 73, 74, 75, 76, 77, 78, 79, 80, 81, 82, 83, 84, 85, 86, 87, 88, 89, 90, 91, 92, 93, 94, 95, 96, 97, 98, 99, 100, 101, 102, 103, 104, 109, 110, 111, 112, 113, 114, 115, 116, 117, 118, 119, 120, 121, 124, 125, 126, 127, 122, 123, 128, 129, 130] (by decide +kernel) (by decide +kernel)
set_option maxRecDepth 20000 in
theorem gX7_victim_X7_rehearse : GoodIn wsX7_victim (wsV RX7 117 RX7 yX7_rehearse wsX7_rehearse) := goodIn_app (goodIn_of _ (by decide +kernel)) ggX7_victim_X7_rehearse
set_option maxRecDepth 20000 in
theorem ggX7_victim_X1_at : GoodIn wsX7_victim wsX1_at := goodIn_r _ [108, 41, 95, 96, 97, 98, 122, 123] (by decide +kernel) (by decide +kernel)
set_option maxRecDepth 20000 in
theorem gX7_victim_X1_at : GoodIn wsX7_victim (wsV RX7 114 RX1 yX1_at wsX1_at) := goodIn_app (goodIn_of _ (by decide +kernel)) ggX7_victim_X1_at
theorem dX7_victim_0 : decode cX7_victim 0 = .ok (.iload_n 1, 1) := by decide +kernel
theorem dX7_victim_1 : decode cX7_victim 1 = .ok (.ifCond .ge 5, 3) := by decide +kernel
theorem dX7_victim_4 : decode cX7_victim 4 = .ok (.iconst (-1), 1) := by decide +kernel
theorem dX7_victim_5 : decode cX7_victim 5 = .ok (.ireturn, 1) := by decide +kernel
theorem dX7_victim_6 : decode cX7_victim 6 = .ok (.aload_n 0, 1) := by decide +kernel
theorem dX7_victim_7 : decode cX7_victim 7 = .ok (.iconst 0, 1) := by decide +kernel
theorem dX7_victim_8 : decode cX7_victim 8 = .ok (.iconst 0, 1) := by decide +kernel
theorem dX7_victim_9 : decode cX7_victim 9 = .ok (.invokevirtual 117, 3) := by decide +kernel
theorem dX7_victim_12 : decode cX7_victim 12 = .ok (.aload_n 0, 1) := by decide +kernel
theorem dX7_victim_13 : decode cX7_victim 13 = .ok (.getfield 14, 3) := by decide +kernel
theorem dX7_victim_16 : decode cX7_victim 16 = .ok (.getfield 74, 3) := by decide +kernel
theorem dX7_victim_19 : decode cX7_victim 19 = .ok (.getfield 78, 3) := by decide +kernel
theorem dX7_victim_22 : decode cX7_victim 22 = .ok (.istore_n 2, 1) := by decide +kernel
theorem dX7_victim_23 : decode cX7_victim 23 = .ok (.aload_n 0, 1) := by decide +kernel
theorem dX7_victim_24 : decode cX7_victim 24 = .ok (.getfield 18, 3) := by decide +kernel
theorem dX7_victim_27 : decode cX7_victim 27 = .ok (.getfield 74, 3) := by decide +kernel
theorem dX7_victim_30 : decode cX7_victim 30 = .ok (.getfield 78, 3) := by decide +kernel
theorem dX7_victim_33 : decode cX7_victim 33 = .ok (.istore_n 3, 1) := by decide +kernel
theorem dX7_victim_34 : decode cX7_victim 34 = .ok (.iload_n 1, 1) := by decide +kernel
theorem dX7_victim_35 : decode cX7_victim 35 = .ok (.iload_n 3, 1) := by decide +kernel
theorem dX7_victim_36 : decode cX7_victim 36 = .ok (.iload_n 2, 1) := by decide +kernel
theorem dX7_victim_37 : decode cX7_victim 37 = .ok (.isub, 1) := by decide +kernel
theorem dX7_victim_38 : decode cX7_victim 38 = .ok (.if_icmp .ge 19, 3) := by decide +kernel
theorem dX7_victim_41 : decode cX7_victim 41 = .ok (.aload_n 0, 1) := by decide +kernel
theorem dX7_victim_42 : decode cX7_victim 42 = .ok (.getfield 18, 3) := by decide +kernel
theorem dX7_victim_45 : decode cX7_victim 45 = .ok (.getfield 74, 3) := by decide +kernel
theorem dX7_victim_48 : decode cX7_victim 48 = .ok (.iload_n 2, 1) := by decide +kernel
theorem dX7_victim_49 : decode cX7_victim 49 = .ok (.iload_n 1, 1) := by decide +kernel
theorem dX7_victim_50 : decode cX7_victim 50 = .ok (.iadd, 1) := by decide +kernel
theorem dX7_victim_51 : decode cX7_victim 51 = .ok (.invokevirtual 114, 3) := by decide +kernel
theorem dX7_victim_54 : decode cX7_victim 54 = .ok (.goto 5, 3) := by decide +kernel
theorem dX7_victim_57 : decode cX7_victim 57 = .ok (.bipush (-5), 2) := by decide +kernel
theorem dX7_victim_59 : decode cX7_victim 59 = .ok (.ireturn, 1) := by decide +kernel
theorem dX7_keyOf_0 : decode cX7_keyOf 0 = .ok (.iload_n 0, 1) := by decide +kernel
theorem dX7_keyOf_1 : decode cX7_keyOf 1 = .ok (.ifCond .lt 18, 3) := by decide +kernel
theorem dX7_keyOf_4 : decode cX7_keyOf 4 = .ok (.iload_n 0, 1) := by decide +kernel
theorem dX7_keyOf_5 : decode cX7_keyOf 5 = .ok (.iconst 4, 1) := by decide +kernel
theorem dX7_keyOf_6 : decode cX7_keyOf 6 = .ok (.if_icmp .ge 13, 3) := by decide +kernel
theorem dX7_keyOf_9 : decode cX7_keyOf 9 = .ok (.iload_n 1, 1) := by decide +kernel
theorem dX7_keyOf_10 : decode cX7_keyOf 10 = .ok (.ifCond .lt 9, 3) := by decide +kernel
theorem dX7_keyOf_13 : decode cX7_keyOf 13 = .ok (.iload_n 1, 1) := by decide +kernel
theorem dX7_keyOf_14 : decode cX7_keyOf 14 = .ok (.bipush 100, 2) := by decide +kernel
theorem dX7_keyOf_16 : decode cX7_keyOf 16 = .ok (.if_icmp .lt 5, 3) := by decide +kernel
theorem dX7_keyOf_19 : decode cX7_keyOf 19 = .ok (.iconst (-1), 1) := by decide +kernel
theorem dX7_keyOf_20 : decode cX7_keyOf 20 = .ok (.ireturn, 1) := by decide +kernel
theorem dX7_keyOf_21 : decode cX7_keyOf 21 = .ok (.iload_n 0, 1) := by decide +kernel
theorem dX7_keyOf_22 : decode cX7_keyOf 22 = .ok (.bipush 100, 2) := by decide +kernel
theorem dX7_keyOf_24 : decode cX7_keyOf 24 = .ok (.imul, 1) := by decide +kernel
theorem dX7_keyOf_25 : decode cX7_keyOf 25 = .ok (.iload_n 1, 1) := by decide +kernel
theorem dX7_keyOf_26 : decode cX7_keyOf 26 = .ok (.iadd, 1) := by decide +kernel
theorem dX7_keyOf_27 : decode cX7_keyOf 27 = .ok (.ireturn, 1) := by decide +kernel
set_option maxRecDepth 20000 in
theorem ggX7_rehearse_X3_copyFrom : GoodIn wsX7_rehearse wsX3_copyFrom := goodIn_r _ [8, 9, 10, 11, 12, 13, 14, 15, 16, 17, 18, 19, 20, 21, 22, 23, 24, 25, 26, 27, 28, 29, 30, 31, 32, 33, 34, 35, 36, 37, 38, 39, 40, 41, 42, 43, 44, 45, 105, 106, 107, 108, 109, 110, 111, 112, 113, 114, 115, 116, 117, 118, 119] (by decide +kernel) (by decide +kernel)
set_option maxRecDepth 20000 in
theorem gX7_rehearse_X3_copyFrom : GoodIn wsX7_rehearse (wsV RX7 120 RX3 yX3_copyFrom wsX3_copyFrom) := goodIn_app (goodIn_of _ (by decide +kernel)) ggX7_rehearse_X3_copyFrom
set_option maxRecDepth 20000 in
theorem ggX7_rehearse_X3_trim : GoodIn wsX7_rehearse wsX3_trim := goodIn_r _ [49, 50, 51, 52, 7, 53, 54, 15, 55, 9, 16, 56, 57, 58, 22, 59, 24, 27, 60, 61, 62, 63, 64, 65, 66, 67, 68, 69, 70, 71, 28, 26, 72, 73, 74, 75, 76, 77, 78, 79, 17, 80, 81, 82, 83, 84, 85, 86, 32, 87, 34, 36, 88, 89, 90, 91, 92, 93, 94, 95, 96, 97, 105, 106, 107, 108, 109, 110, 111, 112, 113, 114, 115, 116] (by decide +kernel) (by decide +kernel)
set_option maxRecDepth 20000 in
theorem gX7_rehearse_X3_trim : GoodIn wsX7_rehearse (wsV RX7 59 RX3 yX3_trim wsX3_trim) := goodIn_app (goodIn_of _ (by decide +kernel)) ggX7_rehearse_X3_trim
theorem dX7_rehearse_0 : decode cX7_rehearse 0 = .ok (.aload_n 0, 1) := by decide +kernel
theorem dX7_rehearse_1 : decode cX7_rehearse 1 = .ok (.getfield 18, 3) := by decide +kernel
theorem dX7_rehearse_4 : decode cX7_rehearse 4 = .ok (.aload_n 0, 1) := by decide +kernel
theorem dX7_rehearse_5 : decode cX7_rehearse 5 = .ok (.getfield 14, 3) := by decide +kernel
theorem dX7_rehearse_8 : decode cX7_rehearse 8 = .ok (.invokevirtual 120, 3) := by decide +kernel
theorem dX7_rehearse_11 : decode cX7_rehearse 11 = .ok (.aload_n 0, 1) := by decide +kernel
theorem dX7_rehearse_12 : decode cX7_rehearse 12 = .ok (.getfield 18, 3) := by decide +kernel
theorem dX7_rehearse_15 : decode cX7_rehearse 15 = .ok (.getfield 49, 3) := by decide +kernel
theorem dX7_rehearse_18 : decode cX7_rehearse 18 = .ok (.iconst 0, 1) := by decide +kernel
theorem dX7_rehearse_19 : decode cX7_rehearse 19 = .ok (.iload_n 1, 1) := by decide +kernel
theorem dX7_rehearse_20 : decode cX7_rehearse 20 = .ok (.iastore, 1) := by decide +kernel
theorem dX7_rehearse_21 : decode cX7_rehearse 21 = .ok (.aload_n 0, 1) := by decide +kernel
theorem dX7_rehearse_22 : decode cX7_rehearse 22 = .ok (.getfield 18, 3) := by decide +kernel
theorem dX7_rehearse_25 : decode cX7_rehearse 25 = .ok (.getfield 49, 3) := by decide +kernel
theorem dX7_rehearse_28 : decode cX7_rehearse 28 = .ok (.iconst 1, 1) := by decide +kernel
theorem dX7_rehearse_29 : decode cX7_rehearse 29 = .ok (.iload_n 2, 1) := by decide +kernel
theorem dX7_rehearse_30 : decode cX7_rehearse 30 = .ok (.iastore, 1) := by decide +kernel
theorem dX7_rehearse_31 : decode cX7_rehearse 31 = .ok (.aload_n 0, 1) := by decide +kernel
theorem dX7_rehearse_32 : decode cX7_rehearse 32 = .ok (.getfield 18, 3) := by decide +kernel
theorem dX7_rehearse_35 : decode cX7_rehearse 35 = .ok (.invokevirtual 59, 3) := by decide +kernel
theorem dX7_rehearse_38 : decode cX7_rehearse 38 = .ok (.return_, 1) := by decide +kernel
theorem dX7_feed_0 : decode cX7_feed 0 = .ok (.iload_n 1, 1) := by decide +kernel
theorem dX7_feed_1 : decode cX7_feed 1 = .ok (.ifCond .lt 9, 3) := by decide +kernel
theorem dX7_feed_4 : decode cX7_feed 4 = .ok (.iload_n 1, 1) := by decide +kernel
theorem dX7_feed_5 : decode cX7_feed 5 = .ok (.bipush 127, 2) := by decide +kernel
theorem dX7_feed_7 : decode cX7_feed 7 = .ok (.if_icmp .le 6, 3) := by decide +kernel
theorem dX7_feed_10 : decode cX7_feed 10 = .ok (.bipush (-2), 2) := by decide +kernel
theorem dX7_feed_12 : decode cX7_feed 12 = .ok (.ireturn, 1) := by decide +kernel
theorem dX7_feed_13 : decode cX7_feed 13 = .ok (.aload_n 0, 1) := by decide +kernel
theorem dX7_feed_14 : decode cX7_feed 14 = .ok (.getfield 24, 3) := by decide +kernel
theorem dX7_feed_17 : decode cX7_feed 17 = .ok (.getfield 124, 3) := by decide +kernel
theorem dX7_feed_20 : decode cX7_feed 20 = .ok (.bipush 100, 2) := by decide +kernel
theorem dX7_feed_22 : decode cX7_feed 22 = .ok (.if_icmp .lt 6, 3) := by decide +kernel
theorem dX7_feed_25 : decode cX7_feed 25 = .ok (.bipush (-4), 2) := by decide +kernel
theorem dX7_feed_27 : decode cX7_feed 27 = .ok (.ireturn, 1) := by decide +kernel
theorem dX7_feed_28 : decode cX7_feed 28 = .ok (.aload_n 0, 1) := by decide +kernel
theorem dX7_feed_29 : decode cX7_feed 29 = .ok (.getfield 24, 3) := by decide +kernel
theorem dX7_feed_32 : decode cX7_feed 32 = .ok (.getfield 127, 3) := by decide +kernel
theorem dX7_feed_35 : decode cX7_feed 35 = .ok (.aload_n 0, 1) := by decide +kernel
theorem dX7_feed_36 : decode cX7_feed 36 = .ok (.getfield 24, 3) := by decide +kernel
theorem dX7_feed_39 : decode cX7_feed 39 = .ok (.getfield 124, 3) := by decide +kernel
theorem dX7_feed_42 : decode cX7_feed 42 = .ok (.iload_n 1, 1) := by decide +kernel
theorem dX7_feed_43 : decode cX7_feed 43 = .ok (.iastore, 1) := by decide +kernel
theorem dX7_feed_44 : decode cX7_feed 44 = .ok (.aload_n 0, 1) := by decide +kernel
theorem dX7_feed_45 : decode cX7_feed 45 = .ok (.getfield 24, 3) := by decide +kernel
theorem dX7_feed_48 : decode cX7_feed 48 = .ok (.dup, 1) := by decide +kernel
theorem dX7_feed_49 : decode cX7_feed 49 = .ok (.getfield 124, 3) := by decide +kernel
theorem dX7_feed_52 : decode cX7_feed 52 = .ok (.iconst 1, 1) := by decide +kernel
theorem dX7_feed_53 : decode cX7_feed 53 = .ok (.iadd, 1) := by decide +kernel
theorem dX7_feed_54 : decode cX7_feed 54 = .ok (.putfield 124, 3) := by decide +kernel
theorem dX7_feed_57 : decode cX7_feed 57 = .ok (.aload_n 0, 1) := by decide +kernel
theorem dX7_feed_58 : decode cX7_feed 58 = .ok (.getfield 24, 3) := by decide +kernel
theorem dX7_feed_61 : decode cX7_feed 61 = .ok (.getfield 124, 3) := by decide +kernel
theorem dX7_feed_64 : decode cX7_feed 64 = .ok (.ireturn, 1) := by decide +kernel
set_option maxRecDepth 20000 in
theorem ggX7_trace_X5_readInto : GoodIn wsX7_trace wsX5_readInto := goodIn_r _ [9, 10, 11, 12, 13, 14, 15, 8, 16, 17, 18, 19, 20, 21, 22, 23, 24, 25, 26, 27, 28, 29, 30, 31, 32, 40, 41, 42, 43, 44, 45, 46] (by decide +kernel) (by decide +kernel)
set_option maxRecDepth 20000 in
theorem gX7_trace_X5_readInto : GoodIn wsX7_trace (wsV RX7 133 RX5 yX5_readInto wsX5_readInto) := goodIn_app (goodIn_of _ (by decide +kernel)) ggX7_trace_X5_readInto
theorem dX7_trace_0 : decode cX7_trace 0 = .ok (.aload_n 0, 1) := by decide +kernel
theorem dX7_trace_1 : decode cX7_trace 1 = .ok (.getfield 130, 3) := by decide +kernel
theorem dX7_trace_4 : decode cX7_trace 4 = .ok (.bipush 6, 2) := by decide +kernel
theorem dX7_trace_6 : decode cX7_trace 6 = .ok (.if_icmp .lt 6, 3) := by decide +kernel
theorem dX7_trace_9 : decode cX7_trace 9 = .ok (.bipush (-4), 2) := by decide +kernel
theorem dX7_trace_11 : decode cX7_trace 11 = .ok (.ireturn, 1) := by decide +kernel
theorem dX7_trace_12 : decode cX7_trace 12 = .ok (.aload_n 0, 1) := by decide +kernel
theorem dX7_trace_13 : decode cX7_trace 13 = .ok (.getfield 24, 3) := by decide +kernel
theorem dX7_trace_16 : decode cX7_trace 16 = .ok (.aload_n 0, 1) := by decide +kernel
theorem dX7_trace_17 : decode cX7_trace 17 = .ok (.getfield 30, 3) := by decide +kernel
theorem dX7_trace_20 : decode cX7_trace 20 = .ok (.aload_n 0, 1) := by decide +kernel
theorem dX7_trace_21 : decode cX7_trace 21 = .ok (.getfield 130, 3) := by decide +kernel
theorem dX7_trace_24 : decode cX7_trace 24 = .ok (.aaload, 1) := by decide +kernel
theorem dX7_trace_25 : decode cX7_trace 25 = .ok (.invokevirtual 133, 3) := by decide +kernel
theorem dX7_trace_28 : decode cX7_trace 28 = .ok (.istore_n 1, 1) := by decide +kernel
theorem dX7_trace_29 : decode cX7_trace 29 = .ok (.aload_n 0, 1) := by decide +kernel
theorem dX7_trace_30 : decode cX7_trace 30 = .ok (.getfield 24, 3) := by decide +kernel
theorem dX7_trace_33 : decode cX7_trace 33 = .ok (.iconst 0, 1) := by decide +kernel
theorem dX7_trace_34 : decode cX7_trace 34 = .ok (.putfield 124, 3) := by decide +kernel
theorem dX7_trace_37 : decode cX7_trace 37 = .ok (.iload_n 1, 1) := by decide +kernel
theorem dX7_trace_38 : decode cX7_trace 38 = .ok (.ifCond .lt 8, 3) := by decide +kernel
theorem dX7_trace_41 : decode cX7_trace 41 = .ok (.bipush (-10), 2) := by decide +kernel
theorem dX7_trace_43 : decode cX7_trace 43 = .ok (.iload_n 1, 1) := by decide +kernel
theorem dX7_trace_44 : decode cX7_trace 44 = .ok (.isub, 1) := by decide +kernel
theorem dX7_trace_45 : decode cX7_trace 45 = .ok (.ireturn, 1) := by decide +kernel
theorem dX7_trace_46 : decode cX7_trace 46 = .ok (.aload_n 0, 1) := by decide +kernel
theorem dX7_trace_47 : decode cX7_trace 47 = .ok (.dup, 1) := by decide +kernel
theorem dX7_trace_48 : decode cX7_trace 48 = .ok (.getfield 130, 3) := by decide +kernel
theorem dX7_trace_51 : decode cX7_trace 51 = .ok (.iconst 1, 1) := by decide +kernel
theorem dX7_trace_52 : decode cX7_trace 52 = .ok (.iadd, 1) := by decide +kernel
theorem dX7_trace_53 : decode cX7_trace 53 = .ok (.putfield 130, 3) := by decide +kernel
theorem dX7_trace_56 : decode cX7_trace 56 = .ok (.aload_n 0, 1) := by decide +kernel
theorem dX7_trace_57 : decode cX7_trace 57 = .ok (.getfield 130, 3) := by decide +kernel
theorem dX7_trace_60 : decode cX7_trace 60 = .ok (.iconst 1, 1) := by decide +kernel
theorem dX7_trace_61 : decode cX7_trace 61 = .ok (.isub, 1) := by decide +kernel
theorem dX7_trace_62 : decode cX7_trace 62 = .ok (.ireturn, 1) := by decide +kernel
set_option maxRecDepth 20000 in
theorem ggX7_run_X7_isTrace : GoodIn wsX7_run wsX7_isTrace := goodIn_r _ [7, 8, 114, 115, 116, 117, 118, 119, 120] (by decide +kernel) (by decide +kernel)
set_option maxRecDepth 20000 in
theorem gX7_run_X7_isTrace : GoodIn wsX7_run (wsV RX7 137 RX7 yX7_isTrace wsX7_isTrace) := goodIn_app (goodIn_of _ (by decide +kernel)) ggX7_run_X7_isTrace
set_option maxRecDepth 20000 in
theorem ggX7_run_X3_perform : GoodIn wsX7_run wsX3_perform := goodIn_r _ [13, 14, 15, 16, 17, 18, 19, 20, 21, 22, 12, 23, 24, 25, 26, 27, 28, 29, 30, 31, 32, 33, 34, 35, 36, 37, 38, 39, 40, 41, 42, 43, 44, 45, 46, 47, 48, 49, 50, 51, 52, 53, 54, 55, 56, 57, 58, 59, 60, 61, 62, 63, 64, 65, 66, 67, 68, 69, 70, 71, 72, 73, 74, 75, 76, 77, 78, 79, 80, 81, 82, 83, 84, 85, 86, 87, 88, 89, 90, 91, 92, 93, 94, 95, 96, 97, 98, 99, 100, 101, 102, 103, 104, 105, 106, 107, 108, 109, 110, 111, 112, 113, 121, 122, 123, 124, 125, 126, 127, 128, 129, 130, 131, 132, 133, 134, 135, 136] (by decide +kernel) (by decide +kernel)
set_option maxRecDepth 20000 in
theorem gX7_run_X3_perform : GoodIn wsX7_run (wsV RX7 140 RX3 yX3_perform wsX3_perform) := goodIn_app (goodIn_of _ (by decide +kernel)) ggX7_run_X3_perform
theorem dX7_run_0 : decode cX7_run 0 = .ok (.aload_n 0, 1) := by decide +kernel
theorem dX7_run_1 : decode cX7_run 1 = .ok (.iload_n 1, 1) := by decide +kernel
theorem dX7_run_2 : decode cX7_run 2 = .ok (.invokevirtual 137, 3) := by decide +kernel
theorem dX7_run_5 : decode cX7_run 5 = .ok (.ifCond .ne 5, 3) := by decide +kernel
theorem dX7_run_8 : decode cX7_run 8 = .ok (.iconst (-1), 1) := by decide +kernel
theorem dX7_run_9 : decode cX7_run 9 = .ok (.ireturn, 1) := by decide +kernel
theorem dX7_run_10 : decode cX7_run 10 = .ok (.aload_n 0, 1) := by decide +kernel
theorem dX7_run_11 : decode cX7_run 11 = .ok (.getfield 14, 3) := by decide +kernel
theorem dX7_run_14 : decode cX7_run 14 = .ok (.aload_n 0, 1) := by decide +kernel
theorem dX7_run_15 : decode cX7_run 15 = .ok (.getfield 30, 3) := by decide +kernel
theorem dX7_run_18 : decode cX7_run 18 = .ok (.iload_n 1, 1) := by decide +kernel
theorem dX7_run_19 : decode cX7_run 19 = .ok (.aaload, 1) := by decide +kernel
theorem dX7_run_20 : decode cX7_run 20 = .ok (.invokevirtual 140, 3) := by decide +kernel
theorem dX7_run_23 : decode cX7_run 23 = .ok (.ireturn, 1) := by decide +kernel
set_option maxRecDepth 20000 in
theorem ggX7_would_X7_isTrace : GoodIn wsX7_would wsX7_isTrace := goodIn_r _ [12, 13, 148, 149, 150, 151, 152, 153, 154] (by decide +kernel) (by decide +kernel)
set_option maxRecDepth 20000 in
theorem gX7_would_X7_isTrace : GoodIn wsX7_would (wsV RX7 137 RX7 yX7_isTrace wsX7_isTrace) := goodIn_app (goodIn_of _ (by decide +kernel)) ggX7_would_X7_isTrace
set_option maxRecDepth 20000 in
theorem ggX7_would_X3_copyFrom : GoodIn wsX7_would wsX3_copyFrom := goodIn_r _ [18, 19, 20, 21, 22, 23, 24, 25, 26, 27, 28, 29, 30, 31, 32, 33, 34, 35, 36, 37, 38, 39, 40, 41, 42, 43, 44, 45, 46, 47, 48, 49, 50, 51, 52, 53, 54, 55, 155, 156, 157, 158, 159, 160, 163, 164, 165, 166, 161, 162, 167, 168, 169] (by decide +kernel) (by decide +kernel)
set_option maxRecDepth 20000 in
theorem gX7_would_X3_copyFrom : GoodIn wsX7_would (wsV RX7 120 RX3 yX3_copyFrom wsX3_copyFrom) := goodIn_app (goodIn_of _ (by decide +kernel)) ggX7_would_X3_copyFrom
set_option maxRecDepth 20000 in
theorem ggX7_would_X3_perform : GoodIn wsX7_would wsX3_perform := goodIn_r _ [59, 24, 60, 61, 62, 63, 19, 64, 65, 66, 17, 67, 26, 68, 69, 70, 71, 72, 73, 74, 75, 76, 77, 78, 79, 80, 81, 82, 83, 25, 84, 85, 86, 32, 87, 37, 38, 34, 36, 88, 89, 90, 91, 92, 93, 94, 95, 96, 97, 98, 99, 100, 101, 102, 103, 104, 105, 106, 107, 108, 109, 110, 111, 112, 113, 27, 114, 115, 116, 117, 118, 119, 120, 42, 121, 44, 46, 122, 123, 124, 125, 126, 127, 128, 129, 130, 131, 132, 133, 134, 135, 136, 137, 138, 139, 140, 141, 142, 143, 144, 145, 146, 155, 156, 157, 158, 159, 160, 170, 171, 172, 173, 163, 164, 165, 166, 161, 162] (by decide +kernel) (by decide +kernel)
set_option maxRecDepth 20000 in
theorem gX7_would_X3_perform : GoodIn wsX7_would (wsV RX7 140 RX3 yX3_perform wsX3_perform) := goodIn_app (goodIn_of _ (by decide +kernel)) ggX7_would_X3_perform
set_option maxRecDepth 20000 in
theorem ggX7_would_X3_weightOfThings : GoodIn wsX7_would wsX3_weightOfThings := goodIn_r _ [117, 25, 101, 155, 156, 157, 158, 159, 160, 163, 164, 165, 166] (by decide +kernel) (by decide +kernel)
set_option maxRecDepth 20000 in
theorem gX7_would_X3_weightOfThings : GoodIn wsX7_would (wsV RX7 143 RX3 yX3_weightOfThings wsX3_weightOfThings) := goodIn_app (goodIn_of _ (by decide +kernel)) ggX7_would_X3_weightOfThings
theorem dX7_would_0 : decode cX7_would 0 = .ok (.aload_n 0, 1) := by decide +kernel
theorem dX7_would_1 : decode cX7_would 1 = .ok (.iload_n 1, 1) := by decide +kernel
theorem dX7_would_2 : decode cX7_would 2 = .ok (.invokevirtual 137, 3) := by decide +kernel
theorem dX7_would_5 : decode cX7_would 5 = .ok (.ifCond .eq 12, 3) := by decide +kernel
theorem dX7_would_8 : decode cX7_would 8 = .ok (.iload_n 2, 1) := by decide +kernel
theorem dX7_would_9 : decode cX7_would 9 = .ok (.ifCond .lt 8, 3) := by decide +kernel
theorem dX7_would_12 : decode cX7_would 12 = .ok (.iload_n 2, 1) := by decide +kernel
theorem dX7_would_13 : decode cX7_would 13 = .ok (.iconst 5, 1) := by decide +kernel
theorem dX7_would_14 : decode cX7_would 14 = .ok (.if_icmp .le 5, 3) := by decide +kernel
theorem dX7_would_17 : decode cX7_would 17 = .ok (.iconst (-1), 1) := by decide +kernel
theorem dX7_would_18 : decode cX7_would 18 = .ok (.ireturn, 1) := by decide +kernel
theorem dX7_would_19 : decode cX7_would 19 = .ok (.aload_n 0, 1) := by decide +kernel
theorem dX7_would_20 : decode cX7_would 20 = .ok (.getfield 18, 3) := by decide +kernel
theorem dX7_would_23 : decode cX7_would 23 = .ok (.aload_n 0, 1) := by decide +kernel
theorem dX7_would_24 : decode cX7_would 24 = .ok (.getfield 14, 3) := by decide +kernel
theorem dX7_would_27 : decode cX7_would 27 = .ok (.invokevirtual 120, 3) := by decide +kernel
theorem dX7_would_30 : decode cX7_would 30 = .ok (.aload_n 0, 1) := by decide +kernel
theorem dX7_would_31 : decode cX7_would 31 = .ok (.getfield 18, 3) := by decide +kernel
theorem dX7_would_34 : decode cX7_would 34 = .ok (.aload_n 0, 1) := by decide +kernel
theorem dX7_would_35 : decode cX7_would 35 = .ok (.getfield 30, 3) := by decide +kernel
theorem dX7_would_38 : decode cX7_would 38 = .ok (.iload_n 1, 1) := by decide +kernel
theorem dX7_would_39 : decode cX7_would 39 = .ok (.aaload, 1) := by decide +kernel
theorem dX7_would_40 : decode cX7_would 40 = .ok (.invokevirtual 140, 3) := by decide +kernel
theorem dX7_would_43 : decode cX7_would 43 = .ok (.pop, 1) := by decide +kernel
theorem dX7_would_44 : decode cX7_would 44 = .ok (.iload_n 2, 1) := by decide +kernel
theorem dX7_would_45 : decode cX7_would 45 = .ok (.tableswitch 113 0 4 #[35, 55, 75, 95, 105], 35) := by decide +kernel
theorem dX7_would_80 : decode cX7_would 80 = .ok (.aload_n 0, 1) := by decide +kernel
theorem dX7_would_81 : decode cX7_would 81 = .ok (.getfield 18, 3) := by decide +kernel
theorem dX7_would_84 : decode cX7_would 84 = .ok (.getfield 71, 3) := by decide +kernel
theorem dX7_would_87 : decode cX7_would 87 = .ok (.iconst 0, 1) := by decide +kernel
theorem dX7_would_88 : decode cX7_would 88 = .ok (.iaload, 1) := by decide +kernel
theorem dX7_would_89 : decode cX7_would 89 = .ok (.aload_n 0, 1) := by decide +kernel
theorem dX7_would_90 : decode cX7_would 90 = .ok (.getfield 14, 3) := by decide +kernel
theorem dX7_would_93 : decode cX7_would 93 = .ok (.getfield 71, 3) := by decide +kernel
theorem dX7_would_96 : decode cX7_would 96 = .ok (.iconst 0, 1) := by decide +kernel
theorem dX7_would_97 : decode cX7_would 97 = .ok (.iaload, 1) := by decide +kernel
theorem dX7_would_98 : decode cX7_would 98 = .ok (.isub, 1) := by decide +kernel
theorem dX7_would_99 : decode cX7_would 99 = .ok (.ireturn, 1) := by decide +kernel
theorem dX7_would_100 : decode cX7_would 100 = .ok (.aload_n 0, 1) := by decide +kernel
theorem dX7_would_101 : decode cX7_would 101 = .ok (.getfield 18, 3) := by decide +kernel
theorem dX7_would_104 : decode cX7_would 104 = .ok (.getfield 71, 3) := by decide +kernel
theorem dX7_would_107 : decode cX7_would 107 = .ok (.iconst 1, 1) := by decide +kernel
theorem dX7_would_108 : decode cX7_would 108 = .ok (.iaload, 1) := by decide +kernel
theorem dX7_would_109 : decode cX7_would 109 = .ok (.aload_n 0, 1) := by decide +kernel
theorem dX7_would_110 : decode cX7_would 110 = .ok (.getfield 14, 3) := by decide +kernel
theorem dX7_would_113 : decode cX7_would 113 = .ok (.getfield 71, 3) := by decide +kernel
theorem dX7_would_116 : decode cX7_would 116 = .ok (.iconst 1, 1) := by decide +kernel
theorem dX7_would_117 : decode cX7_would 117 = .ok (.iaload, 1) := by decide +kernel
theorem dX7_would_118 : decode cX7_would 118 = .ok (.isub, 1) := by decide +kernel
theorem dX7_would_119 : decode cX7_would 119 = .ok (.ireturn, 1) := by decide +kernel
theorem dX7_would_120 : decode cX7_would 120 = .ok (.aload_n 0, 1) := by decide +kernel
theorem dX7_would_121 : decode cX7_would 121 = .ok (.getfield 18, 3) := by decide +kernel
theorem dX7_would_124 : decode cX7_would 124 = .ok (.getfield 71, 3) := by decide +kernel
theorem dX7_would_127 : decode cX7_would 127 = .ok (.iconst 2, 1) := by decide +kernel
theorem dX7_would_128 : decode cX7_would 128 = .ok (.iaload, 1) := by decide +kernel
theorem dX7_would_129 : decode cX7_would 129 = .ok (.aload_n 0, 1) := by decide +kernel
theorem dX7_would_130 : decode cX7_would 130 = .ok (.getfield 14, 3) := by decide +kernel
theorem dX7_would_133 : decode cX7_would 133 = .ok (.getfield 71, 3) := by decide +kernel
theorem dX7_would_136 : decode cX7_would 136 = .ok (.iconst 2, 1) := by decide +kernel
theorem dX7_would_137 : decode cX7_would 137 = .ok (.iaload, 1) := by decide +kernel
theorem dX7_would_138 : decode cX7_would 138 = .ok (.isub, 1) := by decide +kernel
theorem dX7_would_139 : decode cX7_would 139 = .ok (.ireturn, 1) := by decide +kernel
theorem dX7_would_140 : decode cX7_would 140 = .ok (.aload_n 0, 1) := by decide +kernel
theorem dX7_would_141 : decode cX7_would 141 = .ok (.getfield 18, 3) := by decide +kernel
theorem dX7_would_144 : decode cX7_would 144 = .ok (.getfield 49, 3) := by decide +kernel
theorem dX7_would_147 : decode cX7_would 147 = .ok (.iconst 1, 1) := by decide +kernel
theorem dX7_would_148 : decode cX7_would 148 = .ok (.iaload, 1) := by decide +kernel
theorem dX7_would_149 : decode cX7_would 149 = .ok (.ireturn, 1) := by decide +kernel
theorem dX7_would_150 : decode cX7_would 150 = .ok (.aload_n 0, 1) := by decide +kernel
theorem dX7_would_151 : decode cX7_would 151 = .ok (.getfield 18, 3) := by decide +kernel
theorem dX7_would_154 : decode cX7_would 154 = .ok (.invokevirtual 143, 3) := by decide +kernel
theorem dX7_would_157 : decode cX7_would 157 = .ok (.ireturn, 1) := by decide +kernel
theorem dX7_would_158 : decode cX7_would 158 = .ok (.aload_n 0, 1) := by decide +kernel
theorem dX7_would_159 : decode cX7_would 159 = .ok (.getfield 18, 3) := by decide +kernel
theorem dX7_would_162 : decode cX7_would 162 = .ok (.getfield 74, 3) := by decide +kernel
theorem dX7_would_165 : decode cX7_would 165 = .ok (.getfield 78, 3) := by decide +kernel
theorem dX7_would_168 : decode cX7_would 168 = .ok (.aload_n 0, 1) := by decide +kernel
theorem dX7_would_169 : decode cX7_would 169 = .ok (.getfield 14, 3) := by decide +kernel
theorem dX7_would_172 : decode cX7_would 172 = .ok (.getfield 74, 3) := by decide +kernel
theorem dX7_would_175 : decode cX7_would 175 = .ok (.getfield 78, 3) := by decide +kernel
theorem dX7_would_178 : decode cX7_would 178 = .ok (.isub, 1) := by decide +kernel
theorem dX7_would_179 : decode cX7_would 179 = .ok (.ireturn, 1) := by decide +kernel
set_option maxRecDepth 20000 in
theorem ggX7_need_X7_isTrace : GoodIn wsX7_need wsX7_isTrace := goodIn_r _ [13, 14, 150, 151, 152, 153, 154, 155, 156] (by decide +kernel) (by decide +kernel)
set_option maxRecDepth 20000 in
theorem gX7_need_X7_isTrace : GoodIn wsX7_need (wsV RX7 137 RX7 yX7_isTrace wsX7_isTrace) := goodIn_app (goodIn_of _ (by decide +kernel)) ggX7_need_X7_isTrace
set_option maxRecDepth 20000 in
theorem ggX7_need_X7_rehearse : GoodIn wsX7_need wsX7_rehearse := goodIn_r _ [18, 7, 1, 2, 19, 20, 21, 22, 23, 24, 25, 26, 27, 28, 29, 30, 31, 32, 33, 34, 35, 36, 37, 38, 39, 40, 41, 42, 43, 44, 45, 46, 47, 48, 49, 50, 51, 52, 53, 54, 55, 56, 57, 58, 59, 60, 61, 62, 63, 64, 65, 66, 67, 68, 69, 70, 71, 72, 73, 74, 75, 76, 77, 78, 79, 80, 81, 82, 83, 84, 85, 86, 87, 88, 89, 90, 91, 92, 93, 94, 95, 96, 97, 98, 99, 100, 101, 102, 103, 104, 105, 106, 107, 108, 109, 110, 111, 112, 150, 151, 152, 153, 154, 155, 156, 157, 158, 159, 160, 161, 162, 163, 164, 165, 166, 167, 168, 169, 170, 171] (by decide +kernel) (by decide +kernel)
set_option maxRecDepth 20000 in
theorem gX7_need_X7_rehearse : GoodIn wsX7_need (wsV RX7 117 RX7 yX7_rehearse wsX7_rehearse) := goodIn_app (goodIn_of _ (by decide +kernel)) ggX7_need_X7_rehearse
set_option maxRecDepth 20000 in
theorem ggX7_need_X3_perform : GoodIn wsX7_need wsX3_perform := goodIn_r _ [116, 29, 117, 118, 119, 120, 24, 121, 122, 123, 22, 124, 31, 125, 126, 127, 128, 129, 130, 131, 132, 133, 4, 5, 6, 79, 80, 81, 82, 30, 83, 84, 85, 37, 86, 42, 43, 39, 41, 87, 88, 89, 90, 134, 62, 63, 64, 65, 66, 67, 68, 69, 70, 71, 72, 73, 74, 75, 76, 77, 78, 91, 92, 93, 94, 32, 95, 96, 97, 98, 99, 100, 101, 47, 102, 49, 51, 103, 104, 105, 106, 107, 108, 109, 110, 111, 112, 135, 136, 137, 138, 139, 140, 141, 142, 143, 144, 145, 146, 147, 148, 149, 157, 158, 159, 160, 161, 162, 172, 173, 174, 175, 163, 164, 165, 166, 167, 168] (by decide +kernel) (by decide +kernel)
set_option maxRecDepth 20000 in
theorem gX7_need_X3_perform : GoodIn wsX7_need (wsV RX7 140 RX3 yX3_perform wsX3_perform) := goodIn_app (goodIn_of _ (by decide +kernel)) ggX7_need_X3_perform
theorem dX7_need_0 : decode cX7_need 0 = .ok (.aload_n 0, 1) := by decide +kernel
theorem dX7_need_1 : decode cX7_need 1 = .ok (.iload_n 1, 1) := by decide +kernel
theorem dX7_need_2 : decode cX7_need 2 = .ok (.invokevirtual 137, 3) := by decide +kernel
theorem dX7_need_5 : decode cX7_need 5 = .ok (.ifCond .ne 5, 3) := by decide +kernel
theorem dX7_need_8 : decode cX7_need 8 = .ok (.iconst (-1), 1) := by decide +kernel
theorem dX7_need_9 : decode cX7_need 9 = .ok (.ireturn, 1) := by decide +kernel
theorem dX7_need_10 : decode cX7_need 10 = .ok (.iload_n 2, 1) := by decide +kernel
theorem dX7_need_11 : decode cX7_need 11 = .ok (.ifCond .lt 9, 3) := by decide +kernel
theorem dX7_need_14 : decode cX7_need 14 = .ok (.iload_n 2, 1) := by decide +kernel
theorem dX7_need_15 : decode cX7_need 15 = .ok (.bipush 20, 2) := by decide +kernel
theorem dX7_need_17 : decode cX7_need 17 = .ok (.if_icmp .le 6, 3) := by decide +kernel
theorem dX7_need_20 : decode cX7_need 20 = .ok (.bipush (-2), 2) := by decide +kernel
theorem dX7_need_22 : decode cX7_need 22 = .ok (.ireturn, 1) := by decide +kernel
theorem dX7_need_23 : decode cX7_need 23 = .ok (.iconst 1, 1) := by decide +kernel
theorem dX7_need_24 : decode cX7_need 24 = .ok (.istore_n 3, 1) := by decide +kernel
theorem dX7_need_25 : decode cX7_need 25 = .ok (.iload_n 3, 1) := by decide +kernel
theorem dX7_need_26 : decode cX7_need 26 = .ok (.bipush 60, 2) := by decide +kernel
theorem dX7_need_28 : decode cX7_need 28 = .ok (.if_icmp .gt 46, 3) := by decide +kernel
theorem dX7_need_31 : decode cX7_need 31 = .ok (.aload_n 0, 1) := by decide +kernel
theorem dX7_need_32 : decode cX7_need 32 = .ok (.iload_n 3, 1) := by decide +kernel
theorem dX7_need_33 : decode cX7_need 33 = .ok (.aload_n 0, 1) := by decide +kernel
theorem dX7_need_34 : decode cX7_need 34 = .ok (.getfield 14, 3) := by decide +kernel
theorem dX7_need_37 : decode cX7_need 37 = .ok (.getfield 49, 3) := by decide +kernel
theorem dX7_need_40 : decode cX7_need 40 = .ok (.iconst 1, 1) := by decide +kernel
theorem dX7_need_41 : decode cX7_need 41 = .ok (.iaload, 1) := by decide +kernel
theorem dX7_need_42 : decode cX7_need 42 = .ok (.iload_n 3, 1) := by decide +kernel
theorem dX7_need_43 : decode cX7_need 43 = .ok (.invokestatic 53, 3) := by decide +kernel
theorem dX7_need_46 : decode cX7_need 46 = .ok (.invokevirtual 117, 3) := by decide +kernel
theorem dX7_need_49 : decode cX7_need 49 = .ok (.aload_n 0, 1) := by decide +kernel
theorem dX7_need_50 : decode cX7_need 50 = .ok (.getfield 18, 3) := by decide +kernel
theorem dX7_need_53 : decode cX7_need 53 = .ok (.aload_n 0, 1) := by decide +kernel
theorem dX7_need_54 : decode cX7_need 54 = .ok (.getfield 30, 3) := by decide +kernel
theorem dX7_need_57 : decode cX7_need 57 = .ok (.iload_n 1, 1) := by decide +kernel
theorem dX7_need_58 : decode cX7_need 58 = .ok (.aaload, 1) := by decide +kernel
theorem dX7_need_59 : decode cX7_need 59 = .ok (.invokevirtual 140, 3) := by decide +kernel
theorem dX7_need_62 : decode cX7_need 62 = .ok (.iload_n 2, 1) := by decide +kernel
theorem dX7_need_63 : decode cX7_need 63 = .ok (.if_icmp .lt 5, 3) := by decide +kernel
theorem dX7_need_66 : decode cX7_need 66 = .ok (.iload_n 3, 1) := by decide +kernel
theorem dX7_need_67 : decode cX7_need 67 = .ok (.ireturn, 1) := by decide +kernel
theorem dX7_need_68 : decode cX7_need 68 = .ok (.iinc 3 1, 3) := by decide +kernel
theorem dX7_need_71 : decode cX7_need 71 = .ok (.goto (-46), 3) := by decide +kernel
theorem dX7_need_74 : decode cX7_need 74 = .ok (.bipush (-5), 2) := by decide +kernel
theorem dX7_need_76 : decode cX7_need 76 = .ok (.ireturn, 1) := by decide +kernel
set_option maxRecDepth 20000 in
theorem ggX7_odds_X7_isTrace : GoodIn wsX7_odds wsX7_isTrace := goodIn_r _ [10, 11, 160, 161, 162, 163, 164, 165, 166] (by decide +kernel) (by decide +kernel)
set_option maxRecDepth 20000 in
theorem gX7_odds_X7_isTrace : GoodIn wsX7_odds (wsV RX7 137 RX7 yX7_isTrace wsX7_isTrace) := goodIn_app (goodIn_of _ (by decide +kernel)) ggX7_odds_X7_isTrace
set_option maxRecDepth 20000 in
theorem ggX7_odds_X7_isPart : GoodIn wsX7_odds wsX7_isPart := goodIn_r _ [14] (by decide +kernel) (by decide +kernel)
set_option maxRecDepth 20000 in
theorem gX7_odds_X7_isPart : GoodIn wsX7_odds (va_wsS RX7 147 yX7_isPart wsX7_isPart) := goodIn_app (goodIn_of _ (by decide +kernel)) ggX7_odds_X7_isPart
set_option maxRecDepth 20000 in
theorem ggX7_odds_X7_rehearse : GoodIn wsX7_odds wsX7_rehearse := goodIn_r _ [18, 4, 2, 3, 19, 20, 21, 22, 23, 24, 25, 26, 27, 28, 29, 30, 31, 32, 33, 34, 35, 36, 37, 38, 39, 40, 41, 42, 43, 44, 45, 46, 47, 48, 49, 50, 51, 52, 53, 54, 55, 56, 57, 58, 59, 60, 61, 62, 63, 64, 65, 66, 67, 68, 69, 70, 71, 72, 73, 74, 75, 76, 77, 78, 79, 80, 81, 82, 83, 84, 85, 86, 87, 88, 89, 90, 91, 92, 93, 94, 95, 96, 97, 98, 99, 100, 101, 102, 103, 104, 105, 106, 107, 108, 109, 110, 111, 112, 160, 161, 162, 163, 164, 165, 166, 167, 168, 169, 170, 171, 172, 173, 174, 175, 176, 177, 178, 179, 180, 181] (by decide +kernel) (by decide +kernel)
set_option maxRecDepth 20000 in
theorem gX7_odds_X7_rehearse : GoodIn wsX7_odds (wsV RX7 117 RX7 yX7_rehearse wsX7_rehearse) := goodIn_app (goodIn_of _ (by decide +kernel)) ggX7_odds_X7_rehearse
set_option maxRecDepth 20000 in
theorem ggX7_odds_X3_perform : GoodIn wsX7_odds wsX3_perform := goodIn_r _ [116, 29, 117, 118, 119, 120, 24, 121, 122, 123, 22, 124, 31, 125, 126, 127, 128, 129, 130, 131, 132, 133, 134, 135, 136, 79, 80, 81, 82, 30, 83, 84, 85, 37, 86, 42, 43, 39, 41, 87, 88, 89, 90, 137, 62, 63, 64, 65, 66, 67, 68, 69, 70, 71, 72, 73, 74, 75, 76, 77, 78, 91, 92, 93, 94, 32, 95, 96, 97, 98, 99, 100, 101, 47, 102, 49, 51, 103, 104, 105, 106, 107, 108, 109, 110, 111, 112, 138, 139, 140, 141, 142, 143, 144, 145, 146, 147, 148, 149, 150, 151, 152, 167, 168, 169, 170, 171, 172, 182, 183, 184, 185, 173, 174, 175, 176, 177, 178] (by decide +kernel) (by decide +kernel)
set_option maxRecDepth 20000 in
theorem gX7_odds_X3_perform : GoodIn wsX7_odds (wsV RX7 140 RX3 yX3_perform wsX3_perform) := goodIn_app (goodIn_of _ (by decide +kernel)) ggX7_odds_X3_perform
set_option maxRecDepth 20000 in
theorem ggX7_odds_X7_partOf : GoodIn wsX7_odds wsX7_partOf := goodIn_r _ [155, 1, 156, 157, 9, 158, 159] (by decide +kernel) (by decide +kernel)
set_option maxRecDepth 20000 in
theorem gX7_odds_X7_partOf : GoodIn wsX7_odds (va_wsS RX7 150 yX7_partOf wsX7_partOf) := goodIn_app (goodIn_of _ (by decide +kernel)) ggX7_odds_X7_partOf
theorem dX7_odds_0 : decode cX7_odds 0 = .ok (.aload_n 0, 1) := by decide +kernel
theorem dX7_odds_1 : decode cX7_odds 1 = .ok (.iload_n 1, 1) := by decide +kernel
theorem dX7_odds_2 : decode cX7_odds 2 = .ok (.invokevirtual 137, 3) := by decide +kernel
theorem dX7_odds_5 : decode cX7_odds 5 = .ok (.ifCond .eq 20, 3) := by decide +kernel
theorem dX7_odds_8 : decode cX7_odds 8 = .ok (.iload_n 2, 1) := by decide +kernel
theorem dX7_odds_9 : decode cX7_odds 9 = .ok (.ifCond .lt 16, 3) := by decide +kernel
theorem dX7_odds_12 : decode cX7_odds 12 = .ok (.iload_n 2, 1) := by decide +kernel
theorem dX7_odds_13 : decode cX7_odds 13 = .ok (.bipush 20, 2) := by decide +kernel
theorem dX7_odds_15 : decode cX7_odds 15 = .ok (.if_icmp .gt 10, 3) := by decide +kernel
theorem dX7_odds_18 : decode cX7_odds 18 = .ok (.iload_n 3, 1) := by decide +kernel
theorem dX7_odds_19 : decode cX7_odds 19 = .ok (.invokestatic 147, 3) := by decide +kernel
theorem dX7_odds_22 : decode cX7_odds 22 = .ok (.ifCond .ne 7, 3) := by decide +kernel
theorem dX7_odds_25 : decode cX7_odds 25 = .ok (.ldc2_w 91, 3) := by decide +kernel
theorem dX7_odds_28 : decode cX7_odds 28 = .ok (.lreturn, 1) := by decide +kernel
theorem dX7_odds_29 : decode cX7_odds 29 = .ok (.aload_n 0, 1) := by decide +kernel
theorem dX7_odds_30 : decode cX7_odds 30 = .ok (.getfield 14, 3) := by decide +kernel
theorem dX7_odds_33 : decode cX7_odds 33 = .ok (.getfield 49, 3) := by decide +kernel
theorem dX7_odds_36 : decode cX7_odds 36 = .ok (.iconst 0, 1) := by decide +kernel
theorem dX7_odds_37 : decode cX7_odds 37 = .ok (.iaload, 1) := by decide +kernel
theorem dX7_odds_38 : decode cX7_odds 38 = .ok (.istore 4, 2) := by decide +kernel
theorem dX7_odds_40 : decode cX7_odds 40 = .ok (.iconst 0, 1) := by decide +kernel
theorem dX7_odds_41 : decode cX7_odds 41 = .ok (.istore 5, 2) := by decide +kernel
theorem dX7_odds_43 : decode cX7_odds 43 = .ok (.iconst 0, 1) := by decide +kernel
theorem dX7_odds_44 : decode cX7_odds 44 = .ok (.istore 6, 2) := by decide +kernel
theorem dX7_odds_46 : decode cX7_odds 46 = .ok (.iload 6, 2) := by decide +kernel
theorem dX7_odds_48 : decode cX7_odds 48 = .ok (.iload 4, 2) := by decide +kernel
theorem dX7_odds_50 : decode cX7_odds 50 = .ok (.if_icmp .gt 37, 3) := by decide +kernel
theorem dX7_odds_53 : decode cX7_odds 53 = .ok (.aload_n 0, 1) := by decide +kernel
theorem dX7_odds_54 : decode cX7_odds 54 = .ok (.iload 4, 2) := by decide +kernel
theorem dX7_odds_56 : decode cX7_odds 56 = .ok (.iload 6, 2) := by decide +kernel
theorem dX7_odds_58 : decode cX7_odds 58 = .ok (.invokevirtual 117, 3) := by decide +kernel
theorem dX7_odds_61 : decode cX7_odds 61 = .ok (.aload_n 0, 1) := by decide +kernel
theorem dX7_odds_62 : decode cX7_odds 62 = .ok (.getfield 18, 3) := by decide +kernel
theorem dX7_odds_65 : decode cX7_odds 65 = .ok (.aload_n 0, 1) := by decide +kernel
theorem dX7_odds_66 : decode cX7_odds 66 = .ok (.getfield 30, 3) := by decide +kernel
theorem dX7_odds_69 : decode cX7_odds 69 = .ok (.iload_n 1, 1) := by decide +kernel
theorem dX7_odds_70 : decode cX7_odds 70 = .ok (.aaload, 1) := by decide +kernel
theorem dX7_odds_71 : decode cX7_odds 71 = .ok (.invokevirtual 140, 3) := by decide +kernel
theorem dX7_odds_74 : decode cX7_odds 74 = .ok (.iload_n 2, 1) := by decide +kernel
theorem dX7_odds_75 : decode cX7_odds 75 = .ok (.if_icmp .lt 6, 3) := by decide +kernel
theorem dX7_odds_78 : decode cX7_odds 78 = .ok (.iinc 5 1, 3) := by decide +kernel
theorem dX7_odds_81 : decode cX7_odds 81 = .ok (.iinc 6 1, 3) := by decide +kernel
theorem dX7_odds_84 : decode cX7_odds 84 = .ok (.goto (-38), 3) := by decide +kernel
theorem dX7_odds_87 : decode cX7_odds 87 = .ok (.iload 5, 2) := by decide +kernel
theorem dX7_odds_89 : decode cX7_odds 89 = .ok (.iload 4, 2) := by decide +kernel
theorem dX7_odds_91 : decode cX7_odds 91 = .ok (.iconst 1, 1) := by decide +kernel
theorem dX7_odds_92 : decode cX7_odds 92 = .ok (.iadd, 1) := by decide +kernel
theorem dX7_odds_93 : decode cX7_odds 93 = .ok (.iload_n 3, 1) := by decide +kernel
theorem dX7_odds_94 : decode cX7_odds 94 = .ok (.invokestatic 150, 3) := by decide +kernel
theorem dX7_odds_97 : decode cX7_odds 97 = .ok (.lreturn, 1) := by decide +kernel
set_option maxRecDepth 20000 in
theorem ggX7_mean_X7_isPart : GoodIn wsX7_mean wsX7_isPart := goodIn_r _ [10] (by decide +kernel) (by decide +kernel)
set_option maxRecDepth 20000 in
theorem gX7_mean_X7_isPart : GoodIn wsX7_mean (va_wsS RX7 147 yX7_isPart wsX7_isPart) := goodIn_app (goodIn_of _ (by decide +kernel)) ggX7_mean_X7_isPart
set_option maxRecDepth 20000 in
theorem ggX7_mean_X2_oldest : GoodIn wsX7_mean wsX2_oldest := goodIn_r _ [15, 16, 37, 38, 39, 40] (by decide +kernel) (by decide +kernel)
set_option maxRecDepth 20000 in
theorem gX7_mean_X2_oldest : GoodIn wsX7_mean (wsV RX7 157 RX2 yX2_oldest wsX2_oldest) := goodIn_app (goodIn_of _ (by decide +kernel)) ggX7_mean_X2_oldest
set_option maxRecDepth 20000 in
theorem ggX7_mean_X7_partOf : GoodIn wsX7_mean wsX7_partOf := goodIn_r _ [19, 1, 20, 21, 9, 22, 23] (by decide +kernel) (by decide +kernel)
set_option maxRecDepth 20000 in
theorem gX7_mean_X7_partOf : GoodIn wsX7_mean (va_wsS RX7 150 yX7_partOf wsX7_partOf) := goodIn_app (goodIn_of _ (by decide +kernel)) ggX7_mean_X7_partOf
theorem dX7_mean_0 : decode cX7_mean 0 = .ok (.iload_n 1, 1) := by decide +kernel
theorem dX7_mean_1 : decode cX7_mean 1 = .ok (.iconst 1, 1) := by decide +kernel
theorem dX7_mean_2 : decode cX7_mean 2 = .ok (.if_icmp .eq 8, 3) := by decide +kernel
theorem dX7_mean_5 : decode cX7_mean 5 = .ok (.iload_n 1, 1) := by decide +kernel
theorem dX7_mean_6 : decode cX7_mean 6 = .ok (.iconst 2, 1) := by decide +kernel
theorem dX7_mean_7 : decode cX7_mean 7 = .ok (.if_icmp .ne 10, 3) := by decide +kernel
theorem dX7_mean_10 : decode cX7_mean 10 = .ok (.iload_n 2, 1) := by decide +kernel
theorem dX7_mean_11 : decode cX7_mean 11 = .ok (.invokestatic 147, 3) := by decide +kernel
theorem dX7_mean_14 : decode cX7_mean 14 = .ok (.ifCond .ne 7, 3) := by decide +kernel
theorem dX7_mean_17 : decode cX7_mean 17 = .ok (.ldc2_w 91, 3) := by decide +kernel
theorem dX7_mean_20 : decode cX7_mean 20 = .ok (.lreturn, 1) := by decide +kernel
theorem dX7_mean_21 : decode cX7_mean 21 = .ok (.aload_n 0, 1) := by decide +kernel
theorem dX7_mean_22 : decode cX7_mean 22 = .ok (.getfield 14, 3) := by decide +kernel
theorem dX7_mean_25 : decode cX7_mean 25 = .ok (.getfield 62, 3) := by decide +kernel
theorem dX7_mean_28 : decode cX7_mean 28 = .ok (.getfield 154, 3) := by decide +kernel
theorem dX7_mean_31 : decode cX7_mean 31 = .ok (.iload_n 1, 1) := by decide +kernel
theorem dX7_mean_32 : decode cX7_mean 32 = .ok (.iaload, 1) := by decide +kernel
theorem dX7_mean_33 : decode cX7_mean 33 = .ok (.istore_n 3, 1) := by decide +kernel
theorem dX7_mean_34 : decode cX7_mean 34 = .ok (.iconst 0, 1) := by decide +kernel
theorem dX7_mean_35 : decode cX7_mean 35 = .ok (.istore 4, 2) := by decide +kernel
theorem dX7_mean_37 : decode cX7_mean 37 = .ok (.aload_n 0, 1) := by decide +kernel
theorem dX7_mean_38 : decode cX7_mean 38 = .ok (.getfield 14, 3) := by decide +kernel
theorem dX7_mean_41 : decode cX7_mean 41 = .ok (.getfield 62, 3) := by decide +kernel
theorem dX7_mean_44 : decode cX7_mean 44 = .ok (.iload_n 1, 1) := by decide +kernel
theorem dX7_mean_45 : decode cX7_mean 45 = .ok (.invokevirtual 157, 3) := by decide +kernel
theorem dX7_mean_48 : decode cX7_mean 48 = .ok (.istore 5, 2) := by decide +kernel
theorem dX7_mean_50 : decode cX7_mean 50 = .ok (.iconst 0, 1) := by decide +kernel
theorem dX7_mean_51 : decode cX7_mean 51 = .ok (.istore 6, 2) := by decide +kernel
theorem dX7_mean_53 : decode cX7_mean 53 = .ok (.iload 6, 2) := by decide +kernel
theorem dX7_mean_55 : decode cX7_mean 55 = .ok (.iload_n 3, 1) := by decide +kernel
theorem dX7_mean_56 : decode cX7_mean 56 = .ok (.if_icmp .ge 41, 3) := by decide +kernel
theorem dX7_mean_59 : decode cX7_mean 59 = .ok (.iload 4, 2) := by decide +kernel
theorem dX7_mean_61 : decode cX7_mean 61 = .ok (.aload_n 0, 1) := by decide +kernel
theorem dX7_mean_62 : decode cX7_mean 62 = .ok (.getfield 14, 3) := by decide +kernel
theorem dX7_mean_65 : decode cX7_mean 65 = .ok (.getfield 97, 3) := by decide +kernel
theorem dX7_mean_68 : decode cX7_mean 68 = .ok (.iconst 2, 1) := by decide +kernel
theorem dX7_mean_69 : decode cX7_mean 69 = .ok (.aaload, 1) := by decide +kernel
theorem dX7_mean_70 : decode cX7_mean 70 = .ok (.iload 5, 2) := by decide +kernel
theorem dX7_mean_72 : decode cX7_mean 72 = .ok (.iaload, 1) := by decide +kernel
theorem dX7_mean_73 : decode cX7_mean 73 = .ok (.iadd, 1) := by decide +kernel
theorem dX7_mean_74 : decode cX7_mean 74 = .ok (.istore 4, 2) := by decide +kernel
theorem dX7_mean_76 : decode cX7_mean 76 = .ok (.aload_n 0, 1) := by decide +kernel
theorem dX7_mean_77 : decode cX7_mean 77 = .ok (.getfield 14, 3) := by decide +kernel
theorem dX7_mean_80 : decode cX7_mean 80 = .ok (.getfield 62, 3) := by decide +kernel
theorem dX7_mean_83 : decode cX7_mean 83 = .ok (.getfield 160, 3) := by decide +kernel
theorem dX7_mean_86 : decode cX7_mean 86 = .ok (.iload 5, 2) := by decide +kernel
theorem dX7_mean_88 : decode cX7_mean 88 = .ok (.iaload, 1) := by decide +kernel
theorem dX7_mean_89 : decode cX7_mean 89 = .ok (.istore 5, 2) := by decide +kernel
theorem dX7_mean_91 : decode cX7_mean 91 = .ok (.iinc 6 1, 3) := by decide +kernel
theorem dX7_mean_94 : decode cX7_mean 94 = .ok (.goto (-41), 3) := by decide +kernel
theorem dX7_mean_97 : decode cX7_mean 97 = .ok (.iload 4, 2) := by decide +kernel
theorem dX7_mean_99 : decode cX7_mean 99 = .ok (.iload_n 3, 1) := by decide +kernel
theorem dX7_mean_100 : decode cX7_mean 100 = .ok (.iload_n 2, 1) := by decide +kernel
theorem dX7_mean_101 : decode cX7_mean 101 = .ok (.invokestatic 150, 3) := by decide +kernel
theorem dX7_mean_104 : decode cX7_mean 104 = .ok (.lreturn, 1) := by decide +kernel
theorem dX7_isTrace_0 : decode cX7_isTrace 0 = .ok (.iload_n 1, 1) := by decide +kernel
theorem dX7_isTrace_1 : decode cX7_isTrace 1 = .ok (.ifCond .lt 15, 3) := by decide +kernel
theorem dX7_isTrace_4 : decode cX7_isTrace 4 = .ok (.iload_n 1, 1) := by decide +kernel
theorem dX7_isTrace_5 : decode cX7_isTrace 5 = .ok (.aload_n 0, 1) := by decide +kernel
theorem dX7_isTrace_6 : decode cX7_isTrace 6 = .ok (.getfield 130, 3) := by decide +kernel
theorem dX7_isTrace_9 : decode cX7_isTrace 9 = .ok (.if_icmp .ge 7, 3) := by decide +kernel
theorem dX7_isTrace_12 : decode cX7_isTrace 12 = .ok (.iconst 1, 1) := by decide +kernel
theorem dX7_isTrace_13 : decode cX7_isTrace 13 = .ok (.goto 4, 3) := by decide +kernel
theorem dX7_isTrace_16 : decode cX7_isTrace 16 = .ok (.iconst 0, 1) := by decide +kernel
theorem dX7_isTrace_17 : decode cX7_isTrace 17 = .ok (.ireturn, 1) := by decide +kernel
theorem dX7_isPart_0 : decode cX7_isPart 0 = .ok (.iload_n 0, 1) := by decide +kernel
theorem dX7_isPart_1 : decode cX7_isPart 1 = .ok (.ifCond .eq 8, 3) := by decide +kernel
theorem dX7_isPart_4 : decode cX7_isPart 4 = .ok (.iload_n 0, 1) := by decide +kernel
theorem dX7_isPart_5 : decode cX7_isPart 5 = .ok (.iconst 1, 1) := by decide +kernel
theorem dX7_isPart_6 : decode cX7_isPart 6 = .ok (.if_icmp .ne 7, 3) := by decide +kernel
theorem dX7_isPart_9 : decode cX7_isPart 9 = .ok (.iconst 1, 1) := by decide +kernel
theorem dX7_isPart_10 : decode cX7_isPart 10 = .ok (.goto 4, 3) := by decide +kernel
theorem dX7_isPart_13 : decode cX7_isPart 13 = .ok (.iconst 0, 1) := by decide +kernel
theorem dX7_isPart_14 : decode cX7_isPart 14 = .ok (.ireturn, 1) := by decide +kernel
set_option maxRecDepth 20000 in
theorem ggX7_partOf_X7_commonDivisor : GoodIn wsX7_partOf wsX7_commonDivisor := goodIn_r _ [5, 6] (by decide +kernel) (by decide +kernel)
set_option maxRecDepth 20000 in
theorem gX7_partOf_X7_commonDivisor : GoodIn wsX7_partOf (va_wsS RX7 163 yX7_commonDivisor wsX7_commonDivisor) := goodIn_app (goodIn_of _ (by decide +kernel)) ggX7_partOf_X7_commonDivisor
theorem dX7_partOf_0 : decode cX7_partOf 0 = .ok (.iload_n 0, 1) := by decide +kernel
theorem dX7_partOf_1 : decode cX7_partOf 1 = .ok (.iload_n 1, 1) := by decide +kernel
theorem dX7_partOf_2 : decode cX7_partOf 2 = .ok (.invokestatic 163, 3) := by decide +kernel
theorem dX7_partOf_5 : decode cX7_partOf 5 = .ok (.istore_n 3, 1) := by decide +kernel
theorem dX7_partOf_6 : decode cX7_partOf 6 = .ok (.iload_n 1, 1) := by decide +kernel
theorem dX7_partOf_7 : decode cX7_partOf 7 = .ok (.ifCond .eq 7, 3) := by decide +kernel
theorem dX7_partOf_10 : decode cX7_partOf 10 = .ok (.iload_n 3, 1) := by decide +kernel
theorem dX7_partOf_11 : decode cX7_partOf 11 = .ok (.ifCond .ne 7, 3) := by decide +kernel
theorem dX7_partOf_14 : decode cX7_partOf 14 = .ok (.ldc2_w 91, 3) := by decide +kernel
theorem dX7_partOf_17 : decode cX7_partOf 17 = .ok (.lreturn, 1) := by decide +kernel
theorem dX7_partOf_18 : decode cX7_partOf 18 = .ok (.iload_n 2, 1) := by decide +kernel
theorem dX7_partOf_19 : decode cX7_partOf 19 = .ok (.ifCond .ne 7, 3) := by decide +kernel
theorem dX7_partOf_22 : decode cX7_partOf 22 = .ok (.iload_n 0, 1) := by decide +kernel
theorem dX7_partOf_23 : decode cX7_partOf 23 = .ok (.goto 4, 3) := by decide +kernel
theorem dX7_partOf_26 : decode cX7_partOf 26 = .ok (.iload_n 1, 1) := by decide +kernel
theorem dX7_partOf_27 : decode cX7_partOf 27 = .ok (.iload_n 3, 1) := by decide +kernel
theorem dX7_partOf_28 : decode cX7_partOf 28 = .ok (.idiv, 1) := by decide +kernel
theorem dX7_partOf_29 : decode cX7_partOf 29 = .ok (.i2l, 1) := by decide +kernel
theorem dX7_partOf_30 : decode cX7_partOf 30 = .ok (.lreturn, 1) := by decide +kernel
theorem dX7_commonDivisor_0 : decode cX7_commonDivisor 0 = .ok (.iload_n 0, 1) := by decide +kernel
theorem dX7_commonDivisor_1 : decode cX7_commonDivisor 1 = .ok (.istore_n 2, 1) := by decide +kernel
theorem dX7_commonDivisor_2 : decode cX7_commonDivisor 2 = .ok (.iload_n 1, 1) := by decide +kernel
theorem dX7_commonDivisor_3 : decode cX7_commonDivisor 3 = .ok (.istore_n 3, 1) := by decide +kernel
theorem dX7_commonDivisor_4 : decode cX7_commonDivisor 4 = .ok (.iconst 0, 1) := by decide +kernel
theorem dX7_commonDivisor_5 : decode cX7_commonDivisor 5 = .ok (.istore 4, 2) := by decide +kernel
theorem dX7_commonDivisor_7 : decode cX7_commonDivisor 7 = .ok (.iload 4, 2) := by decide +kernel
theorem dX7_commonDivisor_9 : decode cX7_commonDivisor 9 = .ok (.ldc 166, 2) := by decide +kernel
theorem dX7_commonDivisor_11 : decode cX7_commonDivisor 11 = .ok (.if_icmp .ge 23, 3) := by decide +kernel
theorem dX7_commonDivisor_14 : decode cX7_commonDivisor 14 = .ok (.iload_n 3, 1) := by decide +kernel
theorem dX7_commonDivisor_15 : decode cX7_commonDivisor 15 = .ok (.ifCond .eq 19, 3) := by decide +kernel
theorem dX7_commonDivisor_18 : decode cX7_commonDivisor 18 = .ok (.iload_n 2, 1) := by decide +kernel
theorem dX7_commonDivisor_19 : decode cX7_commonDivisor 19 = .ok (.iload_n 3, 1) := by decide +kernel
theorem dX7_commonDivisor_20 : decode cX7_commonDivisor 20 = .ok (.irem, 1) := by decide +kernel
theorem dX7_commonDivisor_21 : decode cX7_commonDivisor 21 = .ok (.istore 5, 2) := by decide +kernel
theorem dX7_commonDivisor_23 : decode cX7_commonDivisor 23 = .ok (.iload_n 3, 1) := by decide +kernel
theorem dX7_commonDivisor_24 : decode cX7_commonDivisor 24 = .ok (.istore_n 2, 1) := by decide +kernel
theorem dX7_commonDivisor_25 : decode cX7_commonDivisor 25 = .ok (.iload 5, 2) := by decide +kernel
theorem dX7_commonDivisor_27 : decode cX7_commonDivisor 27 = .ok (.istore_n 3, 1) := by decide +kernel
theorem dX7_commonDivisor_28 : decode cX7_commonDivisor 28 = .ok (.iinc 4 1, 3) := by decide +kernel
theorem dX7_commonDivisor_31 : decode cX7_commonDivisor 31 = .ok (.goto (-24), 3) := by decide +kernel
theorem dX7_commonDivisor_34 : decode cX7_commonDivisor 34 = .ok (.iload_n 2, 1) := by decide +kernel
theorem dX7_commonDivisor_35 : decode cX7_commonDivisor 35 = .ok (.ireturn, 1) := by decide +kernel
set_option maxRecDepth 20000 in
theorem ggX7_book_X7_keyOf : GoodIn wsX7_book wsX7_keyOf := goodIn_r _ [9] (by decide +kernel) (by decide +kernel)
set_option maxRecDepth 20000 in
theorem gX7_book_X7_keyOf : GoodIn wsX7_book (va_wsS RX7 84 yX7_keyOf wsX7_keyOf) := goodIn_app (goodIn_of _ (by decide +kernel)) ggX7_book_X7_keyOf
theorem dX7_book_0 : decode cX7_book 0 = .ok (.aload_n 0, 1) := by decide +kernel
theorem dX7_book_1 : decode cX7_book 1 = .ok (.getfield 14, 3) := by decide +kernel
theorem dX7_book_4 : decode cX7_book 4 = .ok (.getfield 167, 3) := by decide +kernel
theorem dX7_book_7 : decode cX7_book 7 = .ok (.astore 4, 2) := by decide +kernel
theorem dX7_book_9 : decode cX7_book 9 = .ok (.iload_n 1, 1) := by decide +kernel
theorem dX7_book_10 : decode cX7_book 10 = .ok (.iconst (-1), 1) := by decide +kernel
theorem dX7_book_11 : decode cX7_book 11 = .ok (.if_icmp .ne 11, 3) := by decide +kernel
theorem dX7_book_14 : decode cX7_book 14 = .ok (.aload 4, 2) := by decide +kernel
theorem dX7_book_16 : decode cX7_book 16 = .ok (.iconst 0, 1) := by decide +kernel
theorem dX7_book_17 : decode cX7_book 17 = .ok (.putfield 171, 3) := by decide +kernel
theorem dX7_book_20 : decode cX7_book 20 = .ok (.iconst 0, 1) := by decide +kernel
theorem dX7_book_21 : decode cX7_book 21 = .ok (.ireturn, 1) := by decide +kernel
theorem dX7_book_22 : decode cX7_book 22 = .ok (.iload_n 1, 1) := by decide +kernel
theorem dX7_book_23 : decode cX7_book 23 = .ok (.iload_n 2, 1) := by decide +kernel
theorem dX7_book_24 : decode cX7_book 24 = .ok (.invokestatic 84, 3) := by decide +kernel
theorem dX7_book_27 : decode cX7_book 27 = .ok (.istore 5, 2) := by decide +kernel
theorem dX7_book_29 : decode cX7_book 29 = .ok (.iload 5, 2) := by decide +kernel
theorem dX7_book_31 : decode cX7_book 31 = .ok (.ifCond .ge 5, 3) := by decide +kernel
theorem dX7_book_34 : decode cX7_book 34 = .ok (.iconst (-1), 1) := by decide +kernel
theorem dX7_book_35 : decode cX7_book 35 = .ok (.ireturn, 1) := by decide +kernel
theorem dX7_book_36 : decode cX7_book 36 = .ok (.iload_n 3, 1) := by decide +kernel
theorem dX7_book_37 : decode cX7_book 37 = .ok (.ifCond .lt 8, 3) := by decide +kernel
theorem dX7_book_40 : decode cX7_book 40 = .ok (.iload_n 3, 1) := by decide +kernel
theorem dX7_book_41 : decode cX7_book 41 = .ok (.iconst 5, 1) := by decide +kernel
theorem dX7_book_42 : decode cX7_book 42 = .ok (.if_icmp .lt 6, 3) := by decide +kernel
theorem dX7_book_45 : decode cX7_book 45 = .ok (.bipush (-2), 2) := by decide +kernel
theorem dX7_book_47 : decode cX7_book 47 = .ok (.ireturn, 1) := by decide +kernel
theorem dX7_book_48 : decode cX7_book 48 = .ok (.aload 4, 2) := by decide +kernel
theorem dX7_book_50 : decode cX7_book 50 = .ok (.getfield 171, 3) := by decide +kernel
theorem dX7_book_53 : decode cX7_book 53 = .ok (.bipush 8, 2) := by decide +kernel
theorem dX7_book_55 : decode cX7_book 55 = .ok (.if_icmp .lt 6, 3) := by decide +kernel
theorem dX7_book_58 : decode cX7_book 58 = .ok (.bipush (-4), 2) := by decide +kernel
theorem dX7_book_60 : decode cX7_book 60 = .ok (.ireturn, 1) := by decide +kernel
theorem dX7_book_61 : decode cX7_book 61 = .ok (.aload 4, 2) := by decide +kernel
theorem dX7_book_63 : decode cX7_book 63 = .ok (.getfield 176, 3) := by decide +kernel
theorem dX7_book_66 : decode cX7_book 66 = .ok (.aload 4, 2) := by decide +kernel
theorem dX7_book_68 : decode cX7_book 68 = .ok (.getfield 171, 3) := by decide +kernel
theorem dX7_book_71 : decode cX7_book 71 = .ok (.iload 5, 2) := by decide +kernel
theorem dX7_book_73 : decode cX7_book 73 = .ok (.iastore, 1) := by decide +kernel
theorem dX7_book_74 : decode cX7_book 74 = .ok (.aload 4, 2) := by decide +kernel
theorem dX7_book_76 : decode cX7_book 76 = .ok (.getfield 179, 3) := by decide +kernel
theorem dX7_book_79 : decode cX7_book 79 = .ok (.aload 4, 2) := by decide +kernel
theorem dX7_book_81 : decode cX7_book 81 = .ok (.getfield 171, 3) := by decide +kernel
theorem dX7_book_84 : decode cX7_book 84 = .ok (.iload_n 3, 1) := by decide +kernel
theorem dX7_book_85 : decode cX7_book 85 = .ok (.iastore, 1) := by decide +kernel
theorem dX7_book_86 : decode cX7_book 86 = .ok (.aload 4, 2) := by decide +kernel
theorem dX7_book_88 : decode cX7_book 88 = .ok (.dup, 1) := by decide +kernel
theorem dX7_book_89 : decode cX7_book 89 = .ok (.getfield 171, 3) := by decide +kernel
theorem dX7_book_92 : decode cX7_book 92 = .ok (.iconst 1, 1) := by decide +kernel
theorem dX7_book_93 : decode cX7_book 93 = .ok (.iadd, 1) := by decide +kernel
theorem dX7_book_94 : decode cX7_book 94 = .ok (.putfield 171, 3) := by decide +kernel
theorem dX7_book_97 : decode cX7_book 97 = .ok (.aload 4, 2) := by decide +kernel
theorem dX7_book_99 : decode cX7_book 99 = .ok (.getfield 171, 3) := by decide +kernel
theorem dX7_book_102 : decode cX7_book 102 = .ok (.ireturn, 1) := by decide +kernel
theorem dX7_looked_0 : decode cX7_looked 0 = .ok (.aload_n 0, 1) := by decide +kernel
theorem dX7_looked_1 : decode cX7_looked 1 = .ok (.getfield 14, 3) := by decide +kernel
theorem dX7_looked_4 : decode cX7_looked 4 = .ok (.getfield 167, 3) := by decide +kernel
theorem dX7_looked_7 : decode cX7_looked 7 = .ok (.astore_n 1, 1) := by decide +kernel
theorem dX7_looked_8 : decode cX7_looked 8 = .ok (.iconst 0, 1) := by decide +kernel
theorem dX7_looked_9 : decode cX7_looked 9 = .ok (.istore_n 2, 1) := by decide +kernel
theorem dX7_looked_10 : decode cX7_looked 10 = .ok (.iload_n 2, 1) := by decide +kernel
theorem dX7_looked_11 : decode cX7_looked 11 = .ok (.aload_n 1, 1) := by decide +kernel
theorem dX7_looked_12 : decode cX7_looked 12 = .ok (.getfield 171, 3) := by decide +kernel
theorem dX7_looked_15 : decode cX7_looked 15 = .ok (.if_icmp .ge 36, 3) := by decide +kernel
theorem dX7_looked_18 : decode cX7_looked 18 = .ok (.aload_n 0, 1) := by decide +kernel
theorem dX7_looked_19 : decode cX7_looked 19 = .ok (.getfield 14, 3) := by decide +kernel
theorem dX7_looked_22 : decode cX7_looked 22 = .ok (.getfield 97, 3) := by decide +kernel
theorem dX7_looked_25 : decode cX7_looked 25 = .ok (.iconst 0, 1) := by decide +kernel
theorem dX7_looked_26 : decode cX7_looked 26 = .ok (.aaload, 1) := by decide +kernel
theorem dX7_looked_27 : decode cX7_looked 27 = .ok (.aload_n 1, 1) := by decide +kernel
theorem dX7_looked_28 : decode cX7_looked 28 = .ok (.getfield 176, 3) := by decide +kernel
theorem dX7_looked_31 : decode cX7_looked 31 = .ok (.iload_n 2, 1) := by decide +kernel
theorem dX7_looked_32 : decode cX7_looked 32 = .ok (.iaload, 1) := by decide +kernel
theorem dX7_looked_33 : decode cX7_looked 33 = .ok (.iaload, 1) := by decide +kernel
theorem dX7_looked_34 : decode cX7_looked 34 = .ok (.aload_n 1, 1) := by decide +kernel
theorem dX7_looked_35 : decode cX7_looked 35 = .ok (.getfield 179, 3) := by decide +kernel
theorem dX7_looked_38 : decode cX7_looked 38 = .ok (.iload_n 2, 1) := by decide +kernel
theorem dX7_looked_39 : decode cX7_looked 39 = .ok (.iaload, 1) := by decide +kernel
theorem dX7_looked_40 : decode cX7_looked 40 = .ok (.if_icmp .eq 5, 3) := by decide +kernel
theorem dX7_looked_43 : decode cX7_looked 43 = .ok (.iload_n 2, 1) := by decide +kernel
theorem dX7_looked_44 : decode cX7_looked 44 = .ok (.ireturn, 1) := by decide +kernel
theorem dX7_looked_45 : decode cX7_looked 45 = .ok (.iinc 2 1, 3) := by decide +kernel
theorem dX7_looked_48 : decode cX7_looked 48 = .ok (.goto (-38), 3) := by decide +kernel
theorem dX7_looked_51 : decode cX7_looked 51 = .ok (.bipush (-5), 2) := by decide +kernel
theorem dX7_looked_53 : decode cX7_looked 53 = .ok (.ireturn, 1) := by decide +kernel
set_option maxRecDepth 20000 in
theorem ggX7_judge_X7_isTape : GoodIn wsX7_judge wsX7_isTape := goodIn_r _ [12] (by decide +kernel) (by decide +kernel)
set_option maxRecDepth 20000 in
theorem gX7_judge_X7_isTape : GoodIn wsX7_judge (va_wsS RX7 182 yX7_isTape wsX7_isTape) := goodIn_app (goodIn_of _ (by decide +kernel)) ggX7_judge_X7_isTape
set_option maxRecDepth 20000 in
theorem ggX7_judge_X2_oldest : GoodIn wsX7_judge wsX2_oldest := goodIn_r _ [17, 18, 35, 36, 37, 38] (by decide +kernel) (by decide +kernel)
set_option maxRecDepth 20000 in
theorem gX7_judge_X2_oldest : GoodIn wsX7_judge (wsV RX7 157 RX2 yX2_oldest wsX2_oldest) := goodIn_app (goodIn_of _ (by decide +kernel)) ggX7_judge_X2_oldest
theorem dX7_judge_0 : decode cX7_judge 0 = .ok (.iload_n 1, 1) := by decide +kernel
theorem dX7_judge_1 : decode cX7_judge 1 = .ok (.invokestatic 182, 3) := by decide +kernel
theorem dX7_judge_4 : decode cX7_judge 4 = .ok (.ifCond .ne 5, 3) := by decide +kernel
theorem dX7_judge_7 : decode cX7_judge 7 = .ok (.iconst (-1), 1) := by decide +kernel
theorem dX7_judge_8 : decode cX7_judge 8 = .ok (.ireturn, 1) := by decide +kernel
theorem dX7_judge_9 : decode cX7_judge 9 = .ok (.aload_n 0, 1) := by decide +kernel
theorem dX7_judge_10 : decode cX7_judge 10 = .ok (.getfield 36, 3) := by decide +kernel
theorem dX7_judge_13 : decode cX7_judge 13 = .ok (.iload_n 1, 1) := by decide +kernel
theorem dX7_judge_14 : decode cX7_judge 14 = .ok (.aaload, 1) := by decide +kernel
theorem dX7_judge_15 : decode cX7_judge 15 = .ok (.astore_n 3, 1) := by decide +kernel
theorem dX7_judge_16 : decode cX7_judge 16 = .ok (.aload_n 3, 1) := by decide +kernel
theorem dX7_judge_17 : decode cX7_judge 17 = .ok (.getfield 185, 3) := by decide +kernel
theorem dX7_judge_20 : decode cX7_judge 20 = .ok (.iconst (-1), 1) := by decide +kernel
theorem dX7_judge_21 : decode cX7_judge 21 = .ok (.if_icmp .eq 14, 3) := by decide +kernel
theorem dX7_judge_24 : decode cX7_judge 24 = .ok (.aload_n 3, 1) := by decide +kernel
theorem dX7_judge_25 : decode cX7_judge 25 = .ok (.getfield 185, 3) := by decide +kernel
theorem dX7_judge_28 : decode cX7_judge 28 = .ok (.iconst 1, 1) := by decide +kernel
theorem dX7_judge_29 : decode cX7_judge 29 = .ok (.if_icmp .eq 6, 3) := by decide +kernel
theorem dX7_judge_32 : decode cX7_judge 32 = .ok (.bipush (-12), 2) := by decide +kernel
theorem dX7_judge_34 : decode cX7_judge 34 = .ok (.ireturn, 1) := by decide +kernel
theorem dX7_judge_35 : decode cX7_judge 35 = .ok (.aload_n 0, 1) := by decide +kernel
theorem dX7_judge_36 : decode cX7_judge 36 = .ok (.getfield 14, 3) := by decide +kernel
theorem dX7_judge_39 : decode cX7_judge 39 = .ok (.getfield 62, 3) := by decide +kernel
theorem dX7_judge_42 : decode cX7_judge 42 = .ok (.getfield 154, 3) := by decide +kernel
theorem dX7_judge_45 : decode cX7_judge 45 = .ok (.iconst 1, 1) := by decide +kernel
theorem dX7_judge_46 : decode cX7_judge 46 = .ok (.iaload, 1) := by decide +kernel
theorem dX7_judge_47 : decode cX7_judge 47 = .ok (.istore 4, 2) := by decide +kernel
theorem dX7_judge_49 : decode cX7_judge 49 = .ok (.aload_n 3, 1) := by decide +kernel
theorem dX7_judge_50 : decode cX7_judge 50 = .ok (.getfield 185, 3) := by decide +kernel
theorem dX7_judge_53 : decode cX7_judge 53 = .ok (.iconst (-1), 1) := by decide +kernel
theorem dX7_judge_54 : decode cX7_judge 54 = .ok (.if_icmp .eq 15, 3) := by decide +kernel
theorem dX7_judge_57 : decode cX7_judge 57 = .ok (.iload_n 2, 1) := by decide +kernel
theorem dX7_judge_58 : decode cX7_judge 58 = .ok (.ifCond .lt 11, 3) := by decide +kernel
theorem dX7_judge_61 : decode cX7_judge 61 = .ok (.iload_n 2, 1) := by decide +kernel
theorem dX7_judge_62 : decode cX7_judge 62 = .ok (.aload_n 3, 1) := by decide +kernel
theorem dX7_judge_63 : decode cX7_judge 63 = .ok (.getfield 188, 3) := by decide +kernel
theorem dX7_judge_66 : decode cX7_judge 66 = .ok (.if_icmp .le 7, 3) := by decide +kernel
theorem dX7_judge_69 : decode cX7_judge 69 = .ok (.iconst 0, 1) := by decide +kernel
theorem dX7_judge_70 : decode cX7_judge 70 = .ok (.goto 9, 3) := by decide +kernel
theorem dX7_judge_73 : decode cX7_judge 73 = .ok (.aload_n 3, 1) := by decide +kernel
theorem dX7_judge_74 : decode cX7_judge 74 = .ok (.getfield 188, 3) := by decide +kernel
theorem dX7_judge_77 : decode cX7_judge 77 = .ok (.iload_n 2, 1) := by decide +kernel
theorem dX7_judge_78 : decode cX7_judge 78 = .ok (.isub, 1) := by decide +kernel
theorem dX7_judge_79 : decode cX7_judge 79 = .ok (.istore 5, 2) := by decide +kernel
theorem dX7_judge_81 : decode cX7_judge 81 = .ok (.aload_n 0, 1) := by decide +kernel
theorem dX7_judge_82 : decode cX7_judge 82 = .ok (.getfield 14, 3) := by decide +kernel
theorem dX7_judge_85 : decode cX7_judge 85 = .ok (.getfield 62, 3) := by decide +kernel
theorem dX7_judge_88 : decode cX7_judge 88 = .ok (.iconst 1, 1) := by decide +kernel
theorem dX7_judge_89 : decode cX7_judge 89 = .ok (.invokevirtual 157, 3) := by decide +kernel
theorem dX7_judge_92 : decode cX7_judge 92 = .ok (.istore 6, 2) := by decide +kernel
theorem dX7_judge_94 : decode cX7_judge 94 = .ok (.iconst 0, 1) := by decide +kernel
theorem dX7_judge_95 : decode cX7_judge 95 = .ok (.istore 7, 2) := by decide +kernel
theorem dX7_judge_97 : decode cX7_judge 97 = .ok (.iload 7, 2) := by decide +kernel
theorem dX7_judge_99 : decode cX7_judge 99 = .ok (.iload 4, 2) := by decide +kernel
theorem dX7_judge_101 : decode cX7_judge 101 = .ok (.if_icmp .ge 56, 3) := by decide +kernel
theorem dX7_judge_104 : decode cX7_judge 104 = .ok (.iload 7, 2) := by decide +kernel
theorem dX7_judge_106 : decode cX7_judge 106 = .ok (.iload 5, 2) := by decide +kernel
theorem dX7_judge_108 : decode cX7_judge 108 = .ok (.if_icmp .lt 9, 3) := by decide +kernel
theorem dX7_judge_111 : decode cX7_judge 111 = .ok (.bipush 100, 2) := by decide +kernel
theorem dX7_judge_113 : decode cX7_judge 113 = .ok (.iload 7, 2) := by decide +kernel
theorem dX7_judge_115 : decode cX7_judge 115 = .ok (.iadd, 1) := by decide +kernel
theorem dX7_judge_116 : decode cX7_judge 116 = .ok (.ireturn, 1) := by decide +kernel
theorem dX7_judge_117 : decode cX7_judge 117 = .ok (.aload_n 3, 1) := by decide +kernel
theorem dX7_judge_118 : decode cX7_judge 118 = .ok (.getfield 189, 3) := by decide +kernel
theorem dX7_judge_121 : decode cX7_judge 121 = .ok (.iload_n 2, 1) := by decide +kernel
theorem dX7_judge_122 : decode cX7_judge 122 = .ok (.iload 7, 2) := by decide +kernel
theorem dX7_judge_124 : decode cX7_judge 124 = .ok (.iadd, 1) := by decide +kernel
theorem dX7_judge_125 : decode cX7_judge 125 = .ok (.laload, 1) := by decide +kernel
theorem dX7_judge_126 : decode cX7_judge 126 = .ok (.iload 6, 2) := by decide +kernel
