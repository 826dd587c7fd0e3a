theorem dX8_drop_2 : decode cX8_drop 2 = .ok (.invokestatic 96, 3) := by decide +kernel
theorem dX8_drop_5 : decode cX8_drop 5 = .ok (.ifCond .eq 16, 3) := by decide +kernel
theorem dX8_drop_8 : decode cX8_drop 8 = .ok (.aload_n 0, 1) := by decide +kernel
theorem dX8_drop_9 : decode cX8_drop 9 = .ok (.bipush 100, 2) := by decide +kernel
theorem dX8_drop_11 : decode cX8_drop 11 = .ok (.iload_n 1, 1) := by decide +kernel
theorem dX8_drop_12 : decode cX8_drop 12 = .ok (.imul, 1) := by decide +kernel
theorem dX8_drop_13 : decode cX8_drop 13 = .ok (.iload_n 2, 1) := by decide +kernel
theorem dX8_drop_14 : decode cX8_drop 14 = .ok (.iadd, 1) := by decide +kernel
theorem dX8_drop_15 : decode cX8_drop 15 = .ok (.invokevirtual 109, 3) := by decide +kernel
theorem dX8_drop_18 : decode cX8_drop 18 = .ok (.goto 4, 3) := by decide +kernel
theorem dX8_drop_21 : decode cX8_drop 21 = .ok (.iconst (-1), 1) := by decide +kernel
theorem dX8_drop_22 : decode cX8_drop 22 = .ok (.ireturn, 1) := by decide +kernel
set_option maxRecDepth 20000 in
theorem ggX8_pin_X8_isKey : GoodIn wsX8_pin wsX8_isKey := goodIn_r _ [5, 6, 7, 4, 8] (by decide +kernel) (by decide +kernel)
set_option maxRecDepth 20000 in
theorem gX8_pin_X8_isKey : GoodIn wsX8_pin (va_wsS RX8 96 yX8_isKey wsX8_isKey) := goodIn_app (goodIn_of _ (by decide +kernel)) ggX8_pin_X8_isKey
set_option maxRecDepth 20000 in
theorem ggX8_pin_X8_isThing : GoodIn wsX8_pin wsX8_isThing := goodIn_r _ [12, 1, 13, 14, 15, 16, 17, 18, 19, 20, 21, 22, 23, 24, 25, 26, 27, 28, 29, 30, 31] (by decide +kernel) (by decide +kernel)
set_option maxRecDepth 20000 in
theorem gX8_pin_X8_isThing : GoodIn wsX8_pin (wsV RX8 89 RX8 yX8_isThing wsX8_isThing) := goodIn_app (goodIn_of _ (by decide +kernel)) ggX8_pin_X8_isThing
theorem dX8_pin_0 : decode cX8_pin 0 = .ok (.iload_n 1, 1) := by decide +kernel
theorem dX8_pin_1 : decode cX8_pin 1 = .ok (.iload_n 2, 1) := by decide +kernel
theorem dX8_pin_2 : decode cX8_pin 2 = .ok (.invokestatic 96, 3) := by decide +kernel
theorem dX8_pin_5 : decode cX8_pin 5 = .ok (.ifCond .ne 5, 3) := by decide +kernel
theorem dX8_pin_8 : decode cX8_pin 8 = .ok (.iconst (-1), 1) := by decide +kernel
theorem dX8_pin_9 : decode cX8_pin 9 = .ok (.ireturn, 1) := by decide +kernel
theorem dX8_pin_10 : decode cX8_pin 10 = .ok (.bipush 100, 2) := by decide +kernel
theorem dX8_pin_12 : decode cX8_pin 12 = .ok (.iload_n 1, 1) := by decide +kernel
theorem dX8_pin_13 : decode cX8_pin 13 = .ok (.imul, 1) := by decide +kernel
theorem dX8_pin_14 : decode cX8_pin 14 = .ok (.iload_n 2, 1) := by decide +kernel
theorem dX8_pin_15 : decode cX8_pin 15 = .ok (.iadd, 1) := by decide +kernel
theorem dX8_pin_16 : decode cX8_pin 16 = .ok (.istore 4, 2) := by decide +kernel
theorem dX8_pin_18 : decode cX8_pin 18 = .ok (.aload_n 0, 1) := by decide +kernel
theorem dX8_pin_19 : decode cX8_pin 19 = .ok (.iload 4, 2) := by decide +kernel
theorem dX8_pin_21 : decode cX8_pin 21 = .ok (.invokevirtual 89, 3) := by decide +kernel
theorem dX8_pin_24 : decode cX8_pin 24 = .ok (.ifCond .ne 6, 3) := by decide +kernel
theorem dX8_pin_27 : decode cX8_pin 27 = .ok (.bipush (-3), 2) := by decide +kernel
theorem dX8_pin_29 : decode cX8_pin 29 = .ok (.ireturn, 1) := by decide +kernel
theorem dX8_pin_30 : decode cX8_pin 30 = .ok (.aload_n 0, 1) := by decide +kernel
theorem dX8_pin_31 : decode cX8_pin 31 = .ok (.getfield 11, 3) := by decide +kernel
theorem dX8_pin_34 : decode cX8_pin 34 = .ok (.sipush 2400, 3) := by decide +kernel
theorem dX8_pin_37 : decode cX8_pin 37 = .ok (.iload 4, 2) := by decide +kernel
theorem dX8_pin_39 : decode cX8_pin 39 = .ok (.iadd, 1) := by decide +kernel
theorem dX8_pin_40 : decode cX8_pin 40 = .ok (.iaload, 1) := by decide +kernel
theorem dX8_pin_41 : decode cX8_pin 41 = .ok (.istore 5, 2) := by decide +kernel
theorem dX8_pin_43 : decode cX8_pin 43 = .ok (.aload_n 0, 1) := by decide +kernel
theorem dX8_pin_44 : decode cX8_pin 44 = .ok (.getfield 11, 3) := by decide +kernel
theorem dX8_pin_47 : decode cX8_pin 47 = .ok (.sipush 2400, 3) := by decide +kernel
theorem dX8_pin_50 : decode cX8_pin 50 = .ok (.iload 4, 2) := by decide +kernel
theorem dX8_pin_52 : decode cX8_pin 52 = .ok (.iadd, 1) := by decide +kernel
theorem dX8_pin_53 : decode cX8_pin 53 = .ok (.iload_n 3, 1) := by decide +kernel
theorem dX8_pin_54 : decode cX8_pin 54 = .ok (.ifCond .eq 7, 3) := by decide +kernel
theorem dX8_pin_57 : decode cX8_pin 57 = .ok (.iconst 1, 1) := by decide +kernel
theorem dX8_pin_58 : decode cX8_pin 58 = .ok (.goto 4, 3) := by decide +kernel
theorem dX8_pin_61 : decode cX8_pin 61 = .ok (.iconst 0, 1) := by decide +kernel
theorem dX8_pin_62 : decode cX8_pin 62 = .ok (.iastore, 1) := by decide +kernel
theorem dX8_pin_63 : decode cX8_pin 63 = .ok (.iload 5, 2) := by decide +kernel
theorem dX8_pin_65 : decode cX8_pin 65 = .ok (.ireturn, 1) := by decide +kernel
theorem dX8_placeOf_0 : decode cX8_placeOf 0 = .ok (.iconst 0, 1) := by decide +kernel
theorem dX8_placeOf_1 : decode cX8_placeOf 1 = .ok (.istore_n 2, 1) := by decide +kernel
theorem dX8_placeOf_2 : decode cX8_placeOf 2 = .ok (.iconst 0, 1) := by decide +kernel
theorem dX8_placeOf_3 : decode cX8_placeOf 3 = .ok (.istore_n 3, 1) := by decide +kernel
theorem dX8_placeOf_4 : decode cX8_placeOf 4 = .ok (.iload_n 3, 1) := by decide +kernel
theorem dX8_placeOf_5 : decode cX8_placeOf 5 = .ok (.sipush 400, 3) := by decide +kernel
theorem dX8_placeOf_8 : decode cX8_placeOf 8 = .ok (.if_icmp .ge 59, 3) := by decide +kernel
theorem dX8_placeOf_11 : decode cX8_placeOf 11 = .ok (.iload_n 2, 1) := by decide +kernel
theorem dX8_placeOf_12 : decode cX8_placeOf 12 = .ok (.aload_n 0, 1) := by decide +kernel
theorem dX8_placeOf_13 : decode cX8_placeOf 13 = .ok (.getfield 11, 3) := by decide +kernel
theorem dX8_placeOf_16 : decode cX8_placeOf 16 = .ok (.iconst 0, 1) := by decide +kernel
theorem dX8_placeOf_17 : decode cX8_placeOf 17 = .ok (.iload_n 3, 1) := by decide +kernel
theorem dX8_placeOf_18 : decode cX8_placeOf 18 = .ok (.iadd, 1) := by decide +kernel
theorem dX8_placeOf_19 : decode cX8_placeOf 19 = .ok (.iaload, 1) := by decide +kernel
theorem dX8_placeOf_20 : decode cX8_placeOf 20 = .ok (.aload_n 0, 1) := by decide +kernel
theorem dX8_placeOf_21 : decode cX8_placeOf 21 = .ok (.getfield 11, 3) := by decide +kernel
theorem dX8_placeOf_24 : decode cX8_placeOf 24 = .ok (.iconst 0, 1) := by decide +kernel
theorem dX8_placeOf_25 : decode cX8_placeOf 25 = .ok (.iload_n 1, 1) := by decide +kernel
theorem dX8_placeOf_26 : decode cX8_placeOf 26 = .ok (.iadd, 1) := by decide +kernel
theorem dX8_placeOf_27 : decode cX8_placeOf 27 = .ok (.iaload, 1) := by decide +kernel
theorem dX8_placeOf_28 : decode cX8_placeOf 28 = .ok (.if_icmp .ne 30, 3) := by decide +kernel
theorem dX8_placeOf_31 : decode cX8_placeOf 31 = .ok (.aload_n 0, 1) := by decide +kernel
theorem dX8_placeOf_32 : decode cX8_placeOf 32 = .ok (.getfield 11, 3) := by decide +kernel
theorem dX8_placeOf_35 : decode cX8_placeOf 35 = .ok (.sipush 2800, 3) := by decide +kernel
theorem dX8_placeOf_38 : decode cX8_placeOf 38 = .ok (.iload_n 3, 1) := by decide +kernel
theorem dX8_placeOf_39 : decode cX8_placeOf 39 = .ok (.iadd, 1) := by decide +kernel
theorem dX8_placeOf_40 : decode cX8_placeOf 40 = .ok (.iaload, 1) := by decide +kernel
theorem dX8_placeOf_41 : decode cX8_placeOf 41 = .ok (.aload_n 0, 1) := by decide +kernel
theorem dX8_placeOf_42 : decode cX8_placeOf 42 = .ok (.getfield 11, 3) := by decide +kernel
theorem dX8_placeOf_45 : decode cX8_placeOf 45 = .ok (.sipush 2800, 3) := by decide +kernel
theorem dX8_placeOf_48 : decode cX8_placeOf 48 = .ok (.iload_n 1, 1) := by decide +kernel
theorem dX8_placeOf_49 : decode cX8_placeOf 49 = .ok (.iadd, 1) := by decide +kernel
theorem dX8_placeOf_50 : decode cX8_placeOf 50 = .ok (.iaload, 1) := by decide +kernel
theorem dX8_placeOf_51 : decode cX8_placeOf 51 = .ok (.if_icmp .ge 7, 3) := by decide +kernel
theorem dX8_placeOf_54 : decode cX8_placeOf 54 = .ok (.iconst 1, 1) := by decide +kernel
theorem dX8_placeOf_55 : decode cX8_placeOf 55 = .ok (.goto 4, 3) := by decide +kernel
theorem dX8_placeOf_58 : decode cX8_placeOf 58 = .ok (.iconst 0, 1) := by decide +kernel
theorem dX8_placeOf_59 : decode cX8_placeOf 59 = .ok (.iadd, 1) := by decide +kernel
theorem dX8_placeOf_60 : decode cX8_placeOf 60 = .ok (.istore_n 2, 1) := by decide +kernel
theorem dX8_placeOf_61 : decode cX8_placeOf 61 = .ok (.iinc 3 1, 3) := by decide +kernel
theorem dX8_placeOf_64 : decode cX8_placeOf 64 = .ok (.goto (-60), 3) := by decide +kernel
theorem dX8_placeOf_67 : decode cX8_placeOf 67 = .ok (.iload_n 2, 1) := by decide +kernel
theorem dX8_placeOf_68 : decode cX8_placeOf 68 = .ok (.ireturn, 1) := by decide +kernel
set_option maxRecDepth 20000 in
theorem ggX8_of_X8_isKey : GoodIn wsX8_of wsX8_isKey := goodIn_r _ [5, 6, 7, 4, 8] (by decide +kernel) (by decide +kernel)
set_option maxRecDepth 20000 in
theorem gX8_of_X8_isKey : GoodIn wsX8_of (va_wsS RX8 96 yX8_isKey wsX8_isKey) := goodIn_app (goodIn_of _ (by decide +kernel)) ggX8_of_X8_isKey
set_option maxRecDepth 20000 in
theorem ggX8_of_X8_in : GoodIn wsX8_of wsX8_in := goodIn_r _ [8] (by decide +kernel) (by decide +kernel)
set_option maxRecDepth 20000 in
theorem gX8_of_X8_in : GoodIn wsX8_of (va_wsS RX8 54 yX8_in wsX8_in) := goodIn_app (goodIn_of _ (by decide +kernel)) ggX8_of_X8_in
set_option maxRecDepth 20000 in
theorem ggX8_of_X8_isThing : GoodIn wsX8_of wsX8_isThing := goodIn_r _ [12, 1, 17, 18, 19, 20, 21, 22, 23, 24, 25, 26, 27, 28, 29, 30, 31, 32, 33, 34, 35] (by decide +kernel) (by decide +kernel)
set_option maxRecDepth 20000 in
theorem gX8_of_X8_isThing : GoodIn wsX8_of (wsV RX8 89 RX8 yX8_isThing wsX8_isThing) := goodIn_app (goodIn_of _ (by decide +kernel)) ggX8_of_X8_isThing
set_option maxRecDepth 20000 in
theorem ggX8_of_X8_placeOf : GoodIn wsX8_of wsX8_placeOf := goodIn_r _ [16, 1, 17, 18, 19, 20, 21, 22, 23, 24, 25, 26, 27, 28, 29, 30, 31, 32, 33, 34, 35] (by decide +kernel) (by decide +kernel)
set_option maxRecDepth 20000 in
theorem gX8_of_X8_placeOf : GoodIn wsX8_of (wsV RX8 113 RX8 yX8_placeOf wsX8_placeOf) := goodIn_app (goodIn_of _ (by decide +kernel)) ggX8_of_X8_placeOf
theorem dX8_of_0 : decode cX8_of 0 = .ok (.iload_n 1, 1) := by decide +kernel
theorem dX8_of_1 : decode cX8_of 1 = .ok (.iload_n 2, 1) := by decide +kernel
theorem dX8_of_2 : decode cX8_of 2 = .ok (.invokestatic 96, 3) := by decide +kernel
theorem dX8_of_5 : decode cX8_of 5 = .ok (.ifCond .eq 13, 3) := by decide +kernel
theorem dX8_of_8 : decode cX8_of 8 = .ok (.iload_n 3, 1) := by decide +kernel
theorem dX8_of_9 : decode cX8_of 9 = .ok (.iconst 0, 1) := by decide +kernel
theorem dX8_of_10 : decode cX8_of 10 = .ok (.bipush 6, 2) := by decide +kernel
theorem dX8_of_12 : decode cX8_of 12 = .ok (.invokestatic 54, 3) := by decide +kernel
theorem dX8_of_15 : decode cX8_of 15 = .ok (.ifCond .ne 5, 3) := by decide +kernel
theorem dX8_of_18 : decode cX8_of 18 = .ok (.iconst (-1), 1) := by decide +kernel
theorem dX8_of_19 : decode cX8_of 19 = .ok (.ireturn, 1) := by decide +kernel
theorem dX8_of_20 : decode cX8_of 20 = .ok (.bipush 100, 2) := by decide +kernel
theorem dX8_of_22 : decode cX8_of 22 = .ok (.iload_n 1, 1) := by decide +kernel
theorem dX8_of_23 : decode cX8_of 23 = .ok (.imul, 1) := by decide +kernel
theorem dX8_of_24 : decode cX8_of 24 = .ok (.iload_n 2, 1) := by decide +kernel
theorem dX8_of_25 : decode cX8_of 25 = .ok (.iadd, 1) := by decide +kernel
theorem dX8_of_26 : decode cX8_of 26 = .ok (.istore 4, 2) := by decide +kernel
theorem dX8_of_28 : decode cX8_of 28 = .ok (.aload_n 0, 1) := by decide +kernel
theorem dX8_of_29 : decode cX8_of 29 = .ok (.getfield 11, 3) := by decide +kernel
theorem dX8_of_32 : decode cX8_of 32 = .ok (.iconst 0, 1) := by decide +kernel
theorem dX8_of_33 : decode cX8_of 33 = .ok (.iload 4, 2) := by decide +kernel
theorem dX8_of_35 : decode cX8_of 35 = .ok (.iadd, 1) := by decide +kernel
theorem dX8_of_36 : decode cX8_of 36 = .ok (.iaload, 1) := by decide +kernel
theorem dX8_of_37 : decode cX8_of 37 = .ok (.istore 5, 2) := by decide +kernel
theorem dX8_of_39 : decode cX8_of 39 = .ok (.iload_n 3, 1) := by decide +kernel
theorem dX8_of_40 : decode cX8_of 40 = .ok (.tableswitch 169 0 5 #[40, 43, 65, 91, 117, 143], 40) := by decide +kernel
theorem dX8_of_80 : decode cX8_of 80 = .ok (.iload 5, 2) := by decide +kernel
theorem dX8_of_82 : decode cX8_of 82 = .ok (.ireturn, 1) := by decide +kernel
theorem dX8_of_83 : decode cX8_of 83 = .ok (.iload 5, 2) := by decide +kernel
theorem dX8_of_85 : decode cX8_of 85 = .ok (.ifCond .ne 8, 3) := by decide +kernel
theorem dX8_of_88 : decode cX8_of 88 = .ok (.bipush (-5), 2) := by decide +kernel
theorem dX8_of_90 : decode cX8_of 90 = .ok (.goto 14, 3) := by decide +kernel
theorem dX8_of_93 : decode cX8_of 93 = .ok (.aload_n 0, 1) := by decide +kernel
theorem dX8_of_94 : decode cX8_of 94 = .ok (.getfield 11, 3) := by decide +kernel
theorem dX8_of_97 : decode cX8_of 97 = .ok (.sipush 800, 3) := by decide +kernel
theorem dX8_of_100 : decode cX8_of 100 = .ok (.iload 4, 2) := by decide +kernel
theorem dX8_of_102 : decode cX8_of 102 = .ok (.iadd, 1) := by decide +kernel
theorem dX8_of_103 : decode cX8_of 103 = .ok (.iaload, 1) := by decide +kernel
theorem dX8_of_104 : decode cX8_of 104 = .ok (.ireturn, 1) := by decide +kernel
theorem dX8_of_105 : decode cX8_of 105 = .ok (.aload_n 0, 1) := by decide +kernel
theorem dX8_of_106 : decode cX8_of 106 = .ok (.iload 4, 2) := by decide +kernel
theorem dX8_of_108 : decode cX8_of 108 = .ok (.invokevirtual 89, 3) := by decide +kernel
theorem dX8_of_111 : decode cX8_of 111 = .ok (.ifCond .eq 17, 3) := by decide +kernel
theorem dX8_of_114 : decode cX8_of 114 = .ok (.aload_n 0, 1) := by decide +kernel
theorem dX8_of_115 : decode cX8_of 115 = .ok (.getfield 11, 3) := by decide +kernel
theorem dX8_of_118 : decode cX8_of 118 = .ok (.sipush 1200, 3) := by decide +kernel
theorem dX8_of_121 : decode cX8_of 121 = .ok (.iload 4, 2) := by decide +kernel
theorem dX8_of_123 : decode cX8_of 123 = .ok (.iadd, 1) := by decide +kernel
theorem dX8_of_124 : decode cX8_of 124 = .ok (.iaload, 1) := by decide +kernel
theorem dX8_of_125 : decode cX8_of 125 = .ok (.goto 5, 3) := by decide +kernel
theorem dX8_of_128 : decode cX8_of 128 = .ok (.bipush (-5), 2) := by decide +kernel
theorem dX8_of_130 : decode cX8_of 130 = .ok (.ireturn, 1) := by decide +kernel
theorem dX8_of_131 : decode cX8_of 131 = .ok (.aload_n 0, 1) := by decide +kernel
theorem dX8_of_132 : decode cX8_of 132 = .ok (.iload 4, 2) := by decide +kernel
theorem dX8_of_134 : decode cX8_of 134 = .ok (.invokevirtual 89, 3) := by decide +kernel
theorem dX8_of_137 : decode cX8_of 137 = .ok (.ifCond .eq 17, 3) := by decide +kernel
theorem dX8_of_140 : decode cX8_of 140 = .ok (.aload_n 0, 1) := by decide +kernel
theorem dX8_of_141 : decode cX8_of 141 = .ok (.getfield 11, 3) := by decide +kernel
theorem dX8_of_144 : decode cX8_of 144 = .ok (.sipush 1600, 3) := by decide +kernel
theorem dX8_of_147 : decode cX8_of 147 = .ok (.iload 4, 2) := by decide +kernel
theorem dX8_of_149 : decode cX8_of 149 = .ok (.iadd, 1) := by decide +kernel
theorem dX8_of_150 : decode cX8_of 150 = .ok (.iaload, 1) := by decide +kernel
theorem dX8_of_151 : decode cX8_of 151 = .ok (.goto 5, 3) := by decide +kernel
theorem dX8_of_154 : decode cX8_of 154 = .ok (.bipush (-5), 2) := by decide +kernel
theorem dX8_of_156 : decode cX8_of 156 = .ok (.ireturn, 1) := by decide +kernel
theorem dX8_of_157 : decode cX8_of 157 = .ok (.aload_n 0, 1) := by decide +kernel
theorem dX8_of_158 : decode cX8_of 158 = .ok (.iload 4, 2) := by decide +kernel
theorem dX8_of_160 : decode cX8_of 160 = .ok (.invokevirtual 89, 3) := by decide +kernel
theorem dX8_of_163 : decode cX8_of 163 = .ok (.ifCond .eq 17, 3) := by decide +kernel
theorem dX8_of_166 : decode cX8_of 166 = .ok (.aload_n 0, 1) := by decide +kernel
theorem dX8_of_167 : decode cX8_of 167 = .ok (.getfield 11, 3) := by decide +kernel
theorem dX8_of_170 : decode cX8_of 170 = .ok (.sipush 2000, 3) := by decide +kernel
theorem dX8_of_173 : decode cX8_of 173 = .ok (.iload 4, 2) := by decide +kernel
theorem dX8_of_175 : decode cX8_of 175 = .ok (.iadd, 1) := by decide +kernel
theorem dX8_of_176 : decode cX8_of 176 = .ok (.iaload, 1) := by decide +kernel
theorem dX8_of_177 : decode cX8_of 177 = .ok (.goto 5, 3) := by decide +kernel
theorem dX8_of_180 : decode cX8_of 180 = .ok (.bipush (-5), 2) := by decide +kernel
theorem dX8_of_182 : decode cX8_of 182 = .ok (.ireturn, 1) := by decide +kernel
theorem dX8_of_183 : decode cX8_of 183 = .ok (.aload_n 0, 1) := by decide +kernel
theorem dX8_of_184 : decode cX8_of 184 = .ok (.iload 4, 2) := by decide +kernel
theorem dX8_of_186 : decode cX8_of 186 = .ok (.invokevirtual 89, 3) := by decide +kernel
theorem dX8_of_189 : decode cX8_of 189 = .ok (.ifCond .eq 17, 3) := by decide +kernel
theorem dX8_of_192 : decode cX8_of 192 = .ok (.aload_n 0, 1) := by decide +kernel
theorem dX8_of_193 : decode cX8_of 193 = .ok (.getfield 11, 3) := by decide +kernel
theorem dX8_of_196 : decode cX8_of 196 = .ok (.sipush 2400, 3) := by decide +kernel
theorem dX8_of_199 : decode cX8_of 199 = .ok (.iload 4, 2) := by decide +kernel
theorem dX8_of_201 : decode cX8_of 201 = .ok (.iadd, 1) := by decide +kernel
theorem dX8_of_202 : decode cX8_of 202 = .ok (.iaload, 1) := by decide +kernel
theorem dX8_of_203 : decode cX8_of 203 = .ok (.goto 5, 3) := by decide +kernel
theorem dX8_of_206 : decode cX8_of 206 = .ok (.bipush (-5), 2) := by decide +kernel
theorem dX8_of_208 : decode cX8_of 208 = .ok (.ireturn, 1) := by decide +kernel
theorem dX8_of_209 : decode cX8_of 209 = .ok (.iload 5, 2) := by decide +kernel
theorem dX8_of_211 : decode cX8_of 211 = .ok (.ifCond .ne 8, 3) := by decide +kernel
theorem dX8_of_214 : decode cX8_of 214 = .ok (.bipush (-5), 2) := by decide +kernel
theorem dX8_of_216 : decode cX8_of 216 = .ok (.goto 9, 3) := by decide +kernel
theorem dX8_of_219 : decode cX8_of 219 = .ok (.aload_n 0, 1) := by decide +kernel
theorem dX8_of_220 : decode cX8_of 220 = .ok (.iload 4, 2) := by decide +kernel
theorem dX8_of_222 : decode cX8_of 222 = .ok (.invokevirtual 113, 3) := by decide +kernel
theorem dX8_of_225 : decode cX8_of 225 = .ok (.ireturn, 1) := by decide +kernel
set_option maxRecDepth 20000 in
theorem ggX8_keyAt_X8_placeOf : GoodIn wsX8_keyAt wsX8_placeOf := goodIn_r _ [6, 1, 7, 8, 9, 10, 11, 12, 13, 14, 15, 16, 17, 18, 19, 20, 21, 22, 23, 24, 25] (by decide +kernel) (by decide +kernel)
set_option maxRecDepth 20000 in
theorem gX8_keyAt_X8_placeOf : GoodIn wsX8_keyAt (wsV RX8 113 RX8 yX8_placeOf wsX8_placeOf) := goodIn_app (goodIn_of _ (by decide +kernel)) ggX8_keyAt_X8_placeOf
theorem dX8_keyAt_0 : decode cX8_keyAt 0 = .ok (.iconst 0, 1) := by decide +kernel
theorem dX8_keyAt_1 : decode cX8_keyAt 1 = .ok (.istore_n 3, 1) := by decide +kernel
theorem dX8_keyAt_2 : decode cX8_keyAt 2 = .ok (.iload_n 3, 1) := by decide +kernel
theorem dX8_keyAt_3 : decode cX8_keyAt 3 = .ok (.sipush 400, 3) := by decide +kernel
theorem dX8_keyAt_6 : decode cX8_keyAt 6 = .ok (.if_icmp .ge 32, 3) := by decide +kernel
theorem dX8_keyAt_9 : decode cX8_keyAt 9 = .ok (.aload_n 0, 1) := by decide +kernel
theorem dX8_keyAt_10 : decode cX8_keyAt 10 = .ok (.getfield 11, 3) := by decide +kernel
theorem dX8_keyAt_13 : decode cX8_keyAt 13 = .ok (.iconst 0, 1) := by decide +kernel
theorem dX8_keyAt_14 : decode cX8_keyAt 14 = .ok (.iload_n 3, 1) := by decide +kernel
theorem dX8_keyAt_15 : decode cX8_keyAt 15 = .ok (.iadd, 1) := by decide +kernel
theorem dX8_keyAt_16 : decode cX8_keyAt 16 = .ok (.iaload, 1) := by decide +kernel
theorem dX8_keyAt_17 : decode cX8_keyAt 17 = .ok (.iload_n 1, 1) := by decide +kernel
theorem dX8_keyAt_18 : decode cX8_keyAt 18 = .ok (.if_icmp .ne 14, 3) := by decide +kernel
theorem dX8_keyAt_21 : decode cX8_keyAt 21 = .ok (.aload_n 0, 1) := by decide +kernel
theorem dX8_keyAt_22 : decode cX8_keyAt 22 = .ok (.iload_n 3, 1) := by decide +kernel
theorem dX8_keyAt_23 : decode cX8_keyAt 23 = .ok (.invokevirtual 113, 3) := by decide +kernel
theorem dX8_keyAt_26 : decode cX8_keyAt 26 = .ok (.iload_n 2, 1) := by decide +kernel
theorem dX8_keyAt_27 : decode cX8_keyAt 27 = .ok (.if_icmp .ne 5, 3) := by decide +kernel
theorem dX8_keyAt_30 : decode cX8_keyAt 30 = .ok (.iload_n 3, 1) := by decide +kernel
theorem dX8_keyAt_31 : decode cX8_keyAt 31 = .ok (.ireturn, 1) := by decide +kernel
theorem dX8_keyAt_32 : decode cX8_keyAt 32 = .ok (.iinc 3 1, 3) := by decide +kernel
theorem dX8_keyAt_35 : decode cX8_keyAt 35 = .ok (.goto (-33), 3) := by decide +kernel
theorem dX8_keyAt_38 : decode cX8_keyAt 38 = .ok (.bipush (-5), 2) := by decide +kernel
theorem dX8_keyAt_40 : decode cX8_keyAt 40 = .ok (.ireturn, 1) := by decide +kernel
set_option maxRecDepth 20000 in
theorem ggX8_key_X8_in : GoodIn wsX8_key wsX8_in := goodIn_r _ [4] (by decide +kernel) (by decide +kernel)
set_option maxRecDepth 20000 in
theorem gX8_key_X8_in : GoodIn wsX8_key (va_wsS RX8 54 yX8_in wsX8_in) := goodIn_app (goodIn_of _ (by decide +kernel)) ggX8_key_X8_in
set_option maxRecDepth 20000 in
theorem ggX8_key_X8_keyAt : GoodIn wsX8_key wsX8_keyAt := goodIn_r _ [8, 9, 10, 11, 12, 3, 13, 14, 15, 16, 17, 18, 19, 20, 21, 22, 23, 24, 25, 26, 27, 28, 29, 30, 31, 32] (by decide +kernel) (by decide +kernel)
set_option maxRecDepth 20000 in
theorem gX8_key_X8_keyAt : GoodIn wsX8_key (wsV RX8 116 RX8 yX8_keyAt wsX8_keyAt) := goodIn_app (goodIn_of _ (by decide +kernel)) ggX8_key_X8_keyAt
theorem dX8_key_0 : decode cX8_key 0 = .ok (.iload_n 1, 1) := by decide +kernel
theorem dX8_key_1 : decode cX8_key 1 = .ok (.iconst 1, 1) := by decide +kernel
theorem dX8_key_2 : decode cX8_key 2 = .ok (.iconst 4, 1) := by decide +kernel
theorem dX8_key_3 : decode cX8_key 3 = .ok (.invokestatic 54, 3) := by decide +kernel
theorem dX8_key_6 : decode cX8_key 6 = .ok (.ifCond .eq 16, 3) := by decide +kernel
theorem dX8_key_9 : decode cX8_key 9 = .ok (.iload_n 2, 1) := by decide +kernel
theorem dX8_key_10 : decode cX8_key 10 = .ok (.ifCond .lt 12, 3) := by decide +kernel
theorem dX8_key_13 : decode cX8_key 13 = .ok (.aload_n 0, 1) := by decide +kernel
theorem dX8_key_14 : decode cX8_key 14 = .ok (.iload_n 1, 1) := by decide +kernel
theorem dX8_key_15 : decode cX8_key 15 = .ok (.iload_n 2, 1) := by decide +kernel
theorem dX8_key_16 : decode cX8_key 16 = .ok (.invokevirtual 116, 3) := by decide +kernel
theorem dX8_key_19 : decode cX8_key 19 = .ok (.goto 4, 3) := by decide +kernel
theorem dX8_key_22 : decode cX8_key 22 = .ok (.iconst (-1), 1) := by decide +kernel
theorem dX8_key_23 : decode cX8_key 23 = .ok (.ireturn, 1) := by decide +kernel
theorem dX8_gone_0 : decode cX8_gone 0 = .ok (.iload_n 1, 1) := by decide +kernel
theorem dX8_gone_1 : decode cX8_gone 1 = .ok (.ifCond .ge 5, 3) := by decide +kernel
theorem dX8_gone_4 : decode cX8_gone 4 = .ok (.iconst (-1), 1) := by decide +kernel
theorem dX8_gone_5 : decode cX8_gone 5 = .ok (.ireturn, 1) := by decide +kernel
theorem dX8_gone_6 : decode cX8_gone 6 = .ok (.iload_n 1, 1) := by decide +kernel
theorem dX8_gone_7 : decode cX8_gone 7 = .ok (.bipush 20, 2) := by decide +kernel
theorem dX8_gone_9 : decode cX8_gone 9 = .ok (.if_icmp .ge 28, 3) := by decide +kernel
theorem dX8_gone_12 : decode cX8_gone 12 = .ok (.iload_n 1, 1) := by decide +kernel
theorem dX8_gone_13 : decode cX8_gone 13 = .ok (.aload_n 0, 1) := by decide +kernel
theorem dX8_gone_14 : decode cX8_gone 14 = .ok (.getfield 11, 3) := by decide +kernel
theorem dX8_gone_17 : decode cX8_gone 17 = .ok (.sipush 3214, 3) := by decide +kernel
theorem dX8_gone_20 : decode cX8_gone 20 = .ok (.iaload, 1) := by decide +kernel
theorem dX8_gone_21 : decode cX8_gone 21 = .ok (.if_icmp .ge 16, 3) := by decide +kernel
theorem dX8_gone_24 : decode cX8_gone 24 = .ok (.aload_n 0, 1) := by decide +kernel
theorem dX8_gone_25 : decode cX8_gone 25 = .ok (.getfield 11, 3) := by decide +kernel
theorem dX8_gone_28 : decode cX8_gone 28 = .ok (.sipush 3216, 3) := by decide +kernel
theorem dX8_gone_31 : decode cX8_gone 31 = .ok (.iload_n 1, 1) := by decide +kernel
theorem dX8_gone_32 : decode cX8_gone 32 = .ok (.iadd, 1) := by decide +kernel
theorem dX8_gone_33 : decode cX8_gone 33 = .ok (.iaload, 1) := by decide +kernel
theorem dX8_gone_34 : decode cX8_gone 34 = .ok (.goto 5, 3) := by decide +kernel
theorem dX8_gone_37 : decode cX8_gone 37 = .ok (.bipush (-5), 2) := by decide +kernel
theorem dX8_gone_39 : decode cX8_gone 39 = .ok (.ireturn, 1) := by decide +kernel
set_option maxRecDepth 20000 in
theorem ggX8_victim_X8_copy : GoodIn wsX8_victim wsX8_copy := goodIn_r _ [8] (by decide +kernel) (by decide +kernel)
set_option maxRecDepth 20000 in
theorem gX8_victim_X8_copy : GoodIn wsX8_victim (va_wsS RX8 120 yX8_copy wsX8_copy) := goodIn_app (goodIn_of _ (by decide +kernel)) ggX8_victim_X8_copy
set_option maxRecDepth 20000 in
theorem ggX8_victim_X8_trim : GoodIn wsX8_victim wsX8_trim := goodIn_r _ [12, 1, 13, 14, 15, 7, 16, 17, 18, 19, 20, 21, 22, 23, 24, 25, 26, 27, 28, 29, 30, 31, 32, 3, 4, 33, 34, 35, 36, 37, 38, 39, 40, 41, 42, 43, 44, 45, 46, 47, 48, 49, 50, 51] (by decide +kernel) (by decide +kernel)
set_option maxRecDepth 20000 in
theorem gX8_victim_X8_trim : GoodIn wsX8_victim (wsV RX8 86 RX8 yX8_trim wsX8_trim) := goodIn_app (goodIn_of _ (by decide +kernel)) ggX8_victim_X8_trim
theorem dX8_victim_0 : decode cX8_victim 0 = .ok (.iload_n 1, 1) := by decide +kernel
theorem dX8_victim_1 : decode cX8_victim 1 = .ok (.ifCond .ge 5, 3) := by decide +kernel
theorem dX8_victim_4 : decode cX8_victim 4 = .ok (.iconst (-1), 1) := by decide +kernel
theorem dX8_victim_5 : decode cX8_victim 5 = .ok (.ireturn, 1) := by decide +kernel
theorem dX8_victim_6 : decode cX8_victim 6 = .ok (.aload_n 0, 1) := by decide +kernel
theorem dX8_victim_7 : decode cX8_victim 7 = .ok (.getfield 11, 3) := by decide +kernel
theorem dX8_victim_10 : decode cX8_victim 10 = .ok (.aload_n 0, 1) := by decide +kernel
theorem dX8_victim_11 : decode cX8_victim 11 = .ok (.getfield 15, 3) := by decide +kernel
theorem dX8_victim_14 : decode cX8_victim 14 = .ok (.invokestatic 120, 3) := by decide +kernel
theorem dX8_victim_17 : decode cX8_victim 17 = .ok (.aload_n 0, 1) := by decide +kernel
theorem dX8_victim_18 : decode cX8_victim 18 = .ok (.iconst 0, 1) := by decide +kernel
theorem dX8_victim_19 : decode cX8_victim 19 = .ok (.putfield 62, 3) := by decide +kernel
theorem dX8_victim_22 : decode cX8_victim 22 = .ok (.aload_n 0, 1) := by decide +kernel
theorem dX8_victim_23 : decode cX8_victim 23 = .ok (.getfield 11, 3) := by decide +kernel
theorem dX8_victim_26 : decode cX8_victim 26 = .ok (.sipush 3201, 3) := by decide +kernel
theorem dX8_victim_29 : decode cX8_victim 29 = .ok (.iconst 0, 1) := by decide +kernel
theorem dX8_victim_30 : decode cX8_victim 30 = .ok (.iastore, 1) := by decide +kernel
theorem dX8_victim_31 : decode cX8_victim 31 = .ok (.aload_n 0, 1) := by decide +kernel
theorem dX8_victim_32 : decode cX8_victim 32 = .ok (.getfield 11, 3) := by decide +kernel
theorem dX8_victim_35 : decode cX8_victim 35 = .ok (.sipush 3200, 3) := by decide +kernel
theorem dX8_victim_38 : decode cX8_victim 38 = .ok (.iconst 0, 1) := by decide +kernel
theorem dX8_victim_39 : decode cX8_victim 39 = .ok (.iastore, 1) := by decide +kernel
theorem dX8_victim_40 : decode cX8_victim 40 = .ok (.aload_n 0, 1) := by decide +kernel
theorem dX8_victim_41 : decode cX8_victim 41 = .ok (.invokevirtual 86, 3) := by decide +kernel
theorem dX8_victim_44 : decode cX8_victim 44 = .ok (.iload_n 1, 1) := by decide +kernel
theorem dX8_victim_45 : decode cX8_victim 45 = .ok (.aload_n 0, 1) := by decide +kernel
theorem dX8_victim_46 : decode cX8_victim 46 = .ok (.getfield 62, 3) := by decide +kernel
theorem dX8_victim_49 : decode cX8_victim 49 = .ok (.if_icmp .ge 12, 3) := by decide +kernel
theorem dX8_victim_52 : decode cX8_victim 52 = .ok (.aload_n 0, 1) := by decide +kernel
theorem dX8_victim_53 : decode cX8_victim 53 = .ok (.getfield 21, 3) := by decide +kernel
theorem dX8_victim_56 : decode cX8_victim 56 = .ok (.iload_n 1, 1) := by decide +kernel
theorem dX8_victim_57 : decode cX8_victim 57 = .ok (.iaload, 1) := by decide +kernel
theorem dX8_victim_58 : decode cX8_victim 58 = .ok (.goto 5, 3) := by decide +kernel
theorem dX8_victim_61 : decode cX8_victim 61 = .ok (.bipush (-5), 2) := by decide +kernel
theorem dX8_victim_63 : decode cX8_victim 63 = .ok (.istore_n 2, 1) := by decide +kernel
theorem dX8_victim_64 : decode cX8_victim 64 = .ok (.aload_n 0, 1) := by decide +kernel
theorem dX8_victim_65 : decode cX8_victim 65 = .ok (.getfield 15, 3) := by decide +kernel
theorem dX8_victim_68 : decode cX8_victim 68 = .ok (.aload_n 0, 1) := by decide +kernel
theorem dX8_victim_69 : decode cX8_victim 69 = .ok (.getfield 11, 3) := by decide +kernel
theorem dX8_victim_72 : decode cX8_victim 72 = .ok (.invokestatic 120, 3) := by decide +kernel
theorem dX8_victim_75 : decode cX8_victim 75 = .ok (.iload_n 2, 1) := by decide +kernel
theorem dX8_victim_76 : decode cX8_victim 76 = .ok (.ireturn, 1) := by decide +kernel
set_option maxRecDepth 20000 in
theorem ggX8_feed_X8_in : GoodIn wsX8_feed wsX8_in := goodIn_r _ [6] (by decide +kernel) (by decide +kernel)
set_option maxRecDepth 20000 in
theorem gX8_feed_X8_in : GoodIn wsX8_feed (va_wsS RX8 54 yX8_in wsX8_in) := goodIn_app (goodIn_of _ (by decide +kernel)) ggX8_feed_X8_in
theorem dX8_feed_0 : decode cX8_feed 0 = .ok (.iload_n 1, 1) := by decide +kernel
theorem dX8_feed_1 : decode cX8_feed 1 = .ok (.iconst 0, 1) := by decide +kernel
theorem dX8_feed_2 : decode cX8_feed 2 = .ok (.bipush 127, 2) := by decide +kernel
theorem dX8_feed_4 : decode cX8_feed 4 = .ok (.invokestatic 54, 3) := by decide +kernel
theorem dX8_feed_7 : decode cX8_feed 7 = .ok (.ifCond .ne 6, 3) := by decide +kernel
theorem dX8_feed_10 : decode cX8_feed 10 = .ok (.bipush (-2), 2) := by decide +kernel
theorem dX8_feed_12 : decode cX8_feed 12 = .ok (.ireturn, 1) := by decide +kernel
theorem dX8_feed_13 : decode cX8_feed 13 = .ok (.aload_n 0, 1) := by decide +kernel
theorem dX8_feed_14 : decode cX8_feed 14 = .ok (.getfield 124, 3) := by decide +kernel
theorem dX8_feed_17 : decode cX8_feed 17 = .ok (.bipush 100, 2) := by decide +kernel
theorem dX8_feed_19 : decode cX8_feed 19 = .ok (.if_icmp .ne 6, 3) := by decide +kernel
theorem dX8_feed_22 : decode cX8_feed 22 = .ok (.bipush (-4), 2) := by decide +kernel
theorem dX8_feed_24 : decode cX8_feed 24 = .ok (.ireturn, 1) := by decide +kernel
theorem dX8_feed_25 : decode cX8_feed 25 = .ok (.aload_n 0, 1) := by decide +kernel
theorem dX8_feed_26 : decode cX8_feed 26 = .ok (.getfield 24, 3) := by decide +kernel
theorem dX8_feed_29 : decode cX8_feed 29 = .ok (.aload_n 0, 1) := by decide +kernel
theorem dX8_feed_30 : decode cX8_feed 30 = .ok (.dup, 1) := by decide +kernel
theorem dX8_feed_31 : decode cX8_feed 31 = .ok (.getfield 124, 3) := by decide +kernel
theorem dX8_feed_34 : decode cX8_feed 34 = .ok (.dup_x1, 1) := by decide +kernel
theorem dX8_feed_35 : decode cX8_feed 35 = .ok (.iconst 1, 1) := by decide +kernel
theorem dX8_feed_36 : decode cX8_feed 36 = .ok (.iadd, 1) := by decide +kernel
theorem dX8_feed_37 : decode cX8_feed 37 = .ok (.putfield 124, 3) := by decide +kernel
theorem dX8_feed_40 : decode cX8_feed 40 = .ok (.iload_n 1, 1) := by decide +kernel
theorem dX8_feed_41 : decode cX8_feed 41 = .ok (.iastore, 1) := by decide +kernel
theorem dX8_feed_42 : decode cX8_feed 42 = .ok (.aload_n 0, 1) := by decide +kernel
theorem dX8_feed_43 : decode cX8_feed 43 = .ok (.getfield 124, 3) := by decide +kernel
theorem dX8_feed_46 : decode cX8_feed 46 = .ok (.ireturn, 1) := by decide +kernel
set_option maxRecDepth 20000 in
theorem ggX8_sees_X8_in : GoodIn wsX8_sees wsX8_in := goodIn_r _ [8] (by decide +kernel) (by decide +kernel)
set_option maxRecDepth 20000 in
theorem gX8_sees_X8_in : GoodIn wsX8_sees (va_wsS RX8 54 yX8_in wsX8_in) := goodIn_app (goodIn_of _ (by decide +kernel)) ggX8_sees_X8_in
theorem dX8_sees_0 : decode cX8_sees 0 = .ok (.aload_n 0, 1) := by decide +kernel
theorem dX8_sees_1 : decode cX8_sees 1 = .ok (.getfield 127, 3) := by decide +kernel
theorem dX8_sees_4 : decode cX8_sees 4 = .ok (.ifCond .ge 35, 3) := by decide +kernel
theorem dX8_sees_7 : decode cX8_sees 7 = .ok (.aload_n 0, 1) := by decide +kernel
theorem dX8_sees_8 : decode cX8_sees 8 = .ok (.getfield 130, 3) := by decide +kernel
theorem dX8_sees_11 : decode cX8_sees 11 = .ok (.aload_n 0, 1) := by decide +kernel
theorem dX8_sees_12 : decode cX8_sees 12 = .ok (.getfield 124, 3) := by decide +kernel
theorem dX8_sees_15 : decode cX8_sees 15 = .ok (.if_icmp .ge 24, 3) := by decide +kernel
theorem dX8_sees_18 : decode cX8_sees 18 = .ok (.aload_n 0, 1) := by decide +kernel
theorem dX8_sees_19 : decode cX8_sees 19 = .ok (.getfield 24, 3) := by decide +kernel
theorem dX8_sees_22 : decode cX8_sees 22 = .ok (.aload_n 0, 1) := by decide +kernel
theorem dX8_sees_23 : decode cX8_sees 23 = .ok (.getfield 130, 3) := by decide +kernel
theorem dX8_sees_26 : decode cX8_sees 26 = .ok (.iaload, 1) := by decide +kernel
theorem dX8_sees_27 : decode cX8_sees 27 = .ok (.iload_n 1, 1) := by decide +kernel
theorem dX8_sees_28 : decode cX8_sees 28 = .ok (.iload_n 2, 1) := by decide +kernel
theorem dX8_sees_29 : decode cX8_sees 29 = .ok (.invokestatic 54, 3) := by decide +kernel
theorem dX8_sees_32 : decode cX8_sees 32 = .ok (.ifCond .eq 7, 3) := by decide +kernel
theorem dX8_sees_35 : decode cX8_sees 35 = .ok (.iconst 1, 1) := by decide +kernel
theorem dX8_sees_36 : decode cX8_sees 36 = .ok (.goto 4, 3) := by decide +kernel
theorem dX8_sees_39 : decode cX8_sees 39 = .ok (.iconst 0, 1) := by decide +kernel
theorem dX8_sees_40 : decode cX8_sees 40 = .ok (.ireturn, 1) := by decide +kernel
set_option maxRecDepth 20000 in
theorem ggX8_must_X8_sees : GoodIn wsX8_must wsX8_sees := goodIn_r _ [8, 1, 2, 9, 3, 10, 11, 7, 12, 13, 14, 15, 16, 17, 18, 19, 20, 21, 22, 23, 24, 25, 26, 27, 28, 29, 30, 31] (by decide +kernel) (by decide +kernel)
set_option maxRecDepth 20000 in
theorem gX8_must_X8_sees : GoodIn wsX8_must (wsV RX8 133 RX8 yX8_sees wsX8_sees) := goodIn_app (goodIn_of _ (by decide +kernel)) ggX8_must_X8_sees
theorem dX8_must_0 : decode cX8_must 0 = .ok (.aload_n 0, 1) := by decide +kernel
theorem dX8_must_1 : decode cX8_must 1 = .ok (.iload_n 1, 1) := by decide +kernel
theorem dX8_must_2 : decode cX8_must 2 = .ok (.iload_n 2, 1) := by decide +kernel
theorem dX8_must_3 : decode cX8_must 3 = .ok (.invokevirtual 133, 3) := by decide +kernel
theorem dX8_must_6 : decode cX8_must 6 = .ok (.ifCond .ne 27, 3) := by decide +kernel
theorem dX8_must_9 : decode cX8_must 9 = .ok (.aload_n 0, 1) := by decide +kernel
theorem dX8_must_10 : decode cX8_must 10 = .ok (.aload_n 0, 1) := by decide +kernel
theorem dX8_must_11 : decode cX8_must 11 = .ok (.getfield 127, 3) := by decide +kernel
theorem dX8_must_14 : decode cX8_must 14 = .ok (.ifCond .ge 10, 3) := by decide +kernel
theorem dX8_must_17 : decode cX8_must 17 = .ok (.aload_n 0, 1) := by decide +kernel
theorem dX8_must_18 : decode cX8_must 18 = .ok (.getfield 130, 3) := by decide +kernel
theorem dX8_must_21 : decode cX8_must 21 = .ok (.goto 7, 3) := by decide +kernel
theorem dX8_must_24 : decode cX8_must 24 = .ok (.aload_n 0, 1) := by decide +kernel
theorem dX8_must_25 : decode cX8_must 25 = .ok (.getfield 127, 3) := by decide +kernel
theorem dX8_must_28 : decode cX8_must 28 = .ok (.putfield 127, 3) := by decide +kernel
theorem dX8_must_31 : decode cX8_must 31 = .ok (.iload_n 1, 1) := by decide +kernel
theorem dX8_must_32 : decode cX8_must 32 = .ok (.ireturn, 1) := by decide +kernel
theorem dX8_must_33 : decode cX8_must 33 = .ok (.aload_n 0, 1) := by decide +kernel
theorem dX8_must_34 : decode cX8_must 34 = .ok (.getfield 24, 3) := by decide +kernel
theorem dX8_must_37 : decode cX8_must 37 = .ok (.aload_n 0, 1) := by decide +kernel
theorem dX8_must_38 : decode cX8_must 38 = .ok (.dup, 1) := by decide +kernel
theorem dX8_must_39 : decode cX8_must 39 = .ok (.getfield 130, 3) := by decide +kernel
theorem dX8_must_42 : decode cX8_must 42 = .ok (.dup_x1, 1) := by decide +kernel
theorem dX8_must_43 : decode cX8_must 43 = .ok (.iconst 1, 1) := by decide +kernel
theorem dX8_must_44 : decode cX8_must 44 = .ok (.iadd, 1) := by decide +kernel
theorem dX8_must_45 : decode cX8_must 45 = .ok (.putfield 130, 3) := by decide +kernel
theorem dX8_must_48 : decode cX8_must 48 = .ok (.iaload, 1) := by decide +kernel
theorem dX8_must_49 : decode cX8_must 49 = .ok (.ireturn, 1) := by decide +kernel
set_option maxRecDepth 20000 in
theorem ggX8_clause_X8_sees : GoodIn wsX8_clause wsX8_sees := goodIn_r _ [10, 11, 2, 12, 1, 13, 14, 9, 15, 20, 21, 22, 23, 24, 25, 26, 27, 28, 29, 30, 31, 32, 33, 34, 35, 36, 37, 38] (by decide +kernel) (by decide +kernel)
set_option maxRecDepth 20000 in
theorem gX8_clause_X8_sees : GoodIn wsX8_clause (wsV RX8 133 RX8 yX8_sees wsX8_sees) := goodIn_app (goodIn_of _ (by decide +kernel)) ggX8_clause_X8_sees
set_option maxRecDepth 20000 in
theorem ggX8_clause_X8_must : GoodIn wsX8_clause wsX8_must := goodIn_r _ [19, 11, 2, 1, 6, 7, 8, 9, 10, 12, 13, 14, 15, 20, 21, 22, 23, 24, 25, 26, 27, 28, 29, 30, 31, 32, 33, 34, 35, 36, 37, 38] (by decide +kernel) (by decide +kernel)
set_option maxRecDepth 20000 in
theorem gX8_clause_X8_must : GoodIn wsX8_clause (wsV RX8 136 RX8 yX8_must wsX8_must) := goodIn_app (goodIn_of _ (by decide +kernel)) ggX8_clause_X8_must
theorem dX8_clause_0 : decode cX8_clause 0 = .ok (.aload_n 0, 1) := by decide +kernel
theorem dX8_clause_1 : decode cX8_clause 1 = .ok (.bipush 112, 2) := by decide +kernel
theorem dX8_clause_3 : decode cX8_clause 3 = .ok (.bipush 112, 2) := by decide +kernel
theorem dX8_clause_5 : decode cX8_clause 5 = .ok (.invokevirtual 133, 3) := by decide +kernel
theorem dX8_clause_8 : decode cX8_clause 8 = .ok (.ifCond .ne 14, 3) := by decide +kernel
theorem dX8_clause_11 : decode cX8_clause 11 = .ok (.aload_n 0, 1) := by decide +kernel
theorem dX8_clause_12 : decode cX8_clause 12 = .ok (.bipush 120, 2) := by decide +kernel
theorem dX8_clause_14 : decode cX8_clause 14 = .ok (.bipush 120, 2) := by decide +kernel
theorem dX8_clause_16 : decode cX8_clause 16 = .ok (.invokevirtual 133, 3) := by decide +kernel
theorem dX8_clause_19 : decode cX8_clause 19 = .ok (.ifCond .eq 22, 3) := by decide +kernel
theorem dX8_clause_22 : decode cX8_clause 22 = .ok (.aload_n 0, 1) := by decide +kernel
theorem dX8_clause_23 : decode cX8_clause 23 = .ok (.getfield 24, 3) := by decide +kernel
theorem dX8_clause_26 : decode cX8_clause 26 = .ok (.aload_n 0, 1) := by decide +kernel
theorem dX8_clause_27 : decode cX8_clause 27 = .ok (.dup, 1) := by decide +kernel
theorem dX8_clause_28 : decode cX8_clause 28 = .ok (.getfield 130, 3) := by decide +kernel
theorem dX8_clause_31 : decode cX8_clause 31 = .ok (.dup_x1, 1) := by decide +kernel
theorem dX8_clause_32 : decode cX8_clause 32 = .ok (.iconst 1, 1) := by decide +kernel
theorem dX8_clause_33 : decode cX8_clause 33 = .ok (.iadd, 1) := by decide +kernel
theorem dX8_clause_34 : decode cX8_clause 34 = .ok (.putfield 130, 3) := by decide +kernel
theorem dX8_clause_37 : decode cX8_clause 37 = .ok (.iaload, 1) := by decide +kernel
theorem dX8_clause_38 : decode cX8_clause 38 = .ok (.goto 11, 3) := by decide +kernel
theorem dX8_clause_41 : decode cX8_clause 41 = .ok (.aload_n 0, 1) := by decide +kernel
theorem dX8_clause_42 : decode cX8_clause 42 = .ok (.bipush 103, 2) := by decide +kernel
theorem dX8_clause_44 : decode cX8_clause 44 = .ok (.bipush 103, 2) := by decide +kernel
theorem dX8_clause_46 : decode cX8_clause 46 = .ok (.invokevirtual 136, 3) := by decide +kernel
theorem dX8_clause_49 : decode cX8_clause 49 = .ok (.istore_n 2, 1) := by decide +kernel
theorem dX8_clause_50 : decode cX8_clause 50 = .ok (.aload_n 0, 1) := by decide +kernel
theorem dX8_clause_51 : decode cX8_clause 51 = .ok (.bipush 97, 2) := by decide +kernel
theorem dX8_clause_53 : decode cX8_clause 53 = .ok (.bipush 100, 2) := by decide +kernel
theorem dX8_clause_55 : decode cX8_clause 55 = .ok (.invokevirtual 136, 3) := by decide +kernel
theorem dX8_clause_58 : decode cX8_clause 58 = .ok (.bipush 97, 2) := by decide +kernel
theorem dX8_clause_60 : decode cX8_clause 60 = .ok (.isub, 1) := by decide +kernel
theorem dX8_clause_61 : decode cX8_clause 61 = .ok (.istore_n 3, 1) := by decide +kernel
theorem dX8_clause_62 : decode cX8_clause 62 = .ok (.aload_n 0, 1) := by decide +kernel
theorem dX8_clause_63 : decode cX8_clause 63 = .ok (.bipush 48, 2) := by decide +kernel
theorem dX8_clause_65 : decode cX8_clause 65 = .ok (.bipush 57, 2) := by decide +kernel
theorem dX8_clause_67 : decode cX8_clause 67 = .ok (.invokevirtual 136, 3) := by decide +kernel
theorem dX8_clause_70 : decode cX8_clause 70 = .ok (.bipush 48, 2) := by decide +kernel
theorem dX8_clause_72 : decode cX8_clause 72 = .ok (.isub, 1) := by decide +kernel
theorem dX8_clause_73 : decode cX8_clause 73 = .ok (.istore 4, 2) := by decide +kernel
theorem dX8_clause_75 : decode cX8_clause 75 = .ok (.aload_n 0, 1) := by decide +kernel
theorem dX8_clause_76 : decode cX8_clause 76 = .ok (.bipush 48, 2) := by decide +kernel
theorem dX8_clause_78 : decode cX8_clause 78 = .ok (.bipush 57, 2) := by decide +kernel
theorem dX8_clause_80 : decode cX8_clause 80 = .ok (.invokevirtual 133, 3) := by decide +kernel
theorem dX8_clause_83 : decode cX8_clause 83 = .ok (.ifCond .eq 23, 3) := by decide +kernel
theorem dX8_clause_86 : decode cX8_clause 86 = .ok (.bipush 10, 2) := by decide +kernel
theorem dX8_clause_88 : decode cX8_clause 88 = .ok (.iload 4, 2) := by decide +kernel
theorem dX8_clause_90 : decode cX8_clause 90 = .ok (.imul, 1) := by decide +kernel
theorem dX8_clause_91 : decode cX8_clause 91 = .ok (.aload_n 0, 1) := by decide +kernel
theorem dX8_clause_92 : decode cX8_clause 92 = .ok (.bipush 48, 2) := by decide +kernel
theorem dX8_clause_94 : decode cX8_clause 94 = .ok (.bipush 57, 2) := by decide +kernel
theorem dX8_clause_96 : decode cX8_clause 96 = .ok (.invokevirtual 136, 3) := by decide +kernel
theorem dX8_clause_99 : decode cX8_clause 99 = .ok (.iadd, 1) := by decide +kernel
theorem dX8_clause_100 : decode cX8_clause 100 = .ok (.bipush 48, 2) := by decide +kernel
theorem dX8_clause_102 : decode cX8_clause 102 = .ok (.isub, 1) := by decide +kernel
theorem dX8_clause_103 : decode cX8_clause 103 = .ok (.goto 5, 3) := by decide +kernel
theorem dX8_clause_106 : decode cX8_clause 106 = .ok (.iload 4, 2) := by decide +kernel
theorem dX8_clause_108 : decode cX8_clause 108 = .ok (.istore 4, 2) := by decide +kernel
theorem dX8_clause_110 : decode cX8_clause 110 = .ok (.iload_n 2, 1) := by decide +kernel
theorem dX8_clause_111 : decode cX8_clause 111 = .ok (.bipush 112, 2) := by decide +kernel
theorem dX8_clause_113 : decode cX8_clause 113 = .ok (.if_icmp .ne 29, 3) := by decide +kernel
theorem dX8_clause_116 : decode cX8_clause 116 = .ok (.aload_n 0, 1) := by decide +kernel
theorem dX8_clause_117 : decode cX8_clause 117 = .ok (.bipush 61, 2) := by decide +kernel
theorem dX8_clause_119 : decode cX8_clause 119 = .ok (.bipush 61, 2) := by decide +kernel
theorem dX8_clause_121 : decode cX8_clause 121 = .ok (.invokevirtual 136, 3) := by decide +kernel
theorem dX8_clause_124 : decode cX8_clause 124 = .ok (.pop, 1) := by decide +kernel
theorem dX8_clause_125 : decode cX8_clause 125 = .ok (.aload_n 0, 1) := by decide +kernel
theorem dX8_clause_126 : decode cX8_clause 126 = .ok (.getfield 33, 3) := by decide +kernel
theorem dX8_clause_129 : decode cX8_clause 129 = .ok (.iload_n 1, 1) := by decide +kernel
theorem dX8_clause_130 : decode cX8_clause 130 = .ok (.aload_n 0, 1) := by decide +kernel
theorem dX8_clause_131 : decode cX8_clause 131 = .ok (.bipush 49, 2) := by decide +kernel
theorem dX8_clause_133 : decode cX8_clause 133 = .ok (.bipush 57, 2) := by decide +kernel
theorem dX8_clause_135 : decode cX8_clause 135 = .ok (.invokevirtual 136, 3) := by decide +kernel
theorem dX8_clause_138 : decode cX8_clause 138 = .ok (.bipush 48, 2) := by decide +kernel
theorem dX8_clause_140 : decode cX8_clause 140 = .ok (.isub, 1) := by decide +kernel
theorem dX8_clause_141 : decode cX8_clause 141 = .ok (.iastore, 1) := by decide +kernel
theorem dX8_clause_142 : decode cX8_clause 142 = .ok (.aload_n 0, 1) := by decide +kernel
theorem dX8_clause_143 : decode cX8_clause 143 = .ok (.getfield 27, 3) := by decide +kernel
theorem dX8_clause_146 : decode cX8_clause 146 = .ok (.iload_n 1, 1) := by decide +kernel
theorem dX8_clause_147 : decode cX8_clause 147 = .ok (.iload_n 2, 1) := by decide +kernel
theorem dX8_clause_148 : decode cX8_clause 148 = .ok (.iastore, 1) := by decide +kernel
theorem dX8_clause_149 : decode cX8_clause 149 = .ok (.aload_n 0, 1) := by decide +kernel
theorem dX8_clause_150 : decode cX8_clause 150 = .ok (.getfield 30, 3) := by decide +kernel
theorem dX8_clause_153 : decode cX8_clause 153 = .ok (.iload_n 1, 1) := by decide +kernel
theorem dX8_clause_154 : decode cX8_clause 154 = .ok (.bipush 100, 2) := by decide +kernel
theorem dX8_clause_156 : decode cX8_clause 156 = .ok (.iload_n 3, 1) := by decide +kernel
theorem dX8_clause_157 : decode cX8_clause 157 = .ok (.imul, 1) := by decide +kernel
theorem dX8_clause_158 : decode cX8_clause 158 = .ok (.iload 4, 2) := by decide +kernel
theorem dX8_clause_160 : decode cX8_clause 160 = .ok (.iadd, 1) := by decide +kernel
theorem dX8_clause_161 : decode cX8_clause 161 = .ok (.iastore, 1) := by decide +kernel
theorem dX8_clause_162 : decode cX8_clause 162 = .ok (.return_, 1) := by decide +kernel
set_option maxRecDepth 20000 in
theorem ggX8_trace_X8_clause : GoodIn wsX8_trace wsX8_clause := goodIn_r _ [10, 11, 2, 12, 13, 14, 15, 16, 17, 9, 18, 3, 4, 19, 20, 21, 22, 23, 24, 25, 26, 27, 28, 29, 30, 31, 32, 33, 34, 35, 36, 37, 38, 39, 40, 41, 42, 43, 44] (by decide +kernel) (by decide +kernel)
set_option maxRecDepth 20000 in
theorem gX8_trace_X8_clause : GoodIn wsX8_trace (wsV RX8 142 RX8 yX8_clause wsX8_clause) := goodIn_app (goodIn_of _ (by decide +kernel)) ggX8_trace_X8_clause
set_option maxRecDepth 20000 in
theorem ggX8_trace_X8_must : GoodIn wsX8_trace wsX8_must := goodIn_r _ [25, 3, 2, 11, 15, 16, 17, 9, 18, 4, 19, 20, 21, 26, 27, 28, 29, 30, 31, 32, 33, 34, 35, 36, 37, 38, 39, 40, 41, 42, 43, 44] (by decide +kernel) (by decide +kernel)
set_option maxRecDepth 20000 in
theorem gX8_trace_X8_must : GoodIn wsX8_trace (wsV RX8 136 RX8 yX8_must wsX8_must) := goodIn_app (goodIn_of _ (by decide +kernel)) ggX8_trace_X8_must
theorem dX8_trace_0 : decode cX8_trace 0 = .ok (.aload_n 0, 1) := by decide +kernel
theorem dX8_trace_1 : decode cX8_trace 1 = .ok (.getfield 139, 3) := by decide +kernel
theorem dX8_trace_4 : decode cX8_trace 4 = .ok (.bipush 6, 2) := by decide +kernel
theorem dX8_trace_6 : decode cX8_trace 6 = .ok (.if_icmp .ne 6, 3) := by decide +kernel
theorem dX8_trace_9 : decode cX8_trace 9 = .ok (.bipush (-4), 2) := by decide +kernel
theorem dX8_trace_11 : decode cX8_trace 11 = .ok (.ireturn, 1) := by decide +kernel
theorem dX8_trace_12 : decode cX8_trace 12 = .ok (.aload_n 0, 1) := by decide +kernel
theorem dX8_trace_13 : decode cX8_trace 13 = .ok (.iconst 0, 1) := by decide +kernel
theorem dX8_trace_14 : decode cX8_trace 14 = .ok (.putfield 130, 3) := by decide +kernel
theorem dX8_trace_17 : decode cX8_trace 17 = .ok (.aload_n 0, 1) := by decide +kernel
theorem dX8_trace_18 : decode cX8_trace 18 = .ok (.iconst (-1), 1) := by decide +kernel
theorem dX8_trace_19 : decode cX8_trace 19 = .ok (.putfield 127, 3) := by decide +kernel
theorem dX8_trace_22 : decode cX8_trace 22 = .ok (.iconst 0, 1) := by decide +kernel
theorem dX8_trace_23 : decode cX8_trace 23 = .ok (.istore_n 1, 1) := by decide +kernel
theorem dX8_trace_24 : decode cX8_trace 24 = .ok (.aload_n 0, 1) := by decide +kernel
theorem dX8_trace_25 : decode cX8_trace 25 = .ok (.aload_n 0, 1) := by decide +kernel
theorem dX8_trace_26 : decode cX8_trace 26 = .ok (.getfield 139, 3) := by decide +kernel
theorem dX8_trace_29 : decode cX8_trace 29 = .ok (.bipush 20, 2) := by decide +kernel
theorem dX8_trace_31 : decode cX8_trace 31 = .ok (.imul, 1) := by decide +kernel
theorem dX8_trace_32 : decode cX8_trace 32 = .ok (.invokevirtual 142, 3) := by decide +kernel
theorem dX8_trace_35 : decode cX8_trace 35 = .ok (.iinc 1 1, 3) := by decide +kernel
theorem dX8_trace_38 : decode cX8_trace 38 = .ok (.aload_n 0, 1) := by decide +kernel
theorem dX8_trace_39 : decode cX8_trace 39 = .ok (.getfield 127, 3) := by decide +kernel
theorem dX8_trace_42 : decode cX8_trace 42 = .ok (.ifCond .ge 59, 3) := by decide +kernel
theorem dX8_trace_45 : decode cX8_trace 45 = .ok (.aload_n 0, 1) := by decide +kernel
theorem dX8_trace_46 : decode cX8_trace 46 = .ok (.getfield 130, 3) := by decide +kernel
theorem dX8_trace_49 : decode cX8_trace 49 = .ok (.aload_n 0, 1) := by decide +kernel
theorem dX8_trace_50 : decode cX8_trace 50 = .ok (.getfield 124, 3) := by decide +kernel
theorem dX8_trace_53 : decode cX8_trace 53 = .ok (.if_icmp .ge 48, 3) := by decide +kernel
theorem dX8_trace_56 : decode cX8_trace 56 = .ok (.iload_n 1, 1) := by decide +kernel
theorem dX8_trace_57 : decode cX8_trace 57 = .ok (.bipush 20, 2) := by decide +kernel
theorem dX8_trace_59 : decode cX8_trace 59 = .ok (.if_icmp .ne 14, 3) := by decide +kernel
theorem dX8_trace_62 : decode cX8_trace 62 = .ok (.aload_n 0, 1) := by decide +kernel
theorem dX8_trace_63 : decode cX8_trace 63 = .ok (.aload_n 0, 1) := by decide +kernel
theorem dX8_trace_64 : decode cX8_trace 64 = .ok (.getfield 130, 3) := by decide +kernel
theorem dX8_trace_67 : decode cX8_trace 67 = .ok (.putfield 127, 3) := by decide +kernel
theorem dX8_trace_70 : decode cX8_trace 70 = .ok (.goto (-32), 3) := by decide +kernel
theorem dX8_trace_73 : decode cX8_trace 73 = .ok (.aload_n 0, 1) := by decide +kernel
theorem dX8_trace_74 : decode cX8_trace 74 = .ok (.bipush 59, 2) := by decide +kernel
theorem dX8_trace_76 : decode cX8_trace 76 = .ok (.bipush 59, 2) := by decide +kernel
theorem dX8_trace_78 : decode cX8_trace 78 = .ok (.invokevirtual 136, 3) := by decide +kernel
theorem dX8_trace_81 : decode cX8_trace 81 = .ok (.pop, 1) := by decide +kernel
theorem dX8_trace_82 : decode cX8_trace 82 = .ok (.aload_n 0, 1) := by decide +kernel
theorem dX8_trace_83 : decode cX8_trace 83 = .ok (.aload_n 0, 1) := by decide +kernel
theorem dX8_trace_84 : decode cX8_trace 84 = .ok (.getfield 139, 3) := by decide +kernel
theorem dX8_trace_87 : decode cX8_trace 87 = .ok (.bipush 20, 2) := by decide +kernel
theorem dX8_trace_89 : decode cX8_trace 89 = .ok (.imul, 1) := by decide +kernel
theorem dX8_trace_90 : decode cX8_trace 90 = .ok (.iload_n 1, 1) := by decide +kernel
theorem dX8_trace_91 : decode cX8_trace 91 = .ok (.iadd, 1) := by decide +kernel
theorem dX8_trace_92 : decode cX8_trace 92 = .ok (.invokevirtual 142, 3) := by decide +kernel
theorem dX8_trace_95 : decode cX8_trace 95 = .ok (.iinc 1 1, 3) := by decide +kernel
theorem dX8_trace_98 : decode cX8_trace 98 = .ok (.goto (-60), 3) := by decide +kernel
theorem dX8_trace_101 : decode cX8_trace 101 = .ok (.aload_n 0, 1) := by decide +kernel
theorem dX8_trace_102 : decode cX8_trace 102 = .ok (.iconst 0, 1) := by decide +kernel
theorem dX8_trace_103 : decode cX8_trace 103 = .ok (.putfield 124, 3) := by decide +kernel
theorem dX8_trace_106 : decode cX8_trace 106 = .ok (.aload_n 0, 1) := by decide +kernel
theorem dX8_trace_107 : decode cX8_trace 107 = .ok (.getfield 127, 3) := by decide +kernel
theorem dX8_trace_110 : decode cX8_trace 110 = .ok (.ifCond .lt 11, 3) := by decide +kernel
theorem dX8_trace_113 : decode cX8_trace 113 = .ok (.bipush (-10), 2) := by decide +kernel
theorem dX8_trace_115 : decode cX8_trace 115 = .ok (.aload_n 0, 1) := by decide +kernel
theorem dX8_trace_116 : decode cX8_trace 116 = .ok (.getfield 127, 3) := by decide +kernel
theorem dX8_trace_119 : decode cX8_trace 119 = .ok (.isub, 1) := by decide +kernel
theorem dX8_trace_120 : decode cX8_trace 120 = .ok (.ireturn, 1) := by decide +kernel
theorem dX8_trace_121 : decode cX8_trace 121 = .ok (.aload_n 0, 1) := by decide +kernel
theorem dX8_trace_122 : decode cX8_trace 122 = .ok (.getfield 36, 3) := by decide +kernel
theorem dX8_trace_125 : decode cX8_trace 125 = .ok (.aload_n 0, 1) := by decide +kernel
theorem dX8_trace_126 : decode cX8_trace 126 = .ok (.getfield 139, 3) := by decide +kernel
theorem dX8_trace_129 : decode cX8_trace 129 = .ok (.iload_n 1, 1) := by decide +kernel
theorem dX8_trace_130 : decode cX8_trace 130 = .ok (.iastore, 1) := by decide +kernel
theorem dX8_trace_131 : decode cX8_trace 131 = .ok (.aload_n 0, 1) := by decide +kernel
theorem dX8_trace_132 : decode cX8_trace 132 = .ok (.dup, 1) := by decide +kernel
theorem dX8_trace_133 : decode cX8_trace 133 = .ok (.getfield 139, 3) := by decide +kernel
theorem dX8_trace_136 : decode cX8_trace 136 = .ok (.dup_x1, 1) := by decide +kernel
theorem dX8_trace_137 : decode cX8_trace 137 = .ok (.iconst 1, 1) := by decide +kernel
theorem dX8_trace_138 : decode cX8_trace 138 = .ok (.iadd, 1) := by decide +kernel
theorem dX8_trace_139 : decode cX8_trace 139 = .ok (.putfield 139, 3) := by decide +kernel
theorem dX8_trace_142 : decode cX8_trace 142 = .ok (.ireturn, 1) := by decide +kernel
set_option maxRecDepth 20000 in
theorem ggX8_runs_X8_gets : GoodIn wsX8_runs wsX8_gets := goodIn_r _ [10, 1, 11, 12, 13, 9, 14, 15, 16, 17, 18, 19, 20, 21, 22, 23, 24, 25, 26, 27, 28, 29, 30, 31, 32, 33, 34, 35, 36, 37, 38, 39, 40, 41, 42, 43, 44, 57, 58, 59, 60, 61, 62, 63, 64, 65, 66, 67, 68, 69, 70, 71, 72, 73, 74, 75] (by decide +kernel) (by decide +kernel)
set_option maxRecDepth 20000 in
theorem gX8_runs_X8_gets : GoodIn wsX8_runs (wsV RX8 106 RX8 yX8_gets wsX8_gets) := goodIn_app (goodIn_of _ (by decide +kernel)) ggX8_runs_X8_gets
set_option maxRecDepth 20000 in
theorem ggX8_runs_X8_drops : GoodIn wsX8_runs wsX8_drops := goodIn_r _ [48, 1, 19, 20, 21, 9, 22, 57, 58, 59, 60, 61, 62, 63, 64, 65, 66, 67, 68, 69, 70, 71, 72, 73, 74, 75] (by decide +kernel) (by decide +kernel)
set_option maxRecDepth 20000 in
theorem gX8_runs_X8_drops : GoodIn wsX8_runs (wsV RX8 109 RX8 yX8_drops wsX8_drops) := goodIn_app (goodIn_of _ (by decide +kernel)) ggX8_runs_X8_drops
set_option maxRecDepth 20000 in
theorem ggX8_runs_X8_putIn : GoodIn wsX8_runs wsX8_putIn := goodIn_r _ [52, 1, 53, 54, 55, 9, 56, 15, 16, 17, 18, 19, 20, 21, 22, 23, 24, 25, 26, 27, 28, 29, 30, 31, 32, 33, 34, 35, 36, 37, 38, 39, 40, 41, 42, 43, 44, 57, 58, 59, 60, 61, 62, 63, 64, 65, 66, 67, 68, 69, 70, 71, 72, 73, 74, 75] (by decide +kernel) (by decide +kernel)
set_option maxRecDepth 20000 in
theorem gX8_runs_X8_putIn : GoodIn wsX8_runs (wsV RX8 100 RX8 yX8_putIn wsX8_putIn) := goodIn_app (goodIn_of _ (by decide +kernel)) ggX8_runs_X8_putIn
theorem dX8_runs_0 : decode cX8_runs 0 = .ok (.aload_n 0, 1) := by decide +kernel
theorem dX8_runs_1 : decode cX8_runs 1 = .ok (.getfield 11, 3) := by decide +kernel
theorem dX8_runs_4 : decode cX8_runs 4 = .ok (.sipush 3209, 3) := by decide +kernel
theorem dX8_runs_7 : decode cX8_runs 7 = .ok (.iaload, 1) := by decide +kernel
theorem dX8_runs_8 : decode cX8_runs 8 = .ok (.istore_n 2, 1) := by decide +kernel
theorem dX8_runs_9 : decode cX8_runs 9 = .ok (.iload_n 1, 1) := by decide +kernel
theorem dX8_runs_10 : decode cX8_runs 10 = .ok (.bipush 20, 2) := by decide +kernel
theorem dX8_runs_12 : decode cX8_runs 12 = .ok (.imul, 1) := by decide +kernel
theorem dX8_runs_13 : decode cX8_runs 13 = .ok (.istore_n 3, 1) := by decide +kernel
theorem dX8_runs_14 : decode cX8_runs 14 = .ok (.iload_n 3, 1) := by decide +kernel
theorem dX8_runs_15 : decode cX8_runs 15 = .ok (.iload_n 1, 1) := by decide +kernel
theorem dX8_runs_16 : decode cX8_runs 16 = .ok (.bipush 20, 2) := by decide +kernel
theorem dX8_runs_18 : decode cX8_runs 18 = .ok (.imul, 1) := by decide +kernel
theorem dX8_runs_19 : decode cX8_runs 19 = .ok (.aload_n 0, 1) := by decide +kernel
theorem dX8_runs_20 : decode cX8_runs 20 = .ok (.getfield 36, 3) := by decide +kernel
theorem dX8_runs_23 : decode cX8_runs 23 = .ok (.iload_n 1, 1) := by decide +kernel
theorem dX8_runs_24 : decode cX8_runs 24 = .ok (.iaload, 1) := by decide +kernel
theorem dX8_runs_25 : decode cX8_runs 25 = .ok (.iadd, 1) := by decide +kernel
theorem dX8_runs_26 : decode cX8_runs 26 = .ok (.if_icmp .ge 95, 3) := by decide +kernel
theorem dX8_runs_29 : decode cX8_runs 29 = .ok (.aload_n 0, 1) := by decide +kernel
theorem dX8_runs_30 : decode cX8_runs 30 = .ok (.getfield 27, 3) := by decide +kernel
theorem dX8_runs_33 : decode cX8_runs 33 = .ok (.iload_n 3, 1) := by decide +kernel
theorem dX8_runs_34 : decode cX8_runs 34 = .ok (.iaload, 1) := by decide +kernel
theorem dX8_runs_35 : decode cX8_runs 35 = .ok (.bipush 103, 2) := by decide +kernel
theorem dX8_runs_37 : decode cX8_runs 37 = .ok (.if_icmp .ne 17, 3) := by decide +kernel
theorem dX8_runs_40 : decode cX8_runs 40 = .ok (.aload_n 0, 1) := by decide +kernel
theorem dX8_runs_41 : decode cX8_runs 41 = .ok (.aload_n 0, 1) := by decide +kernel
theorem dX8_runs_42 : decode cX8_runs 42 = .ok (.getfield 30, 3) := by decide +kernel
theorem dX8_runs_45 : decode cX8_runs 45 = .ok (.iload_n 3, 1) := by decide +kernel
theorem dX8_runs_46 : decode cX8_runs 46 = .ok (.iaload, 1) := by decide +kernel
theorem dX8_runs_47 : decode cX8_runs 47 = .ok (.invokevirtual 106, 3) := by decide +kernel
theorem dX8_runs_50 : decode cX8_runs 50 = .ok (.pop, 1) := by decide +kernel
theorem dX8_runs_51 : decode cX8_runs 51 = .ok (.goto 64, 3) := by decide +kernel
theorem dX8_runs_54 : decode cX8_runs 54 = .ok (.aload_n 0, 1) := by decide +kernel
theorem dX8_runs_55 : decode cX8_runs 55 = .ok (.getfield 27, 3) := by decide +kernel
theorem dX8_runs_58 : decode cX8_runs 58 = .ok (.iload_n 3, 1) := by decide +kernel
theorem dX8_runs_59 : decode cX8_runs 59 = .ok (.iaload, 1) := by decide +kernel
theorem dX8_runs_60 : decode cX8_runs 60 = .ok (.bipush 120, 2) := by decide +kernel
theorem dX8_runs_62 : decode cX8_runs 62 = .ok (.if_icmp .ne 17, 3) := by decide +kernel
theorem dX8_runs_65 : decode cX8_runs 65 = .ok (.aload_n 0, 1) := by decide +kernel
theorem dX8_runs_66 : decode cX8_runs 66 = .ok (.aload_n 0, 1) := by decide +kernel
theorem dX8_runs_67 : decode cX8_runs 67 = .ok (.getfield 30, 3) := by decide +kernel
theorem dX8_runs_70 : decode cX8_runs 70 = .ok (.iload_n 3, 1) := by decide +kernel
theorem dX8_runs_71 : decode cX8_runs 71 = .ok (.iaload, 1) := by decide +kernel
theorem dX8_runs_72 : decode cX8_runs 72 = .ok (.invokevirtual 109, 3) := by decide +kernel
theorem dX8_runs_75 : decode cX8_runs 75 = .ok (.pop, 1) := by decide +kernel
theorem dX8_runs_76 : decode cX8_runs 76 = .ok (.goto 39, 3) := by decide +kernel
theorem dX8_runs_79 : decode cX8_runs 79 = .ok (.aload_n 0, 1) := by decide +kernel
theorem dX8_runs_80 : decode cX8_runs 80 = .ok (.getfield 33, 3) := by decide +kernel
theorem dX8_runs_83 : decode cX8_runs 83 = .ok (.iload_n 3, 1) := by decide +kernel
theorem dX8_runs_84 : decode cX8_runs 84 = .ok (.iaload, 1) := by decide +kernel
theorem dX8_runs_85 : decode cX8_runs 85 = .ok (.aload_n 0, 1) := by decide +kernel
theorem dX8_runs_86 : decode cX8_runs 86 = .ok (.getfield 11, 3) := by decide +kernel
theorem dX8_runs_89 : decode cX8_runs 89 = .ok (.sipush 3200, 3) := by decide +kernel
theorem dX8_runs_92 : decode cX8_runs 92 = .ok (.iaload, 1) := by decide +kernel
theorem dX8_runs_93 : decode cX8_runs 93 = .ok (.if_icmp .gt 22, 3) := by decide +kernel
theorem dX8_runs_96 : decode cX8_runs 96 = .ok (.aload_n 0, 1) := by decide +kernel
theorem dX8_runs_97 : decode cX8_runs 97 = .ok (.aload_n 0, 1) := by decide +kernel
theorem dX8_runs_98 : decode cX8_runs 98 = .ok (.getfield 30, 3) := by decide +kernel
theorem dX8_runs_101 : decode cX8_runs 101 = .ok (.iload_n 3, 1) := by decide +kernel
theorem dX8_runs_102 : decode cX8_runs 102 = .ok (.iaload, 1) := by decide +kernel
theorem dX8_runs_103 : decode cX8_runs 103 = .ok (.iconst 0, 1) := by decide +kernel
theorem dX8_runs_104 : decode cX8_runs 104 = .ok (.aload_n 0, 1) := by decide +kernel
theorem dX8_runs_105 : decode cX8_runs 105 = .ok (.getfield 33, 3) := by decide +kernel
theorem dX8_runs_108 : decode cX8_runs 108 = .ok (.iload_n 3, 1) := by decide +kernel
theorem dX8_runs_109 : decode cX8_runs 109 = .ok (.iaload, 1) := by decide +kernel
theorem dX8_runs_110 : decode cX8_runs 110 = .ok (.iconst 1, 1) := by decide +kernel
theorem dX8_runs_111 : decode cX8_runs 111 = .ok (.invokevirtual 100, 3) := by decide +kernel
theorem dX8_runs_114 : decode cX8_runs 114 = .ok (.pop, 1) := by decide +kernel
theorem dX8_runs_115 : decode cX8_runs 115 = .ok (.iinc 3 1, 3) := by decide +kernel
theorem dX8_runs_118 : decode cX8_runs 118 = .ok (.goto (-104), 3) := by decide +kernel
theorem dX8_runs_121 : decode cX8_runs 121 = .ok (.aload_n 0, 1) := by decide +kernel
theorem dX8_runs_122 : decode cX8_runs 122 = .ok (.getfield 11, 3) := by decide +kernel
theorem dX8_runs_125 : decode cX8_runs 125 = .ok (.sipush 3209, 3) := by decide +kernel
theorem dX8_runs_128 : decode cX8_runs 128 = .ok (.iaload, 1) := by decide +kernel
theorem dX8_runs_129 : decode cX8_runs 129 = .ok (.iload_n 2, 1) := by decide +kernel
theorem dX8_runs_130 : decode cX8_runs 130 = .ok (.isub, 1) := by decide +kernel
theorem dX8_runs_131 : decode cX8_runs 131 = .ok (.ireturn, 1) := by decide +kernel
set_option maxRecDepth 20000 in
theorem ggX8_isTrace_X8_in : GoodIn wsX8_isTrace wsX8_in := goodIn_r _ [5] (by decide +kernel) (by decide +kernel)
set_option maxRecDepth 20000 in
theorem gX8_isTrace_X8_in : GoodIn wsX8_isTrace (va_wsS RX8 54 yX8_in wsX8_in) := goodIn_app (goodIn_of _ (by decide +kernel)) ggX8_isTrace_X8_in
theorem dX8_isTrace_0 : decode cX8_isTrace 0 = .ok (.iload_n 1, 1) := by decide +kernel
theorem dX8_isTrace_1 : decode cX8_isTrace 1 = .ok (.iconst 0, 1) := by decide +kernel
theorem dX8_isTrace_2 : decode cX8_isTrace 2 = .ok (.aload_n 0, 1) := by decide +kernel
theorem dX8_isTrace_3 : decode cX8_isTrace 3 = .ok (.getfield 139, 3) := by decide +kernel
theorem dX8_isTrace_6 : decode cX8_isTrace 6 = .ok (.iconst 1, 1) := by decide +kernel
theorem dX8_isTrace_7 : decode cX8_isTrace 7 = .ok (.isub, 1) := by decide +kernel
theorem dX8_isTrace_8 : decode cX8_isTrace 8 = .ok (.invokestatic 54, 3) := by decide +kernel
theorem dX8_isTrace_11 : decode cX8_isTrace 11 = .ok (.ireturn, 1) := by decide +kernel
set_option maxRecDepth 20000 in
theorem ggX8_run_X8_isTrace : GoodIn wsX8_run wsX8_isTrace := goodIn_r _ [5, 6, 7, 8, 4, 9, 69, 70, 71, 72, 73, 74, 75, 76, 77, 78, 79, 80, 81, 82, 83, 84, 85, 86, 87] (by decide +kernel) (by decide +kernel)
set_option maxRecDepth 20000 in
theorem gX8_run_X8_isTrace : GoodIn wsX8_run (wsV RX8 145 RX8 yX8_isTrace wsX8_isTrace) := goodIn_app (goodIn_of _ (by decide +kernel)) ggX8_run_X8_isTrace
set_option maxRecDepth 20000 in
theorem ggX8_run_X8_runs : GoodIn wsX8_run wsX8_runs := goodIn_r _ [13, 14, 15, 16, 17, 18, 19, 20, 21, 4, 22, 23, 24, 25, 26, 27, 28, 29, 30, 31, 32, 33, 34, 35, 36, 37, 38, 39, 40, 41, 42, 43, 44, 45, 46, 47, 48, 49, 50, 51, 52, 53, 54, 55, 56, 57, 58, 59, 60, 61, 62, 63, 64, 65, 66, 67, 68, 69, 70, 71, 72, 73, 74, 75, 76, 77, 78, 79, 80, 81, 82, 83, 84, 85, 86, 87] (by decide +kernel) (by decide +kernel)
set_option maxRecDepth 20000 in
theorem gX8_run_X8_runs : GoodIn wsX8_run (wsV RX8 148 RX8 yX8_runs wsX8_runs) := goodIn_app (goodIn_of _ (by decide +kernel)) ggX8_run_X8_runs
theorem dX8_run_0 : decode cX8_run 0 = .ok (.aload_n 0, 1) := by decide +kernel
theorem dX8_run_1 : decode cX8_run 1 = .ok (.iload_n 1, 1) := by decide +kernel
theorem dX8_run_2 : decode cX8_run 2 = .ok (.invokevirtual 145, 3) := by decide +kernel
theorem dX8_run_5 : decode cX8_run 5 = .ok (.ifCond .eq 11, 3) := by decide +kernel
theorem dX8_run_8 : decode cX8_run 8 = .ok (.aload_n 0, 1) := by decide +kernel
theorem dX8_run_9 : decode cX8_run 9 = .ok (.iload_n 1, 1) := by decide +kernel
theorem dX8_run_10 : decode cX8_run 10 = .ok (.invokevirtual 148, 3) := by decide +kernel
theorem dX8_run_13 : decode cX8_run 13 = .ok (.goto 4, 3) := by decide +kernel
theorem dX8_run_16 : decode cX8_run 16 = .ok (.iconst (-1), 1) := by decide +kernel
theorem dX8_run_17 : decode cX8_run 17 = .ok (.ireturn, 1) := by decide +kernel
set_option maxRecDepth 20000 in
theorem ggX8_would_X8_isTrace : GoodIn wsX8_would wsX8_isTrace := goodIn_r _ [7, 8, 9, 10, 6, 11, 73, 74, 75, 76, 77, 78, 79, 80, 81, 82, 83, 84, 85, 86, 87, 88, 89, 90, 91] (by decide +kernel) (by decide +kernel)
set_option maxRecDepth 20000 in
theorem gX8_would_X8_isTrace : GoodIn wsX8_would (wsV RX8 145 RX8 yX8_isTrace wsX8_isTrace) := goodIn_app (goodIn_of _ (by decide +kernel)) ggX8_would_X8_isTrace
set_option maxRecDepth 20000 in
theorem ggX8_would_X8_in : GoodIn wsX8_would wsX8_in := goodIn_r _ [11] (by decide +kernel) (by decide +kernel)
set_option maxRecDepth 20000 in
theorem gX8_would_X8_in : GoodIn wsX8_would (va_wsS RX8 54 yX8_in wsX8_in) := goodIn_app (goodIn_of _ (by decide +kernel)) ggX8_would_X8_in
set_option maxRecDepth 20000 in
theorem ggX8_would_X8_copy : GoodIn wsX8_would wsX8_copy := goodIn_r _ [14] (by decide +kernel) (by decide +kernel)
set_option maxRecDepth 20000 in
theorem gX8_would_X8_copy : GoodIn wsX8_would (va_wsS RX8 120 yX8_copy wsX8_copy) := goodIn_app (goodIn_of _ (by decide +kernel)) ggX8_would_X8_copy
set_option maxRecDepth 20000 in
theorem ggX8_would_X8_runs : GoodIn wsX8_would wsX8_runs := goodIn_r _ [18, 1, 19, 20, 21, 22, 23, 24, 25, 6, 26, 27, 28, 29, 30, 31, 32, 33, 34, 35, 36, 37, 38, 39, 40, 41, 42, 43, 44, 45, 46, 47, 48, 49, 50, 51, 52, 53, 54, 55, 56, 57, 58, 59, 60, 61, 62, 63, 64, 65, 66, 67, 68, 69, 70, 71, 72, 73, 74, 75, 76, 77, 78, 79, 80, 81, 82, 83, 84, 85, 86, 87, 88, 89, 90, 91] (by decide +kernel) (by decide +kernel)
set_option maxRecDepth 20000 in
theorem gX8_would_X8_runs : GoodIn wsX8_would (wsV RX8 148 RX8 yX8_runs wsX8_runs) := goodIn_app (goodIn_of _ (by decide +kernel)) ggX8_would_X8_runs
theorem dX8_would_0 : decode cX8_would 0 = .ok (.aload_n 0, 1) := by decide +kernel
theorem dX8_would_1 : decode cX8_would 1 = .ok (.iload_n 1, 1) := by decide +kernel
theorem dX8_would_2 : decode cX8_would 2 = .ok (.invokevirtual 145, 3) := by decide +kernel
theorem dX8_would_5 : decode cX8_would 5 = .ok (.ifCond .eq 12, 3) := by decide +kernel
theorem dX8_would_8 : decode cX8_would 8 = .ok (.iload_n 2, 1) := by decide +kernel
theorem dX8_would_9 : decode cX8_would 9 = .ok (.iconst 0, 1) := by decide +kernel
theorem dX8_would_10 : decode cX8_would 10 = .ok (.iconst 5, 1) := by decide +kernel
theorem dX8_would_11 : decode cX8_would 11 = .ok (.invokestatic 54, 3) := by decide +kernel
theorem dX8_would_14 : decode cX8_would 14 = .ok (.ifCond .ne 5, 3) := by decide +kernel
theorem dX8_would_17 : decode cX8_would 17 = .ok (.iconst (-1), 1) := by decide +kernel
theorem dX8_would_18 : decode cX8_would 18 = .ok (.ireturn, 1) := by decide +kernel
theorem dX8_would_19 : decode cX8_would 19 = .ok (.aload_n 0, 1) := by decide +kernel
theorem dX8_would_20 : decode cX8_would 20 = .ok (.getfield 11, 3) := by decide +kernel
theorem dX8_would_23 : decode cX8_would 23 = .ok (.aload_n 0, 1) := by decide +kernel
theorem dX8_would_24 : decode cX8_would 24 = .ok (.getfield 15, 3) := by decide +kernel
theorem dX8_would_27 : decode cX8_would 27 = .ok (.invokestatic 120, 3) := by decide +kernel
theorem dX8_would_30 : decode cX8_would 30 = .ok (.aload_n 0, 1) := by decide +kernel
theorem dX8_would_31 : decode cX8_would 31 = .ok (.iload_n 1, 1) := by decide +kernel
theorem dX8_would_32 : decode cX8_would 32 = .ok (.invokevirtual 148, 3) := by decide +kernel
theorem dX8_would_35 : decode cX8_would 35 = .ok (.pop, 1) := by decide +kernel
theorem dX8_would_36 : decode cX8_would 36 = .ok (.iload_n 2, 1) := by decide +kernel
theorem dX8_would_37 : decode cX8_would 37 = .ok (.tableswitch 81 3 5 #[27, 39, 60], 27) := by decide +kernel
theorem dX8_would_64 : decode cX8_would 64 = .ok (.aload_n 0, 1) := by decide +kernel
theorem dX8_would_65 : decode cX8_would 65 = .ok (.getfield 11, 3) := by decide +kernel
theorem dX8_would_68 : decode cX8_would 68 = .ok (.sipush 3201, 3) := by decide +kernel
theorem dX8_would_71 : decode cX8_would 71 = .ok (.iaload, 1) := by decide +kernel
theorem dX8_would_72 : decode cX8_would 72 = .ok (.istore_n 3, 1) := by decide +kernel
theorem dX8_would_73 : decode cX8_would 73 = .ok (.goto 67, 3) := by decide +kernel
theorem dX8_would_76 : decode cX8_would 76 = .ok (.aload_n 0, 1) := by decide +kernel
theorem dX8_would_77 : decode cX8_would 77 = .ok (.getfield 11, 3) := by decide +kernel
theorem dX8_would_80 : decode cX8_would 80 = .ok (.sipush 3205, 3) := by decide +kernel
theorem dX8_would_83 : decode cX8_would 83 = .ok (.iaload, 1) := by decide +kernel
theorem dX8_would_84 : decode cX8_would 84 = .ok (.aload_n 0, 1) := by decide +kernel
theorem dX8_would_85 : decode cX8_would 85 = .ok (.getfield 11, 3) := by decide +kernel
theorem dX8_would_88 : decode cX8_would 88 = .ok (.sipush 3206, 3) := by decide +kernel
theorem dX8_would_91 : decode cX8_would 91 = .ok (.iaload, 1) := by decide +kernel
theorem dX8_would_92 : decode cX8_would 92 = .ok (.iadd, 1) := by decide +kernel
theorem dX8_would_93 : decode cX8_would 93 = .ok (.istore_n 3, 1) := by decide +kernel
theorem dX8_would_94 : decode cX8_would 94 = .ok (.goto 46, 3) := by decide +kernel
theorem dX8_would_97 : decode cX8_would 97 = .ok (.aload_n 0, 1) := by decide +kernel
theorem dX8_would_98 : decode cX8_would 98 = .ok (.getfield 11, 3) := by decide +kernel
theorem dX8_would_101 : decode cX8_would 101 = .ok (.sipush 3214, 3) := by decide +kernel
theorem dX8_would_104 : decode cX8_would 104 = .ok (.iaload, 1) := by decide +kernel
theorem dX8_would_105 : decode cX8_would 105 = .ok (.aload_n 0, 1) := by decide +kernel
theorem dX8_would_106 : decode cX8_would 106 = .ok (.getfield 15, 3) := by decide +kernel
theorem dX8_would_109 : decode cX8_would 109 = .ok (.sipush 3214, 3) := by decide +kernel
theorem dX8_would_112 : decode cX8_would 112 = .ok (.iaload, 1) := by decide +kernel
theorem dX8_would_113 : decode cX8_would 113 = .ok (.isub, 1) := by decide +kernel
theorem dX8_would_114 : decode cX8_would 114 = .ok (.istore_n 3, 1) := by decide +kernel
theorem dX8_would_115 : decode cX8_would 115 = .ok (.goto 25, 3) := by decide +kernel
theorem dX8_would_118 : decode cX8_would 118 = .ok (.aload_n 0, 1) := by decide +kernel
theorem dX8_would_119 : decode cX8_would 119 = .ok (.getfield 11, 3) := by decide +kernel
theorem dX8_would_122 : decode cX8_would 122 = .ok (.sipush 3209, 3) := by decide +kernel
theorem dX8_would_125 : decode cX8_would 125 = .ok (.iload_n 2, 1) := by decide +kernel
theorem dX8_would_126 : decode cX8_would 126 = .ok (.iadd, 1) := by decide +kernel
theorem dX8_would_127 : decode cX8_would 127 = .ok (.iaload, 1) := by decide +kernel
theorem dX8_would_128 : decode cX8_would 128 = .ok (.aload_n 0, 1) := by decide +kernel
theorem dX8_would_129 : decode cX8_would 129 = .ok (.getfield 15, 3) := by decide +kernel
theorem dX8_would_132 : decode cX8_would 132 = .ok (.sipush 3209, 3) := by decide +kernel
theorem dX8_would_135 : decode cX8_would 135 = .ok (.iload_n 2, 1) := by decide +kernel
theorem dX8_would_136 : decode cX8_would 136 = .ok (.iadd, 1) := by decide +kernel
theorem dX8_would_137 : decode cX8_would 137 = .ok (.iaload, 1) := by decide +kernel
theorem dX8_would_138 : decode cX8_would 138 = .ok (.isub, 1) := by decide +kernel
theorem dX8_would_139 : decode cX8_would 139 = .ok (.istore_n 3, 1) := by decide +kernel
theorem dX8_would_140 : decode cX8_would 140 = .ok (.aload_n 0, 1) := by decide +kernel
theorem dX8_would_141 : decode cX8_would 141 = .ok (.getfield 15, 3) := by decide +kernel
theorem dX8_would_144 : decode cX8_would 144 = .ok (.aload_n 0, 1) := by decide +kernel
theorem dX8_would_145 : decode cX8_would 145 = .ok (.getfield 11, 3) := by decide +kernel
theorem dX8_would_148 : decode cX8_would 148 = .ok (.invokestatic 120, 3) := by decide +kernel
theorem dX8_would_151 : decode cX8_would 151 = .ok (.iload_n 3, 1) := by decide +kernel
theorem dX8_would_152 : decode cX8_would 152 = .ok (.ireturn, 1) := by decide +kernel
set_option maxRecDepth 20000 in
theorem ggX8_need_X8_isTrace : GoodIn wsX8_need wsX8_isTrace := goodIn_r _ [7, 8, 9, 10, 6, 11, 77, 78, 79, 80, 81, 82, 83, 84, 85, 86, 87, 88, 89, 90, 91, 92, 93, 94, 95] (by decide +kernel) (by decide +kernel)
set_option maxRecDepth 20000 in
theorem gX8_need_X8_isTrace : GoodIn wsX8_need (wsV RX8 145 RX8 yX8_isTrace wsX8_isTrace) := goodIn_app (goodIn_of _ (by decide +kernel)) ggX8_need_X8_isTrace
set_option maxRecDepth 20000 in
theorem ggX8_need_X8_in : GoodIn wsX8_need wsX8_in := goodIn_r _ [11] (by decide +kernel) (by decide +kernel)
set_option maxRecDepth 20000 in
theorem gX8_need_X8_in : GoodIn wsX8_need (va_wsS RX8 54 yX8_in wsX8_in) := goodIn_app (goodIn_of _ (by decide +kernel)) ggX8_need_X8_in
set_option maxRecDepth 20000 in
theorem ggX8_need_X8_copy : GoodIn wsX8_need wsX8_copy := goodIn_r _ [14] (by decide +kernel) (by decide +kernel)
set_option maxRecDepth 20000 in
theorem gX8_need_X8_copy : GoodIn wsX8_need (va_wsS RX8 120 yX8_copy wsX8_copy) := goodIn_app (goodIn_of _ (by decide +kernel)) ggX8_need_X8_copy
set_option maxRecDepth 20000 in
theorem ggX8_need_X8_capacity : GoodIn wsX8_need wsX8_capacity := goodIn_r _ [18, 1, 19, 20, 21, 6, 22, 23, 24, 25, 26, 27, 28, 29, 30, 31, 32, 33, 34, 35, 36, 37, 38, 39, 40, 41, 42, 43, 44, 77, 78, 79, 80, 81, 82, 83, 84, 85, 86, 87, 88, 89, 90, 91, 92, 93, 94, 95] (by decide +kernel) (by decide +kernel)
set_option maxRecDepth 20000 in
theorem gX8_need_X8_capacity : GoodIn wsX8_need (wsV RX8 93 RX8 yX8_capacity wsX8_capacity) := goodIn_app (goodIn_of _ (by decide +kernel)) ggX8_need_X8_capacity
set_option maxRecDepth 20000 in
theorem ggX8_need_X8_runs : GoodIn wsX8_need wsX8_runs := goodIn_r _ [48, 1, 49, 50, 51, 52, 53, 54, 55, 6, 56, 57, 58, 59, 60, 61, 62, 63, 64, 31, 32, 33, 34, 19, 20, 21, 22, 23, 24, 25, 26, 27, 28, 29, 30, 35, 36, 37, 38, 39, 40, 41, 42, 43, 44, 65, 66, 67, 68, 69, 70, 71, 72, 73, 74, 75, 76, 77, 78, 79, 80, 81, 82, 83, 84, 85, 86, 87, 88, 89, 90, 91, 92, 93, 94, 95] (by decide +kernel) (by decide +kernel)
set_option maxRecDepth 20000 in
theorem gX8_need_X8_runs : GoodIn wsX8_need (wsV RX8 148 RX8 yX8_runs wsX8_runs) := goodIn_app (goodIn_of _ (by decide +kernel)) ggX8_need_X8_runs
theorem dX8_need_0 : decode cX8_need 0 = .ok (.aload_n 0, 1) := by decide +kernel
theorem dX8_need_1 : decode cX8_need 1 = .ok (.iload_n 1, 1) := by decide +kernel
theorem dX8_need_2 : decode cX8_need 2 = .ok (.invokevirtual 145, 3) := by decide +kernel
theorem dX8_need_5 : decode cX8_need 5 = .ok (.ifCond .ne 5, 3) := by decide +kernel
theorem dX8_need_8 : decode cX8_need 8 = .ok (.iconst (-1), 1) := by decide +kernel
theorem dX8_need_9 : decode cX8_need 9 = .ok (.ireturn, 1) := by decide +kernel
theorem dX8_need_10 : decode cX8_need 10 = .ok (.iload_n 2, 1) := by decide +kernel
theorem dX8_need_11 : decode cX8_need 11 = .ok (.iconst 0, 1) := by decide +kernel
theorem dX8_need_12 : decode cX8_need 12 = .ok (.bipush 20, 2) := by decide +kernel
theorem dX8_need_14 : decode cX8_need 14 = .ok (.invokestatic 54, 3) := by decide +kernel
theorem dX8_need_17 : decode cX8_need 17 = .ok (.ifCond .ne 6, 3) := by decide +kernel
theorem dX8_need_20 : decode cX8_need 20 = .ok (.bipush (-2), 2) := by decide +kernel
theorem dX8_need_22 : decode cX8_need 22 = .ok (.ireturn, 1) := by decide +kernel
theorem dX8_need_23 : decode cX8_need 23 = .ok (.aload_n 0, 1) := by decide +kernel
theorem dX8_need_24 : decode cX8_need 24 = .ok (.getfield 11, 3) := by decide +kernel
theorem dX8_need_27 : decode cX8_need 27 = .ok (.aload_n 0, 1) := by decide +kernel
theorem dX8_need_28 : decode cX8_need 28 = .ok (.getfield 15, 3) := by decide +kernel
theorem dX8_need_31 : decode cX8_need 31 = .ok (.invokestatic 120, 3) := by decide +kernel
theorem dX8_need_34 : decode cX8_need 34 = .ok (.bipush (-5), 2) := by decide +kernel
theorem dX8_need_36 : decode cX8_need 36 = .ok (.istore_n 3, 1) := by decide +kernel
theorem dX8_need_37 : decode cX8_need 37 = .ok (.iconst 1, 1) := by decide +kernel
theorem dX8_need_38 : decode cX8_need 38 = .ok (.istore 4, 2) := by decide +kernel
theorem dX8_need_40 : decode cX8_need 40 = .ok (.iload 4, 2) := by decide +kernel
theorem dX8_need_42 : decode cX8_need 42 = .ok (.bipush 60, 2) := by decide +kernel
theorem dX8_need_44 : decode cX8_need 44 = .ok (.if_icmp .gt 46, 3) := by decide +kernel
theorem dX8_need_47 : decode cX8_need 47 = .ok (.iload_n 3, 1) := by decide +kernel
theorem dX8_need_48 : decode cX8_need 48 = .ok (.ifCond .ge 42, 3) := by decide +kernel
theorem dX8_need_51 : decode cX8_need 51 = .ok (.aload_n 0, 1) := by decide +kernel
theorem dX8_need_52 : decode cX8_need 52 = .ok (.iload 4, 2) := by decide +kernel
theorem dX8_need_54 : decode cX8_need 54 = .ok (.invokevirtual 93, 3) := by decide +kernel
theorem dX8_need_57 : decode cX8_need 57 = .ok (.aload_n 0, 1) := by decide +kernel
theorem dX8_need_58 : decode cX8_need 58 = .ok (.iload_n 1, 1) := by decide +kernel
theorem dX8_need_59 : decode cX8_need 59 = .ok (.invokevirtual 148, 3) := by decide +kernel
theorem dX8_need_62 : decode cX8_need 62 = .ok (.iload_n 2, 1) := by decide +kernel
theorem dX8_need_63 : decode cX8_need 63 = .ok (.if_icmp .lt 8, 3) := by decide +kernel
theorem dX8_need_66 : decode cX8_need 66 = .ok (.iload 4, 2) := by decide +kernel
theorem dX8_need_68 : decode cX8_need 68 = .ok (.goto 4, 3) := by decide +kernel
theorem dX8_need_71 : decode cX8_need 71 = .ok (.iload_n 3, 1) := by decide +kernel
theorem dX8_need_72 : decode cX8_need 72 = .ok (.istore_n 3, 1) := by decide +kernel
theorem dX8_need_73 : decode cX8_need 73 = .ok (.aload_n 0, 1) := by decide +kernel
theorem dX8_need_74 : decode cX8_need 74 = .ok (.getfield 15, 3) := by decide +kernel
theorem dX8_need_77 : decode cX8_need 77 = .ok (.aload_n 0, 1) := by decide +kernel
theorem dX8_need_78 : decode cX8_need 78 = .ok (.getfield 11, 3) := by decide +kernel
theorem dX8_need_81 : decode cX8_need 81 = .ok (.invokestatic 120, 3) := by decide +kernel
theorem dX8_need_84 : decode cX8_need 84 = .ok (.iinc 4 1, 3) := by decide +kernel
theorem dX8_need_87 : decode cX8_need 87 = .ok (.goto (-47), 3) := by decide +kernel
theorem dX8_need_90 : decode cX8_need 90 = .ok (.iload_n 3, 1) := by decide +kernel
theorem dX8_need_91 : decode cX8_need 91 = .ok (.ireturn, 1) := by decide +kernel
theorem dX8_common_0 : decode cX8_common 0 = .ok (.iload_n 0, 1) := by decide +kernel
theorem dX8_common_1 : decode cX8_common 1 = .ok (.istore_n 2, 1) := by decide +kernel
theorem dX8_common_2 : decode cX8_common 2 = .ok (.iload_n 1, 1) := by decide +kernel
theorem dX8_common_3 : decode cX8_common 3 = .ok (.istore_n 3, 1) := by decide +kernel
theorem dX8_common_4 : decode cX8_common 4 = .ok (.iload_n 3, 1) := by decide +kernel
theorem dX8_common_5 : decode cX8_common 5 = .ok (.ifCond .eq 16, 3) := by decide +kernel
theorem dX8_common_8 : decode cX8_common 8 = .ok (.iload_n 2, 1) := by decide +kernel
theorem dX8_common_9 : decode cX8_common 9 = .ok (.iload_n 3, 1) := by decide +kernel
theorem dX8_common_10 : decode cX8_common 10 = .ok (.irem, 1) := by decide +kernel
theorem dX8_common_11 : decode cX8_common 11 = .ok (.istore 4, 2) := by decide +kernel
theorem dX8_common_13 : decode cX8_common 13 = .ok (.iload_n 3, 1) := by decide +kernel
theorem dX8_common_14 : decode cX8_common 14 = .ok (.istore_n 2, 1) := by decide +kernel
theorem dX8_common_15 : decode cX8_common 15 = .ok (.iload 4, 2) := by decide +kernel
theorem dX8_common_17 : decode cX8_common 17 = .ok (.istore_n 3, 1) := by decide +kernel
theorem dX8_common_18 : decode cX8_common 18 = .ok (.goto (-14), 3) := by decide +kernel
theorem dX8_common_21 : decode cX8_common 21 = .ok (.iload_n 2, 1) := by decide +kernel
theorem dX8_common_22 : decode cX8_common 22 = .ok (.ireturn, 1) := by decide +kernel
set_option maxRecDepth 20000 in
theorem ggX8_part_X8_common : GoodIn wsX8_part wsX8_common := goodIn_r _ [4] (by decide +kernel) (by decide +kernel)
set_option maxRecDepth 20000 in
theorem gX8_part_X8_common : GoodIn wsX8_part (va_wsS RX8 151 yX8_common wsX8_common) := goodIn_app (goodIn_of _ (by decide +kernel)) ggX8_part_X8_common
theorem dX8_part_0 : decode cX8_part 0 = .ok (.iload_n 0, 1) := by decide +kernel
theorem dX8_part_1 : decode cX8_part 1 = .ok (.iload_n 1, 1) := by decide +kernel
theorem dX8_part_2 : decode cX8_part 2 = .ok (.invokestatic 151, 3) := by decide +kernel
theorem dX8_part_5 : decode cX8_part 5 = .ok (.istore_n 3, 1) := by decide +kernel
theorem dX8_part_6 : decode cX8_part 6 = .ok (.iload_n 2, 1) := by decide +kernel
theorem dX8_part_7 : decode cX8_part 7 = .ok (.ifCond .ne 10, 3) := by decide +kernel
theorem dX8_part_10 : decode cX8_part 10 = .ok (.iload_n 0, 1) := by decide +kernel
theorem dX8_part_11 : decode cX8_part 11 = .ok (.iload_n 3, 1) := by decide +kernel
theorem dX8_part_12 : decode cX8_part 12 = .ok (.idiv, 1) := by decide +kernel
theorem dX8_part_13 : decode cX8_part 13 = .ok (.i2l, 1) := by decide +kernel
theorem dX8_part_14 : decode cX8_part 14 = .ok (.goto 7, 3) := by decide +kernel
theorem dX8_part_17 : decode cX8_part 17 = .ok (.iload_n 1, 1) := by decide +kernel
theorem dX8_part_18 : decode cX8_part 18 = .ok (.iload_n 3, 1) := by decide +kernel
theorem dX8_part_19 : decode cX8_part 19 = .ok (.idiv, 1) := by decide +kernel
theorem dX8_part_20 : decode cX8_part 20 = .ok (.i2l, 1) := by decide +kernel
theorem dX8_part_21 : decode cX8_part 21 = .ok (.lreturn, 1) := by decide +kernel
set_option maxRecDepth 20000 in
theorem ggX8_odds_X8_isTrace : GoodIn wsX8_odds wsX8_isTrace := goodIn_r _ [8, 9, 10, 11, 7, 12, 80, 81, 82, 83, 84, 85, 86, 87, 88, 89, 90, 91, 92, 93, 94, 95, 96, 97, 98] (by decide +kernel) (by decide +kernel)
set_option maxRecDepth 20000 in
theorem gX8_odds_X8_isTrace : GoodIn wsX8_odds (wsV RX8 145 RX8 yX8_isTrace wsX8_isTrace) := goodIn_app (goodIn_of _ (by decide +kernel)) ggX8_odds_X8_isTrace
set_option maxRecDepth 20000 in
theorem ggX8_odds_X8_in : GoodIn wsX8_odds wsX8_in := goodIn_r _ [12] (by decide +kernel) (by decide +kernel)
set_option maxRecDepth 20000 in
theorem gX8_odds_X8_in : GoodIn wsX8_odds (va_wsS RX8 54 yX8_in wsX8_in) := goodIn_app (goodIn_of _ (by decide +kernel)) ggX8_odds_X8_in
set_option maxRecDepth 20000 in
theorem ggX8_odds_X8_copy : GoodIn wsX8_odds wsX8_copy := goodIn_r _ [15] (by decide +kernel) (by decide +kernel)
set_option maxRecDepth 20000 in
theorem gX8_odds_X8_copy : GoodIn wsX8_odds (va_wsS RX8 120 yX8_copy wsX8_copy) := goodIn_app (goodIn_of _ (by decide +kernel)) ggX8_odds_X8_copy
set_option maxRecDepth 20000 in
theorem ggX8_odds_X8_trim : GoodIn wsX8_odds wsX8_trim := goodIn_r _ [19, 2, 20, 21, 22, 7, 23, 24, 25, 26, 27, 28, 29, 30, 31, 32, 33, 34, 35, 36, 37, 38, 39, 40, 41, 80, 81, 82, 83, 84, 85, 86, 87, 88, 89, 90, 91, 92, 93, 94, 95, 96, 97, 98] (by decide +kernel) (by decide +kernel)
set_option maxRecDepth 20000 in
theorem gX8_odds_X8_trim : GoodIn wsX8_odds (wsV RX8 86 RX8 yX8_trim wsX8_trim) := goodIn_app (goodIn_of _ (by decide +kernel)) ggX8_odds_X8_trim
set_option maxRecDepth 20000 in
theorem ggX8_odds_X8_runs : GoodIn wsX8_odds wsX8_runs := goodIn_r _ [45, 2, 46, 47, 48, 49, 50, 51, 52, 7, 53, 54, 55, 56, 57, 58, 59, 60, 61, 28, 29, 30, 31, 16, 17, 18, 19, 20, 21, 22, 23, 24, 25, 26, 27, 32, 33, 34, 35, 36, 37, 38, 39, 40, 41, 62, 63, 64, 65, 66, 67, 68, 69, 70, 71, 72, 73, 80, 81, 82, 83, 84, 85, 86, 87, 88, 89, 90, 91, 92, 93, 94, 95, 96, 97, 98] (by decide +kernel) (by decide +kernel)
set_option maxRecDepth 20000 in
theorem gX8_odds_X8_runs : GoodIn wsX8_odds (wsV RX8 148 RX8 yX8_runs wsX8_runs) := goodIn_app (goodIn_of _ (by decide +kernel)) ggX8_odds_X8_runs
set_option maxRecDepth 20000 in
theorem ggX8_odds_X8_part : GoodIn wsX8_odds wsX8_part := goodIn_r _ [76, 77, 78, 7, 79] (by decide +kernel) (by decide +kernel)
set_option maxRecDepth 20000 in
theorem gX8_odds_X8_part : GoodIn wsX8_odds (va_wsS RX8 154 yX8_part wsX8_part) := goodIn_app (goodIn_of _ (by decide +kernel)) ggX8_odds_X8_part
theorem dX8_odds_0 : decode cX8_odds 0 = .ok (.aload_n 0, 1) := by decide +kernel
theorem dX8_odds_1 : decode cX8_odds 1 = .ok (.iload_n 1, 1) := by decide +kernel
theorem dX8_odds_2 : decode cX8_odds 2 = .ok (.invokevirtual 145, 3) := by decide +kernel
theorem dX8_odds_5 : decode cX8_odds 5 = .ok (.ifCond .eq 22, 3) := by decide +kernel
theorem dX8_odds_8 : decode cX8_odds 8 = .ok (.iload_n 2, 1) := by decide +kernel
theorem dX8_odds_9 : decode cX8_odds 9 = .ok (.iconst 0, 1) := by decide +kernel
theorem dX8_odds_10 : decode cX8_odds 10 = .ok (.bipush 20, 2) := by decide +kernel
theorem dX8_odds_12 : decode cX8_odds 12 = .ok (.invokestatic 54, 3) := by decide +kernel
theorem dX8_odds_15 : decode cX8_odds 15 = .ok (.ifCond .eq 12, 3) := by decide +kernel
theorem dX8_odds_18 : decode cX8_odds 18 = .ok (.iload_n 3, 1) := by decide +kernel
theorem dX8_odds_19 : decode cX8_odds 19 = .ok (.iconst 0, 1) := by decide +kernel
theorem dX8_odds_20 : decode cX8_odds 20 = .ok (.iconst 1, 1) := by decide +kernel
theorem dX8_odds_21 : decode cX8_odds 21 = .ok (.invokestatic 54, 3) := by decide +kernel
theorem dX8_odds_24 : decode cX8_odds 24 = .ok (.ifCond .ne 7, 3) := by decide +kernel
theorem dX8_odds_27 : decode cX8_odds 27 = .ok (.ldc2_w 104, 3) := by decide +kernel
theorem dX8_odds_30 : decode cX8_odds 30 = .ok (.lreturn, 1) := by decide +kernel
theorem dX8_odds_31 : decode cX8_odds 31 = .ok (.aload_n 0, 1) := by decide +kernel
theorem dX8_odds_32 : decode cX8_odds 32 = .ok (.getfield 11, 3) := by decide +kernel
theorem dX8_odds_35 : decode cX8_odds 35 = .ok (.aload_n 0, 1) := by decide +kernel
theorem dX8_odds_36 : decode cX8_odds 36 = .ok (.getfield 15, 3) := by decide +kernel
theorem dX8_odds_39 : decode cX8_odds 39 = .ok (.invokestatic 120, 3) := by decide +kernel
theorem dX8_odds_42 : decode cX8_odds 42 = .ok (.iconst 0, 1) := by decide +kernel
theorem dX8_odds_43 : decode cX8_odds 43 = .ok (.istore 4, 2) := by decide +kernel
theorem dX8_odds_45 : decode cX8_odds 45 = .ok (.iconst 0, 1) := by decide +kernel
theorem dX8_odds_46 : decode cX8_odds 46 = .ok (.istore 5, 2) := by decide +kernel
theorem dX8_odds_48 : decode cX8_odds 48 = .ok (.iload 5, 2) := by decide +kernel
theorem dX8_odds_50 : decode cX8_odds 50 = .ok (.aload_n 0, 1) := by decide +kernel
theorem dX8_odds_51 : decode cX8_odds 51 = .ok (.getfield 15, 3) := by decide +kernel
theorem dX8_odds_54 : decode cX8_odds 54 = .ok (.sipush 3200, 3) := by decide +kernel
theorem dX8_odds_57 : decode cX8_odds 57 = .ok (.iaload, 1) := by decide +kernel
theorem dX8_odds_58 : decode cX8_odds 58 = .ok (.if_icmp .gt 53, 3) := by decide +kernel
theorem dX8_odds_61 : decode cX8_odds 61 = .ok (.aload_n 0, 1) := by decide +kernel
theorem dX8_odds_62 : decode cX8_odds 62 = .ok (.getfield 11, 3) := by decide +kernel
theorem dX8_odds_65 : decode cX8_odds 65 = .ok (.sipush 3201, 3) := by decide +kernel
theorem dX8_odds_68 : decode cX8_odds 68 = .ok (.iload 5, 2) := by decide +kernel
theorem dX8_odds_70 : decode cX8_odds 70 = .ok (.iastore, 1) := by decide +kernel
theorem dX8_odds_71 : decode cX8_odds 71 = .ok (.aload_n 0, 1) := by decide +kernel
theorem dX8_odds_72 : decode cX8_odds 72 = .ok (.invokevirtual 86, 3) := by decide +kernel
theorem dX8_odds_75 : decode cX8_odds 75 = .ok (.iload 4, 2) := by decide +kernel
theorem dX8_odds_77 : decode cX8_odds 77 = .ok (.aload_n 0, 1) := by decide +kernel
theorem dX8_odds_78 : decode cX8_odds 78 = .ok (.iload_n 1, 1) := by decide +kernel
theorem dX8_odds_79 : decode cX8_odds 79 = .ok (.invokevirtual 148, 3) := by decide +kernel
theorem dX8_odds_82 : decode cX8_odds 82 = .ok (.iload_n 2, 1) := by decide +kernel
theorem dX8_odds_83 : decode cX8_odds 83 = .ok (.if_icmp .lt 7, 3) := by decide +kernel
theorem dX8_odds_86 : decode cX8_odds 86 = .ok (.iconst 1, 1) := by decide +kernel
theorem dX8_odds_87 : decode cX8_odds 87 = .ok (.goto 4, 3) := by decide +kernel
theorem dX8_odds_90 : decode cX8_odds 90 = .ok (.iconst 0, 1) := by decide +kernel
theorem dX8_odds_91 : decode cX8_odds 91 = .ok (.iadd, 1) := by decide +kernel
theorem dX8_odds_92 : decode cX8_odds 92 = .ok (.istore 4, 2) := by decide +kernel
theorem dX8_odds_94 : decode cX8_odds 94 = .ok (.aload_n 0, 1) := by decide +kernel
theorem dX8_odds_95 : decode cX8_odds 95 = .ok (.getfield 15, 3) := by decide +kernel
theorem dX8_odds_98 : decode cX8_odds 98 = .ok (.aload_n 0, 1) := by decide +kernel
theorem dX8_odds_99 : decode cX8_odds 99 = .ok (.getfield 11, 3) := by decide +kernel
theorem dX8_odds_102 : decode cX8_odds 102 = .ok (.invokestatic 120, 3) := by decide +kernel
theorem dX8_odds_105 : decode cX8_odds 105 = .ok (.iinc 5 1, 3) := by decide +kernel
theorem dX8_odds_108 : decode cX8_odds 108 = .ok (.goto (-60), 3) := by decide +kernel
theorem dX8_odds_111 : decode cX8_odds 111 = .ok (.iload 4, 2) := by decide +kernel
theorem dX8_odds_113 : decode cX8_odds 113 = .ok (.aload_n 0, 1) := by decide +kernel
theorem dX8_odds_114 : decode cX8_odds 114 = .ok (.getfield 11, 3) := by decide +kernel
theorem dX8_odds_117 : decode cX8_odds 117 = .ok (.sipush 3200, 3) := by decide +kernel
theorem dX8_odds_120 : decode cX8_odds 120 = .ok (.iaload, 1) := by decide +kernel
theorem dX8_odds_121 : decode cX8_odds 121 = .ok (.iconst 1, 1) := by decide +kernel
theorem dX8_odds_122 : decode cX8_odds 122 = .ok (.iadd, 1) := by decide +kernel
theorem dX8_odds_123 : decode cX8_odds 123 = .ok (.iload_n 3, 1) := by decide +kernel
theorem dX8_odds_124 : decode cX8_odds 124 = .ok (.invokestatic 154, 3) := by decide +kernel
theorem dX8_odds_127 : decode cX8_odds 127 = .ok (.lreturn, 1) := by decide +kernel
theorem dX8_manyAt_0 : decode cX8_manyAt 0 = .ok (.iconst 0, 1) := by decide +kernel
theorem dX8_manyAt_1 : decode cX8_manyAt 1 = .ok (.istore_n 2, 1) := by decide +kernel
theorem dX8_manyAt_2 : decode cX8_manyAt 2 = .ok (.iconst 0, 1) := by decide +kernel
theorem dX8_manyAt_3 : decode cX8_manyAt 3 = .ok (.istore_n 3, 1) := by decide +kernel
theorem dX8_manyAt_4 : decode cX8_manyAt 4 = .ok (.iload_n 3, 1) := by decide +kernel
theorem dX8_manyAt_5 : decode cX8_manyAt 5 = .ok (.sipush 400, 3) := by decide +kernel
theorem dX8_manyAt_8 : decode cX8_manyAt 8 = .ok (.if_icmp .ge 29, 3) := by decide +kernel
theorem dX8_manyAt_11 : decode cX8_manyAt 11 = .ok (.iload_n 2, 1) := by decide +kernel
theorem dX8_manyAt_12 : decode cX8_manyAt 12 = .ok (.aload_n 0, 1) := by decide +kernel
theorem dX8_manyAt_13 : decode cX8_manyAt 13 = .ok (.getfield 11, 3) := by decide +kernel
theorem dX8_manyAt_16 : decode cX8_manyAt 16 = .ok (.iconst 0, 1) := by decide +kernel
theorem dX8_manyAt_17 : decode cX8_manyAt 17 = .ok (.iload_n 3, 1) := by decide +kernel
theorem dX8_manyAt_18 : decode cX8_manyAt 18 = .ok (.iadd, 1) := by decide +kernel
theorem dX8_manyAt_19 : decode cX8_manyAt 19 = .ok (.iaload, 1) := by decide +kernel
theorem dX8_manyAt_20 : decode cX8_manyAt 20 = .ok (.iload_n 1, 1) := by decide +kernel
theorem dX8_manyAt_21 : decode cX8_manyAt 21 = .ok (.if_icmp .ne 7, 3) := by decide +kernel
theorem dX8_manyAt_24 : decode cX8_manyAt 24 = .ok (.iconst 1, 1) := by decide +kernel
theorem dX8_manyAt_25 : decode cX8_manyAt 25 = .ok (.goto 4, 3) := by decide +kernel
theorem dX8_manyAt_28 : decode cX8_manyAt 28 = .ok (.iconst 0, 1) := by decide +kernel
theorem dX8_manyAt_29 : decode cX8_manyAt 29 = .ok (.iadd, 1) := by decide +kernel
theorem dX8_manyAt_30 : decode cX8_manyAt 30 = .ok (.istore_n 2, 1) := by decide +kernel
theorem dX8_manyAt_31 : decode cX8_manyAt 31 = .ok (.iinc 3 1, 3) := by decide +kernel
theorem dX8_manyAt_34 : decode cX8_manyAt 34 = .ok (.goto (-30), 3) := by decide +kernel
theorem dX8_manyAt_37 : decode cX8_manyAt 37 = .ok (.iload_n 2, 1) := by decide +kernel
theorem dX8_manyAt_38 : decode cX8_manyAt 38 = .ok (.ireturn, 1) := by decide +kernel
set_option maxRecDepth 20000 in
theorem ggX8_mean_X8_in : GoodIn wsX8_mean wsX8_in := goodIn_r _ [6] (by decide +kernel) (by decide +kernel)
set_option maxRecDepth 20000 in
theorem gX8_mean_X8_in : GoodIn wsX8_mean (va_wsS RX8 54 yX8_in wsX8_in) := goodIn_app (goodIn_of _ (by decide +kernel)) ggX8_mean_X8_in
set_option maxRecDepth 20000 in
theorem ggX8_mean_X8_manyAt : GoodIn wsX8_mean wsX8_manyAt := goodIn_r _ [10, 2, 17, 18, 19, 20, 21, 22, 23, 24, 25, 26, 27, 28, 29, 30, 31, 32, 33, 34, 35] (by decide +kernel) (by decide +kernel)
set_option maxRecDepth 20000 in
theorem gX8_mean_X8_manyAt : GoodIn wsX8_mean (wsV RX8 158 RX8 yX8_manyAt wsX8_manyAt) := goodIn_app (goodIn_of _ (by decide +kernel)) ggX8_mean_X8_manyAt
set_option maxRecDepth 20000 in
theorem ggX8_mean_X8_part : GoodIn wsX8_mean wsX8_part := goodIn_r _ [13, 14, 15, 5, 16] (by decide +kernel) (by decide +kernel)
set_option maxRecDepth 20000 in
theorem gX8_mean_X8_part : GoodIn wsX8_mean (va_wsS RX8 154 yX8_part wsX8_part) := goodIn_app (goodIn_of _ (by decide +kernel)) ggX8_mean_X8_part
theorem dX8_mean_0 : decode cX8_mean 0 = .ok (.iload_n 1, 1) := by decide +kernel
theorem dX8_mean_1 : decode cX8_mean 1 = .ok (.iconst 1, 1) := by decide +kernel
theorem dX8_mean_2 : decode cX8_mean 2 = .ok (.iconst 2, 1) := by decide +kernel
theorem dX8_mean_3 : decode cX8_mean 3 = .ok (.invokestatic 54, 3) := by decide +kernel
theorem dX8_mean_6 : decode cX8_mean 6 = .ok (.ifCond .eq 20, 3) := by decide +kernel
theorem dX8_mean_9 : decode cX8_mean 9 = .ok (.iload_n 2, 1) := by decide +kernel
theorem dX8_mean_10 : decode cX8_mean 10 = .ok (.iconst 0, 1) := by decide +kernel
theorem dX8_mean_11 : decode cX8_mean 11 = .ok (.iconst 1, 1) := by decide +kernel
theorem dX8_mean_12 : decode cX8_mean 12 = .ok (.invokestatic 54, 3) := by decide +kernel
theorem dX8_mean_15 : decode cX8_mean 15 = .ok (.ifCond .eq 11, 3) := by decide +kernel
theorem dX8_mean_18 : decode cX8_mean 18 = .ok (.aload_n 0, 1) := by decide +kernel
theorem dX8_mean_19 : decode cX8_mean 19 = .ok (.iload_n 1, 1) := by decide +kernel
theorem dX8_mean_20 : decode cX8_mean 20 = .ok (.invokevirtual 158, 3) := by decide +kernel
theorem dX8_mean_23 : decode cX8_mean 23 = .ok (.ifCond .ne 7, 3) := by decide +kernel
theorem dX8_mean_26 : decode cX8_mean 26 = .ok (.ldc2_w 104, 3) := by decide +kernel
theorem dX8_mean_29 : decode cX8_mean 29 = .ok (.lreturn, 1) := by decide +kernel
theorem dX8_mean_30 : decode cX8_mean 30 = .ok (.iconst 0, 1) := by decide +kernel
theorem dX8_mean_31 : decode cX8_mean 31 = .ok (.istore_n 3, 1) := by decide +kernel
theorem dX8_mean_32 : decode cX8_mean 32 = .ok (.iconst 0, 1) := by decide +kernel
theorem dX8_mean_33 : decode cX8_mean 33 = .ok (.istore 4, 2) := by decide +kernel
theorem dX8_mean_35 : decode cX8_mean 35 = .ok (.iload 4, 2) := by decide +kernel
theorem dX8_mean_37 : decode cX8_mean 37 = .ok (.sipush 400, 3) := by decide +kernel
theorem dX8_mean_40 : decode cX8_mean 40 = .ok (.if_icmp .ge 40, 3) := by decide +kernel
theorem dX8_mean_43 : decode cX8_mean 43 = .ok (.iload_n 3, 1) := by decide +kernel
theorem dX8_mean_44 : decode cX8_mean 44 = .ok (.aload_n 0, 1) := by decide +kernel
theorem dX8_mean_45 : decode cX8_mean 45 = .ok (.getfield 11, 3) := by decide +kernel
theorem dX8_mean_48 : decode cX8_mean 48 = .ok (.iconst 0, 1) := by decide +kernel
theorem dX8_mean_49 : decode cX8_mean 49 = .ok (.iload 4, 2) := by decide +kernel
theorem dX8_mean_51 : decode cX8_mean 51 = .ok (.iadd, 1) := by decide +kernel
theorem dX8_mean_52 : decode cX8_mean 52 = .ok (.iaload, 1) := by decide +kernel
theorem dX8_mean_53 : decode cX8_mean 53 = .ok (.iload_n 1, 1) := by decide +kernel
theorem dX8_mean_54 : decode cX8_mean 54 = .ok (.if_icmp .ne 17, 3) := by decide +kernel
theorem dX8_mean_57 : decode cX8_mean 57 = .ok (.aload_n 0, 1) := by decide +kernel
theorem dX8_mean_58 : decode cX8_mean 58 = .ok (.getfield 11, 3) := by decide +kernel
theorem dX8_mean_61 : decode cX8_mean 61 = .ok (.sipush 1200, 3) := by decide +kernel
theorem dX8_mean_64 : decode cX8_mean 64 = .ok (.iload 4, 2) := by decide +kernel
theorem dX8_mean_66 : decode cX8_mean 66 = .ok (.iadd, 1) := by decide +kernel
theorem dX8_mean_67 : decode cX8_mean 67 = .ok (.iaload, 1) := by decide +kernel
theorem dX8_mean_68 : decode cX8_mean 68 = .ok (.goto 4, 3) := by decide +kernel
theorem dX8_mean_71 : decode cX8_mean 71 = .ok (.iconst 0, 1) := by decide +kernel
theorem dX8_mean_72 : decode cX8_mean 72 = .ok (.iadd, 1) := by decide +kernel
theorem dX8_mean_73 : decode cX8_mean 73 = .ok (.istore_n 3, 1) := by decide +kernel
theorem dX8_mean_74 : decode cX8_mean 74 = .ok (.iinc 4 1, 3) := by decide +kernel
theorem dX8_mean_77 : decode cX8_mean 77 = .ok (.goto (-42), 3) := by decide +kernel
theorem dX8_mean_80 : decode cX8_mean 80 = .ok (.iload_n 3, 1) := by decide +kernel
theorem dX8_mean_81 : decode cX8_mean 81 = .ok (.aload_n 0, 1) := by decide +kernel
theorem dX8_mean_82 : decode cX8_mean 82 = .ok (.iload_n 1, 1) := by decide +kernel
theorem dX8_mean_83 : decode cX8_mean 83 = .ok (.invokevirtual 158, 3) := by decide +kernel
theorem dX8_mean_86 : decode cX8_mean 86 = .ok (.iload_n 2, 1) := by decide +kernel
theorem dX8_mean_87 : decode cX8_mean 87 = .ok (.invokestatic 154, 3) := by decide +kernel
theorem dX8_mean_90 : decode cX8_mean 90 = .ok (.lreturn, 1) := by decide +kernel
set_option maxRecDepth 20000 in
theorem ggX8_book_X8_isKey : GoodIn wsX8_book wsX8_isKey := goodIn_r _ [5, 6, 7, 4, 8] (by decide +kernel) (by decide +kernel)
set_option maxRecDepth 20000 in
theorem gX8_book_X8_isKey : GoodIn wsX8_book (va_wsS RX8 96 yX8_isKey wsX8_isKey) := goodIn_app (goodIn_of _ (by decide +kernel)) ggX8_book_X8_isKey
set_option maxRecDepth 20000 in
theorem ggX8_book_X8_in : GoodIn wsX8_book wsX8_in := goodIn_r _ [8] (by decide +kernel) (by decide +kernel)
set_option maxRecDepth 20000 in
theorem gX8_book_X8_in : GoodIn wsX8_book (va_wsS RX8 54 yX8_in wsX8_in) := goodIn_app (goodIn_of _ (by decide +kernel)) ggX8_book_X8_in
theorem dX8_book_0 : decode cX8_book 0 = .ok (.iload_n 1, 1) := by decide +kernel
theorem dX8_book_1 : decode cX8_book 1 = .ok (.iconst (-1), 1) := by decide +kernel
theorem dX8_book_2 : decode cX8_book 2 = .ok (.if_icmp .ne 14, 3) := by decide +kernel
theorem dX8_book_5 : decode cX8_book 5 = .ok (.aload_n 0, 1) := by decide +kernel
theorem dX8_book_6 : decode cX8_book 6 = .ok (.getfield 11, 3) := by decide +kernel
theorem dX8_book_9 : decode cX8_book 9 = .ok (.sipush 3236, 3) := by decide +kernel
theorem dX8_book_12 : decode cX8_book 12 = .ok (.iconst 0, 1) := by decide +kernel
theorem dX8_book_13 : decode cX8_book 13 = .ok (.iastore, 1) := by decide +kernel
theorem dX8_book_14 : decode cX8_book 14 = .ok (.iconst 0, 1) := by decide +kernel
theorem dX8_book_15 : decode cX8_book 15 = .ok (.ireturn, 1) := by decide +kernel
theorem dX8_book_16 : decode cX8_book 16 = .ok (.iload_n 1, 1) := by decide +kernel
theorem dX8_book_17 : decode cX8_book 17 = .ok (.iload_n 2, 1) := by decide +kernel
theorem dX8_book_18 : decode cX8_book 18 = .ok (.invokestatic 96, 3) := by decide +kernel
theorem dX8_book_21 : decode cX8_book 21 = .ok (.ifCond .ne 5, 3) := by decide +kernel
theorem dX8_book_24 : decode cX8_book 24 = .ok (.iconst (-1), 1) := by decide +kernel
theorem dX8_book_25 : decode cX8_book 25 = .ok (.ireturn, 1) := by decide +kernel
theorem dX8_book_26 : decode cX8_book 26 = .ok (.iload_n 3, 1) := by decide +kernel
theorem dX8_book_27 : decode cX8_book 27 = .ok (.iconst 0, 1) := by decide +kernel
theorem dX8_book_28 : decode cX8_book 28 = .ok (.iconst 4, 1) := by decide +kernel
theorem dX8_book_29 : decode cX8_book 29 = .ok (.invokestatic 54, 3) := by decide +kernel
theorem dX8_book_32 : decode cX8_book 32 = .ok (.ifCond .ne 6, 3) := by decide +kernel
theorem dX8_book_35 : decode cX8_book 35 = .ok (.bipush (-2), 2) := by decide +kernel
theorem dX8_book_37 : decode cX8_book 37 = .ok (.ireturn, 1) := by decide +kernel
theorem dX8_book_38 : decode cX8_book 38 = .ok (.aload_n 0, 1) := by decide +kernel
theorem dX8_book_39 : decode cX8_book 39 = .ok (.getfield 11, 3) := by decide +kernel
theorem dX8_book_42 : decode cX8_book 42 = .ok (.sipush 3236, 3) := by decide +kernel
theorem dX8_book_45 : decode cX8_book 45 = .ok (.iaload, 1) := by decide +kernel
theorem dX8_book_46 : decode cX8_book 46 = .ok (.bipush 8, 2) := by decide +kernel
theorem dX8_book_48 : decode cX8_book 48 = .ok (.if_icmp .ne 6, 3) := by decide +kernel
theorem dX8_book_51 : decode cX8_book 51 = .ok (.bipush (-4), 2) := by decide +kernel
theorem dX8_book_53 : decode cX8_book 53 = .ok (.ireturn, 1) := by decide +kernel
theorem dX8_book_54 : decode cX8_book 54 = .ok (.aload_n 0, 1) := by decide +kernel
theorem dX8_book_55 : decode cX8_book 55 = .ok (.getfield 11, 3) := by decide +kernel
theorem dX8_book_58 : decode cX8_book 58 = .ok (.sipush 3237, 3) := by decide +kernel
theorem dX8_book_61 : decode cX8_book 61 = .ok (.iconst 2, 1) := by decide +kernel
theorem dX8_book_62 : decode cX8_book 62 = .ok (.aload_n 0, 1) := by decide +kernel
theorem dX8_book_63 : decode cX8_book 63 = .ok (.getfield 11, 3) := by decide +kernel
theorem dX8_book_66 : decode cX8_book 66 = .ok (.sipush 3236, 3) := by decide +kernel
theorem dX8_book_69 : decode cX8_book 69 = .ok (.iaload, 1) := by decide +kernel
theorem dX8_book_70 : decode cX8_book 70 = .ok (.imul, 1) := by decide +kernel
theorem dX8_book_71 : decode cX8_book 71 = .ok (.iadd, 1) := by decide +kernel
theorem dX8_book_72 : decode cX8_book 72 = .ok (.bipush 100, 2) := by decide +kernel
theorem dX8_book_74 : decode cX8_book 74 = .ok (.iload_n 1, 1) := by decide +kernel
theorem dX8_book_75 : decode cX8_book 75 = .ok (.imul, 1) := by decide +kernel
theorem dX8_book_76 : decode cX8_book 76 = .ok (.iload_n 2, 1) := by decide +kernel
theorem dX8_book_77 : decode cX8_book 77 = .ok (.iadd, 1) := by decide +kernel
theorem dX8_book_78 : decode cX8_book 78 = .ok (.iastore, 1) := by decide +kernel
theorem dX8_book_79 : decode cX8_book 79 = .ok (.aload_n 0, 1) := by decide +kernel
theorem dX8_book_80 : decode cX8_book 80 = .ok (.getfield 11, 3) := by decide +kernel
theorem dX8_book_83 : decode cX8_book 83 = .ok (.sipush 3237, 3) := by decide +kernel
theorem dX8_book_86 : decode cX8_book 86 = .ok (.iconst 2, 1) := by decide +kernel
theorem dX8_book_87 : decode cX8_book 87 = .ok (.aload_n 0, 1) := by decide +kernel
theorem dX8_book_88 : decode cX8_book 88 = .ok (.getfield 11, 3) := by decide +kernel
theorem dX8_book_91 : decode cX8_book 91 = .ok (.sipush 3236, 3) := by decide +kernel
theorem dX8_book_94 : decode cX8_book 94 = .ok (.iaload, 1) := by decide +kernel
theorem dX8_book_95 : decode cX8_book 95 = .ok (.imul, 1) := by decide +kernel
theorem dX8_book_96 : decode cX8_book 96 = .ok (.iadd, 1) := by decide +kernel
theorem dX8_book_97 : decode cX8_book 97 = .ok (.iconst 1, 1) := by decide +kernel
theorem dX8_book_98 : decode cX8_book 98 = .ok (.iadd, 1) := by decide +kernel
theorem dX8_book_99 : decode cX8_book 99 = .ok (.iload_n 3, 1) := by decide +kernel
theorem dX8_book_100 : decode cX8_book 100 = .ok (.iastore, 1) := by decide +kernel
theorem dX8_book_101 : decode cX8_book 101 = .ok (.aload_n 0, 1) := by decide +kernel
theorem dX8_book_102 : decode cX8_book 102 = .ok (.getfield 11, 3) := by decide +kernel
theorem dX8_book_105 : decode cX8_book 105 = .ok (.sipush 3236, 3) := by decide +kernel
theorem dX8_book_108 : decode cX8_book 108 = .ok (.dup2, 1) := by decide +kernel
theorem dX8_book_109 : decode cX8_book 109 = .ok (.iaload, 1) := by decide +kernel
theorem dX8_book_110 : decode cX8_book 110 = .ok (.iconst 1, 1) := by decide +kernel
theorem dX8_book_111 : decode cX8_book 111 = .ok (.iadd, 1) := by decide +kernel
theorem dX8_book_112 : decode cX8_book 112 = .ok (.iastore, 1) := by decide +kernel
theorem dX8_book_113 : decode cX8_book 113 = .ok (.aload_n 0, 1) := by decide +kernel
theorem dX8_book_114 : decode cX8_book 114 = .ok (.getfield 11, 3) := by decide +kernel
theorem dX8_book_117 : decode cX8_book 117 = .ok (.sipush 3236, 3) := by decide +kernel
theorem dX8_book_120 : decode cX8_book 120 = .ok (.iaload, 1) := by decide +kernel
theorem dX8_book_121 : decode cX8_book 121 = .ok (.ireturn, 1) := by decide +kernel
theorem dX8_looked_0 : decode cX8_looked 0 = .ok (.iconst 0, 1) := by decide +kernel
theorem dX8_looked_1 : decode cX8_looked 1 = .ok (.istore_n 1, 1) := by decide +kernel
theorem dX8_looked_2 : decode cX8_looked 2 = .ok (.iload_n 1, 1) := by decide +kernel
theorem dX8_looked_3 : decode cX8_looked 3 = .ok (.aload_n 0, 1) := by decide +kernel
theorem dX8_looked_4 : decode cX8_looked 4 = .ok (.getfield 11, 3) := by decide +kernel
theorem dX8_looked_7 : decode cX8_looked 7 = .ok (.sipush 3236, 3) := by decide +kernel
theorem dX8_looked_10 : decode cX8_looked 10 = .ok (.iaload, 1) := by decide +kernel
theorem dX8_looked_11 : decode cX8_looked 11 = .ok (.if_icmp .ge 47, 3) := by decide +kernel
theorem dX8_looked_14 : decode cX8_looked 14 = .ok (.aload_n 0, 1) := by decide +kernel
theorem dX8_looked_15 : decode cX8_looked 15 = .ok (.getfield 11, 3) := by decide +kernel
theorem dX8_looked_18 : decode cX8_looked 18 = .ok (.iconst 0, 1) := by decide +kernel
theorem dX8_looked_19 : decode cX8_looked 19 = .ok (.aload_n 0, 1) := by decide +kernel
theorem dX8_looked_20 : decode cX8_looked 20 = .ok (.getfield 11, 3) := by decide +kernel
theorem dX8_looked_23 : decode cX8_looked 23 = .ok (.sipush 3237, 3) := by decide +kernel
theorem dX8_looked_26 : decode cX8_looked 26 = .ok (.iconst 2, 1) := by decide +kernel
theorem dX8_looked_27 : decode cX8_looked 27 = .ok (.iload_n 1, 1) := by decide +kernel
theorem dX8_looked_28 : decode cX8_looked 28 = .ok (.imul, 1) := by decide +kernel
theorem dX8_looked_29 : decode cX8_looked 29 = .ok (.iadd, 1) := by decide +kernel
theorem dX8_looked_30 : decode cX8_looked 30 = .ok (.iaload, 1) := by decide +kernel
theorem dX8_looked_31 : decode cX8_looked 31 = .ok (.iadd, 1) := by decide +kernel
theorem dX8_looked_32 : decode cX8_looked 32 = .ok (.iaload, 1) := by decide +kernel
theorem dX8_looked_33 : decode cX8_looked 33 = .ok (.aload_n 0, 1) := by decide +kernel
theorem dX8_looked_34 : decode cX8_looked 34 = .ok (.getfield 11, 3) := by decide +kernel
theorem dX8_looked_37 : decode cX8_looked 37 = .ok (.sipush 3237, 3) := by decide +kernel
theorem dX8_looked_40 : decode cX8_looked 40 = .ok (.iconst 2, 1) := by decide +kernel
theorem dX8_looked_41 : decode cX8_looked 41 = .ok (.iload_n 1, 1) := by decide +kernel
theorem dX8_looked_42 : decode cX8_looked 42 = .ok (.imul, 1) := by decide +kernel
theorem dX8_looked_43 : decode cX8_looked 43 = .ok (.iadd, 1) := by decide +kernel
theorem dX8_looked_44 : decode cX8_looked 44 = .ok (.iconst 1, 1) := by decide +kernel
theorem dX8_looked_45 : decode cX8_looked 45 = .ok (.iadd, 1) := by decide +kernel
theorem dX8_looked_46 : decode cX8_looked 46 = .ok (.iaload, 1) := by decide +kernel
theorem dX8_looked_47 : decode cX8_looked 47 = .ok (.if_icmp .eq 5, 3) := by decide +kernel
theorem dX8_looked_50 : decode cX8_looked 50 = .ok (.iload_n 1, 1) := by decide +kernel
theorem dX8_looked_51 : decode cX8_looked 51 = .ok (.ireturn, 1) := by decide +kernel
theorem dX8_looked_52 : decode cX8_looked 52 = .ok (.iinc 1 1, 3) := by decide +kernel
theorem dX8_looked_55 : decode cX8_looked 55 = .ok (.goto (-53), 3) := by decide +kernel
theorem dX8_looked_58 : decode cX8_looked 58 = .ok (.bipush (-5), 2) := by decide +kernel
theorem dX8_looked_60 : decode cX8_looked 60 = .ok (.ireturn, 1) := by decide +kernel
set_option maxRecDepth 20000 in
theorem ggX8_isTape_X8_in : GoodIn wsX8_isTape wsX8_in := goodIn_r _ [4] (by decide +kernel) (by decide +kernel)
set_option maxRecDepth 20000 in
theorem gX8_isTape_X8_in : GoodIn wsX8_isTape (va_wsS RX8 54 yX8_in wsX8_in) := goodIn_app (goodIn_of _ (by decide +kernel)) ggX8_isTape_X8_in
theorem dX8_isTape_0 : decode cX8_isTape 0 = .ok (.iload_n 0, 1) := by decide +kernel
theorem dX8_isTape_1 : decode cX8_isTape 1 = .ok (.iconst 0, 1) := by decide +kernel
theorem dX8_isTape_2 : decode cX8_isTape 2 = .ok (.iconst 5, 1) := by decide +kernel
theorem dX8_isTape_3 : decode cX8_isTape 3 = .ok (.invokestatic 54, 3) := by decide +kernel
theorem dX8_isTape_6 : decode cX8_isTape 6 = .ok (.ireturn, 1) := by decide +kernel
set_option maxRecDepth 20000 in
theorem ggX8_judge_X8_isTape : GoodIn wsX8_judge wsX8_isTape := goodIn_r _ [7, 8, 9, 6, 10] (by decide +kernel) (by decide +kernel)
set_option maxRecDepth 20000 in
theorem gX8_judge_X8_isTape : GoodIn wsX8_judge (va_wsS RX8 161 yX8_isTape wsX8_isTape) := goodIn_app (goodIn_of _ (by decide +kernel)) ggX8_judge_X8_isTape
set_option maxRecDepth 20000 in
theorem ggX8_judge_X8_manyAt : GoodIn wsX8_judge wsX8_manyAt := goodIn_r _ [14, 15, 24, 25, 26, 27, 28, 29, 30, 31, 32, 33, 34, 35, 36, 37, 38, 39, 40, 41, 42] (by decide +kernel) (by decide +kernel)
set_option maxRecDepth 20000 in
theorem gX8_judge_X8_manyAt : GoodIn wsX8_judge (wsV RX8 158 RX8 yX8_manyAt wsX8_manyAt) := goodIn_app (goodIn_of _ (by decide +kernel)) ggX8_judge_X8_manyAt
set_option maxRecDepth 20000 in
theorem ggX8_judge_X8_keyAt : GoodIn wsX8_judge wsX8_keyAt := goodIn_r _ [19, 15, 20, 21, 22, 6, 23, 24, 25, 26, 27, 28, 29, 30, 31, 32, 33, 34, 35, 36, 37, 38, 39, 40, 41, 42] (by decide +kernel) (by decide +kernel)
set_option maxRecDepth 20000 in
theorem gX8_judge_X8_keyAt : GoodIn wsX8_judge (wsV RX8 116 RX8 yX8_keyAt wsX8_keyAt) := goodIn_app (goodIn_of _ (by decide +kernel)) ggX8_judge_X8_keyAt
theorem dX8_judge_0 : decode cX8_judge 0 = .ok (.iload_n 1, 1) := by decide +kernel
theorem dX8_judge_1 : decode cX8_judge 1 = .ok (.invokestatic 161, 3) := by decide +kernel
theorem dX8_judge_4 : decode cX8_judge 4 = .ok (.ifCond .ne 5, 3) := by decide +kernel
theorem dX8_judge_7 : decode cX8_judge 7 = .ok (.iconst (-1), 1) := by decide +kernel
theorem dX8_judge_8 : decode cX8_judge 8 = .ok (.ireturn, 1) := by decide +kernel
theorem dX8_judge_9 : decode cX8_judge 9 = .ok (.aload_n 0, 1) := by decide +kernel
theorem dX8_judge_10 : decode cX8_judge 10 = .ok (.getfield 39, 3) := by decide +kernel
theorem dX8_judge_13 : decode cX8_judge 13 = .ok (.iload_n 1, 1) := by decide +kernel
theorem dX8_judge_14 : decode cX8_judge 14 = .ok (.iaload, 1) := by decide +kernel
theorem dX8_judge_15 : decode cX8_judge 15 = .ok (.ifCond .lt 16, 3) := by decide +kernel
theorem dX8_judge_18 : decode cX8_judge 18 = .ok (.aload_n 0, 1) := by decide +kernel
theorem dX8_judge_19 : decode cX8_judge 19 = .ok (.getfield 39, 3) := by decide +kernel
theorem dX8_judge_22 : decode cX8_judge 22 = .ok (.iload_n 1, 1) := by decide +kernel
theorem dX8_judge_23 : decode cX8_judge 23 = .ok (.iaload, 1) := by decide +kernel
theorem dX8_judge_24 : decode cX8_judge 24 = .ok (.iconst 1, 1) := by decide +kernel
theorem dX8_judge_25 : decode cX8_judge 25 = .ok (.if_icmp .eq 6, 3) := by decide +kernel
theorem dX8_judge_28 : decode cX8_judge 28 = .ok (.bipush (-12), 2) := by decide +kernel
theorem dX8_judge_30 : decode cX8_judge 30 = .ok (.ireturn, 1) := by decide +kernel
theorem dX8_judge_31 : decode cX8_judge 31 = .ok (.aload_n 0, 1) := by decide +kernel
theorem dX8_judge_32 : decode cX8_judge 32 = .ok (.iconst 1, 1) := by decide +kernel
theorem dX8_judge_33 : decode cX8_judge 33 = .ok (.invokevirtual 158, 3) := by decide +kernel
theorem dX8_judge_36 : decode cX8_judge 36 = .ok (.istore_n 3, 1) := by decide +kernel
theorem dX8_judge_37 : decode cX8_judge 37 = .ok (.iconst 0, 1) := by decide +kernel
theorem dX8_judge_38 : decode cX8_judge 38 = .ok (.istore 4, 2) := by decide +kernel
theorem dX8_judge_40 : decode cX8_judge 40 = .ok (.iload 4, 2) := by decide +kernel
theorem dX8_judge_42 : decode cX8_judge 42 = .ok (.iload_n 3, 1) := by decide +kernel
theorem dX8_judge_43 : decode cX8_judge 43 = .ok (.if_icmp .ge 67, 3) := by decide +kernel
theorem dX8_judge_46 : decode cX8_judge 46 = .ok (.aload_n 0, 1) := by decide +kernel
theorem dX8_judge_47 : decode cX8_judge 47 = .ok (.getfield 39, 3) := by decide +kernel
theorem dX8_judge_50 : decode cX8_judge 50 = .ok (.iload_n 1, 1) := by decide +kernel
theorem dX8_judge_51 : decode cX8_judge 51 = .ok (.iaload, 1) := by decide +kernel
theorem dX8_judge_52 : decode cX8_judge 52 = .ok (.ifCond .lt 20, 3) := by decide +kernel
theorem dX8_judge_55 : decode cX8_judge 55 = .ok (.iload_n 2, 1) := by decide +kernel
theorem dX8_judge_56 : decode cX8_judge 56 = .ok (.ifCond .lt 16, 3) := by decide +kernel
theorem dX8_judge_59 : decode cX8_judge 59 = .ok (.iload_n 2, 1) := by decide +kernel
theorem dX8_judge_60 : decode cX8_judge 60 = .ok (.aload_n 0, 1) := by decide +kernel
theorem dX8_judge_61 : decode cX8_judge 61 = .ok (.getfield 42, 3) := by decide +kernel
theorem dX8_judge_64 : decode cX8_judge 64 = .ok (.iload_n 1, 1) := by decide +kernel
theorem dX8_judge_65 : decode cX8_judge 65 = .ok (.iaload, 1) := by decide +kernel
theorem dX8_judge_66 : decode cX8_judge 66 = .ok (.iload 4, 2) := by decide +kernel
theorem dX8_judge_68 : decode cX8_judge 68 = .ok (.isub, 1) := by decide +kernel
theorem dX8_judge_69 : decode cX8_judge 69 = .ok (.if_icmp .lt 9, 3) := by decide +kernel
theorem dX8_judge_72 : decode cX8_judge 72 = .ok (.bipush 100, 2) := by decide +kernel
theorem dX8_judge_74 : decode cX8_judge 74 = .ok (.iload 4, 2) := by decide +kernel
theorem dX8_judge_76 : decode cX8_judge 76 = .ok (.iadd, 1) := by decide +kernel
theorem dX8_judge_77 : decode cX8_judge 77 = .ok (.ireturn, 1) := by decide +kernel
theorem dX8_judge_78 : decode cX8_judge 78 = .ok (.aload_n 0, 1) := by decide +kernel
theorem dX8_judge_79 : decode cX8_judge 79 = .ok (.getfield 47, 3) := by decide +kernel
theorem dX8_judge_82 : decode cX8_judge 82 = .ok (.iload_n 1, 1) := by decide +kernel
theorem dX8_judge_83 : decode cX8_judge 83 = .ok (.aaload, 1) := by decide +kernel
theorem dX8_judge_84 : decode cX8_judge 84 = .ok (.iload_n 2, 1) := by decide +kernel
theorem dX8_judge_85 : decode cX8_judge 85 = .ok (.iload 4, 2) := by decide +kernel
theorem dX8_judge_87 : decode cX8_judge 87 = .ok (.iadd, 1) := by decide +kernel
theorem dX8_judge_88 : decode cX8_judge 88 = .ok (.laload, 1) := by decide +kernel
theorem dX8_judge_89 : decode cX8_judge 89 = .ok (.aload_n 0, 1) := by decide +kernel
theorem dX8_judge_90 : decode cX8_judge 90 = .ok (.iconst 1, 1) := by decide +kernel
theorem dX8_judge_91 : decode cX8_judge 91 = .ok (.iload 4, 2) := by decide +kernel
theorem dX8_judge_93 : decode cX8_judge 93 = .ok (.invokevirtual 116, 3) := by decide +kernel
theorem dX8_judge_96 : decode cX8_judge 96 = .ok (.i2l, 1) := by decide +kernel
theorem dX8_judge_97 : decode cX8_judge 97 = .ok (.lcmp, 1) := by decide +kernel
theorem dX8_judge_98 : decode cX8_judge 98 = .ok (.ifCond .eq 6, 3) := by decide +kernel
theorem dX8_judge_101 : decode cX8_judge 101 = .ok (.iload 4, 2) := by decide +kernel
theorem dX8_judge_103 : decode cX8_judge 103 = .ok (.ireturn, 1) := by decide +kernel
theorem dX8_judge_104 : decode cX8_judge 104 = .ok (.iinc 4 1, 3) := by decide +kernel
theorem dX8_judge_107 : decode cX8_judge 107 = .ok (.goto (-67), 3) := by decide +kernel
theorem dX8_judge_110 : decode cX8_judge 110 = .ok (.bipush (-5), 2) := by decide +kernel
theorem dX8_judge_112 : decode cX8_judge 112 = .ok (.ireturn, 1) := by decide +kernel
set_option maxRecDepth 20000 in
theorem ggX8_image_X8_copy : GoodIn wsX8_image wsX8_copy := goodIn_r _ [7] (by decide +kernel) (by decide +kernel)
set_option maxRecDepth 20000 in
theorem gX8_image_X8_copy : GoodIn wsX8_image (va_wsS RX8 120 yX8_copy wsX8_copy) := goodIn_app (goodIn_of _ (by decide +kernel)) ggX8_image_X8_copy
set_option maxRecDepth 20000 in
theorem ggX8_image_X8_manyAt : GoodIn wsX8_image wsX8_manyAt := goodIn_r _ [11, 1, 12, 13, 14, 15, 16, 17, 18, 19, 20, 21, 22, 23, 24, 25, 26, 27, 28, 29, 30] (by decide +kernel) (by decide +kernel)
set_option maxRecDepth 20000 in
theorem gX8_image_X8_manyAt : GoodIn wsX8_image (wsV RX8 158 RX8 yX8_manyAt wsX8_manyAt) := goodIn_app (goodIn_of _ (by decide +kernel)) ggX8_image_X8_manyAt
theorem dX8_image_0 : decode cX8_image 0 = .ok (.aload_n 0, 1) := by decide +kernel
theorem dX8_image_1 : decode cX8_image 1 = .ok (.getfield 11, 3) := by decide +kernel
theorem dX8_image_4 : decode cX8_image 4 = .ok (.aload_n 0, 1) := by decide +kernel
theorem dX8_image_5 : decode cX8_image 5 = .ok (.getfield 18, 3) := by decide +kernel
theorem dX8_image_8 : decode cX8_image 8 = .ok (.invokestatic 120, 3) := by decide +kernel
theorem dX8_image_11 : decode cX8_image 11 = .ok (.aload_n 0, 1) := by decide +kernel
theorem dX8_image_12 : decode cX8_image 12 = .ok (.iconst 1, 1) := by decide +kernel
theorem dX8_image_13 : decode cX8_image 13 = .ok (.putfield 164, 3) := by decide +kernel
theorem dX8_image_16 : decode cX8_image 16 = .ok (.aload_n 0, 1) := by decide +kernel
theorem dX8_image_17 : decode cX8_image 17 = .ok (.iconst 1, 1) := by decide +kernel
theorem dX8_image_18 : decode cX8_image 18 = .ok (.invokevirtual 158, 3) := by decide +kernel
theorem dX8_image_21 : decode cX8_image 21 = .ok (.aload_n 0, 1) := by decide +kernel
theorem dX8_image_22 : decode cX8_image 22 = .ok (.iconst 2, 1) := by decide +kernel
theorem dX8_image_23 : decode cX8_image 23 = .ok (.invokevirtual 158, 3) := by decide +kernel
theorem dX8_image_26 : decode cX8_image 26 = .ok (.iadd, 1) := by decide +kernel
theorem dX8_image_27 : decode cX8_image 27 = .ok (.ireturn, 1) := by decide +kernel
set_option maxRecDepth 20000 in
theorem ggX8_undo_X8_copy : GoodIn wsX8_undo wsX8_copy := goodIn_r _ [7] (by decide +kernel) (by decide +kernel)
set_option maxRecDepth 20000 in
theorem gX8_undo_X8_copy : GoodIn wsX8_undo (va_wsS RX8 120 yX8_copy wsX8_copy) := goodIn_app (goodIn_of _ (by decide +kernel)) ggX8_undo_X8_copy
set_option maxRecDepth 20000 in
theorem ggX8_undo_X8_manyAt : GoodIn wsX8_undo wsX8_manyAt := goodIn_r _ [11, 3, 12, 13, 14, 15, 16, 17, 18, 19, 20, 21, 22, 23, 24, 25, 26, 27, 28, 29, 30] (by decide +kernel) (by decide +kernel)
set_option maxRecDepth 20000 in
theorem gX8_undo_X8_manyAt : GoodIn wsX8_undo (wsV RX8 158 RX8 yX8_manyAt wsX8_manyAt) := goodIn_app (goodIn_of _ (by decide +kernel)) ggX8_undo_X8_manyAt
theorem dX8_undo_0 : decode cX8_undo 0 = .ok (.aload_n 0, 1) := by decide +kernel
theorem dX8_undo_1 : decode cX8_undo 1 = .ok (.getfield 164, 3) := by decide +kernel
theorem dX8_undo_4 : decode cX8_undo 4 = .ok (.ifCond .ne 6, 3) := by decide +kernel
theorem dX8_undo_7 : decode cX8_undo 7 = .ok (.bipush (-3), 2) := by decide +kernel
theorem dX8_undo_9 : decode cX8_undo 9 = .ok (.ireturn, 1) := by decide +kernel
theorem dX8_undo_10 : decode cX8_undo 10 = .ok (.aload_n 0, 1) := by decide +kernel
