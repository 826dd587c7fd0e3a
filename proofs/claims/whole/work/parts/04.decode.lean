theorem dX7_judge_128 : decode cX7_judge 128 = .ok (.i2l, 1) := by decide +kernel
theorem dX7_judge_129 : decode cX7_judge 129 = .ok (.lcmp, 1) := by decide +kernel
theorem dX7_judge_130 : decode cX7_judge 130 = .ok (.ifCond .eq 6, 3) := by decide +kernel
theorem dX7_judge_133 : decode cX7_judge 133 = .ok (.iload 7, 2) := by decide +kernel
theorem dX7_judge_135 : decode cX7_judge 135 = .ok (.ireturn, 1) := by decide +kernel
theorem dX7_judge_136 : decode cX7_judge 136 = .ok (.aload_n 0, 1) := by decide +kernel
theorem dX7_judge_137 : decode cX7_judge 137 = .ok (.getfield 14, 3) := by decide +kernel
theorem dX7_judge_140 : decode cX7_judge 140 = .ok (.getfield 62, 3) := by decide +kernel
theorem dX7_judge_143 : decode cX7_judge 143 = .ok (.getfield 160, 3) := by decide +kernel
theorem dX7_judge_146 : decode cX7_judge 146 = .ok (.iload 6, 2) := by decide +kernel
theorem dX7_judge_148 : decode cX7_judge 148 = .ok (.iaload, 1) := by decide +kernel
theorem dX7_judge_149 : decode cX7_judge 149 = .ok (.istore 6, 2) := by decide +kernel
theorem dX7_judge_151 : decode cX7_judge 151 = .ok (.iinc 7 1, 3) := by decide +kernel
theorem dX7_judge_154 : decode cX7_judge 154 = .ok (.goto (-57), 3) := by decide +kernel
theorem dX7_judge_157 : decode cX7_judge 157 = .ok (.bipush (-5), 2) := by decide +kernel
theorem dX7_judge_159 : decode cX7_judge 159 = .ok (.ireturn, 1) := by decide +kernel
set_option maxRecDepth 20000 in
theorem ggX7_image_X3_init : GoodIn wsX7_image wsX3_init := goodIn_r _ [8, 9, 10, 11, 12, 13, 14, 15, 16, 17, 18, 19, 20, 21, 22, 23, 24, 25, 26, 27, 28, 29, 30, 31, 32, 33, 34, 35, 36, 37, 38, 39, 40, 41, 42, 43, 44, 45, 83, 84, 85, 86, 87, 88, 89, 90, 91, 92, 93, 94, 95, 96, 97] (by decide +kernel) (by decide +kernel)
set_option maxRecDepth 20000 in
theorem gX7_image_X3_init : GoodIn wsX7_image (wsX3_init) := ggX7_image_X3_init
set_option maxRecDepth 20000 in
theorem ggX7_image_X3_copyFrom : GoodIn wsX7_image wsX3_copyFrom := goodIn_r _ [49, 13, 50, 51, 52, 53, 14, 18, 20, 24, 28, 54, 55, 56, 17, 57, 33, 58, 34, 35, 36, 59, 60, 61, 23, 62, 40, 63, 64, 65, 66, 67, 27, 68, 44, 69, 45, 70, 83, 84, 85, 86, 87, 88, 89, 90, 91, 92, 93, 94, 95, 96, 97] (by decide +kernel) (by decide +kernel)
set_option maxRecDepth 20000 in
theorem gX7_image_X3_copyFrom : GoodIn wsX7_image (wsV RX7 120 RX3 yX3_copyFrom wsX3_copyFrom) := goodIn_app (goodIn_of _ (by decide +kernel)) ggX7_image_X3_copyFrom
set_option maxRecDepth 20000 in
theorem ggX7_image_X3_thingCount : GoodIn wsX7_image wsX3_thingCount := goodIn_r _ [74, 18, 75, 83, 84, 85, 86, 87, 88, 89, 90, 91, 92] (by decide +kernel) (by decide +kernel)
set_option maxRecDepth 20000 in
theorem gX7_image_X3_thingCount : GoodIn wsX7_image (wsV RX7 196 RX3 yX3_thingCount wsX3_thingCount) := goodIn_app (goodIn_of _ (by decide +kernel)) ggX7_image_X3_thingCount
theorem dX7_image_0 : decode cX7_image 0 = .ok (.aload_n 0, 1) := by decide +kernel
theorem dX7_image_1 : decode cX7_image 1 = .ok (.getfield 193, 3) := by decide +kernel
theorem dX7_image_4 : decode cX7_image 4 = .ok (.ifnonnull 14, 3) := by decide +kernel
theorem dX7_image_7 : decode cX7_image 7 = .ok (.aload_n 0, 1) := by decide +kernel
theorem dX7_image_8 : decode cX7_image 8 = .ok (.new 11, 3) := by decide +kernel
theorem dX7_image_11 : decode cX7_image 11 = .ok (.dup, 1) := by decide +kernel
theorem dX7_image_12 : decode cX7_image 12 = .ok (.invokespecial 13, 3) := by decide +kernel
theorem dX7_image_15 : decode cX7_image 15 = .ok (.putfield 193, 3) := by decide +kernel
theorem dX7_image_18 : decode cX7_image 18 = .ok (.aload_n 0, 1) := by decide +kernel
theorem dX7_image_19 : decode cX7_image 19 = .ok (.getfield 193, 3) := by decide +kernel
theorem dX7_image_22 : decode cX7_image 22 = .ok (.aload_n 0, 1) := by decide +kernel
theorem dX7_image_23 : decode cX7_image 23 = .ok (.getfield 14, 3) := by decide +kernel
theorem dX7_image_26 : decode cX7_image 26 = .ok (.invokevirtual 120, 3) := by decide +kernel
theorem dX7_image_29 : decode cX7_image 29 = .ok (.aload_n 0, 1) := by decide +kernel
theorem dX7_image_30 : decode cX7_image 30 = .ok (.getfield 14, 3) := by decide +kernel
theorem dX7_image_33 : decode cX7_image 33 = .ok (.invokevirtual 196, 3) := by decide +kernel
theorem dX7_image_36 : decode cX7_image 36 = .ok (.ireturn, 1) := by decide +kernel
set_option maxRecDepth 20000 in
theorem ggX7_undo_X3_copyFrom : GoodIn wsX7_undo wsX3_copyFrom := goodIn_r _ [7, 8, 9, 10, 11, 12, 13, 14, 15, 16, 17, 18, 19, 20, 21, 22, 23, 24, 25, 26, 27, 28, 29, 30, 31, 32, 33, 34, 35, 36, 37, 38, 39, 40, 41, 42, 43, 44, 57, 58, 59, 60, 61, 62, 63, 64, 65, 66, 67, 68, 69, 70, 71] (by decide +kernel) (by decide +kernel)
set_option maxRecDepth 20000 in
theorem gX7_undo_X3_copyFrom : GoodIn wsX7_undo (wsV RX7 120 RX3 yX3_copyFrom wsX3_copyFrom) := goodIn_app (goodIn_of _ (by decide +kernel)) ggX7_undo_X3_copyFrom
set_option maxRecDepth 20000 in
theorem ggX7_undo_X3_thingCount : GoodIn wsX7_undo wsX3_thingCount := goodIn_r _ [48, 14, 49, 57, 58, 59, 60, 61, 62, 63, 64, 65, 66] (by decide +kernel) (by decide +kernel)
set_option maxRecDepth 20000 in
theorem gX7_undo_X3_thingCount : GoodIn wsX7_undo (wsV RX7 196 RX3 yX3_thingCount wsX3_thingCount) := goodIn_app (goodIn_of _ (by decide +kernel)) ggX7_undo_X3_thingCount
theorem dX7_undo_0 : decode cX7_undo 0 = .ok (.aload_n 0, 1) := by decide +kernel
theorem dX7_undo_1 : decode cX7_undo 1 = .ok (.getfield 193, 3) := by decide +kernel
theorem dX7_undo_4 : decode cX7_undo 4 = .ok (.ifnonnull 6, 3) := by decide +kernel
theorem dX7_undo_7 : decode cX7_undo 7 = .ok (.bipush (-3), 2) := by decide +kernel
theorem dX7_undo_9 : decode cX7_undo 9 = .ok (.ireturn, 1) := by decide +kernel
theorem dX7_undo_10 : decode cX7_undo 10 = .ok (.aload_n 0, 1) := by decide +kernel
theorem dX7_undo_11 : decode cX7_undo 11 = .ok (.getfield 14, 3) := by decide +kernel
theorem dX7_undo_14 : decode cX7_undo 14 = .ok (.aload_n 0, 1) := by decide +kernel
theorem dX7_undo_15 : decode cX7_undo 15 = .ok (.getfield 193, 3) := by decide +kernel
theorem dX7_undo_18 : decode cX7_undo 18 = .ok (.invokevirtual 120, 3) := by decide +kernel
theorem dX7_undo_21 : decode cX7_undo 21 = .ok (.aload_n 0, 1) := by decide +kernel
theorem dX7_undo_22 : decode cX7_undo 22 = .ok (.getfield 14, 3) := by decide +kernel
theorem dX7_undo_25 : decode cX7_undo 25 = .ok (.invokevirtual 196, 3) := by decide +kernel
theorem dX7_undo_28 : decode cX7_undo 28 = .ok (.ireturn, 1) := by decide +kernel
theorem dX7_count_0 : decode cX7_count 0 = .ok (.iload_n 1, 1) := by decide +kernel
theorem dX7_count_1 : decode cX7_count 1 = .ok (.tableswitch 82 0 6 #[43, 43, 43, 43, 58, 63, 74], 43) := by decide +kernel
theorem dX7_count_44 : decode cX7_count 44 = .ok (.aload_n 0, 1) := by decide +kernel
theorem dX7_count_45 : decode cX7_count 45 = .ok (.getfield 14, 3) := by decide +kernel
theorem dX7_count_48 : decode cX7_count 48 = .ok (.getfield 62, 3) := by decide +kernel
theorem dX7_count_51 : decode cX7_count 51 = .ok (.getfield 154, 3) := by decide +kernel
theorem dX7_count_54 : decode cX7_count 54 = .ok (.iload_n 1, 1) := by decide +kernel
theorem dX7_count_55 : decode cX7_count 55 = .ok (.iconst 1, 1) := by decide +kernel
theorem dX7_count_56 : decode cX7_count 56 = .ok (.iadd, 1) := by decide +kernel
theorem dX7_count_57 : decode cX7_count 57 = .ok (.iaload, 1) := by decide +kernel
theorem dX7_count_58 : decode cX7_count 58 = .ok (.ireturn, 1) := by decide +kernel
theorem dX7_count_59 : decode cX7_count 59 = .ok (.aload_n 0, 1) := by decide +kernel
theorem dX7_count_60 : decode cX7_count 60 = .ok (.getfield 130, 3) := by decide +kernel
theorem dX7_count_63 : decode cX7_count 63 = .ok (.ireturn, 1) := by decide +kernel
theorem dX7_count_64 : decode cX7_count 64 = .ok (.aload_n 0, 1) := by decide +kernel
theorem dX7_count_65 : decode cX7_count 65 = .ok (.getfield 14, 3) := by decide +kernel
theorem dX7_count_68 : decode cX7_count 68 = .ok (.getfield 167, 3) := by decide +kernel
theorem dX7_count_71 : decode cX7_count 71 = .ok (.getfield 171, 3) := by decide +kernel
theorem dX7_count_74 : decode cX7_count 74 = .ok (.ireturn, 1) := by decide +kernel
theorem dX7_count_75 : decode cX7_count 75 = .ok (.aload_n 0, 1) := by decide +kernel
theorem dX7_count_76 : decode cX7_count 76 = .ok (.getfield 24, 3) := by decide +kernel
theorem dX7_count_79 : decode cX7_count 79 = .ok (.getfield 124, 3) := by decide +kernel
theorem dX7_count_82 : decode cX7_count 82 = .ok (.ireturn, 1) := by decide +kernel
theorem dX7_count_83 : decode cX7_count 83 = .ok (.bipush (-2), 2) := by decide +kernel
theorem dX7_count_85 : decode cX7_count 85 = .ok (.ireturn, 1) := by decide +kernel
set_option maxRecDepth 20000 in
theorem ggX7_tape_X7_isTape : GoodIn wsX7_tape wsX7_isTape := goodIn_r _ [5] (by decide +kernel) (by decide +kernel)
set_option maxRecDepth 20000 in
theorem gX7_tape_X7_isTape : GoodIn wsX7_tape (va_wsS RX7 182 yX7_isTape wsX7_isTape) := goodIn_app (goodIn_of _ (by decide +kernel)) ggX7_tape_X7_isTape
set_option maxRecDepth 20000 in
theorem ggX7_tape_X4_become : GoodIn wsX7_tape wsX4_become := goodIn_r _ [10, 11, 12, 13, 21, 22, 23] (by decide +kernel) (by decide +kernel)
set_option maxRecDepth 20000 in
theorem gX7_tape_X4_become : GoodIn wsX7_tape (wsV RX7 199 RX4 yX4_become wsX4_become) := goodIn_app (goodIn_of _ (by decide +kernel)) ggX7_tape_X4_become
theorem dX7_tape_0 : decode cX7_tape 0 = .ok (.iload_n 1, 1) := by decide +kernel
theorem dX7_tape_1 : decode cX7_tape 1 = .ok (.invokestatic 182, 3) := by decide +kernel
theorem dX7_tape_4 : decode cX7_tape 4 = .ok (.ifCond .ne 5, 3) := by decide +kernel
theorem dX7_tape_7 : decode cX7_tape 7 = .ok (.iconst (-1), 1) := by decide +kernel
theorem dX7_tape_8 : decode cX7_tape 8 = .ok (.ireturn, 1) := by decide +kernel
theorem dX7_tape_9 : decode cX7_tape 9 = .ok (.iload_n 2, 1) := by decide +kernel
theorem dX7_tape_10 : decode cX7_tape 10 = .ok (.iconst (-1), 1) := by decide +kernel
theorem dX7_tape_11 : decode cX7_tape 11 = .ok (.if_icmp .lt 8, 3) := by decide +kernel
theorem dX7_tape_14 : decode cX7_tape 14 = .ok (.iload_n 2, 1) := by decide +kernel
theorem dX7_tape_15 : decode cX7_tape 15 = .ok (.iconst 4, 1) := by decide +kernel
theorem dX7_tape_16 : decode cX7_tape 16 = .ok (.if_icmp .le 6, 3) := by decide +kernel
theorem dX7_tape_19 : decode cX7_tape 19 = .ok (.bipush (-2), 2) := by decide +kernel
theorem dX7_tape_21 : decode cX7_tape 21 = .ok (.ireturn, 1) := by decide +kernel
theorem dX7_tape_22 : decode cX7_tape 22 = .ok (.iload_n 2, 1) := by decide +kernel
theorem dX7_tape_23 : decode cX7_tape 23 = .ok (.iconst (-1), 1) := by decide +kernel
theorem dX7_tape_24 : decode cX7_tape 24 = .ok (.if_icmp .ne 16, 3) := by decide +kernel
theorem dX7_tape_27 : decode cX7_tape 27 = .ok (.aload_n 0, 1) := by decide +kernel
theorem dX7_tape_28 : decode cX7_tape 28 = .ok (.getfield 36, 3) := by decide +kernel
theorem dX7_tape_31 : decode cX7_tape 31 = .ok (.iload_n 1, 1) := by decide +kernel
theorem dX7_tape_32 : decode cX7_tape 32 = .ok (.aaload, 1) := by decide +kernel
theorem dX7_tape_33 : decode cX7_tape 33 = .ok (.iconst (-1), 1) := by decide +kernel
theorem dX7_tape_34 : decode cX7_tape 34 = .ok (.iconst 0, 1) := by decide +kernel
theorem dX7_tape_35 : decode cX7_tape 35 = .ok (.invokevirtual 199, 3) := by decide +kernel
theorem dX7_tape_38 : decode cX7_tape 38 = .ok (.iconst 1, 1) := by decide +kernel
theorem dX7_tape_39 : decode cX7_tape 39 = .ok (.ireturn, 1) := by decide +kernel
theorem dX7_tape_40 : decode cX7_tape 40 = .ok (.iload_n 3, 1) := by decide +kernel
theorem dX7_tape_41 : decode cX7_tape 41 = .ok (.bipush 60, 2) := by decide +kernel
theorem dX7_tape_43 : decode cX7_tape 43 = .ok (.if_icmp .le 6, 3) := by decide +kernel
theorem dX7_tape_46 : decode cX7_tape 46 = .ok (.bipush (-2), 2) := by decide +kernel
theorem dX7_tape_48 : decode cX7_tape 48 = .ok (.ireturn, 1) := by decide +kernel
theorem dX7_tape_49 : decode cX7_tape 49 = .ok (.iload_n 3, 1) := by decide +kernel
theorem dX7_tape_50 : decode cX7_tape 50 = .ok (.ifCond .ge 6, 3) := by decide +kernel
theorem dX7_tape_53 : decode cX7_tape 53 = .ok (.bipush (-14), 2) := by decide +kernel
theorem dX7_tape_55 : decode cX7_tape 55 = .ok (.ireturn, 1) := by decide +kernel
theorem dX7_tape_56 : decode cX7_tape 56 = .ok (.aload_n 0, 1) := by decide +kernel
theorem dX7_tape_57 : decode cX7_tape 57 = .ok (.getfield 36, 3) := by decide +kernel
theorem dX7_tape_60 : decode cX7_tape 60 = .ok (.iload_n 1, 1) := by decide +kernel
theorem dX7_tape_61 : decode cX7_tape 61 = .ok (.aaload, 1) := by decide +kernel
theorem dX7_tape_62 : decode cX7_tape 62 = .ok (.iload_n 2, 1) := by decide +kernel
theorem dX7_tape_63 : decode cX7_tape 63 = .ok (.iload_n 3, 1) := by decide +kernel
theorem dX7_tape_64 : decode cX7_tape 64 = .ok (.invokevirtual 199, 3) := by decide +kernel
theorem dX7_tape_67 : decode cX7_tape 67 = .ok (.iconst 1, 1) := by decide +kernel
theorem dX7_tape_68 : decode cX7_tape 68 = .ok (.ireturn, 1) := by decide +kernel
set_option maxRecDepth 20000 in
theorem ggX7_item_X7_isTape : GoodIn wsX7_item wsX7_isTape := goodIn_r _ [8] (by decide +kernel) (by decide +kernel)
set_option maxRecDepth 20000 in
theorem gX7_item_X7_isTape : GoodIn wsX7_item (va_wsS RX7 182 yX7_isTape wsX7_isTape) := goodIn_app (goodIn_of _ (by decide +kernel)) ggX7_item_X7_isTape
set_option maxRecDepth 20000 in
theorem ggX7_item_X4_asItem : GoodIn wsX7_item wsX4_asItem := goodIn_r _ [13, 14, 22, 23, 24] (by decide +kernel) (by decide +kernel)
set_option maxRecDepth 20000 in
theorem gX7_item_X4_asItem : GoodIn wsX7_item (wsV RX7 202 RX4 yX4_asItem wsX4_asItem) := goodIn_app (goodIn_of _ (by decide +kernel)) ggX7_item_X4_asItem
theorem dX7_item_0 : decode cX7_item 0 = .ok (.iload_n 1, 1) := by decide +kernel
theorem dX7_item_1 : decode cX7_item 1 = .ok (.invokestatic 182, 3) := by decide +kernel
theorem dX7_item_4 : decode cX7_item 4 = .ok (.ifCond .ne 5, 3) := by decide +kernel
theorem dX7_item_7 : decode cX7_item 7 = .ok (.iconst (-1), 1) := by decide +kernel
theorem dX7_item_8 : decode cX7_item 8 = .ok (.ireturn, 1) := by decide +kernel
theorem dX7_item_9 : decode cX7_item 9 = .ok (.aload_n 0, 1) := by decide +kernel
theorem dX7_item_10 : decode cX7_item 10 = .ok (.getfield 36, 3) := by decide +kernel
theorem dX7_item_13 : decode cX7_item 13 = .ok (.iload_n 1, 1) := by decide +kernel
theorem dX7_item_14 : decode cX7_item 14 = .ok (.aaload, 1) := by decide +kernel
theorem dX7_item_15 : decode cX7_item 15 = .ok (.astore 5, 2) := by decide +kernel
theorem dX7_item_17 : decode cX7_item 17 = .ok (.aload 5, 2) := by decide +kernel
theorem dX7_item_19 : decode cX7_item 19 = .ok (.getfield 185, 3) := by decide +kernel
theorem dX7_item_22 : decode cX7_item 22 = .ok (.iconst (-1), 1) := by decide +kernel
theorem dX7_item_23 : decode cX7_item 23 = .ok (.if_icmp .ne 6, 3) := by decide +kernel
theorem dX7_item_26 : decode cX7_item 26 = .ok (.bipush (-11), 2) := by decide +kernel
theorem dX7_item_28 : decode cX7_item 28 = .ok (.ireturn, 1) := by decide +kernel
theorem dX7_item_29 : decode cX7_item 29 = .ok (.iload_n 2, 1) := by decide +kernel
theorem dX7_item_30 : decode cX7_item 30 = .ok (.ifCond .lt 12, 3) := by decide +kernel
theorem dX7_item_33 : decode cX7_item 33 = .ok (.iload_n 2, 1) := by decide +kernel
theorem dX7_item_34 : decode cX7_item 34 = .ok (.aload 5, 2) := by decide +kernel
theorem dX7_item_36 : decode cX7_item 36 = .ok (.getfield 188, 3) := by decide +kernel
theorem dX7_item_39 : decode cX7_item 39 = .ok (.if_icmp .lt 6, 3) := by decide +kernel
theorem dX7_item_42 : decode cX7_item 42 = .ok (.bipush (-13), 2) := by decide +kernel
theorem dX7_item_44 : decode cX7_item 44 = .ok (.ireturn, 1) := by decide +kernel
theorem dX7_item_45 : decode cX7_item 45 = .ok (.aload 5, 2) := by decide +kernel
theorem dX7_item_47 : decode cX7_item 47 = .ok (.getfield 189, 3) := by decide +kernel
theorem dX7_item_50 : decode cX7_item 50 = .ok (.iload_n 2, 1) := by decide +kernel
theorem dX7_item_51 : decode cX7_item 51 = .ok (.aload 5, 2) := by decide +kernel
theorem dX7_item_53 : decode cX7_item 53 = .ok (.lload_n 3, 1) := by decide +kernel
theorem dX7_item_54 : decode cX7_item 54 = .ok (.invokevirtual 202, 3) := by decide +kernel
theorem dX7_item_57 : decode cX7_item 57 = .ok (.lastore, 1) := by decide +kernel
theorem dX7_item_58 : decode cX7_item 58 = .ok (.iconst 1, 1) := by decide +kernel
theorem dX7_item_59 : decode cX7_item 59 = .ok (.ireturn, 1) := by decide +kernel
set_option maxRecDepth 20000 in
theorem ggX7_read_X7_isTape : GoodIn wsX7_read wsX7_isTape := goodIn_r _ [8] (by decide +kernel) (by decide +kernel)
set_option maxRecDepth 20000 in
theorem gX7_read_X7_isTape : GoodIn wsX7_read (va_wsS RX7 182 yX7_isTape wsX7_isTape) := goodIn_app (goodIn_of _ (by decide +kernel)) ggX7_read_X7_isTape
theorem dX7_read_0 : decode cX7_read 0 = .ok (.iload_n 1, 1) := by decide +kernel
theorem dX7_read_1 : decode cX7_read 1 = .ok (.invokestatic 182, 3) := by decide +kernel
theorem dX7_read_4 : decode cX7_read 4 = .ok (.ifCond .ne 7, 3) := by decide +kernel
theorem dX7_read_7 : decode cX7_read 7 = .ok (.ldc2_w 91, 3) := by decide +kernel
theorem dX7_read_10 : decode cX7_read 10 = .ok (.lreturn, 1) := by decide +kernel
theorem dX7_read_11 : decode cX7_read 11 = .ok (.aload_n 0, 1) := by decide +kernel
theorem dX7_read_12 : decode cX7_read 12 = .ok (.getfield 36, 3) := by decide +kernel
theorem dX7_read_15 : decode cX7_read 15 = .ok (.iload_n 1, 1) := by decide +kernel
theorem dX7_read_16 : decode cX7_read 16 = .ok (.aaload, 1) := by decide +kernel
theorem dX7_read_17 : decode cX7_read 17 = .ok (.astore_n 3, 1) := by decide +kernel
theorem dX7_read_18 : decode cX7_read 18 = .ok (.iload_n 2, 1) := by decide +kernel
theorem dX7_read_19 : decode cX7_read 19 = .ok (.ifCond .lt 20, 3) := by decide +kernel
theorem dX7_read_22 : decode cX7_read 22 = .ok (.iload_n 2, 1) := by decide +kernel
theorem dX7_read_23 : decode cX7_read 23 = .ok (.aload_n 3, 1) := by decide +kernel
theorem dX7_read_24 : decode cX7_read 24 = .ok (.getfield 188, 3) := by decide +kernel
theorem dX7_read_27 : decode cX7_read 27 = .ok (.if_icmp .ge 12, 3) := by decide +kernel
theorem dX7_read_30 : decode cX7_read 30 = .ok (.aload_n 3, 1) := by decide +kernel
theorem dX7_read_31 : decode cX7_read 31 = .ok (.getfield 189, 3) := by decide +kernel
theorem dX7_read_34 : decode cX7_read 34 = .ok (.iload_n 2, 1) := by decide +kernel
theorem dX7_read_35 : decode cX7_read 35 = .ok (.laload, 1) := by decide +kernel
theorem dX7_read_36 : decode cX7_read 36 = .ok (.goto 6, 3) := by decide +kernel
theorem dX7_read_39 : decode cX7_read 39 = .ok (.ldc2_w 91, 3) := by decide +kernel
theorem dX7_read_42 : decode cX7_read 42 = .ok (.lreturn, 1) := by decide +kernel
set_option maxRecDepth 20000 in
theorem ggX7_shift_X7_isTape : GoodIn wsX7_shift wsX7_isTape := goodIn_r _ [11] (by decide +kernel) (by decide +kernel)
set_option maxRecDepth 20000 in
theorem gX7_shift_X7_isTape : GoodIn wsX7_shift (va_wsS RX7 182 yX7_isTape wsX7_isTape) := goodIn_app (goodIn_of _ (by decide +kernel)) ggX7_shift_X7_isTape
set_option maxRecDepth 20000 in
theorem ggX7_shift_X4_hasRange : GoodIn wsX7_shift wsX4_hasRange := goodIn_r _ [16, 17, 25, 26, 27] (by decide +kernel) (by decide +kernel)
set_option maxRecDepth 20000 in
theorem gX7_shift_X4_hasRange : GoodIn wsX7_shift (wsV RX7 206 RX4 yX4_hasRange wsX4_hasRange) := goodIn_app (goodIn_of _ (by decide +kernel)) ggX7_shift_X4_hasRange
theorem dX7_shift_0 : decode cX7_shift 0 = .ok (.iload_n 1, 1) := by decide +kernel
theorem dX7_shift_1 : decode cX7_shift 1 = .ok (.invokestatic 182, 3) := by decide +kernel
theorem dX7_shift_4 : decode cX7_shift 4 = .ok (.ifCond .eq 10, 3) := by decide +kernel
theorem dX7_shift_7 : decode cX7_shift 7 = .ok (.iload_n 3, 1) := by decide +kernel
theorem dX7_shift_8 : decode cX7_shift 8 = .ok (.invokestatic 182, 3) := by decide +kernel
theorem dX7_shift_11 : decode cX7_shift 11 = .ok (.ifCond .ne 5, 3) := by decide +kernel
theorem dX7_shift_14 : decode cX7_shift 14 = .ok (.iconst (-1), 1) := by decide +kernel
theorem dX7_shift_15 : decode cX7_shift 15 = .ok (.ireturn, 1) := by decide +kernel
theorem dX7_shift_16 : decode cX7_shift 16 = .ok (.aload_n 0, 1) := by decide +kernel
theorem dX7_shift_17 : decode cX7_shift 17 = .ok (.getfield 36, 3) := by decide +kernel
theorem dX7_shift_20 : decode cX7_shift 20 = .ok (.iload_n 1, 1) := by decide +kernel
theorem dX7_shift_21 : decode cX7_shift 21 = .ok (.aaload, 1) := by decide +kernel
theorem dX7_shift_22 : decode cX7_shift 22 = .ok (.astore 6, 2) := by decide +kernel
theorem dX7_shift_24 : decode cX7_shift 24 = .ok (.aload_n 0, 1) := by decide +kernel
theorem dX7_shift_25 : decode cX7_shift 25 = .ok (.getfield 36, 3) := by decide +kernel
theorem dX7_shift_28 : decode cX7_shift 28 = .ok (.iload_n 3, 1) := by decide +kernel
theorem dX7_shift_29 : decode cX7_shift 29 = .ok (.aaload, 1) := by decide +kernel
theorem dX7_shift_30 : decode cX7_shift 30 = .ok (.astore 7, 2) := by decide +kernel
theorem dX7_shift_32 : decode cX7_shift 32 = .ok (.aload 6, 2) := by decide +kernel
theorem dX7_shift_34 : decode cX7_shift 34 = .ok (.getfield 185, 3) := by decide +kernel
theorem dX7_shift_37 : decode cX7_shift 37 = .ok (.iconst (-1), 1) := by decide +kernel
theorem dX7_shift_38 : decode cX7_shift 38 = .ok (.if_icmp .eq 12, 3) := by decide +kernel
theorem dX7_shift_41 : decode cX7_shift 41 = .ok (.aload 7, 2) := by decide +kernel
theorem dX7_shift_43 : decode cX7_shift 43 = .ok (.getfield 185, 3) := by decide +kernel
theorem dX7_shift_46 : decode cX7_shift 46 = .ok (.iconst (-1), 1) := by decide +kernel
theorem dX7_shift_47 : decode cX7_shift 47 = .ok (.if_icmp .ne 6, 3) := by decide +kernel
theorem dX7_shift_50 : decode cX7_shift 50 = .ok (.bipush (-11), 2) := by decide +kernel
theorem dX7_shift_52 : decode cX7_shift 52 = .ok (.ireturn, 1) := by decide +kernel
theorem dX7_shift_53 : decode cX7_shift 53 = .ok (.aload 6, 2) := by decide +kernel
theorem dX7_shift_55 : decode cX7_shift 55 = .ok (.getfield 185, 3) := by decide +kernel
theorem dX7_shift_58 : decode cX7_shift 58 = .ok (.aload 7, 2) := by decide +kernel
theorem dX7_shift_60 : decode cX7_shift 60 = .ok (.getfield 185, 3) := by decide +kernel
theorem dX7_shift_63 : decode cX7_shift 63 = .ok (.if_icmp .eq 6, 3) := by decide +kernel
theorem dX7_shift_66 : decode cX7_shift 66 = .ok (.bipush (-12), 2) := by decide +kernel
theorem dX7_shift_68 : decode cX7_shift 68 = .ok (.ireturn, 1) := by decide +kernel
theorem dX7_shift_69 : decode cX7_shift 69 = .ok (.aload 6, 2) := by decide +kernel
theorem dX7_shift_71 : decode cX7_shift 71 = .ok (.iload_n 2, 1) := by decide +kernel
theorem dX7_shift_72 : decode cX7_shift 72 = .ok (.iload 5, 2) := by decide +kernel
theorem dX7_shift_74 : decode cX7_shift 74 = .ok (.invokevirtual 206, 3) := by decide +kernel
theorem dX7_shift_77 : decode cX7_shift 77 = .ok (.ifCond .eq 15, 3) := by decide +kernel
theorem dX7_shift_80 : decode cX7_shift 80 = .ok (.aload 7, 2) := by decide +kernel
theorem dX7_shift_82 : decode cX7_shift 82 = .ok (.iload 4, 2) := by decide +kernel
theorem dX7_shift_84 : decode cX7_shift 84 = .ok (.iload 5, 2) := by decide +kernel
theorem dX7_shift_86 : decode cX7_shift 86 = .ok (.invokevirtual 206, 3) := by decide +kernel
theorem dX7_shift_89 : decode cX7_shift 89 = .ok (.ifCond .ne 6, 3) := by decide +kernel
theorem dX7_shift_92 : decode cX7_shift 92 = .ok (.bipush (-13), 2) := by decide +kernel
theorem dX7_shift_94 : decode cX7_shift 94 = .ok (.ireturn, 1) := by decide +kernel
theorem dX7_shift_95 : decode cX7_shift 95 = .ok (.aload 6, 2) := by decide +kernel
theorem dX7_shift_97 : decode cX7_shift 97 = .ok (.getfield 189, 3) := by decide +kernel
theorem dX7_shift_100 : decode cX7_shift 100 = .ok (.iload_n 2, 1) := by decide +kernel
theorem dX7_shift_101 : decode cX7_shift 101 = .ok (.aload 7, 2) := by decide +kernel
theorem dX7_shift_103 : decode cX7_shift 103 = .ok (.getfield 189, 3) := by decide +kernel
theorem dX7_shift_106 : decode cX7_shift 106 = .ok (.iload 4, 2) := by decide +kernel
theorem dX7_shift_108 : decode cX7_shift 108 = .ok (.iload 5, 2) := by decide +kernel
theorem dX7_shift_110 : decode cX7_shift 110 = .ok (.invokestatic 210, 3) := by decide +kernel
theorem dX7_shift_113 : decode cX7_shift 113 = .ok (.iload 5, 2) := by decide +kernel
theorem dX7_shift_115 : decode cX7_shift 115 = .ok (.ireturn, 1) := by decide +kernel
theorem dX7_isTape_0 : decode cX7_isTape 0 = .ok (.iload_n 0, 1) := by decide +kernel
theorem dX7_isTape_1 : decode cX7_isTape 1 = .ok (.ifCond .lt 13, 3) := by decide +kernel
theorem dX7_isTape_4 : decode cX7_isTape 4 = .ok (.iload_n 0, 1) := by decide +kernel
theorem dX7_isTape_5 : decode cX7_isTape 5 = .ok (.bipush 6, 2) := by decide +kernel
theorem dX7_isTape_7 : decode cX7_isTape 7 = .ok (.if_icmp .ge 7, 3) := by decide +kernel
theorem dX7_isTape_10 : decode cX7_isTape 10 = .ok (.iconst 1, 1) := by decide +kernel
theorem dX7_isTape_11 : decode cX7_isTape 11 = .ok (.goto 4, 3) := by decide +kernel
theorem dX7_isTape_14 : decode cX7_isTape 14 = .ok (.iconst 0, 1) := by decide +kernel
theorem dX7_isTape_15 : decode cX7_isTape 15 = .ok (.ireturn, 1) := by decide +kernel
theorem dX8_init_0 : decode cX8_init 0 = .ok (.aload_n 0, 1) := by decide +kernel
theorem dX8_init_1 : decode cX8_init 1 = .ok (.invokespecial 5, 3) := by decide +kernel
theorem dX8_init_4 : decode cX8_init 4 = .ok (.aload_n 0, 1) := by decide +kernel
theorem dX8_init_5 : decode cX8_init 5 = .ok (.sipush 3253, 3) := by decide +kernel
theorem dX8_init_8 : decode cX8_init 8 = .ok (.newarray .int, 2) := by decide +kernel
theorem dX8_init_10 : decode cX8_init 10 = .ok (.putfield 11, 3) := by decide +kernel
theorem dX8_init_13 : decode cX8_init 13 = .ok (.aload_n 0, 1) := by decide +kernel
theorem dX8_init_14 : decode cX8_init 14 = .ok (.sipush 3253, 3) := by decide +kernel
theorem dX8_init_17 : decode cX8_init 17 = .ok (.newarray .int, 2) := by decide +kernel
theorem dX8_init_19 : decode cX8_init 19 = .ok (.putfield 15, 3) := by decide +kernel
theorem dX8_init_22 : decode cX8_init 22 = .ok (.aload_n 0, 1) := by decide +kernel
theorem dX8_init_23 : decode cX8_init 23 = .ok (.sipush 3253, 3) := by decide +kernel
theorem dX8_init_26 : decode cX8_init 26 = .ok (.newarray .int, 2) := by decide +kernel
theorem dX8_init_28 : decode cX8_init 28 = .ok (.putfield 18, 3) := by decide +kernel
theorem dX8_init_31 : decode cX8_init 31 = .ok (.aload_n 0, 1) := by decide +kernel
theorem dX8_init_32 : decode cX8_init 32 = .ok (.sipush 400, 3) := by decide +kernel
theorem dX8_init_35 : decode cX8_init 35 = .ok (.newarray .int, 2) := by decide +kernel
theorem dX8_init_37 : decode cX8_init 37 = .ok (.putfield 21, 3) := by decide +kernel
theorem dX8_init_40 : decode cX8_init 40 = .ok (.aload_n 0, 1) := by decide +kernel
theorem dX8_init_41 : decode cX8_init 41 = .ok (.bipush 100, 2) := by decide +kernel
theorem dX8_init_43 : decode cX8_init 43 = .ok (.newarray .int, 2) := by decide +kernel
theorem dX8_init_45 : decode cX8_init 45 = .ok (.putfield 24, 3) := by decide +kernel
theorem dX8_init_48 : decode cX8_init 48 = .ok (.aload_n 0, 1) := by decide +kernel
theorem dX8_init_49 : decode cX8_init 49 = .ok (.bipush 120, 2) := by decide +kernel
theorem dX8_init_51 : decode cX8_init 51 = .ok (.newarray .int, 2) := by decide +kernel
theorem dX8_init_53 : decode cX8_init 53 = .ok (.putfield 27, 3) := by decide +kernel
theorem dX8_init_56 : decode cX8_init 56 = .ok (.aload_n 0, 1) := by decide +kernel
theorem dX8_init_57 : decode cX8_init 57 = .ok (.bipush 120, 2) := by decide +kernel
theorem dX8_init_59 : decode cX8_init 59 = .ok (.newarray .int, 2) := by decide +kernel
theorem dX8_init_61 : decode cX8_init 61 = .ok (.putfield 30, 3) := by decide +kernel
theorem dX8_init_64 : decode cX8_init 64 = .ok (.aload_n 0, 1) := by decide +kernel
theorem dX8_init_65 : decode cX8_init 65 = .ok (.bipush 120, 2) := by decide +kernel
theorem dX8_init_67 : decode cX8_init 67 = .ok (.newarray .int, 2) := by decide +kernel
theorem dX8_init_69 : decode cX8_init 69 = .ok (.putfield 33, 3) := by decide +kernel
theorem dX8_init_72 : decode cX8_init 72 = .ok (.aload_n 0, 1) := by decide +kernel
theorem dX8_init_73 : decode cX8_init 73 = .ok (.bipush 6, 2) := by decide +kernel
theorem dX8_init_75 : decode cX8_init 75 = .ok (.newarray .int, 2) := by decide +kernel
theorem dX8_init_77 : decode cX8_init 77 = .ok (.putfield 36, 3) := by decide +kernel
theorem dX8_init_80 : decode cX8_init 80 = .ok (.aload_n 0, 1) := by decide +kernel
theorem dX8_init_81 : decode cX8_init 81 = .ok (.bipush 6, 2) := by decide +kernel
theorem dX8_init_83 : decode cX8_init 83 = .ok (.newarray .int, 2) := by decide +kernel
theorem dX8_init_85 : decode cX8_init 85 = .ok (.putfield 39, 3) := by decide +kernel
theorem dX8_init_88 : decode cX8_init 88 = .ok (.aload_n 0, 1) := by decide +kernel
theorem dX8_init_89 : decode cX8_init 89 = .ok (.bipush 6, 2) := by decide +kernel
theorem dX8_init_91 : decode cX8_init 91 = .ok (.newarray .int, 2) := by decide +kernel
theorem dX8_init_93 : decode cX8_init 93 = .ok (.putfield 42, 3) := by decide +kernel
theorem dX8_init_96 : decode cX8_init 96 = .ok (.aload_n 0, 1) := by decide +kernel
theorem dX8_init_97 : decode cX8_init 97 = .ok (.bipush 6, 2) := by decide +kernel
theorem dX8_init_99 : decode cX8_init 99 = .ok (.bipush 60, 2) := by decide +kernel
theorem dX8_init_101 : decode cX8_init 101 = .ok (.multianewarray 45 2, 4) := by decide +kernel
theorem dX8_init_105 : decode cX8_init 105 = .ok (.putfield 47, 3) := by decide +kernel
theorem dX8_init_108 : decode cX8_init 108 = .ok (.aload_n 0, 1) := by decide +kernel
theorem dX8_init_109 : decode cX8_init 109 = .ok (.bipush 60, 2) := by decide +kernel
theorem dX8_init_111 : decode cX8_init 111 = .ok (.newarray .long, 2) := by decide +kernel
theorem dX8_init_113 : decode cX8_init 113 = .ok (.putfield 50, 3) := by decide +kernel
theorem dX8_init_116 : decode cX8_init 116 = .ok (.aload_n 0, 1) := by decide +kernel
theorem dX8_init_117 : decode cX8_init 117 = .ok (.getfield 11, 3) := by decide +kernel
theorem dX8_init_120 : decode cX8_init 120 = .ok (.sipush 3200, 3) := by decide +kernel
theorem dX8_init_123 : decode cX8_init 123 = .ok (.bipush 20, 2) := by decide +kernel
theorem dX8_init_125 : decode cX8_init 125 = .ok (.iastore, 1) := by decide +kernel
theorem dX8_init_126 : decode cX8_init 126 = .ok (.aload_n 0, 1) := by decide +kernel
theorem dX8_init_127 : decode cX8_init 127 = .ok (.getfield 11, 3) := by decide +kernel
theorem dX8_init_130 : decode cX8_init 130 = .ok (.sipush 3201, 3) := by decide +kernel
theorem dX8_init_133 : decode cX8_init 133 = .ok (.bipush 10, 2) := by decide +kernel
theorem dX8_init_135 : decode cX8_init 135 = .ok (.iastore, 1) := by decide +kernel
theorem dX8_init_136 : decode cX8_init 136 = .ok (.aload_n 0, 1) := by decide +kernel
theorem dX8_init_137 : decode cX8_init 137 = .ok (.getfield 11, 3) := by decide +kernel
theorem dX8_init_140 : decode cX8_init 140 = .ok (.sipush 3202, 3) := by decide +kernel
theorem dX8_init_143 : decode cX8_init 143 = .ok (.iconst 2, 1) := by decide +kernel
theorem dX8_init_144 : decode cX8_init 144 = .ok (.iastore, 1) := by decide +kernel
theorem dX8_init_145 : decode cX8_init 145 = .ok (.aload_n 0, 1) := by decide +kernel
theorem dX8_init_146 : decode cX8_init 146 = .ok (.getfield 11, 3) := by decide +kernel
theorem dX8_init_149 : decode cX8_init 149 = .ok (.sipush 3203, 3) := by decide +kernel
theorem dX8_init_152 : decode cX8_init 152 = .ok (.iconst 1, 1) := by decide +kernel
theorem dX8_init_153 : decode cX8_init 153 = .ok (.iastore, 1) := by decide +kernel
theorem dX8_init_154 : decode cX8_init 154 = .ok (.iconst 0, 1) := by decide +kernel
theorem dX8_init_155 : decode cX8_init 155 = .ok (.istore_n 1, 1) := by decide +kernel
theorem dX8_init_156 : decode cX8_init 156 = .ok (.iload_n 1, 1) := by decide +kernel
theorem dX8_init_157 : decode cX8_init 157 = .ok (.bipush 6, 2) := by decide +kernel
theorem dX8_init_159 : decode cX8_init 159 = .ok (.if_icmp .ge 16, 3) := by decide +kernel
theorem dX8_init_162 : decode cX8_init 162 = .ok (.aload_n 0, 1) := by decide +kernel
theorem dX8_init_163 : decode cX8_init 163 = .ok (.getfield 39, 3) := by decide +kernel
theorem dX8_init_166 : decode cX8_init 166 = .ok (.iload_n 1, 1) := by decide +kernel
theorem dX8_init_167 : decode cX8_init 167 = .ok (.iconst (-1), 1) := by decide +kernel
theorem dX8_init_168 : decode cX8_init 168 = .ok (.iastore, 1) := by decide +kernel
theorem dX8_init_169 : decode cX8_init 169 = .ok (.iinc 1 1, 3) := by decide +kernel
theorem dX8_init_172 : decode cX8_init 172 = .ok (.goto (-16), 3) := by decide +kernel
theorem dX8_init_175 : decode cX8_init 175 = .ok (.return_, 1) := by decide +kernel
theorem dX8_in_0 : decode cX8_in 0 = .ok (.iload_n 0, 1) := by decide +kernel
theorem dX8_in_1 : decode cX8_in 1 = .ok (.iload_n 1, 1) := by decide +kernel
theorem dX8_in_2 : decode cX8_in 2 = .ok (.if_icmp .lt 12, 3) := by decide +kernel
theorem dX8_in_5 : decode cX8_in 5 = .ok (.iload_n 0, 1) := by decide +kernel
theorem dX8_in_6 : decode cX8_in 6 = .ok (.iload_n 2, 1) := by decide +kernel
theorem dX8_in_7 : decode cX8_in 7 = .ok (.if_icmp .gt 7, 3) := by decide +kernel
theorem dX8_in_10 : decode cX8_in 10 = .ok (.iconst 1, 1) := by decide +kernel
theorem dX8_in_11 : decode cX8_in 11 = .ok (.goto 4, 3) := by decide +kernel
theorem dX8_in_14 : decode cX8_in 14 = .ok (.iconst 0, 1) := by decide +kernel
theorem dX8_in_15 : decode cX8_in 15 = .ok (.ireturn, 1) := by decide +kernel
set_option maxRecDepth 20000 in
theorem ggX8_isKey_X8_in : GoodIn wsX8_isKey wsX8_in := goodIn_r _ [4] (by decide +kernel) (by decide +kernel)
set_option maxRecDepth 20000 in
theorem gX8_isKey_X8_in : GoodIn wsX8_isKey (va_wsS RX8 54 yX8_in wsX8_in) := goodIn_app (goodIn_of _ (by decide +kernel)) ggX8_isKey_X8_in
theorem dX8_isKey_0 : decode cX8_isKey 0 = .ok (.iload_n 0, 1) := by decide +kernel
theorem dX8_isKey_1 : decode cX8_isKey 1 = .ok (.iconst 0, 1) := by decide +kernel
theorem dX8_isKey_2 : decode cX8_isKey 2 = .ok (.iconst 3, 1) := by decide +kernel
theorem dX8_isKey_3 : decode cX8_isKey 3 = .ok (.invokestatic 54, 3) := by decide +kernel
theorem dX8_isKey_6 : decode cX8_isKey 6 = .ok (.ifCond .eq 17, 3) := by decide +kernel
theorem dX8_isKey_9 : decode cX8_isKey 9 = .ok (.iload_n 1, 1) := by decide +kernel
theorem dX8_isKey_10 : decode cX8_isKey 10 = .ok (.iconst 0, 1) := by decide +kernel
theorem dX8_isKey_11 : decode cX8_isKey 11 = .ok (.bipush 99, 2) := by decide +kernel
theorem dX8_isKey_13 : decode cX8_isKey 13 = .ok (.invokestatic 54, 3) := by decide +kernel
theorem dX8_isKey_16 : decode cX8_isKey 16 = .ok (.ifCond .eq 7, 3) := by decide +kernel
theorem dX8_isKey_19 : decode cX8_isKey 19 = .ok (.iconst 1, 1) := by decide +kernel
theorem dX8_isKey_20 : decode cX8_isKey 20 = .ok (.goto 4, 3) := by decide +kernel
theorem dX8_isKey_23 : decode cX8_isKey 23 = .ok (.iconst 0, 1) := by decide +kernel
theorem dX8_isKey_24 : decode cX8_isKey 24 = .ok (.ireturn, 1) := by decide +kernel
theorem dX8_copy_0 : decode cX8_copy 0 = .ok (.iconst 0, 1) := by decide +kernel
theorem dX8_copy_1 : decode cX8_copy 1 = .ok (.istore_n 2, 1) := by decide +kernel
theorem dX8_copy_2 : decode cX8_copy 2 = .ok (.iload_n 2, 1) := by decide +kernel
theorem dX8_copy_3 : decode cX8_copy 3 = .ok (.sipush 3253, 3) := by decide +kernel
theorem dX8_copy_6 : decode cX8_copy 6 = .ok (.if_icmp .ge 15, 3) := by decide +kernel
theorem dX8_copy_9 : decode cX8_copy 9 = .ok (.aload_n 1, 1) := by decide +kernel
theorem dX8_copy_10 : decode cX8_copy 10 = .ok (.iload_n 2, 1) := by decide +kernel
theorem dX8_copy_11 : decode cX8_copy 11 = .ok (.aload_n 0, 1) := by decide +kernel
theorem dX8_copy_12 : decode cX8_copy 12 = .ok (.iload_n 2, 1) := by decide +kernel
theorem dX8_copy_13 : decode cX8_copy 13 = .ok (.iaload, 1) := by decide +kernel
theorem dX8_copy_14 : decode cX8_copy 14 = .ok (.iastore, 1) := by decide +kernel
theorem dX8_copy_15 : decode cX8_copy 15 = .ok (.iinc 2 1, 3) := by decide +kernel
theorem dX8_copy_18 : decode cX8_copy 18 = .ok (.goto (-16), 3) := by decide +kernel
theorem dX8_copy_21 : decode cX8_copy 21 = .ok (.return_, 1) := by decide +kernel
theorem dX8_goes_0 : decode cX8_goes 0 = .ok (.aload_n 0, 1) := by decide +kernel
theorem dX8_goes_1 : decode cX8_goes 1 = .ok (.getfield 11, 3) := by decide +kernel
theorem dX8_goes_4 : decode cX8_goes 4 = .ok (.sipush 3204, 3) := by decide +kernel
theorem dX8_goes_7 : decode cX8_goes 7 = .ok (.aload_n 0, 1) := by decide +kernel
theorem dX8_goes_8 : decode cX8_goes 8 = .ok (.getfield 11, 3) := by decide +kernel
theorem dX8_goes_11 : decode cX8_goes 11 = .ok (.iconst 0, 1) := by decide +kernel
theorem dX8_goes_12 : decode cX8_goes 12 = .ok (.iload_n 1, 1) := by decide +kernel
theorem dX8_goes_13 : decode cX8_goes 13 = .ok (.iadd, 1) := by decide +kernel
theorem dX8_goes_14 : decode cX8_goes 14 = .ok (.iaload, 1) := by decide +kernel
theorem dX8_goes_15 : decode cX8_goes 15 = .ok (.iadd, 1) := by decide +kernel
theorem dX8_goes_16 : decode cX8_goes 16 = .ok (.dup2, 1) := by decide +kernel
theorem dX8_goes_17 : decode cX8_goes 17 = .ok (.iaload, 1) := by decide +kernel
theorem dX8_goes_18 : decode cX8_goes 18 = .ok (.aload_n 0, 1) := by decide +kernel
theorem dX8_goes_19 : decode cX8_goes 19 = .ok (.getfield 11, 3) := by decide +kernel
theorem dX8_goes_22 : decode cX8_goes 22 = .ok (.sipush 800, 3) := by decide +kernel
theorem dX8_goes_25 : decode cX8_goes 25 = .ok (.iload_n 1, 1) := by decide +kernel
theorem dX8_goes_26 : decode cX8_goes 26 = .ok (.iadd, 1) := by decide +kernel
theorem dX8_goes_27 : decode cX8_goes 27 = .ok (.iaload, 1) := by decide +kernel
theorem dX8_goes_28 : decode cX8_goes 28 = .ok (.isub, 1) := by decide +kernel
theorem dX8_goes_29 : decode cX8_goes 29 = .ok (.iastore, 1) := by decide +kernel
theorem dX8_goes_30 : decode cX8_goes 30 = .ok (.aload_n 0, 1) := by decide +kernel
theorem dX8_goes_31 : decode cX8_goes 31 = .ok (.getfield 11, 3) := by decide +kernel
theorem dX8_goes_34 : decode cX8_goes 34 = .ok (.iconst 0, 1) := by decide +kernel
theorem dX8_goes_35 : decode cX8_goes 35 = .ok (.iload_n 1, 1) := by decide +kernel
theorem dX8_goes_36 : decode cX8_goes 36 = .ok (.iadd, 1) := by decide +kernel
theorem dX8_goes_37 : decode cX8_goes 37 = .ok (.iload_n 2, 1) := by decide +kernel
theorem dX8_goes_38 : decode cX8_goes 38 = .ok (.iastore, 1) := by decide +kernel
theorem dX8_goes_39 : decode cX8_goes 39 = .ok (.aload_n 0, 1) := by decide +kernel
theorem dX8_goes_40 : decode cX8_goes 40 = .ok (.getfield 11, 3) := by decide +kernel
theorem dX8_goes_43 : decode cX8_goes 43 = .ok (.sipush 3204, 3) := by decide +kernel
theorem dX8_goes_46 : decode cX8_goes 46 = .ok (.iload_n 2, 1) := by decide +kernel
theorem dX8_goes_47 : decode cX8_goes 47 = .ok (.iadd, 1) := by decide +kernel
theorem dX8_goes_48 : decode cX8_goes 48 = .ok (.dup2, 1) := by decide +kernel
theorem dX8_goes_49 : decode cX8_goes 49 = .ok (.iaload, 1) := by decide +kernel
theorem dX8_goes_50 : decode cX8_goes 50 = .ok (.aload_n 0, 1) := by decide +kernel
theorem dX8_goes_51 : decode cX8_goes 51 = .ok (.getfield 11, 3) := by decide +kernel
theorem dX8_goes_54 : decode cX8_goes 54 = .ok (.sipush 800, 3) := by decide +kernel
theorem dX8_goes_57 : decode cX8_goes 57 = .ok (.iload_n 1, 1) := by decide +kernel
theorem dX8_goes_58 : decode cX8_goes 58 = .ok (.iadd, 1) := by decide +kernel
theorem dX8_goes_59 : decode cX8_goes 59 = .ok (.iaload, 1) := by decide +kernel
theorem dX8_goes_60 : decode cX8_goes 60 = .ok (.iadd, 1) := by decide +kernel
theorem dX8_goes_61 : decode cX8_goes 61 = .ok (.iastore, 1) := by decide +kernel
theorem dX8_goes_62 : decode cX8_goes 62 = .ok (.aload_n 0, 1) := by decide +kernel
theorem dX8_goes_63 : decode cX8_goes 63 = .ok (.getfield 11, 3) := by decide +kernel
theorem dX8_goes_66 : decode cX8_goes 66 = .ok (.sipush 2800, 3) := by decide +kernel
theorem dX8_goes_69 : decode cX8_goes 69 = .ok (.iload_n 1, 1) := by decide +kernel
theorem dX8_goes_70 : decode cX8_goes 70 = .ok (.iadd, 1) := by decide +kernel
theorem dX8_goes_71 : decode cX8_goes 71 = .ok (.aload_n 0, 1) := by decide +kernel
theorem dX8_goes_72 : decode cX8_goes 72 = .ok (.getfield 11, 3) := by decide +kernel
theorem dX8_goes_75 : decode cX8_goes 75 = .ok (.sipush 3215, 3) := by decide +kernel
theorem dX8_goes_78 : decode cX8_goes 78 = .ok (.dup2, 1) := by decide +kernel
theorem dX8_goes_79 : decode cX8_goes 79 = .ok (.iaload, 1) := by decide +kernel
theorem dX8_goes_80 : decode cX8_goes 80 = .ok (.dup_x2, 1) := by decide +kernel
theorem dX8_goes_81 : decode cX8_goes 81 = .ok (.iconst 1, 1) := by decide +kernel
theorem dX8_goes_82 : decode cX8_goes 82 = .ok (.iadd, 1) := by decide +kernel
theorem dX8_goes_83 : decode cX8_goes 83 = .ok (.iastore, 1) := by decide +kernel
theorem dX8_goes_84 : decode cX8_goes 84 = .ok (.iastore, 1) := by decide +kernel
theorem dX8_goes_85 : decode cX8_goes 85 = .ok (.return_, 1) := by decide +kernel
theorem dX8_weighs_0 : decode cX8_weighs 0 = .ok (.aload_n 0, 1) := by decide +kernel
theorem dX8_weighs_1 : decode cX8_weighs 1 = .ok (.getfield 11, 3) := by decide +kernel
theorem dX8_weighs_4 : decode cX8_weighs 4 = .ok (.sipush 3204, 3) := by decide +kernel
theorem dX8_weighs_7 : decode cX8_weighs 7 = .ok (.aload_n 0, 1) := by decide +kernel
theorem dX8_weighs_8 : decode cX8_weighs 8 = .ok (.getfield 11, 3) := by decide +kernel
theorem dX8_weighs_11 : decode cX8_weighs 11 = .ok (.iconst 0, 1) := by decide +kernel
theorem dX8_weighs_12 : decode cX8_weighs 12 = .ok (.iload_n 1, 1) := by decide +kernel
theorem dX8_weighs_13 : decode cX8_weighs 13 = .ok (.iadd, 1) := by decide +kernel
theorem dX8_weighs_14 : decode cX8_weighs 14 = .ok (.iaload, 1) := by decide +kernel
theorem dX8_weighs_15 : decode cX8_weighs 15 = .ok (.iadd, 1) := by decide +kernel
theorem dX8_weighs_16 : decode cX8_weighs 16 = .ok (.dup2, 1) := by decide +kernel
theorem dX8_weighs_17 : decode cX8_weighs 17 = .ok (.iaload, 1) := by decide +kernel
theorem dX8_weighs_18 : decode cX8_weighs 18 = .ok (.iload_n 2, 1) := by decide +kernel
theorem dX8_weighs_19 : decode cX8_weighs 19 = .ok (.aload_n 0, 1) := by decide +kernel
theorem dX8_weighs_20 : decode cX8_weighs 20 = .ok (.getfield 11, 3) := by decide +kernel
theorem dX8_weighs_23 : decode cX8_weighs 23 = .ok (.sipush 800, 3) := by decide +kernel
theorem dX8_weighs_26 : decode cX8_weighs 26 = .ok (.iload_n 1, 1) := by decide +kernel
theorem dX8_weighs_27 : decode cX8_weighs 27 = .ok (.iadd, 1) := by decide +kernel
theorem dX8_weighs_28 : decode cX8_weighs 28 = .ok (.iaload, 1) := by decide +kernel
theorem dX8_weighs_29 : decode cX8_weighs 29 = .ok (.isub, 1) := by decide +kernel
theorem dX8_weighs_30 : decode cX8_weighs 30 = .ok (.iadd, 1) := by decide +kernel
theorem dX8_weighs_31 : decode cX8_weighs 31 = .ok (.iastore, 1) := by decide +kernel
theorem dX8_weighs_32 : decode cX8_weighs 32 = .ok (.aload_n 0, 1) := by decide +kernel
theorem dX8_weighs_33 : decode cX8_weighs 33 = .ok (.getfield 11, 3) := by decide +kernel
theorem dX8_weighs_36 : decode cX8_weighs 36 = .ok (.sipush 800, 3) := by decide +kernel
theorem dX8_weighs_39 : decode cX8_weighs 39 = .ok (.iload_n 1, 1) := by decide +kernel
theorem dX8_weighs_40 : decode cX8_weighs 40 = .ok (.iadd, 1) := by decide +kernel
theorem dX8_weighs_41 : decode cX8_weighs 41 = .ok (.iload_n 2, 1) := by decide +kernel
theorem dX8_weighs_42 : decode cX8_weighs 42 = .ok (.iastore, 1) := by decide +kernel
theorem dX8_weighs_43 : decode cX8_weighs 43 = .ok (.return_, 1) := by decide +kernel
theorem dX8_isThing_0 : decode cX8_isThing 0 = .ok (.aload_n 0, 1) := by decide +kernel
theorem dX8_isThing_1 : decode cX8_isThing 1 = .ok (.getfield 11, 3) := by decide +kernel
theorem dX8_isThing_4 : decode cX8_isThing 4 = .ok (.iconst 0, 1) := by decide +kernel
theorem dX8_isThing_5 : decode cX8_isThing 5 = .ok (.iload_n 1, 1) := by decide +kernel
theorem dX8_isThing_6 : decode cX8_isThing 6 = .ok (.iadd, 1) := by decide +kernel
theorem dX8_isThing_7 : decode cX8_isThing 7 = .ok (.iaload, 1) := by decide +kernel
theorem dX8_isThing_8 : decode cX8_isThing 8 = .ok (.iconst 1, 1) := by decide +kernel
theorem dX8_isThing_9 : decode cX8_isThing 9 = .ok (.if_icmp .eq 15, 3) := by decide +kernel
theorem dX8_isThing_12 : decode cX8_isThing 12 = .ok (.aload_n 0, 1) := by decide +kernel
theorem dX8_isThing_13 : decode cX8_isThing 13 = .ok (.getfield 11, 3) := by decide +kernel
theorem dX8_isThing_16 : decode cX8_isThing 16 = .ok (.iconst 0, 1) := by decide +kernel
theorem dX8_isThing_17 : decode cX8_isThing 17 = .ok (.iload_n 1, 1) := by decide +kernel
theorem dX8_isThing_18 : decode cX8_isThing 18 = .ok (.iadd, 1) := by decide +kernel
theorem dX8_isThing_19 : decode cX8_isThing 19 = .ok (.iaload, 1) := by decide +kernel
theorem dX8_isThing_20 : decode cX8_isThing 20 = .ok (.iconst 2, 1) := by decide +kernel
theorem dX8_isThing_21 : decode cX8_isThing 21 = .ok (.if_icmp .ne 7, 3) := by decide +kernel
theorem dX8_isThing_24 : decode cX8_isThing 24 = .ok (.iconst 1, 1) := by decide +kernel
theorem dX8_isThing_25 : decode cX8_isThing 25 = .ok (.goto 4, 3) := by decide +kernel
theorem dX8_isThing_28 : decode cX8_isThing 28 = .ok (.iconst 0, 1) := by decide +kernel
theorem dX8_isThing_29 : decode cX8_isThing 29 = .ok (.ireturn, 1) := by decide +kernel
theorem dX8_oldest_0 : decode cX8_oldest 0 = .ok (.iconst (-1), 1) := by decide +kernel
theorem dX8_oldest_1 : decode cX8_oldest 1 = .ok (.istore_n 3, 1) := by decide +kernel
theorem dX8_oldest_2 : decode cX8_oldest 2 = .ok (.iconst 0, 1) := by decide +kernel
theorem dX8_oldest_3 : decode cX8_oldest 3 = .ok (.istore 4, 2) := by decide +kernel
theorem dX8_oldest_5 : decode cX8_oldest 5 = .ok (.iload 4, 2) := by decide +kernel
theorem dX8_oldest_7 : decode cX8_oldest 7 = .ok (.sipush 400, 3) := by decide +kernel
theorem dX8_oldest_10 : decode cX8_oldest 10 = .ok (.if_icmp .ge 72, 3) := by decide +kernel
theorem dX8_oldest_13 : decode cX8_oldest 13 = .ok (.aload_n 0, 1) := by decide +kernel
theorem dX8_oldest_14 : decode cX8_oldest 14 = .ok (.getfield 11, 3) := by decide +kernel
theorem dX8_oldest_17 : decode cX8_oldest 17 = .ok (.iconst 0, 1) := by decide +kernel
theorem dX8_oldest_18 : decode cX8_oldest 18 = .ok (.iload 4, 2) := by decide +kernel
theorem dX8_oldest_20 : decode cX8_oldest 20 = .ok (.iadd, 1) := by decide +kernel
theorem dX8_oldest_21 : decode cX8_oldest 21 = .ok (.iaload, 1) := by decide +kernel
theorem dX8_oldest_22 : decode cX8_oldest 22 = .ok (.iload_n 1, 1) := by decide +kernel
theorem dX8_oldest_23 : decode cX8_oldest 23 = .ok (.if_icmp .ne 53, 3) := by decide +kernel
theorem dX8_oldest_26 : decode cX8_oldest 26 = .ok (.iload_n 2, 1) := by decide +kernel
theorem dX8_oldest_27 : decode cX8_oldest 27 = .ok (.ifCond .eq 18, 3) := by decide +kernel
theorem dX8_oldest_30 : decode cX8_oldest 30 = .ok (.aload_n 0, 1) := by decide +kernel
theorem dX8_oldest_31 : decode cX8_oldest 31 = .ok (.getfield 11, 3) := by decide +kernel
theorem dX8_oldest_34 : decode cX8_oldest 34 = .ok (.sipush 2400, 3) := by decide +kernel
theorem dX8_oldest_37 : decode cX8_oldest 37 = .ok (.iload 4, 2) := by decide +kernel
theorem dX8_oldest_39 : decode cX8_oldest 39 = .ok (.iadd, 1) := by decide +kernel
theorem dX8_oldest_40 : decode cX8_oldest 40 = .ok (.iaload, 1) := by decide +kernel
theorem dX8_oldest_41 : decode cX8_oldest 41 = .ok (.iconst 1, 1) := by decide +kernel
theorem dX8_oldest_42 : decode cX8_oldest 42 = .ok (.if_icmp .eq 34, 3) := by decide +kernel
theorem dX8_oldest_45 : decode cX8_oldest 45 = .ok (.iload_n 3, 1) := by decide +kernel
theorem dX8_oldest_46 : decode cX8_oldest 46 = .ok (.ifCond .lt 27, 3) := by decide +kernel
theorem dX8_oldest_49 : decode cX8_oldest 49 = .ok (.aload_n 0, 1) := by decide +kernel
theorem dX8_oldest_50 : decode cX8_oldest 50 = .ok (.getfield 11, 3) := by decide +kernel
theorem dX8_oldest_53 : decode cX8_oldest 53 = .ok (.sipush 2800, 3) := by decide +kernel
theorem dX8_oldest_56 : decode cX8_oldest 56 = .ok (.iload 4, 2) := by decide +kernel
theorem dX8_oldest_58 : decode cX8_oldest 58 = .ok (.iadd, 1) := by decide +kernel
theorem dX8_oldest_59 : decode cX8_oldest 59 = .ok (.iaload, 1) := by decide +kernel
theorem dX8_oldest_60 : decode cX8_oldest 60 = .ok (.aload_n 0, 1) := by decide +kernel
theorem dX8_oldest_61 : decode cX8_oldest 61 = .ok (.getfield 11, 3) := by decide +kernel
theorem dX8_oldest_64 : decode cX8_oldest 64 = .ok (.sipush 2800, 3) := by decide +kernel
theorem dX8_oldest_67 : decode cX8_oldest 67 = .ok (.iload_n 3, 1) := by decide +kernel
theorem dX8_oldest_68 : decode cX8_oldest 68 = .ok (.iadd, 1) := by decide +kernel
theorem dX8_oldest_69 : decode cX8_oldest 69 = .ok (.iaload, 1) := by decide +kernel
theorem dX8_oldest_70 : decode cX8_oldest 70 = .ok (.if_icmp .ge 6, 3) := by decide +kernel
theorem dX8_oldest_73 : decode cX8_oldest 73 = .ok (.iload 4, 2) := by decide +kernel
theorem dX8_oldest_75 : decode cX8_oldest 75 = .ok (.istore_n 3, 1) := by decide +kernel
theorem dX8_oldest_76 : decode cX8_oldest 76 = .ok (.iinc 4 1, 3) := by decide +kernel
theorem dX8_oldest_79 : decode cX8_oldest 79 = .ok (.goto (-74), 3) := by decide +kernel
theorem dX8_oldest_82 : decode cX8_oldest 82 = .ok (.iload_n 3, 1) := by decide +kernel
theorem dX8_oldest_83 : decode cX8_oldest 83 = .ok (.ireturn, 1) := by decide +kernel
set_option maxRecDepth 20000 in
theorem ggX8_went_X8_goes : GoodIn wsX8_went wsX8_goes := goodIn_r _ [8, 1, 9, 10, 11, 12, 13, 14, 15, 16, 17, 18, 19, 20, 21, 22, 23, 24, 25, 26, 27] (by decide +kernel) (by decide +kernel)
set_option maxRecDepth 20000 in
theorem gX8_went_X8_goes : GoodIn wsX8_went (wsV RX8 58 RX8 yX8_goes wsX8_goes) := goodIn_app (goodIn_of _ (by decide +kernel)) ggX8_went_X8_goes
theorem dX8_went_0 : decode cX8_went 0 = .ok (.aload_n 0, 1) := by decide +kernel
theorem dX8_went_1 : decode cX8_went 1 = .ok (.iload_n 1, 1) := by decide +kernel
theorem dX8_went_2 : decode cX8_went 2 = .ok (.iload_n 2, 1) := by decide +kernel
theorem dX8_went_3 : decode cX8_went 3 = .ok (.invokevirtual 58, 3) := by decide +kernel
theorem dX8_went_6 : decode cX8_went 6 = .ok (.aload_n 0, 1) := by decide +kernel
theorem dX8_went_7 : decode cX8_went 7 = .ok (.getfield 11, 3) := by decide +kernel
theorem dX8_went_10 : decode cX8_went 10 = .ok (.sipush 2400, 3) := by decide +kernel
theorem dX8_went_13 : decode cX8_went 13 = .ok (.iload_n 1, 1) := by decide +kernel
theorem dX8_went_14 : decode cX8_went 14 = .ok (.iadd, 1) := by decide +kernel
theorem dX8_went_15 : decode cX8_went 15 = .ok (.iconst 0, 1) := by decide +kernel
theorem dX8_went_16 : decode cX8_went 16 = .ok (.iastore, 1) := by decide +kernel
theorem dX8_went_17 : decode cX8_went 17 = .ok (.bipush 19, 2) := by decide +kernel
theorem dX8_went_19 : decode cX8_went 19 = .ok (.istore_n 3, 1) := by decide +kernel
theorem dX8_went_20 : decode cX8_went 20 = .ok (.iload_n 3, 1) := by decide +kernel
theorem dX8_went_21 : decode cX8_went 21 = .ok (.ifCond .le 31, 3) := by decide +kernel
theorem dX8_went_24 : decode cX8_went 24 = .ok (.aload_n 0, 1) := by decide +kernel
theorem dX8_went_25 : decode cX8_went 25 = .ok (.getfield 11, 3) := by decide +kernel
theorem dX8_went_28 : decode cX8_went 28 = .ok (.sipush 3216, 3) := by decide +kernel
theorem dX8_went_31 : decode cX8_went 31 = .ok (.iload_n 3, 1) := by decide +kernel
theorem dX8_went_32 : decode cX8_went 32 = .ok (.iadd, 1) := by decide +kernel
theorem dX8_went_33 : decode cX8_went 33 = .ok (.aload_n 0, 1) := by decide +kernel
theorem dX8_went_34 : decode cX8_went 34 = .ok (.getfield 11, 3) := by decide +kernel
theorem dX8_went_37 : decode cX8_went 37 = .ok (.sipush 3216, 3) := by decide +kernel
theorem dX8_went_40 : decode cX8_went 40 = .ok (.iload_n 3, 1) := by decide +kernel
theorem dX8_went_41 : decode cX8_went 41 = .ok (.iadd, 1) := by decide +kernel
theorem dX8_went_42 : decode cX8_went 42 = .ok (.iconst 1, 1) := by decide +kernel
theorem dX8_went_43 : decode cX8_went 43 = .ok (.isub, 1) := by decide +kernel
theorem dX8_went_44 : decode cX8_went 44 = .ok (.iaload, 1) := by decide +kernel
theorem dX8_went_45 : decode cX8_went 45 = .ok (.iastore, 1) := by decide +kernel
theorem dX8_went_46 : decode cX8_went 46 = .ok (.iinc 3 (-1), 3) := by decide +kernel
theorem dX8_went_49 : decode cX8_went 49 = .ok (.goto (-29), 3) := by decide +kernel
theorem dX8_went_52 : decode cX8_went 52 = .ok (.aload_n 0, 1) := by decide +kernel
theorem dX8_went_53 : decode cX8_went 53 = .ok (.getfield 11, 3) := by decide +kernel
theorem dX8_went_56 : decode cX8_went 56 = .ok (.sipush 3216, 3) := by decide +kernel
theorem dX8_went_59 : decode cX8_went 59 = .ok (.iload_n 1, 1) := by decide +kernel
theorem dX8_went_60 : decode cX8_went 60 = .ok (.iastore, 1) := by decide +kernel
theorem dX8_went_61 : decode cX8_went 61 = .ok (.aload_n 0, 1) := by decide +kernel
theorem dX8_went_62 : decode cX8_went 62 = .ok (.getfield 11, 3) := by decide +kernel
theorem dX8_went_65 : decode cX8_went 65 = .ok (.sipush 3214, 3) := by decide +kernel
theorem dX8_went_68 : decode cX8_went 68 = .ok (.dup2, 1) := by decide +kernel
theorem dX8_went_69 : decode cX8_went 69 = .ok (.iaload, 1) := by decide +kernel
theorem dX8_went_70 : decode cX8_went 70 = .ok (.iconst 1, 1) := by decide +kernel
theorem dX8_went_71 : decode cX8_went 71 = .ok (.iadd, 1) := by decide +kernel
theorem dX8_went_72 : decode cX8_went 72 = .ok (.iastore, 1) := by decide +kernel
theorem dX8_went_73 : decode cX8_went 73 = .ok (.aload_n 0, 1) := by decide +kernel
theorem dX8_went_74 : decode cX8_went 74 = .ok (.getfield 62, 3) := by decide +kernel
theorem dX8_went_77 : decode cX8_went 77 = .ok (.sipush 400, 3) := by decide +kernel
theorem dX8_went_80 : decode cX8_went 80 = .ok (.if_icmp .ge 20, 3) := by decide +kernel
theorem dX8_went_83 : decode cX8_went 83 = .ok (.aload_n 0, 1) := by decide +kernel
theorem dX8_went_84 : decode cX8_went 84 = .ok (.getfield 21, 3) := by decide +kernel
theorem dX8_went_87 : decode cX8_went 87 = .ok (.aload_n 0, 1) := by decide +kernel
theorem dX8_went_88 : decode cX8_went 88 = .ok (.dup, 1) := by decide +kernel
theorem dX8_went_89 : decode cX8_went 89 = .ok (.getfield 62, 3) := by decide +kernel
theorem dX8_went_92 : decode cX8_went 92 = .ok (.dup_x1, 1) := by decide +kernel
theorem dX8_went_93 : decode cX8_went 93 = .ok (.iconst 1, 1) := by decide +kernel
theorem dX8_went_94 : decode cX8_went 94 = .ok (.iadd, 1) := by decide +kernel
theorem dX8_went_95 : decode cX8_went 95 = .ok (.putfield 62, 3) := by decide +kernel
theorem dX8_went_98 : decode cX8_went 98 = .ok (.iload_n 1, 1) := by decide +kernel
theorem dX8_went_99 : decode cX8_went 99 = .ok (.iastore, 1) := by decide +kernel
theorem dX8_went_100 : decode cX8_went 100 = .ok (.return_, 1) := by decide +kernel
set_option maxRecDepth 20000 in
theorem ggX8_sinks_X8_oldest : GoodIn wsX8_sinks wsX8_oldest := goodIn_r _ [6, 1, 11, 12, 13, 14, 15, 16, 17, 18, 19, 20, 21, 22, 23, 24, 25, 26, 27, 28, 29] (by decide +kernel) (by decide +kernel)
set_option maxRecDepth 20000 in
theorem gX8_sinks_X8_oldest : GoodIn wsX8_sinks (wsV RX8 66 RX8 yX8_oldest wsX8_oldest) := goodIn_app (goodIn_of _ (by decide +kernel)) ggX8_sinks_X8_oldest
set_option maxRecDepth 20000 in
theorem ggX8_sinks_X8_goes : GoodIn wsX8_sinks wsX8_goes := goodIn_r _ [10, 1, 11, 12, 13, 14, 15, 16, 17, 18, 19, 20, 21, 22, 23, 24, 25, 26, 27, 28, 29] (by decide +kernel) (by decide +kernel)
set_option maxRecDepth 20000 in
theorem gX8_sinks_X8_goes : GoodIn wsX8_sinks (wsV RX8 58 RX8 yX8_goes wsX8_goes) := goodIn_app (goodIn_of _ (by decide +kernel)) ggX8_sinks_X8_goes
theorem dX8_sinks_0 : decode cX8_sinks 0 = .ok (.aload_n 0, 1) := by decide +kernel
theorem dX8_sinks_1 : decode cX8_sinks 1 = .ok (.getfield 11, 3) := by decide +kernel
theorem dX8_sinks_4 : decode cX8_sinks 4 = .ok (.sipush 3206, 3) := by decide +kernel
theorem dX8_sinks_7 : decode cX8_sinks 7 = .ok (.iaload, 1) := by decide +kernel
theorem dX8_sinks_8 : decode cX8_sinks 8 = .ok (.aload_n 0, 1) := by decide +kernel
theorem dX8_sinks_9 : decode cX8_sinks 9 = .ok (.getfield 11, 3) := by decide +kernel
theorem dX8_sinks_12 : decode cX8_sinks 12 = .ok (.sipush 3201, 3) := by decide +kernel
theorem dX8_sinks_15 : decode cX8_sinks 15 = .ok (.iaload, 1) := by decide +kernel
theorem dX8_sinks_16 : decode cX8_sinks 16 = .ok (.if_icmp .le 35, 3) := by decide +kernel
theorem dX8_sinks_19 : decode cX8_sinks 19 = .ok (.aload_n 0, 1) := by decide +kernel
theorem dX8_sinks_20 : decode cX8_sinks 20 = .ok (.iconst 2, 1) := by decide +kernel
theorem dX8_sinks_21 : decode cX8_sinks 21 = .ok (.iconst 1, 1) := by decide +kernel
theorem dX8_sinks_22 : decode cX8_sinks 22 = .ok (.invokevirtual 66, 3) := by decide +kernel
theorem dX8_sinks_25 : decode cX8_sinks 25 = .ok (.istore_n 1, 1) := by decide +kernel
theorem dX8_sinks_26 : decode cX8_sinks 26 = .ok (.iload_n 1, 1) := by decide +kernel
theorem dX8_sinks_27 : decode cX8_sinks 27 = .ok (.ifCond .ge 4, 3) := by decide +kernel
theorem dX8_sinks_30 : decode cX8_sinks 30 = .ok (.return_, 1) := by decide +kernel
theorem dX8_sinks_31 : decode cX8_sinks 31 = .ok (.aload_n 0, 1) := by decide +kernel
theorem dX8_sinks_32 : decode cX8_sinks 32 = .ok (.getfield 11, 3) := by decide +kernel
theorem dX8_sinks_35 : decode cX8_sinks 35 = .ok (.sipush 1600, 3) := by decide +kernel
theorem dX8_sinks_38 : decode cX8_sinks 38 = .ok (.iload_n 1, 1) := by decide +kernel
theorem dX8_sinks_39 : decode cX8_sinks 39 = .ok (.iadd, 1) := by decide +kernel
theorem dX8_sinks_40 : decode cX8_sinks 40 = .ok (.iconst 0, 1) := by decide +kernel
theorem dX8_sinks_41 : decode cX8_sinks 41 = .ok (.iastore, 1) := by decide +kernel
theorem dX8_sinks_42 : decode cX8_sinks 42 = .ok (.aload_n 0, 1) := by decide +kernel
theorem dX8_sinks_43 : decode cX8_sinks 43 = .ok (.iload_n 1, 1) := by decide +kernel
theorem dX8_sinks_44 : decode cX8_sinks 44 = .ok (.iconst 1, 1) := by decide +kernel
theorem dX8_sinks_45 : decode cX8_sinks 45 = .ok (.invokevirtual 58, 3) := by decide +kernel
theorem dX8_sinks_48 : decode cX8_sinks 48 = .ok (.goto (-48), 3) := by decide +kernel
theorem dX8_sinks_51 : decode cX8_sinks 51 = .ok (.return_, 1) := by decide +kernel
set_option maxRecDepth 20000 in
theorem ggX8_lets_X8_oldest : GoodIn wsX8_lets wsX8_oldest := goodIn_r _ [6, 1, 17, 18, 19, 20, 21, 22, 23, 24, 25, 26, 27, 28, 29, 30, 31, 32, 33, 34, 35] (by decide +kernel) (by decide +kernel)
set_option maxRecDepth 20000 in
theorem gX8_lets_X8_oldest : GoodIn wsX8_lets (wsV RX8 66 RX8 yX8_oldest wsX8_oldest) := goodIn_app (goodIn_of _ (by decide +kernel)) ggX8_lets_X8_oldest
set_option maxRecDepth 20000 in
theorem ggX8_lets_X8_goes : GoodIn wsX8_lets wsX8_goes := goodIn_r _ [10, 1, 17, 18, 19, 20, 21, 22, 23, 24, 25, 26, 27, 28, 29, 30, 31, 32, 33, 34, 35] (by decide +kernel) (by decide +kernel)
set_option maxRecDepth 20000 in
theorem gX8_lets_X8_goes : GoodIn wsX8_lets (wsV RX8 58 RX8 yX8_goes wsX8_goes) := goodIn_app (goodIn_of _ (by decide +kernel)) ggX8_lets_X8_goes
set_option maxRecDepth 20000 in
theorem ggX8_lets_X8_went : GoodIn wsX8_lets wsX8_went := goodIn_r _ [14, 1, 15, 16, 7, 8, 9, 5, 10, 17, 18, 19, 20, 21, 22, 23, 24, 25, 26, 27, 28, 29, 30, 31, 32, 33, 34, 35] (by decide +kernel) (by decide +kernel)
set_option maxRecDepth 20000 in
theorem gX8_lets_X8_went : GoodIn wsX8_lets (wsV RX8 70 RX8 yX8_went wsX8_went) := goodIn_app (goodIn_of _ (by decide +kernel)) ggX8_lets_X8_went
theorem dX8_lets_0 : decode cX8_lets 0 = .ok (.aload_n 0, 1) := by decide +kernel
theorem dX8_lets_1 : decode cX8_lets 1 = .ok (.getfield 11, 3) := by decide +kernel
theorem dX8_lets_4 : decode cX8_lets 4 = .ok (.sipush 3205, 3) := by decide +kernel
theorem dX8_lets_7 : decode cX8_lets 7 = .ok (.iaload, 1) := by decide +kernel
theorem dX8_lets_8 : decode cX8_lets 8 = .ok (.aload_n 0, 1) := by decide +kernel
theorem dX8_lets_9 : decode cX8_lets 9 = .ok (.getfield 11, 3) := by decide +kernel
theorem dX8_lets_12 : decode cX8_lets 12 = .ok (.sipush 3206, 3) := by decide +kernel
theorem dX8_lets_15 : decode cX8_lets 15 = .ok (.iaload, 1) := by decide +kernel
theorem dX8_lets_16 : decode cX8_lets 16 = .ok (.iadd, 1) := by decide +kernel
theorem dX8_lets_17 : decode cX8_lets 17 = .ok (.aload_n 0, 1) := by decide +kernel
theorem dX8_lets_18 : decode cX8_lets 18 = .ok (.getfield 11, 3) := by decide +kernel
theorem dX8_lets_21 : decode cX8_lets 21 = .ok (.sipush 3200, 3) := by decide +kernel
theorem dX8_lets_24 : decode cX8_lets 24 = .ok (.iaload, 1) := by decide +kernel
theorem dX8_lets_25 : decode cX8_lets 25 = .ok (.if_icmp .le 87, 3) := by decide +kernel
theorem dX8_lets_28 : decode cX8_lets 28 = .ok (.aload_n 0, 1) := by decide +kernel
theorem dX8_lets_29 : decode cX8_lets 29 = .ok (.iconst 1, 1) := by decide +kernel
theorem dX8_lets_30 : decode cX8_lets 30 = .ok (.iconst 1, 1) := by decide +kernel
theorem dX8_lets_31 : decode cX8_lets 31 = .ok (.invokevirtual 66, 3) := by decide +kernel
theorem dX8_lets_34 : decode cX8_lets 34 = .ok (.istore_n 1, 1) := by decide +kernel
theorem dX8_lets_35 : decode cX8_lets 35 = .ok (.aload_n 0, 1) := by decide +kernel
theorem dX8_lets_36 : decode cX8_lets 36 = .ok (.iconst 2, 1) := by decide +kernel
theorem dX8_lets_37 : decode cX8_lets 37 = .ok (.iconst 1, 1) := by decide +kernel
theorem dX8_lets_38 : decode cX8_lets 38 = .ok (.invokevirtual 66, 3) := by decide +kernel
theorem dX8_lets_41 : decode cX8_lets 41 = .ok (.istore_n 2, 1) := by decide +kernel
theorem dX8_lets_42 : decode cX8_lets 42 = .ok (.iload_n 1, 1) := by decide +kernel
theorem dX8_lets_43 : decode cX8_lets 43 = .ok (.ifCond .lt 39, 3) := by decide +kernel
theorem dX8_lets_46 : decode cX8_lets 46 = .ok (.aload_n 0, 1) := by decide +kernel
theorem dX8_lets_47 : decode cX8_lets 47 = .ok (.getfield 11, 3) := by decide +kernel
theorem dX8_lets_50 : decode cX8_lets 50 = .ok (.sipush 2000, 3) := by decide +kernel
theorem dX8_lets_53 : decode cX8_lets 53 = .ok (.iload_n 1, 1) := by decide +kernel
theorem dX8_lets_54 : decode cX8_lets 54 = .ok (.iadd, 1) := by decide +kernel
theorem dX8_lets_55 : decode cX8_lets 55 = .ok (.iaload, 1) := by decide +kernel
theorem dX8_lets_56 : decode cX8_lets 56 = .ok (.ifCond .le 26, 3) := by decide +kernel
theorem dX8_lets_59 : decode cX8_lets 59 = .ok (.aload_n 0, 1) := by decide +kernel
theorem dX8_lets_60 : decode cX8_lets 60 = .ok (.getfield 11, 3) := by decide +kernel
theorem dX8_lets_63 : decode cX8_lets 63 = .ok (.sipush 2000, 3) := by decide +kernel
theorem dX8_lets_66 : decode cX8_lets 66 = .ok (.iload_n 1, 1) := by decide +kernel
theorem dX8_lets_67 : decode cX8_lets 67 = .ok (.iadd, 1) := by decide +kernel
theorem dX8_lets_68 : decode cX8_lets 68 = .ok (.dup2, 1) := by decide +kernel
theorem dX8_lets_69 : decode cX8_lets 69 = .ok (.iaload, 1) := by decide +kernel
theorem dX8_lets_70 : decode cX8_lets 70 = .ok (.iconst 1, 1) := by decide +kernel
theorem dX8_lets_71 : decode cX8_lets 71 = .ok (.isub, 1) := by decide +kernel
theorem dX8_lets_72 : decode cX8_lets 72 = .ok (.iastore, 1) := by decide +kernel
theorem dX8_lets_73 : decode cX8_lets 73 = .ok (.aload_n 0, 1) := by decide +kernel
theorem dX8_lets_74 : decode cX8_lets 74 = .ok (.iload_n 1, 1) := by decide +kernel
theorem dX8_lets_75 : decode cX8_lets 75 = .ok (.iconst 1, 1) := by decide +kernel
theorem dX8_lets_76 : decode cX8_lets 76 = .ok (.invokevirtual 58, 3) := by decide +kernel
theorem dX8_lets_79 : decode cX8_lets 79 = .ok (.goto 30, 3) := by decide +kernel
theorem dX8_lets_82 : decode cX8_lets 82 = .ok (.iload_n 1, 1) := by decide +kernel
theorem dX8_lets_83 : decode cX8_lets 83 = .ok (.ifCond .lt 12, 3) := by decide +kernel
theorem dX8_lets_86 : decode cX8_lets 86 = .ok (.aload_n 0, 1) := by decide +kernel
theorem dX8_lets_87 : decode cX8_lets 87 = .ok (.iload_n 1, 1) := by decide +kernel
theorem dX8_lets_88 : decode cX8_lets 88 = .ok (.iconst 3, 1) := by decide +kernel
theorem dX8_lets_89 : decode cX8_lets 89 = .ok (.invokevirtual 70, 3) := by decide +kernel
theorem dX8_lets_92 : decode cX8_lets 92 = .ok (.goto 17, 3) := by decide +kernel
theorem dX8_lets_95 : decode cX8_lets 95 = .ok (.iload_n 2, 1) := by decide +kernel
theorem dX8_lets_96 : decode cX8_lets 96 = .ok (.ifCond .lt 12, 3) := by decide +kernel
theorem dX8_lets_99 : decode cX8_lets 99 = .ok (.aload_n 0, 1) := by decide +kernel
theorem dX8_lets_100 : decode cX8_lets 100 = .ok (.iload_n 2, 1) := by decide +kernel
theorem dX8_lets_101 : decode cX8_lets 101 = .ok (.iconst 4, 1) := by decide +kernel
theorem dX8_lets_102 : decode cX8_lets 102 = .ok (.invokevirtual 70, 3) := by decide +kernel
theorem dX8_lets_105 : decode cX8_lets 105 = .ok (.goto 4, 3) := by decide +kernel
theorem dX8_lets_108 : decode cX8_lets 108 = .ok (.return_, 1) := by decide +kernel
theorem dX8_lets_109 : decode cX8_lets 109 = .ok (.goto (-109), 3) := by decide +kernel
theorem dX8_lets_112 : decode cX8_lets 112 = .ok (.return_, 1) := by decide +kernel
set_option maxRecDepth 20000 in
theorem ggX8_trim_X8_sinks : GoodIn wsX8_trim wsX8_sinks := goodIn_r _ [6, 1, 7, 8, 9, 5, 10, 11, 12, 13, 14, 25, 26, 27, 28, 29, 30, 31, 32, 33, 34, 35, 36, 37, 38, 39, 40, 41, 42, 43] (by decide +kernel) (by decide +kernel)
set_option maxRecDepth 20000 in
theorem gX8_trim_X8_sinks : GoodIn wsX8_trim (wsV RX8 73 RX8 yX8_sinks wsX8_sinks) := goodIn_app (goodIn_of _ (by decide +kernel)) ggX8_trim_X8_sinks
set_option maxRecDepth 20000 in
theorem ggX8_trim_X8_lets : GoodIn wsX8_trim wsX8_lets := goodIn_r _ [18, 1, 7, 8, 9, 5, 10, 11, 12, 13, 14, 19, 20, 21, 22, 23, 24, 25, 26, 27, 28, 29, 30, 31, 32, 33, 34, 35, 36, 37, 38, 39, 40, 41, 42, 43] (by decide +kernel) (by decide +kernel)
set_option maxRecDepth 20000 in
theorem gX8_trim_X8_lets : GoodIn wsX8_trim (wsV RX8 76 RX8 yX8_lets wsX8_lets) := goodIn_app (goodIn_of _ (by decide +kernel)) ggX8_trim_X8_lets
set_option maxRecDepth 20000 in
theorem ggX8_trim_X8_oldest : GoodIn wsX8_trim wsX8_oldest := goodIn_r _ [10, 1, 25, 26, 27, 28, 29, 30, 31, 32, 33, 34, 35, 36, 37, 38, 39, 40, 41, 42, 43] (by decide +kernel) (by decide +kernel)
set_option maxRecDepth 20000 in
theorem gX8_trim_X8_oldest : GoodIn wsX8_trim (wsV RX8 66 RX8 yX8_oldest wsX8_oldest) := goodIn_app (goodIn_of _ (by decide +kernel)) ggX8_trim_X8_oldest
set_option maxRecDepth 20000 in
theorem ggX8_trim_X8_goes : GoodIn wsX8_trim wsX8_goes := goodIn_r _ [14, 1, 25, 26, 27, 28, 29, 30, 31, 32, 33, 34, 35, 36, 37, 38, 39, 40, 41, 42, 43] (by decide +kernel) (by decide +kernel)
set_option maxRecDepth 20000 in
theorem gX8_trim_X8_goes : GoodIn wsX8_trim (wsV RX8 58 RX8 yX8_goes wsX8_goes) := goodIn_app (goodIn_of _ (by decide +kernel)) ggX8_trim_X8_goes
theorem dX8_trim_0 : decode cX8_trim 0 = .ok (.aload_n 0, 1) := by decide +kernel
theorem dX8_trim_1 : decode cX8_trim 1 = .ok (.invokevirtual 73, 3) := by decide +kernel
theorem dX8_trim_4 : decode cX8_trim 4 = .ok (.aload_n 0, 1) := by decide +kernel
theorem dX8_trim_5 : decode cX8_trim 5 = .ok (.invokevirtual 76, 3) := by decide +kernel
theorem dX8_trim_8 : decode cX8_trim 8 = .ok (.iconst 3, 1) := by decide +kernel
theorem dX8_trim_9 : decode cX8_trim 9 = .ok (.istore_n 1, 1) := by decide +kernel
theorem dX8_trim_10 : decode cX8_trim 10 = .ok (.iload_n 1, 1) := by decide +kernel
theorem dX8_trim_11 : decode cX8_trim 11 = .ok (.iconst 4, 1) := by decide +kernel
theorem dX8_trim_12 : decode cX8_trim 12 = .ok (.if_icmp .gt 44, 3) := by decide +kernel
theorem dX8_trim_15 : decode cX8_trim 15 = .ok (.aload_n 0, 1) := by decide +kernel
theorem dX8_trim_16 : decode cX8_trim 16 = .ok (.getfield 11, 3) := by decide +kernel
theorem dX8_trim_19 : decode cX8_trim 19 = .ok (.sipush 3204, 3) := by decide +kernel
theorem dX8_trim_22 : decode cX8_trim 22 = .ok (.iload_n 1, 1) := by decide +kernel
theorem dX8_trim_23 : decode cX8_trim 23 = .ok (.iadd, 1) := by decide +kernel
theorem dX8_trim_24 : decode cX8_trim 24 = .ok (.iaload, 1) := by decide +kernel
theorem dX8_trim_25 : decode cX8_trim 25 = .ok (.aload_n 0, 1) := by decide +kernel
theorem dX8_trim_26 : decode cX8_trim 26 = .ok (.getfield 11, 3) := by decide +kernel
theorem dX8_trim_29 : decode cX8_trim 29 = .ok (.sipush 3200, 3) := by decide +kernel
theorem dX8_trim_32 : decode cX8_trim 32 = .ok (.iaload, 1) := by decide +kernel
theorem dX8_trim_33 : decode cX8_trim 33 = .ok (.if_icmp .le 17, 3) := by decide +kernel
theorem dX8_trim_36 : decode cX8_trim 36 = .ok (.aload_n 0, 1) := by decide +kernel
theorem dX8_trim_37 : decode cX8_trim 37 = .ok (.aload_n 0, 1) := by decide +kernel
theorem dX8_trim_38 : decode cX8_trim 38 = .ok (.iload_n 1, 1) := by decide +kernel
theorem dX8_trim_39 : decode cX8_trim 39 = .ok (.iconst 0, 1) := by decide +kernel
theorem dX8_trim_40 : decode cX8_trim 40 = .ok (.invokevirtual 66, 3) := by decide +kernel
theorem dX8_trim_43 : decode cX8_trim 43 = .ok (.iconst 0, 1) := by decide +kernel
theorem dX8_trim_44 : decode cX8_trim 44 = .ok (.invokevirtual 58, 3) := by decide +kernel
theorem dX8_trim_47 : decode cX8_trim 47 = .ok (.goto (-32), 3) := by decide +kernel
theorem dX8_trim_50 : decode cX8_trim 50 = .ok (.iinc 1 1, 3) := by decide +kernel
theorem dX8_trim_53 : decode cX8_trim 53 = .ok (.goto (-43), 3) := by decide +kernel
theorem dX8_trim_56 : decode cX8_trim 56 = .ok (.return_, 1) := by decide +kernel
set_option maxRecDepth 20000 in
theorem ggX8_hit_X8_goes : GoodIn wsX8_hit wsX8_goes := goodIn_r _ [6, 1, 7, 8, 9, 10, 11, 12, 13, 14, 15, 16, 17, 18, 19, 20, 21, 22, 23, 24, 25] (by decide +kernel) (by decide +kernel)
set_option maxRecDepth 20000 in
theorem gX8_hit_X8_goes : GoodIn wsX8_hit (wsV RX8 58 RX8 yX8_goes wsX8_goes) := goodIn_app (goodIn_of _ (by decide +kernel)) ggX8_hit_X8_goes
theorem dX8_hit_0 : decode cX8_hit 0 = .ok (.aload_n 0, 1) := by decide +kernel
theorem dX8_hit_1 : decode cX8_hit 1 = .ok (.getfield 11, 3) := by decide +kernel
theorem dX8_hit_4 : decode cX8_hit 4 = .ok (.sipush 1600, 3) := by decide +kernel
theorem dX8_hit_7 : decode cX8_hit 7 = .ok (.iload_n 1, 1) := by decide +kernel
theorem dX8_hit_8 : decode cX8_hit 8 = .ok (.iadd, 1) := by decide +kernel
theorem dX8_hit_9 : decode cX8_hit 9 = .ok (.aload_n 0, 1) := by decide +kernel
theorem dX8_hit_10 : decode cX8_hit 10 = .ok (.getfield 11, 3) := by decide +kernel
theorem dX8_hit_13 : decode cX8_hit 13 = .ok (.sipush 1600, 3) := by decide +kernel
theorem dX8_hit_16 : decode cX8_hit 16 = .ok (.iload_n 1, 1) := by decide +kernel
theorem dX8_hit_17 : decode cX8_hit 17 = .ok (.iadd, 1) := by decide +kernel
theorem dX8_hit_18 : decode cX8_hit 18 = .ok (.iaload, 1) := by decide +kernel
theorem dX8_hit_19 : decode cX8_hit 19 = .ok (.bipush 99, 2) := by decide +kernel
theorem dX8_hit_21 : decode cX8_hit 21 = .ok (.if_icmp .ge 18, 3) := by decide +kernel
theorem dX8_hit_24 : decode cX8_hit 24 = .ok (.aload_n 0, 1) := by decide +kernel
theorem dX8_hit_25 : decode cX8_hit 25 = .ok (.getfield 11, 3) := by decide +kernel
theorem dX8_hit_28 : decode cX8_hit 28 = .ok (.sipush 1600, 3) := by decide +kernel
theorem dX8_hit_31 : decode cX8_hit 31 = .ok (.iload_n 1, 1) := by decide +kernel
theorem dX8_hit_32 : decode cX8_hit 32 = .ok (.iadd, 1) := by decide +kernel
theorem dX8_hit_33 : decode cX8_hit 33 = .ok (.iaload, 1) := by decide +kernel
theorem dX8_hit_34 : decode cX8_hit 34 = .ok (.iconst 1, 1) := by decide +kernel
theorem dX8_hit_35 : decode cX8_hit 35 = .ok (.iadd, 1) := by decide +kernel
theorem dX8_hit_36 : decode cX8_hit 36 = .ok (.goto 5, 3) := by decide +kernel
theorem dX8_hit_39 : decode cX8_hit 39 = .ok (.bipush 99, 2) := by decide +kernel
theorem dX8_hit_41 : decode cX8_hit 41 = .ok (.iastore, 1) := by decide +kernel
theorem dX8_hit_42 : decode cX8_hit 42 = .ok (.aload_n 0, 1) := by decide +kernel
theorem dX8_hit_43 : decode cX8_hit 43 = .ok (.iload_n 1, 1) := by decide +kernel
theorem dX8_hit_44 : decode cX8_hit 44 = .ok (.aload_n 0, 1) := by decide +kernel
theorem dX8_hit_45 : decode cX8_hit 45 = .ok (.getfield 11, 3) := by decide +kernel
theorem dX8_hit_48 : decode cX8_hit 48 = .ok (.iconst 0, 1) := by decide +kernel
theorem dX8_hit_49 : decode cX8_hit 49 = .ok (.iload_n 1, 1) := by decide +kernel
theorem dX8_hit_50 : decode cX8_hit 50 = .ok (.iadd, 1) := by decide +kernel
theorem dX8_hit_51 : decode cX8_hit 51 = .ok (.iaload, 1) := by decide +kernel
theorem dX8_hit_52 : decode cX8_hit 52 = .ok (.iconst 1, 1) := by decide +kernel
theorem dX8_hit_53 : decode cX8_hit 53 = .ok (.if_icmp .ne 28, 3) := by decide +kernel
theorem dX8_hit_56 : decode cX8_hit 56 = .ok (.aload_n 0, 1) := by decide +kernel
theorem dX8_hit_57 : decode cX8_hit 57 = .ok (.getfield 11, 3) := by decide +kernel
theorem dX8_hit_60 : decode cX8_hit 60 = .ok (.sipush 1600, 3) := by decide +kernel
theorem dX8_hit_63 : decode cX8_hit 63 = .ok (.iload_n 1, 1) := by decide +kernel
theorem dX8_hit_64 : decode cX8_hit 64 = .ok (.iadd, 1) := by decide +kernel
theorem dX8_hit_65 : decode cX8_hit 65 = .ok (.iaload, 1) := by decide +kernel
theorem dX8_hit_66 : decode cX8_hit 66 = .ok (.aload_n 0, 1) := by decide +kernel
theorem dX8_hit_67 : decode cX8_hit 67 = .ok (.getfield 11, 3) := by decide +kernel
theorem dX8_hit_70 : decode cX8_hit 70 = .ok (.sipush 3202, 3) := by decide +kernel
theorem dX8_hit_73 : decode cX8_hit 73 = .ok (.iaload, 1) := by decide +kernel
theorem dX8_hit_74 : decode cX8_hit 74 = .ok (.if_icmp .lt 7, 3) := by decide +kernel
theorem dX8_hit_77 : decode cX8_hit 77 = .ok (.iconst 2, 1) := by decide +kernel
theorem dX8_hit_78 : decode cX8_hit 78 = .ok (.goto 11, 3) := by decide +kernel
theorem dX8_hit_81 : decode cX8_hit 81 = .ok (.aload_n 0, 1) := by decide +kernel
theorem dX8_hit_82 : decode cX8_hit 82 = .ok (.getfield 11, 3) := by decide +kernel
theorem dX8_hit_85 : decode cX8_hit 85 = .ok (.iconst 0, 1) := by decide +kernel
theorem dX8_hit_86 : decode cX8_hit 86 = .ok (.iload_n 1, 1) := by decide +kernel
theorem dX8_hit_87 : decode cX8_hit 87 = .ok (.iadd, 1) := by decide +kernel
theorem dX8_hit_88 : decode cX8_hit 88 = .ok (.iaload, 1) := by decide +kernel
theorem dX8_hit_89 : decode cX8_hit 89 = .ok (.invokevirtual 58, 3) := by decide +kernel
theorem dX8_hit_92 : decode cX8_hit 92 = .ok (.return_, 1) := by decide +kernel
set_option maxRecDepth 20000 in
theorem ggX8_putIn_X8_weighs : GoodIn wsX8_putIn wsX8_weighs := goodIn_r _ [6, 1, 37, 38, 39, 40, 41, 42, 43, 44, 45, 46, 47, 48, 49, 50, 51, 52, 53, 54, 55] (by decide +kernel) (by decide +kernel)
set_option maxRecDepth 20000 in
theorem gX8_putIn_X8_weighs : GoodIn wsX8_putIn (wsV RX8 79 RX8 yX8_weighs wsX8_weighs) := goodIn_app (goodIn_of _ (by decide +kernel)) ggX8_putIn_X8_weighs
set_option maxRecDepth 20000 in
theorem ggX8_putIn_X8_hit : GoodIn wsX8_putIn wsX8_hit := goodIn_r _ [10, 1, 11, 12, 13, 5, 14, 37, 38, 39, 40, 41, 42, 43, 44, 45, 46, 47, 48, 49, 50, 51, 52, 53, 54, 55] (by decide +kernel) (by decide +kernel)
set_option maxRecDepth 20000 in
theorem gX8_putIn_X8_hit : GoodIn wsX8_putIn (wsV RX8 82 RX8 yX8_hit wsX8_hit) := goodIn_app (goodIn_of _ (by decide +kernel)) ggX8_putIn_X8_hit
set_option maxRecDepth 20000 in
theorem ggX8_putIn_X8_trim : GoodIn wsX8_putIn wsX8_trim := goodIn_r _ [18, 1, 19, 20, 21, 5, 22, 23, 24, 25, 26, 11, 12, 13, 14, 27, 28, 29, 30, 31, 32, 33, 34, 35, 36, 37, 38, 39, 40, 41, 42, 43, 44, 45, 46, 47, 48, 49, 50, 51, 52, 53, 54, 55] (by decide +kernel) (by decide +kernel)
set_option maxRecDepth 20000 in
theorem gX8_putIn_X8_trim : GoodIn wsX8_putIn (wsV RX8 86 RX8 yX8_trim wsX8_trim) := goodIn_app (goodIn_of _ (by decide +kernel)) ggX8_putIn_X8_trim
set_option maxRecDepth 20000 in
theorem ggX8_putIn_X8_goes : GoodIn wsX8_putIn wsX8_goes := goodIn_r _ [14, 1, 37, 38, 39, 40, 41, 42, 43, 44, 45, 46, 47, 48, 49, 50, 51, 52, 53, 54, 55] (by decide +kernel) (by decide +kernel)
set_option maxRecDepth 20000 in
theorem gX8_putIn_X8_goes : GoodIn wsX8_putIn (wsV RX8 58 RX8 yX8_goes wsX8_goes) := goodIn_app (goodIn_of _ (by decide +kernel)) ggX8_putIn_X8_goes
theorem dX8_putIn_0 : decode cX8_putIn 0 = .ok (.aload_n 0, 1) := by decide +kernel
theorem dX8_putIn_1 : decode cX8_putIn 1 = .ok (.getfield 11, 3) := by decide +kernel
theorem dX8_putIn_4 : decode cX8_putIn 4 = .ok (.iconst 0, 1) := by decide +kernel
theorem dX8_putIn_5 : decode cX8_putIn 5 = .ok (.iload_n 1, 1) := by decide +kernel
theorem dX8_putIn_6 : decode cX8_putIn 6 = .ok (.iadd, 1) := by decide +kernel
theorem dX8_putIn_7 : decode cX8_putIn 7 = .ok (.iaload, 1) := by decide +kernel
theorem dX8_putIn_8 : decode cX8_putIn 8 = .ok (.istore 5, 2) := by decide +kernel
theorem dX8_putIn_10 : decode cX8_putIn 10 = .ok (.aload_n 0, 1) := by decide +kernel
theorem dX8_putIn_11 : decode cX8_putIn 11 = .ok (.iload_n 1, 1) := by decide +kernel
theorem dX8_putIn_12 : decode cX8_putIn 12 = .ok (.iload_n 3, 1) := by decide +kernel
theorem dX8_putIn_13 : decode cX8_putIn 13 = .ok (.invokevirtual 79, 3) := by decide +kernel
theorem dX8_putIn_16 : decode cX8_putIn 16 = .ok (.aload_n 0, 1) := by decide +kernel
theorem dX8_putIn_17 : decode cX8_putIn 17 = .ok (.getfield 11, 3) := by decide +kernel
theorem dX8_putIn_20 : decode cX8_putIn 20 = .ok (.sipush 400, 3) := by decide +kernel
theorem dX8_putIn_23 : decode cX8_putIn 23 = .ok (.iload_n 1, 1) := by decide +kernel
theorem dX8_putIn_24 : decode cX8_putIn 24 = .ok (.iadd, 1) := by decide +kernel
theorem dX8_putIn_25 : decode cX8_putIn 25 = .ok (.iload_n 2, 1) := by decide +kernel
theorem dX8_putIn_26 : decode cX8_putIn 26 = .ok (.iastore, 1) := by decide +kernel
theorem dX8_putIn_27 : decode cX8_putIn 27 = .ok (.aload_n 0, 1) := by decide +kernel
theorem dX8_putIn_28 : decode cX8_putIn 28 = .ok (.getfield 11, 3) := by decide +kernel
theorem dX8_putIn_31 : decode cX8_putIn 31 = .ok (.sipush 1200, 3) := by decide +kernel
theorem dX8_putIn_34 : decode cX8_putIn 34 = .ok (.iload_n 1, 1) := by decide +kernel
theorem dX8_putIn_35 : decode cX8_putIn 35 = .ok (.iadd, 1) := by decide +kernel
theorem dX8_putIn_36 : decode cX8_putIn 36 = .ok (.iload 4, 2) := by decide +kernel
theorem dX8_putIn_38 : decode cX8_putIn 38 = .ok (.iastore, 1) := by decide +kernel
theorem dX8_putIn_39 : decode cX8_putIn 39 = .ok (.iload 5, 2) := by decide +kernel
theorem dX8_putIn_41 : decode cX8_putIn 41 = .ok (.iconst 1, 1) := by decide +kernel
theorem dX8_putIn_42 : decode cX8_putIn 42 = .ok (.if_icmp .eq 9, 3) := by decide +kernel
theorem dX8_putIn_45 : decode cX8_putIn 45 = .ok (.iload 5, 2) := by decide +kernel
theorem dX8_putIn_47 : decode cX8_putIn 47 = .ok (.iconst 2, 1) := by decide +kernel
theorem dX8_putIn_48 : decode cX8_putIn 48 = .ok (.if_icmp .ne 14, 3) := by decide +kernel
theorem dX8_putIn_51 : decode cX8_putIn 51 = .ok (.aload_n 0, 1) := by decide +kernel
theorem dX8_putIn_52 : decode cX8_putIn 52 = .ok (.iload_n 1, 1) := by decide +kernel
theorem dX8_putIn_53 : decode cX8_putIn 53 = .ok (.invokevirtual 82, 3) := by decide +kernel
theorem dX8_putIn_56 : decode cX8_putIn 56 = .ok (.aload_n 0, 1) := by decide +kernel
theorem dX8_putIn_57 : decode cX8_putIn 57 = .ok (.invokevirtual 86, 3) := by decide +kernel
theorem dX8_putIn_60 : decode cX8_putIn 60 = .ok (.iconst 2, 1) := by decide +kernel
theorem dX8_putIn_61 : decode cX8_putIn 61 = .ok (.ireturn, 1) := by decide +kernel
theorem dX8_putIn_62 : decode cX8_putIn 62 = .ok (.aload_n 0, 1) := by decide +kernel
theorem dX8_putIn_63 : decode cX8_putIn 63 = .ok (.getfield 11, 3) := by decide +kernel
theorem dX8_putIn_66 : decode cX8_putIn 66 = .ok (.sipush 3213, 3) := by decide +kernel
theorem dX8_putIn_69 : decode cX8_putIn 69 = .ok (.dup2, 1) := by decide +kernel
theorem dX8_putIn_70 : decode cX8_putIn 70 = .ok (.iaload, 1) := by decide +kernel
theorem dX8_putIn_71 : decode cX8_putIn 71 = .ok (.iload 4, 2) := by decide +kernel
theorem dX8_putIn_73 : decode cX8_putIn 73 = .ok (.iadd, 1) := by decide +kernel
theorem dX8_putIn_74 : decode cX8_putIn 74 = .ok (.iastore, 1) := by decide +kernel
theorem dX8_putIn_75 : decode cX8_putIn 75 = .ok (.aload_n 0, 1) := by decide +kernel
theorem dX8_putIn_76 : decode cX8_putIn 76 = .ok (.getfield 11, 3) := by decide +kernel
theorem dX8_putIn_79 : decode cX8_putIn 79 = .ok (.sipush 1600, 3) := by decide +kernel
theorem dX8_putIn_82 : decode cX8_putIn 82 = .ok (.iload_n 1, 1) := by decide +kernel
theorem dX8_putIn_83 : decode cX8_putIn 83 = .ok (.iadd, 1) := by decide +kernel
theorem dX8_putIn_84 : decode cX8_putIn 84 = .ok (.iconst 0, 1) := by decide +kernel
theorem dX8_putIn_85 : decode cX8_putIn 85 = .ok (.iastore, 1) := by decide +kernel
theorem dX8_putIn_86 : decode cX8_putIn 86 = .ok (.aload_n 0, 1) := by decide +kernel
theorem dX8_putIn_87 : decode cX8_putIn 87 = .ok (.getfield 11, 3) := by decide +kernel
theorem dX8_putIn_90 : decode cX8_putIn 90 = .ok (.sipush 2400, 3) := by decide +kernel
theorem dX8_putIn_93 : decode cX8_putIn 93 = .ok (.iload_n 1, 1) := by decide +kernel
theorem dX8_putIn_94 : decode cX8_putIn 94 = .ok (.iadd, 1) := by decide +kernel
theorem dX8_putIn_95 : decode cX8_putIn 95 = .ok (.iconst 0, 1) := by decide +kernel
theorem dX8_putIn_96 : decode cX8_putIn 96 = .ok (.iastore, 1) := by decide +kernel
theorem dX8_putIn_97 : decode cX8_putIn 97 = .ok (.aload_n 0, 1) := by decide +kernel
theorem dX8_putIn_98 : decode cX8_putIn 98 = .ok (.getfield 11, 3) := by decide +kernel
theorem dX8_putIn_101 : decode cX8_putIn 101 = .ok (.sipush 2000, 3) := by decide +kernel
theorem dX8_putIn_104 : decode cX8_putIn 104 = .ok (.iload_n 1, 1) := by decide +kernel
theorem dX8_putIn_105 : decode cX8_putIn 105 = .ok (.iadd, 1) := by decide +kernel
theorem dX8_putIn_106 : decode cX8_putIn 106 = .ok (.iload 5, 2) := by decide +kernel
theorem dX8_putIn_108 : decode cX8_putIn 108 = .ok (.ifCond .ne 14, 3) := by decide +kernel
theorem dX8_putIn_111 : decode cX8_putIn 111 = .ok (.aload_n 0, 1) := by decide +kernel
theorem dX8_putIn_112 : decode cX8_putIn 112 = .ok (.getfield 11, 3) := by decide +kernel
theorem dX8_putIn_115 : decode cX8_putIn 115 = .ok (.sipush 3203, 3) := by decide +kernel
theorem dX8_putIn_118 : decode cX8_putIn 118 = .ok (.iaload, 1) := by decide +kernel
theorem dX8_putIn_119 : decode cX8_putIn 119 = .ok (.goto 4, 3) := by decide +kernel
theorem dX8_putIn_122 : decode cX8_putIn 122 = .ok (.iconst 0, 1) := by decide +kernel
theorem dX8_putIn_123 : decode cX8_putIn 123 = .ok (.iastore, 1) := by decide +kernel
theorem dX8_putIn_124 : decode cX8_putIn 124 = .ok (.iload 5, 2) := by decide +kernel
theorem dX8_putIn_126 : decode cX8_putIn 126 = .ok (.iconst 3, 1) := by decide +kernel
theorem dX8_putIn_127 : decode cX8_putIn 127 = .ok (.if_icmp .ne 40, 3) := by decide +kernel
theorem dX8_putIn_130 : decode cX8_putIn 130 = .ok (.aload_n 0, 1) := by decide +kernel
theorem dX8_putIn_131 : decode cX8_putIn 131 = .ok (.getfield 11, 3) := by decide +kernel
theorem dX8_putIn_134 : decode cX8_putIn 134 = .ok (.sipush 3201, 3) := by decide +kernel
theorem dX8_putIn_137 : decode cX8_putIn 137 = .ok (.aload_n 0, 1) := by decide +kernel
theorem dX8_putIn_138 : decode cX8_putIn 138 = .ok (.getfield 11, 3) := by decide +kernel
theorem dX8_putIn_141 : decode cX8_putIn 141 = .ok (.sipush 3201, 3) := by decide +kernel
theorem dX8_putIn_144 : decode cX8_putIn 144 = .ok (.iaload, 1) := by decide +kernel
theorem dX8_putIn_145 : decode cX8_putIn 145 = .ok (.iload_n 3, 1) := by decide +kernel
theorem dX8_putIn_146 : decode cX8_putIn 146 = .ok (.if_icmp .le 16, 3) := by decide +kernel
theorem dX8_putIn_149 : decode cX8_putIn 149 = .ok (.aload_n 0, 1) := by decide +kernel
theorem dX8_putIn_150 : decode cX8_putIn 150 = .ok (.getfield 11, 3) := by decide +kernel
theorem dX8_putIn_153 : decode cX8_putIn 153 = .ok (.sipush 3201, 3) := by decide +kernel
theorem dX8_putIn_156 : decode cX8_putIn 156 = .ok (.iaload, 1) := by decide +kernel
theorem dX8_putIn_157 : decode cX8_putIn 157 = .ok (.iload_n 3, 1) := by decide +kernel
theorem dX8_putIn_158 : decode cX8_putIn 158 = .ok (.isub, 1) := by decide +kernel
theorem dX8_putIn_159 : decode cX8_putIn 159 = .ok (.goto 4, 3) := by decide +kernel
theorem dX8_putIn_162 : decode cX8_putIn 162 = .ok (.iconst 0, 1) := by decide +kernel
theorem dX8_putIn_163 : decode cX8_putIn 163 = .ok (.iastore, 1) := by decide +kernel
theorem dX8_putIn_164 : decode cX8_putIn 164 = .ok (.goto 59, 3) := by decide +kernel
theorem dX8_putIn_167 : decode cX8_putIn 167 = .ok (.iload 5, 2) := by decide +kernel
theorem dX8_putIn_169 : decode cX8_putIn 169 = .ok (.iconst 4, 1) := by decide +kernel
theorem dX8_putIn_170 : decode cX8_putIn 170 = .ok (.if_icmp .ne 53, 3) := by decide +kernel
theorem dX8_putIn_173 : decode cX8_putIn 173 = .ok (.aload_n 0, 1) := by decide +kernel
theorem dX8_putIn_174 : decode cX8_putIn 174 = .ok (.getfield 11, 3) := by decide +kernel
theorem dX8_putIn_177 : decode cX8_putIn 177 = .ok (.sipush 3201, 3) := by decide +kernel
theorem dX8_putIn_180 : decode cX8_putIn 180 = .ok (.aload_n 0, 1) := by decide +kernel
theorem dX8_putIn_181 : decode cX8_putIn 181 = .ok (.getfield 11, 3) := by decide +kernel
theorem dX8_putIn_184 : decode cX8_putIn 184 = .ok (.sipush 3201, 3) := by decide +kernel
theorem dX8_putIn_187 : decode cX8_putIn 187 = .ok (.iaload, 1) := by decide +kernel
theorem dX8_putIn_188 : decode cX8_putIn 188 = .ok (.iload_n 3, 1) := by decide +kernel
theorem dX8_putIn_189 : decode cX8_putIn 189 = .ok (.iadd, 1) := by decide +kernel
theorem dX8_putIn_190 : decode cX8_putIn 190 = .ok (.aload_n 0, 1) := by decide +kernel
theorem dX8_putIn_191 : decode cX8_putIn 191 = .ok (.getfield 11, 3) := by decide +kernel
theorem dX8_putIn_194 : decode cX8_putIn 194 = .ok (.sipush 3200, 3) := by decide +kernel
theorem dX8_putIn_197 : decode cX8_putIn 197 = .ok (.iaload, 1) := by decide +kernel
theorem dX8_putIn_198 : decode cX8_putIn 198 = .ok (.if_icmp .ge 16, 3) := by decide +kernel
theorem dX8_putIn_201 : decode cX8_putIn 201 = .ok (.aload_n 0, 1) := by decide +kernel
theorem dX8_putIn_202 : decode cX8_putIn 202 = .ok (.getfield 11, 3) := by decide +kernel
theorem dX8_putIn_205 : decode cX8_putIn 205 = .ok (.sipush 3201, 3) := by decide +kernel
theorem dX8_putIn_208 : decode cX8_putIn 208 = .ok (.iaload, 1) := by decide +kernel
theorem dX8_putIn_209 : decode cX8_putIn 209 = .ok (.iload_n 3, 1) := by decide +kernel
theorem dX8_putIn_210 : decode cX8_putIn 210 = .ok (.iadd, 1) := by decide +kernel
theorem dX8_putIn_211 : decode cX8_putIn 211 = .ok (.goto 11, 3) := by decide +kernel
theorem dX8_putIn_214 : decode cX8_putIn 214 = .ok (.aload_n 0, 1) := by decide +kernel
theorem dX8_putIn_215 : decode cX8_putIn 215 = .ok (.getfield 11, 3) := by decide +kernel
theorem dX8_putIn_218 : decode cX8_putIn 218 = .ok (.sipush 3200, 3) := by decide +kernel
theorem dX8_putIn_221 : decode cX8_putIn 221 = .ok (.iaload, 1) := by decide +kernel
theorem dX8_putIn_222 : decode cX8_putIn 222 = .ok (.iastore, 1) := by decide +kernel
theorem dX8_putIn_223 : decode cX8_putIn 223 = .ok (.aload_n 0, 1) := by decide +kernel
theorem dX8_putIn_224 : decode cX8_putIn 224 = .ok (.iload_n 1, 1) := by decide +kernel
theorem dX8_putIn_225 : decode cX8_putIn 225 = .ok (.iload 5, 2) := by decide +kernel
theorem dX8_putIn_227 : decode cX8_putIn 227 = .ok (.ifCond .ne 7, 3) := by decide +kernel
theorem dX8_putIn_230 : decode cX8_putIn 230 = .ok (.iconst 1, 1) := by decide +kernel
theorem dX8_putIn_231 : decode cX8_putIn 231 = .ok (.goto 4, 3) := by decide +kernel
theorem dX8_putIn_234 : decode cX8_putIn 234 = .ok (.iconst 2, 1) := by decide +kernel
theorem dX8_putIn_235 : decode cX8_putIn 235 = .ok (.invokevirtual 58, 3) := by decide +kernel
theorem dX8_putIn_238 : decode cX8_putIn 238 = .ok (.aload_n 0, 1) := by decide +kernel
theorem dX8_putIn_239 : decode cX8_putIn 239 = .ok (.invokevirtual 86, 3) := by decide +kernel
theorem dX8_putIn_242 : decode cX8_putIn 242 = .ok (.iload 5, 2) := by decide +kernel
theorem dX8_putIn_244 : decode cX8_putIn 244 = .ok (.ifCond .ne 7, 3) := by decide +kernel
theorem dX8_putIn_247 : decode cX8_putIn 247 = .ok (.iconst 0, 1) := by decide +kernel
theorem dX8_putIn_248 : decode cX8_putIn 248 = .ok (.goto 4, 3) := by decide +kernel
theorem dX8_putIn_251 : decode cX8_putIn 251 = .ok (.iconst 1, 1) := by decide +kernel
theorem dX8_putIn_252 : decode cX8_putIn 252 = .ok (.ireturn, 1) := by decide +kernel
set_option maxRecDepth 20000 in
theorem ggX8_gets_X8_isThing : GoodIn wsX8_gets wsX8_isThing := goodIn_r _ [6, 1, 37, 38, 39, 40, 41, 42, 43, 44, 45, 46, 47, 48, 49, 50, 51, 52, 53, 54, 55] (by decide +kernel) (by decide +kernel)
set_option maxRecDepth 20000 in
theorem gX8_gets_X8_isThing : GoodIn wsX8_gets (wsV RX8 89 RX8 yX8_isThing wsX8_isThing) := goodIn_app (goodIn_of _ (by decide +kernel)) ggX8_gets_X8_isThing
set_option maxRecDepth 20000 in
theorem ggX8_gets_X8_hit : GoodIn wsX8_gets wsX8_hit := goodIn_r _ [10, 1, 11, 12, 13, 5, 14, 37, 38, 39, 40, 41, 42, 43, 44, 45, 46, 47, 48, 49, 50, 51, 52, 53, 54, 55] (by decide +kernel) (by decide +kernel)
set_option maxRecDepth 20000 in
theorem gX8_gets_X8_hit : GoodIn wsX8_gets (wsV RX8 82 RX8 yX8_hit wsX8_hit) := goodIn_app (goodIn_of _ (by decide +kernel)) ggX8_gets_X8_hit
set_option maxRecDepth 20000 in
theorem ggX8_gets_X8_trim : GoodIn wsX8_gets wsX8_trim := goodIn_r _ [18, 1, 19, 20, 21, 5, 22, 23, 24, 25, 26, 11, 12, 13, 14, 27, 28, 29, 30, 31, 32, 33, 34, 35, 36, 37, 38, 39, 40, 41, 42, 43, 44, 45, 46, 47, 48, 49, 50, 51, 52, 53, 54, 55] (by decide +kernel) (by decide +kernel)
set_option maxRecDepth 20000 in
theorem gX8_gets_X8_trim : GoodIn wsX8_gets (wsV RX8 86 RX8 yX8_trim wsX8_trim) := goodIn_app (goodIn_of _ (by decide +kernel)) ggX8_gets_X8_trim
theorem dX8_gets_0 : decode cX8_gets 0 = .ok (.aload_n 0, 1) := by decide +kernel
theorem dX8_gets_1 : decode cX8_gets 1 = .ok (.iload_n 1, 1) := by decide +kernel
theorem dX8_gets_2 : decode cX8_gets 2 = .ok (.invokevirtual 89, 3) := by decide +kernel
theorem dX8_gets_5 : decode cX8_gets 5 = .ok (.ifCond .ne 44, 3) := by decide +kernel
theorem dX8_gets_8 : decode cX8_gets 8 = .ok (.aload_n 0, 1) := by decide +kernel
theorem dX8_gets_9 : decode cX8_gets 9 = .ok (.getfield 11, 3) := by decide +kernel
theorem dX8_gets_12 : decode cX8_gets 12 = .ok (.sipush 3210, 3) := by decide +kernel
theorem dX8_gets_15 : decode cX8_gets 15 = .ok (.dup2, 1) := by decide +kernel
theorem dX8_gets_16 : decode cX8_gets 16 = .ok (.iaload, 1) := by decide +kernel
theorem dX8_gets_17 : decode cX8_gets 17 = .ok (.iconst 1, 1) := by decide +kernel
theorem dX8_gets_18 : decode cX8_gets 18 = .ok (.iadd, 1) := by decide +kernel
theorem dX8_gets_19 : decode cX8_gets 19 = .ok (.iastore, 1) := by decide +kernel
theorem dX8_gets_20 : decode cX8_gets 20 = .ok (.aload_n 0, 1) := by decide +kernel
theorem dX8_gets_21 : decode cX8_gets 21 = .ok (.getfield 11, 3) := by decide +kernel
theorem dX8_gets_24 : decode cX8_gets 24 = .ok (.sipush 3211, 3) := by decide +kernel
theorem dX8_gets_27 : decode cX8_gets 27 = .ok (.dup2, 1) := by decide +kernel
theorem dX8_gets_28 : decode cX8_gets 28 = .ok (.iaload, 1) := by decide +kernel
theorem dX8_gets_29 : decode cX8_gets 29 = .ok (.aload_n 0, 1) := by decide +kernel
theorem dX8_gets_30 : decode cX8_gets 30 = .ok (.getfield 11, 3) := by decide +kernel
theorem dX8_gets_33 : decode cX8_gets 33 = .ok (.iconst 0, 1) := by decide +kernel
theorem dX8_gets_34 : decode cX8_gets 34 = .ok (.iload_n 1, 1) := by decide +kernel
theorem dX8_gets_35 : decode cX8_gets 35 = .ok (.iadd, 1) := by decide +kernel
theorem dX8_gets_36 : decode cX8_gets 36 = .ok (.iaload, 1) := by decide +kernel
theorem dX8_gets_37 : decode cX8_gets 37 = .ok (.ifCond .eq 7, 3) := by decide +kernel
theorem dX8_gets_40 : decode cX8_gets 40 = .ok (.iconst 1, 1) := by decide +kernel
theorem dX8_gets_41 : decode cX8_gets 41 = .ok (.goto 4, 3) := by decide +kernel
theorem dX8_gets_44 : decode cX8_gets 44 = .ok (.iconst 0, 1) := by decide +kernel
theorem dX8_gets_45 : decode cX8_gets 45 = .ok (.iadd, 1) := by decide +kernel
theorem dX8_gets_46 : decode cX8_gets 46 = .ok (.iastore, 1) := by decide +kernel
theorem dX8_gets_47 : decode cX8_gets 47 = .ok (.iconst 0, 1) := by decide +kernel
theorem dX8_gets_48 : decode cX8_gets 48 = .ok (.ireturn, 1) := by decide +kernel
theorem dX8_gets_49 : decode cX8_gets 49 = .ok (.aload_n 0, 1) := by decide +kernel
theorem dX8_gets_50 : decode cX8_gets 50 = .ok (.iload_n 1, 1) := by decide +kernel
theorem dX8_gets_51 : decode cX8_gets 51 = .ok (.invokevirtual 82, 3) := by decide +kernel
theorem dX8_gets_54 : decode cX8_gets 54 = .ok (.aload_n 0, 1) := by decide +kernel
theorem dX8_gets_55 : decode cX8_gets 55 = .ok (.getfield 11, 3) := by decide +kernel
theorem dX8_gets_58 : decode cX8_gets 58 = .ok (.sipush 3212, 3) := by decide +kernel
theorem dX8_gets_61 : decode cX8_gets 61 = .ok (.dup2, 1) := by decide +kernel
theorem dX8_gets_62 : decode cX8_gets 62 = .ok (.iaload, 1) := by decide +kernel
theorem dX8_gets_63 : decode cX8_gets 63 = .ok (.aload_n 0, 1) := by decide +kernel
theorem dX8_gets_64 : decode cX8_gets 64 = .ok (.getfield 11, 3) := by decide +kernel
theorem dX8_gets_67 : decode cX8_gets 67 = .ok (.sipush 1200, 3) := by decide +kernel
theorem dX8_gets_70 : decode cX8_gets 70 = .ok (.iload_n 1, 1) := by decide +kernel
theorem dX8_gets_71 : decode cX8_gets 71 = .ok (.iadd, 1) := by decide +kernel
theorem dX8_gets_72 : decode cX8_gets 72 = .ok (.iaload, 1) := by decide +kernel
theorem dX8_gets_73 : decode cX8_gets 73 = .ok (.iadd, 1) := by decide +kernel
theorem dX8_gets_74 : decode cX8_gets 74 = .ok (.iastore, 1) := by decide +kernel
theorem dX8_gets_75 : decode cX8_gets 75 = .ok (.aload_n 0, 1) := by decide +kernel
theorem dX8_gets_76 : decode cX8_gets 76 = .ok (.getfield 11, 3) := by decide +kernel
theorem dX8_gets_79 : decode cX8_gets 79 = .ok (.sipush 3209, 3) := by decide +kernel
theorem dX8_gets_82 : decode cX8_gets 82 = .ok (.dup2, 1) := by decide +kernel
theorem dX8_gets_83 : decode cX8_gets 83 = .ok (.iaload, 1) := by decide +kernel
theorem dX8_gets_84 : decode cX8_gets 84 = .ok (.iconst 1, 1) := by decide +kernel
theorem dX8_gets_85 : decode cX8_gets 85 = .ok (.iadd, 1) := by decide +kernel
theorem dX8_gets_86 : decode cX8_gets 86 = .ok (.iastore, 1) := by decide +kernel
theorem dX8_gets_87 : decode cX8_gets 87 = .ok (.aload_n 0, 1) := by decide +kernel
theorem dX8_gets_88 : decode cX8_gets 88 = .ok (.invokevirtual 86, 3) := by decide +kernel
theorem dX8_gets_91 : decode cX8_gets 91 = .ok (.iconst 1, 1) := by decide +kernel
theorem dX8_gets_92 : decode cX8_gets 92 = .ok (.ireturn, 1) := by decide +kernel
set_option maxRecDepth 20000 in
theorem ggX8_drops_X8_goes : GoodIn wsX8_drops wsX8_goes := goodIn_r _ [6, 1, 7, 8, 9, 10, 11, 12, 13, 14, 15, 16, 17, 18, 19, 20, 21, 22, 23, 24, 25] (by decide +kernel) (by decide +kernel)
set_option maxRecDepth 20000 in
theorem gX8_drops_X8_goes : GoodIn wsX8_drops (wsV RX8 58 RX8 yX8_goes wsX8_goes) := goodIn_app (goodIn_of _ (by decide +kernel)) ggX8_drops_X8_goes
theorem dX8_drops_0 : decode cX8_drops 0 = .ok (.aload_n 0, 1) := by decide +kernel
theorem dX8_drops_1 : decode cX8_drops 1 = .ok (.getfield 11, 3) := by decide +kernel
theorem dX8_drops_4 : decode cX8_drops 4 = .ok (.iconst 0, 1) := by decide +kernel
theorem dX8_drops_5 : decode cX8_drops 5 = .ok (.iload_n 1, 1) := by decide +kernel
theorem dX8_drops_6 : decode cX8_drops 6 = .ok (.iadd, 1) := by decide +kernel
theorem dX8_drops_7 : decode cX8_drops 7 = .ok (.iaload, 1) := by decide +kernel
theorem dX8_drops_8 : decode cX8_drops 8 = .ok (.istore_n 2, 1) := by decide +kernel
theorem dX8_drops_9 : decode cX8_drops 9 = .ok (.aload_n 0, 1) := by decide +kernel
theorem dX8_drops_10 : decode cX8_drops 10 = .ok (.iload_n 1, 1) := by decide +kernel
theorem dX8_drops_11 : decode cX8_drops 11 = .ok (.iconst 0, 1) := by decide +kernel
theorem dX8_drops_12 : decode cX8_drops 12 = .ok (.invokevirtual 58, 3) := by decide +kernel
theorem dX8_drops_15 : decode cX8_drops 15 = .ok (.iload_n 2, 1) := by decide +kernel
theorem dX8_drops_16 : decode cX8_drops 16 = .ok (.ireturn, 1) := by decide +kernel
set_option maxRecDepth 20000 in
theorem ggX8_capacity_X8_trim : GoodIn wsX8_capacity wsX8_trim := goodIn_r _ [6, 1, 7, 8, 9, 5, 10, 11, 12, 13, 14, 15, 16, 17, 18, 19, 20, 21, 22, 23, 24, 25, 26, 27, 28, 29, 30, 31, 32, 33, 34, 35, 36, 37, 38, 39, 40, 41, 42, 43, 44, 45, 46, 47] (by decide +kernel) (by decide +kernel)
set_option maxRecDepth 20000 in
theorem gX8_capacity_X8_trim : GoodIn wsX8_capacity (wsV RX8 86 RX8 yX8_trim wsX8_trim) := goodIn_app (goodIn_of _ (by decide +kernel)) ggX8_capacity_X8_trim
theorem dX8_capacity_0 : decode cX8_capacity 0 = .ok (.aload_n 0, 1) := by decide +kernel
theorem dX8_capacity_1 : decode cX8_capacity 1 = .ok (.getfield 11, 3) := by decide +kernel
theorem dX8_capacity_4 : decode cX8_capacity 4 = .ok (.sipush 3200, 3) := by decide +kernel
theorem dX8_capacity_7 : decode cX8_capacity 7 = .ok (.iload_n 1, 1) := by decide +kernel
theorem dX8_capacity_8 : decode cX8_capacity 8 = .ok (.iastore, 1) := by decide +kernel
theorem dX8_capacity_9 : decode cX8_capacity 9 = .ok (.aload_n 0, 1) := by decide +kernel
theorem dX8_capacity_10 : decode cX8_capacity 10 = .ok (.getfield 11, 3) := by decide +kernel
theorem dX8_capacity_13 : decode cX8_capacity 13 = .ok (.sipush 3201, 3) := by decide +kernel
theorem dX8_capacity_16 : decode cX8_capacity 16 = .ok (.aload_n 0, 1) := by decide +kernel
theorem dX8_capacity_17 : decode cX8_capacity 17 = .ok (.getfield 11, 3) := by decide +kernel
theorem dX8_capacity_20 : decode cX8_capacity 20 = .ok (.sipush 3201, 3) := by decide +kernel
theorem dX8_capacity_23 : decode cX8_capacity 23 = .ok (.iaload, 1) := by decide +kernel
theorem dX8_capacity_24 : decode cX8_capacity 24 = .ok (.iload_n 1, 1) := by decide +kernel
theorem dX8_capacity_25 : decode cX8_capacity 25 = .ok (.if_icmp .le 7, 3) := by decide +kernel
theorem dX8_capacity_28 : decode cX8_capacity 28 = .ok (.iload_n 1, 1) := by decide +kernel
theorem dX8_capacity_29 : decode cX8_capacity 29 = .ok (.goto 11, 3) := by decide +kernel
theorem dX8_capacity_32 : decode cX8_capacity 32 = .ok (.aload_n 0, 1) := by decide +kernel
theorem dX8_capacity_33 : decode cX8_capacity 33 = .ok (.getfield 11, 3) := by decide +kernel
theorem dX8_capacity_36 : decode cX8_capacity 36 = .ok (.sipush 3201, 3) := by decide +kernel
theorem dX8_capacity_39 : decode cX8_capacity 39 = .ok (.iaload, 1) := by decide +kernel
theorem dX8_capacity_40 : decode cX8_capacity 40 = .ok (.iastore, 1) := by decide +kernel
theorem dX8_capacity_41 : decode cX8_capacity 41 = .ok (.aload_n 0, 1) := by decide +kernel
theorem dX8_capacity_42 : decode cX8_capacity 42 = .ok (.invokevirtual 86, 3) := by decide +kernel
theorem dX8_capacity_45 : decode cX8_capacity 45 = .ok (.return_, 1) := by decide +kernel
set_option maxRecDepth 20000 in
theorem ggX8_set_X8_in : GoodIn wsX8_set wsX8_in := goodIn_r _ [5] (by decide +kernel) (by decide +kernel)
set_option maxRecDepth 20000 in
theorem gX8_set_X8_in : GoodIn wsX8_set (va_wsS RX8 54 yX8_in wsX8_in) := goodIn_app (goodIn_of _ (by decide +kernel)) ggX8_set_X8_in
set_option maxRecDepth 20000 in
theorem ggX8_set_X8_capacity : GoodIn wsX8_set wsX8_capacity := goodIn_r _ [9, 1, 10, 11, 12, 4, 13, 14, 15, 16, 17, 18, 19, 20, 21, 22, 23, 24, 25, 26, 27, 28, 29, 30, 31, 32, 33, 34, 35, 36, 37, 38, 39, 40, 41, 42, 43, 44, 45, 46, 47, 48, 49, 50, 51, 52, 53, 54] (by decide +kernel) (by decide +kernel)
set_option maxRecDepth 20000 in
theorem gX8_set_X8_capacity : GoodIn wsX8_set (wsV RX8 93 RX8 yX8_capacity wsX8_capacity) := goodIn_app (goodIn_of _ (by decide +kernel)) ggX8_set_X8_capacity
set_option maxRecDepth 20000 in
theorem ggX8_set_X8_trim : GoodIn wsX8_set wsX8_trim := goodIn_r _ [13, 1, 14, 15, 16, 4, 17, 18, 19, 20, 21, 22, 23, 24, 25, 26, 27, 28, 29, 30, 31, 32, 33, 34, 35, 36, 37, 38, 39, 40, 41, 42, 43, 44, 45, 46, 47, 48, 49, 50, 51, 52, 53, 54] (by decide +kernel) (by decide +kernel)
set_option maxRecDepth 20000 in
theorem gX8_set_X8_trim : GoodIn wsX8_set (wsV RX8 86 RX8 yX8_trim wsX8_trim) := goodIn_app (goodIn_of _ (by decide +kernel)) ggX8_set_X8_trim
theorem dX8_set_0 : decode cX8_set 0 = .ok (.iload_n 1, 1) := by decide +kernel
theorem dX8_set_1 : decode cX8_set 1 = .ok (.iconst 0, 1) := by decide +kernel
theorem dX8_set_2 : decode cX8_set 2 = .ok (.iconst 3, 1) := by decide +kernel
theorem dX8_set_3 : decode cX8_set 3 = .ok (.invokestatic 54, 3) := by decide +kernel
theorem dX8_set_6 : decode cX8_set 6 = .ok (.ifCond .ne 5, 3) := by decide +kernel
theorem dX8_set_9 : decode cX8_set 9 = .ok (.iconst (-1), 1) := by decide +kernel
theorem dX8_set_10 : decode cX8_set 10 = .ok (.ireturn, 1) := by decide +kernel
theorem dX8_set_11 : decode cX8_set 11 = .ok (.iload_n 1, 1) := by decide +kernel
theorem dX8_set_12 : decode cX8_set 12 = .ok (.ifCond .ne 13, 3) := by decide +kernel
theorem dX8_set_15 : decode cX8_set 15 = .ok (.iload_n 2, 1) := by decide +kernel
theorem dX8_set_16 : decode cX8_set 16 = .ok (.iconst 1, 1) := by decide +kernel
theorem dX8_set_17 : decode cX8_set 17 = .ok (.bipush 99, 2) := by decide +kernel
theorem dX8_set_19 : decode cX8_set 19 = .ok (.invokestatic 54, 3) := by decide +kernel
theorem dX8_set_22 : decode cX8_set 22 = .ok (.goto 46, 3) := by decide +kernel
theorem dX8_set_25 : decode cX8_set 25 = .ok (.iload_n 1, 1) := by decide +kernel
theorem dX8_set_26 : decode cX8_set 26 = .ok (.iconst 1, 1) := by decide +kernel
theorem dX8_set_27 : decode cX8_set 27 = .ok (.if_icmp .ne 19, 3) := by decide +kernel
theorem dX8_set_30 : decode cX8_set 30 = .ok (.iload_n 2, 1) := by decide +kernel
theorem dX8_set_31 : decode cX8_set 31 = .ok (.iconst 0, 1) := by decide +kernel
theorem dX8_set_32 : decode cX8_set 32 = .ok (.aload_n 0, 1) := by decide +kernel
theorem dX8_set_33 : decode cX8_set 33 = .ok (.getfield 11, 3) := by decide +kernel
theorem dX8_set_36 : decode cX8_set 36 = .ok (.sipush 3200, 3) := by decide +kernel
theorem dX8_set_39 : decode cX8_set 39 = .ok (.iaload, 1) := by decide +kernel
theorem dX8_set_40 : decode cX8_set 40 = .ok (.invokestatic 54, 3) := by decide +kernel
theorem dX8_set_43 : decode cX8_set 43 = .ok (.goto 25, 3) := by decide +kernel
theorem dX8_set_46 : decode cX8_set 46 = .ok (.iload_n 1, 1) := by decide +kernel
theorem dX8_set_47 : decode cX8_set 47 = .ok (.iconst 2, 1) := by decide +kernel
theorem dX8_set_48 : decode cX8_set 48 = .ok (.if_icmp .ne 13, 3) := by decide +kernel
theorem dX8_set_51 : decode cX8_set 51 = .ok (.iload_n 2, 1) := by decide +kernel
theorem dX8_set_52 : decode cX8_set 52 = .ok (.iconst 1, 1) := by decide +kernel
theorem dX8_set_53 : decode cX8_set 53 = .ok (.bipush 9, 2) := by decide +kernel
theorem dX8_set_55 : decode cX8_set 55 = .ok (.invokestatic 54, 3) := by decide +kernel
theorem dX8_set_58 : decode cX8_set 58 = .ok (.goto 10, 3) := by decide +kernel
theorem dX8_set_61 : decode cX8_set 61 = .ok (.iload_n 2, 1) := by decide +kernel
theorem dX8_set_62 : decode cX8_set 62 = .ok (.iconst 0, 1) := by decide +kernel
theorem dX8_set_63 : decode cX8_set 63 = .ok (.bipush 9, 2) := by decide +kernel
theorem dX8_set_65 : decode cX8_set 65 = .ok (.invokestatic 54, 3) := by decide +kernel
theorem dX8_set_68 : decode cX8_set 68 = .ok (.istore_n 3, 1) := by decide +kernel
theorem dX8_set_69 : decode cX8_set 69 = .ok (.iload_n 3, 1) := by decide +kernel
theorem dX8_set_70 : decode cX8_set 70 = .ok (.ifCond .ne 6, 3) := by decide +kernel
theorem dX8_set_73 : decode cX8_set 73 = .ok (.bipush (-2), 2) := by decide +kernel
theorem dX8_set_75 : decode cX8_set 75 = .ok (.ireturn, 1) := by decide +kernel
theorem dX8_set_76 : decode cX8_set 76 = .ok (.aload_n 0, 1) := by decide +kernel
theorem dX8_set_77 : decode cX8_set 77 = .ok (.getfield 11, 3) := by decide +kernel
theorem dX8_set_80 : decode cX8_set 80 = .ok (.sipush 3200, 3) := by decide +kernel
theorem dX8_set_83 : decode cX8_set 83 = .ok (.iload_n 1, 1) := by decide +kernel
theorem dX8_set_84 : decode cX8_set 84 = .ok (.iadd, 1) := by decide +kernel
theorem dX8_set_85 : decode cX8_set 85 = .ok (.iaload, 1) := by decide +kernel
theorem dX8_set_86 : decode cX8_set 86 = .ok (.istore 4, 2) := by decide +kernel
theorem dX8_set_88 : decode cX8_set 88 = .ok (.iload_n 1, 1) := by decide +kernel
theorem dX8_set_89 : decode cX8_set 89 = .ok (.ifCond .ne 11, 3) := by decide +kernel
theorem dX8_set_92 : decode cX8_set 92 = .ok (.aload_n 0, 1) := by decide +kernel
theorem dX8_set_93 : decode cX8_set 93 = .ok (.iload_n 2, 1) := by decide +kernel
theorem dX8_set_94 : decode cX8_set 94 = .ok (.invokevirtual 93, 3) := by decide +kernel
theorem dX8_set_97 : decode cX8_set 97 = .ok (.goto 23, 3) := by decide +kernel
theorem dX8_set_100 : decode cX8_set 100 = .ok (.aload_n 0, 1) := by decide +kernel
theorem dX8_set_101 : decode cX8_set 101 = .ok (.getfield 11, 3) := by decide +kernel
theorem dX8_set_104 : decode cX8_set 104 = .ok (.sipush 3200, 3) := by decide +kernel
theorem dX8_set_107 : decode cX8_set 107 = .ok (.iload_n 1, 1) := by decide +kernel
theorem dX8_set_108 : decode cX8_set 108 = .ok (.iadd, 1) := by decide +kernel
theorem dX8_set_109 : decode cX8_set 109 = .ok (.iload_n 2, 1) := by decide +kernel
theorem dX8_set_110 : decode cX8_set 110 = .ok (.iastore, 1) := by decide +kernel
theorem dX8_set_111 : decode cX8_set 111 = .ok (.iload_n 1, 1) := by decide +kernel
theorem dX8_set_112 : decode cX8_set 112 = .ok (.iconst 1, 1) := by decide +kernel
theorem dX8_set_113 : decode cX8_set 113 = .ok (.if_icmp .ne 7, 3) := by decide +kernel
theorem dX8_set_116 : decode cX8_set 116 = .ok (.aload_n 0, 1) := by decide +kernel
theorem dX8_set_117 : decode cX8_set 117 = .ok (.invokevirtual 86, 3) := by decide +kernel
theorem dX8_set_120 : decode cX8_set 120 = .ok (.iload 4, 2) := by decide +kernel
theorem dX8_set_122 : decode cX8_set 122 = .ok (.ireturn, 1) := by decide +kernel
set_option maxRecDepth 20000 in
theorem ggX8_told_X8_in : GoodIn wsX8_told wsX8_in := goodIn_r _ [5] (by decide +kernel) (by decide +kernel)
set_option maxRecDepth 20000 in
theorem gX8_told_X8_in : GoodIn wsX8_told (va_wsS RX8 54 yX8_in wsX8_in) := goodIn_app (goodIn_of _ (by decide +kernel)) ggX8_told_X8_in
theorem dX8_told_0 : decode cX8_told 0 = .ok (.iload_n 1, 1) := by decide +kernel
theorem dX8_told_1 : decode cX8_told 1 = .ok (.iconst 0, 1) := by decide +kernel
theorem dX8_told_2 : decode cX8_told 2 = .ok (.bipush 13, 2) := by decide +kernel
theorem dX8_told_4 : decode cX8_told 4 = .ok (.invokestatic 54, 3) := by decide +kernel
theorem dX8_told_7 : decode cX8_told 7 = .ok (.ifCond .ne 5, 3) := by decide +kernel
theorem dX8_told_10 : decode cX8_told 10 = .ok (.iconst (-1), 1) := by decide +kernel
theorem dX8_told_11 : decode cX8_told 11 = .ok (.ireturn, 1) := by decide +kernel
theorem dX8_told_12 : decode cX8_told 12 = .ok (.iload_n 1, 1) := by decide +kernel
theorem dX8_told_13 : decode cX8_told 13 = .ok (.iconst 4, 1) := by decide +kernel
theorem dX8_told_14 : decode cX8_told 14 = .ok (.if_icmp .ge 16, 3) := by decide +kernel
theorem dX8_told_17 : decode cX8_told 17 = .ok (.aload_n 0, 1) := by decide +kernel
theorem dX8_told_18 : decode cX8_told 18 = .ok (.getfield 11, 3) := by decide +kernel
theorem dX8_told_21 : decode cX8_told 21 = .ok (.sipush 3200, 3) := by decide +kernel
theorem dX8_told_24 : decode cX8_told 24 = .ok (.iload_n 1, 1) := by decide +kernel
theorem dX8_told_25 : decode cX8_told 25 = .ok (.iadd, 1) := by decide +kernel
theorem dX8_told_26 : decode cX8_told 26 = .ok (.iaload, 1) := by decide +kernel
theorem dX8_told_27 : decode cX8_told 27 = .ok (.goto 37, 3) := by decide +kernel
theorem dX8_told_30 : decode cX8_told 30 = .ok (.iload_n 1, 1) := by decide +kernel
theorem dX8_told_31 : decode cX8_told 31 = .ok (.bipush 8, 2) := by decide +kernel
theorem dX8_told_33 : decode cX8_told 33 = .ok (.if_icmp .ge 18, 3) := by decide +kernel
theorem dX8_told_36 : decode cX8_told 36 = .ok (.aload_n 0, 1) := by decide +kernel
theorem dX8_told_37 : decode cX8_told 37 = .ok (.getfield 11, 3) := by decide +kernel
theorem dX8_told_40 : decode cX8_told 40 = .ok (.sipush 3204, 3) := by decide +kernel
theorem dX8_told_43 : decode cX8_told 43 = .ok (.iload_n 1, 1) := by decide +kernel
theorem dX8_told_44 : decode cX8_told 44 = .ok (.iadd, 1) := by decide +kernel
theorem dX8_told_45 : decode cX8_told 45 = .ok (.iconst 3, 1) := by decide +kernel
theorem dX8_told_46 : decode cX8_told 46 = .ok (.isub, 1) := by decide +kernel
theorem dX8_told_47 : decode cX8_told 47 = .ok (.iaload, 1) := by decide +kernel
theorem dX8_told_48 : decode cX8_told 48 = .ok (.goto 16, 3) := by decide +kernel
theorem dX8_told_51 : decode cX8_told 51 = .ok (.aload_n 0, 1) := by decide +kernel
theorem dX8_told_52 : decode cX8_told 52 = .ok (.getfield 11, 3) := by decide +kernel
theorem dX8_told_55 : decode cX8_told 55 = .ok (.sipush 3209, 3) := by decide +kernel
theorem dX8_told_58 : decode cX8_told 58 = .ok (.iload_n 1, 1) := by decide +kernel
theorem dX8_told_59 : decode cX8_told 59 = .ok (.iadd, 1) := by decide +kernel
theorem dX8_told_60 : decode cX8_told 60 = .ok (.bipush 8, 2) := by decide +kernel
theorem dX8_told_62 : decode cX8_told 62 = .ok (.isub, 1) := by decide +kernel
theorem dX8_told_63 : decode cX8_told 63 = .ok (.iaload, 1) := by decide +kernel
theorem dX8_told_64 : decode cX8_told 64 = .ok (.ireturn, 1) := by decide +kernel
set_option maxRecDepth 20000 in
theorem ggX8_put_X8_isKey : GoodIn wsX8_put wsX8_isKey := goodIn_r _ [5, 6, 7, 4, 8] (by decide +kernel) (by decide +kernel)
set_option maxRecDepth 20000 in
theorem gX8_put_X8_isKey : GoodIn wsX8_put (va_wsS RX8 96 yX8_isKey wsX8_isKey) := goodIn_app (goodIn_of _ (by decide +kernel)) ggX8_put_X8_isKey
set_option maxRecDepth 20000 in
theorem ggX8_put_X8_in : GoodIn wsX8_put wsX8_in := goodIn_r _ [8] (by decide +kernel) (by decide +kernel)
set_option maxRecDepth 20000 in
theorem gX8_put_X8_in : GoodIn wsX8_put (va_wsS RX8 54 yX8_in wsX8_in) := goodIn_app (goodIn_of _ (by decide +kernel)) ggX8_put_X8_in
set_option maxRecDepth 20000 in
theorem ggX8_put_X8_putIn : GoodIn wsX8_put wsX8_putIn := goodIn_r _ [12, 1, 13, 14, 15, 4, 16, 17, 18, 19, 20, 21, 22, 23, 24, 25, 26, 27, 28, 29, 30, 31, 32, 33, 34, 35, 36, 37, 38, 39, 40, 41, 42, 43, 44, 45, 46, 47, 48, 49, 50, 51, 52, 53, 54, 55, 56, 57, 58, 59, 60, 61, 62, 63, 64, 65] (by decide +kernel) (by decide +kernel)
set_option maxRecDepth 20000 in
theorem gX8_put_X8_putIn : GoodIn wsX8_put (wsV RX8 100 RX8 yX8_putIn wsX8_putIn) := goodIn_app (goodIn_of _ (by decide +kernel)) ggX8_put_X8_putIn
theorem dX8_put_0 : decode cX8_put 0 = .ok (.iload_n 1, 1) := by decide +kernel
theorem dX8_put_1 : decode cX8_put 1 = .ok (.iload_n 2, 1) := by decide +kernel
theorem dX8_put_2 : decode cX8_put 2 = .ok (.invokestatic 96, 3) := by decide +kernel
theorem dX8_put_5 : decode cX8_put 5 = .ok (.ifCond .ne 5, 3) := by decide +kernel
theorem dX8_put_8 : decode cX8_put 8 = .ok (.iconst (-1), 1) := by decide +kernel
theorem dX8_put_9 : decode cX8_put 9 = .ok (.ireturn, 1) := by decide +kernel
theorem dX8_put_10 : decode cX8_put 10 = .ok (.iload 4, 2) := by decide +kernel
theorem dX8_put_12 : decode cX8_put 12 = .ok (.iconst 1, 1) := by decide +kernel
theorem dX8_put_13 : decode cX8_put 13 = .ok (.bipush 9, 2) := by decide +kernel
theorem dX8_put_15 : decode cX8_put 15 = .ok (.invokestatic 54, 3) := by decide +kernel
theorem dX8_put_18 : decode cX8_put 18 = .ok (.ifCond .eq 14, 3) := by decide +kernel
theorem dX8_put_21 : decode cX8_put 21 = .ok (.iload 5, 2) := by decide +kernel
theorem dX8_put_23 : decode cX8_put 23 = .ok (.iconst 0, 1) := by decide +kernel
theorem dX8_put_24 : decode cX8_put 24 = .ok (.bipush 99, 2) := by decide +kernel
theorem dX8_put_26 : decode cX8_put 26 = .ok (.invokestatic 54, 3) := by decide +kernel
theorem dX8_put_29 : decode cX8_put 29 = .ok (.ifCond .ne 6, 3) := by decide +kernel
theorem dX8_put_32 : decode cX8_put 32 = .ok (.bipush (-2), 2) := by decide +kernel
theorem dX8_put_34 : decode cX8_put 34 = .ok (.ireturn, 1) := by decide +kernel
theorem dX8_put_35 : decode cX8_put 35 = .ok (.iload 4, 2) := by decide +kernel
theorem dX8_put_37 : decode cX8_put 37 = .ok (.aload_n 0, 1) := by decide +kernel
theorem dX8_put_38 : decode cX8_put 38 = .ok (.getfield 11, 3) := by decide +kernel
theorem dX8_put_41 : decode cX8_put 41 = .ok (.sipush 3200, 3) := by decide +kernel
theorem dX8_put_44 : decode cX8_put 44 = .ok (.iaload, 1) := by decide +kernel
theorem dX8_put_45 : decode cX8_put 45 = .ok (.if_icmp .le 8, 3) := by decide +kernel
theorem dX8_put_48 : decode cX8_put 48 = .ok (.bipush (-4), 2) := by decide +kernel
theorem dX8_put_50 : decode cX8_put 50 = .ok (.goto 18, 3) := by decide +kernel
theorem dX8_put_53 : decode cX8_put 53 = .ok (.aload_n 0, 1) := by decide +kernel
theorem dX8_put_54 : decode cX8_put 54 = .ok (.bipush 100, 2) := by decide +kernel
theorem dX8_put_56 : decode cX8_put 56 = .ok (.iload_n 1, 1) := by decide +kernel
theorem dX8_put_57 : decode cX8_put 57 = .ok (.imul, 1) := by decide +kernel
theorem dX8_put_58 : decode cX8_put 58 = .ok (.iload_n 2, 1) := by decide +kernel
theorem dX8_put_59 : decode cX8_put 59 = .ok (.iadd, 1) := by decide +kernel
theorem dX8_put_60 : decode cX8_put 60 = .ok (.iload_n 3, 1) := by decide +kernel
theorem dX8_put_61 : decode cX8_put 61 = .ok (.iload 4, 2) := by decide +kernel
theorem dX8_put_63 : decode cX8_put 63 = .ok (.iload 5, 2) := by decide +kernel
theorem dX8_put_65 : decode cX8_put 65 = .ok (.invokevirtual 100, 3) := by decide +kernel
theorem dX8_put_68 : decode cX8_put 68 = .ok (.ireturn, 1) := by decide +kernel
set_option maxRecDepth 20000 in
theorem ggX8_get_X8_isKey : GoodIn wsX8_get wsX8_isKey := goodIn_r _ [6, 7, 8, 5, 9] (by decide +kernel) (by decide +kernel)
set_option maxRecDepth 20000 in
theorem gX8_get_X8_isKey : GoodIn wsX8_get (va_wsS RX8 96 yX8_isKey wsX8_isKey) := goodIn_app (goodIn_of _ (by decide +kernel)) ggX8_get_X8_isKey
set_option maxRecDepth 20000 in
theorem ggX8_get_X8_gets : GoodIn wsX8_get wsX8_gets := goodIn_r _ [13, 2, 14, 15, 16, 5, 17, 18, 19, 20, 21, 22, 23, 24, 25, 26, 27, 28, 29, 30, 31, 32, 33, 34, 35, 36, 37, 38, 39, 40, 41, 42, 43, 44, 45, 46, 47, 48, 49, 50, 51, 52, 53, 54, 55, 56, 57, 58, 59, 60, 61, 62, 63, 64, 65, 66] (by decide +kernel) (by decide +kernel)
set_option maxRecDepth 20000 in
theorem gX8_get_X8_gets : GoodIn wsX8_get (wsV RX8 106 RX8 yX8_gets wsX8_gets) := goodIn_app (goodIn_of _ (by decide +kernel)) ggX8_get_X8_gets
theorem dX8_get_0 : decode cX8_get 0 = .ok (.iload_n 1, 1) := by decide +kernel
theorem dX8_get_1 : decode cX8_get 1 = .ok (.iload_n 2, 1) := by decide +kernel
theorem dX8_get_2 : decode cX8_get 2 = .ok (.invokestatic 96, 3) := by decide +kernel
theorem dX8_get_5 : decode cX8_get 5 = .ok (.ifCond .ne 7, 3) := by decide +kernel
theorem dX8_get_8 : decode cX8_get 8 = .ok (.ldc2_w 104, 3) := by decide +kernel
theorem dX8_get_11 : decode cX8_get 11 = .ok (.lreturn, 1) := by decide +kernel
theorem dX8_get_12 : decode cX8_get 12 = .ok (.bipush 100, 2) := by decide +kernel
theorem dX8_get_14 : decode cX8_get 14 = .ok (.iload_n 1, 1) := by decide +kernel
theorem dX8_get_15 : decode cX8_get 15 = .ok (.imul, 1) := by decide +kernel
theorem dX8_get_16 : decode cX8_get 16 = .ok (.iload_n 2, 1) := by decide +kernel
theorem dX8_get_17 : decode cX8_get 17 = .ok (.iadd, 1) := by decide +kernel
theorem dX8_get_18 : decode cX8_get 18 = .ok (.istore_n 3, 1) := by decide +kernel
theorem dX8_get_19 : decode cX8_get 19 = .ok (.aload_n 0, 1) := by decide +kernel
theorem dX8_get_20 : decode cX8_get 20 = .ok (.getfield 11, 3) := by decide +kernel
theorem dX8_get_23 : decode cX8_get 23 = .ok (.sipush 400, 3) := by decide +kernel
theorem dX8_get_26 : decode cX8_get 26 = .ok (.iload_n 3, 1) := by decide +kernel
theorem dX8_get_27 : decode cX8_get 27 = .ok (.iadd, 1) := by decide +kernel
theorem dX8_get_28 : decode cX8_get 28 = .ok (.iaload, 1) := by decide +kernel
theorem dX8_get_29 : decode cX8_get 29 = .ok (.istore 4, 2) := by decide +kernel
theorem dX8_get_31 : decode cX8_get 31 = .ok (.aload_n 0, 1) := by decide +kernel
theorem dX8_get_32 : decode cX8_get 32 = .ok (.iload_n 3, 1) := by decide +kernel
theorem dX8_get_33 : decode cX8_get 33 = .ok (.invokevirtual 106, 3) := by decide +kernel
theorem dX8_get_36 : decode cX8_get 36 = .ok (.ifCond .eq 9, 3) := by decide +kernel
theorem dX8_get_39 : decode cX8_get 39 = .ok (.iload 4, 2) := by decide +kernel
theorem dX8_get_41 : decode cX8_get 41 = .ok (.i2l, 1) := by decide +kernel
theorem dX8_get_42 : decode cX8_get 42 = .ok (.goto 6, 3) := by decide +kernel
theorem dX8_get_45 : decode cX8_get 45 = .ok (.ldc2_w 104, 3) := by decide +kernel
theorem dX8_get_48 : decode cX8_get 48 = .ok (.lreturn, 1) := by decide +kernel
set_option maxRecDepth 20000 in
theorem ggX8_drop_X8_isKey : GoodIn wsX8_drop wsX8_isKey := goodIn_r _ [4, 5, 6, 3, 7] (by decide +kernel) (by decide +kernel)
set_option maxRecDepth 20000 in
theorem gX8_drop_X8_isKey : GoodIn wsX8_drop (va_wsS RX8 96 yX8_isKey wsX8_isKey) := goodIn_app (goodIn_of _ (by decide +kernel)) ggX8_drop_X8_isKey
set_option maxRecDepth 20000 in
theorem ggX8_drop_X8_drops : GoodIn wsX8_drop wsX8_drops := goodIn_r _ [11, 12, 13, 14, 15, 3, 16, 17, 18, 19, 20, 21, 22, 23, 24, 25, 26, 27, 28, 29, 30, 31, 32, 33, 34, 35] (by decide +kernel) (by decide +kernel)
set_option maxRecDepth 20000 in
theorem gX8_drop_X8_drops : GoodIn wsX8_drop (wsV RX8 109 RX8 yX8_drops wsX8_drops) := goodIn_app (goodIn_of _ (by decide +kernel)) ggX8_drop_X8_drops
theorem dX8_drop_0 : decode cX8_drop 0 = .ok (.iload_n 1, 1) := by decide +kernel
theorem dX8_drop_1 : decode cX8_drop 1 = .ok (.iload_n 2, 1) := by decide +kernel
