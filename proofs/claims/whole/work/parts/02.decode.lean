theorem dX0_init_0 : decode cX0_init 0 = .ok (.aload_n 0, 1) := by decide +kernel
theorem dX0_init_1 : decode cX0_init 1 = .ok (.invokespecial 3, 3) := by decide +kernel
theorem dX0_init_4 : decode cX0_init 4 = .ok (.aload_n 0, 1) := by decide +kernel
theorem dX0_init_5 : decode cX0_init 5 = .ok (.bipush 8, 2) := by decide +kernel
theorem dX0_init_7 : decode cX0_init 7 = .ok (.newarray .int, 2) := by decide +kernel
theorem dX0_init_9 : decode cX0_init 9 = .ok (.putfield 9, 3) := by decide +kernel
theorem dX0_init_12 : decode cX0_init 12 = .ok (.aload_n 0, 1) := by decide +kernel
theorem dX0_init_13 : decode cX0_init 13 = .ok (.bipush 8, 2) := by decide +kernel
theorem dX0_init_15 : decode cX0_init 15 = .ok (.newarray .int, 2) := by decide +kernel
theorem dX0_init_17 : decode cX0_init 17 = .ok (.putfield 15, 3) := by decide +kernel
theorem dX0_init_20 : decode cX0_init 20 = .ok (.return_, 1) := by decide +kernel
theorem dX0_copyFrom_0 : decode cX0_copyFrom 0 = .ok (.aload_n 1, 1) := by decide +kernel
theorem dX0_copyFrom_1 : decode cX0_copyFrom 1 = .ok (.getfield 9, 3) := by decide +kernel
theorem dX0_copyFrom_4 : decode cX0_copyFrom 4 = .ok (.iconst 0, 1) := by decide +kernel
theorem dX0_copyFrom_5 : decode cX0_copyFrom 5 = .ok (.aload_n 0, 1) := by decide +kernel
theorem dX0_copyFrom_6 : decode cX0_copyFrom 6 = .ok (.getfield 9, 3) := by decide +kernel
theorem dX0_copyFrom_9 : decode cX0_copyFrom 9 = .ok (.iconst 0, 1) := by decide +kernel
theorem dX0_copyFrom_10 : decode cX0_copyFrom 10 = .ok (.bipush 8, 2) := by decide +kernel
theorem dX0_copyFrom_12 : decode cX0_copyFrom 12 = .ok (.invokestatic 18, 3) := by decide +kernel
theorem dX0_copyFrom_15 : decode cX0_copyFrom 15 = .ok (.aload_n 1, 1) := by decide +kernel
theorem dX0_copyFrom_16 : decode cX0_copyFrom 16 = .ok (.getfield 15, 3) := by decide +kernel
theorem dX0_copyFrom_19 : decode cX0_copyFrom 19 = .ok (.iconst 0, 1) := by decide +kernel
theorem dX0_copyFrom_20 : decode cX0_copyFrom 20 = .ok (.aload_n 0, 1) := by decide +kernel
theorem dX0_copyFrom_21 : decode cX0_copyFrom 21 = .ok (.getfield 15, 3) := by decide +kernel
theorem dX0_copyFrom_24 : decode cX0_copyFrom 24 = .ok (.iconst 0, 1) := by decide +kernel
theorem dX0_copyFrom_25 : decode cX0_copyFrom 25 = .ok (.bipush 8, 2) := by decide +kernel
theorem dX0_copyFrom_27 : decode cX0_copyFrom 27 = .ok (.invokestatic 18, 3) := by decide +kernel
theorem dX0_copyFrom_30 : decode cX0_copyFrom 30 = .ok (.aload_n 0, 1) := by decide +kernel
theorem dX0_copyFrom_31 : decode cX0_copyFrom 31 = .ok (.aload_n 1, 1) := by decide +kernel
theorem dX0_copyFrom_32 : decode cX0_copyFrom 32 = .ok (.getfield 24, 3) := by decide +kernel
theorem dX0_copyFrom_35 : decode cX0_copyFrom 35 = .ok (.putfield 24, 3) := by decide +kernel
theorem dX0_copyFrom_38 : decode cX0_copyFrom 38 = .ok (.return_, 1) := by decide +kernel
theorem dX1_init_0 : decode cX1_init 0 = .ok (.aload_n 0, 1) := by decide +kernel
theorem dX1_init_1 : decode cX1_init 1 = .ok (.invokespecial 3, 3) := by decide +kernel
theorem dX1_init_4 : decode cX1_init 4 = .ok (.aload_n 0, 1) := by decide +kernel
theorem dX1_init_5 : decode cX1_init 5 = .ok (.sipush 400, 3) := by decide +kernel
theorem dX1_init_8 : decode cX1_init 8 = .ok (.newarray .int, 2) := by decide +kernel
theorem dX1_init_10 : decode cX1_init 10 = .ok (.putfield 9, 3) := by decide +kernel
theorem dX1_init_13 : decode cX1_init 13 = .ok (.return_, 1) := by decide +kernel
theorem dX1_copyFrom_0 : decode cX1_copyFrom 0 = .ok (.aload_n 1, 1) := by decide +kernel
theorem dX1_copyFrom_1 : decode cX1_copyFrom 1 = .ok (.getfield 9, 3) := by decide +kernel
theorem dX1_copyFrom_4 : decode cX1_copyFrom 4 = .ok (.iconst 0, 1) := by decide +kernel
theorem dX1_copyFrom_5 : decode cX1_copyFrom 5 = .ok (.aload_n 0, 1) := by decide +kernel
theorem dX1_copyFrom_6 : decode cX1_copyFrom 6 = .ok (.getfield 9, 3) := by decide +kernel
theorem dX1_copyFrom_9 : decode cX1_copyFrom 9 = .ok (.iconst 0, 1) := by decide +kernel
theorem dX1_copyFrom_10 : decode cX1_copyFrom 10 = .ok (.sipush 400, 3) := by decide +kernel
theorem dX1_copyFrom_13 : decode cX1_copyFrom 13 = .ok (.invokestatic 15, 3) := by decide +kernel
theorem dX1_copyFrom_16 : decode cX1_copyFrom 16 = .ok (.aload_n 0, 1) := by decide +kernel
theorem dX1_copyFrom_17 : decode cX1_copyFrom 17 = .ok (.aload_n 1, 1) := by decide +kernel
theorem dX1_copyFrom_18 : decode cX1_copyFrom 18 = .ok (.getfield 21, 3) := by decide +kernel
theorem dX1_copyFrom_21 : decode cX1_copyFrom 21 = .ok (.putfield 21, 3) := by decide +kernel
theorem dX1_copyFrom_24 : decode cX1_copyFrom 24 = .ok (.return_, 1) := by decide +kernel
set_option maxRecDepth 20000 in
theorem ggX1_add_J9_floorMod_7cf53 : GoodIn wsX1_add wsJ9_floorMod_7cf53 := goodIn_r _ [6] (by decide +kernel) (by decide +kernel)
set_option maxRecDepth 20000 in
theorem gX1_add_J9_floorMod_7cf53 : GoodIn wsX1_add (va_wsS RX1 25 yJ9_floorMod_7cf53 wsJ9_floorMod_7cf53) := goodIn_app (goodIn_of _ (by decide +kernel)) ggX1_add_J9_floorMod_7cf53
theorem dX1_add_0 : decode cX1_add 0 = .ok (.aload_n 0, 1) := by decide +kernel
theorem dX1_add_1 : decode cX1_add 1 = .ok (.getfield 9, 3) := by decide +kernel
theorem dX1_add_4 : decode cX1_add 4 = .ok (.aload_n 0, 1) := by decide +kernel
theorem dX1_add_5 : decode cX1_add 5 = .ok (.getfield 21, 3) := by decide +kernel
theorem dX1_add_8 : decode cX1_add 8 = .ok (.sipush 400, 3) := by decide +kernel
theorem dX1_add_11 : decode cX1_add 11 = .ok (.invokestatic 25, 3) := by decide +kernel
theorem dX1_add_14 : decode cX1_add 14 = .ok (.iload_n 1, 1) := by decide +kernel
theorem dX1_add_15 : decode cX1_add 15 = .ok (.iastore, 1) := by decide +kernel
theorem dX1_add_16 : decode cX1_add 16 = .ok (.aload_n 0, 1) := by decide +kernel
theorem dX1_add_17 : decode cX1_add 17 = .ok (.dup, 1) := by decide +kernel
theorem dX1_add_18 : decode cX1_add 18 = .ok (.getfield 21, 3) := by decide +kernel
theorem dX1_add_21 : decode cX1_add 21 = .ok (.iconst 1, 1) := by decide +kernel
theorem dX1_add_22 : decode cX1_add 22 = .ok (.iadd, 1) := by decide +kernel
theorem dX1_add_23 : decode cX1_add 23 = .ok (.putfield 21, 3) := by decide +kernel
theorem dX1_add_26 : decode cX1_add 26 = .ok (.return_, 1) := by decide +kernel
set_option maxRecDepth 20000 in
theorem ggX1_at_J9_floorMod_7cf53 : GoodIn wsX1_at wsJ9_floorMod_7cf53 := goodIn_r _ [5] (by decide +kernel) (by decide +kernel)
set_option maxRecDepth 20000 in
theorem gX1_at_J9_floorMod_7cf53 : GoodIn wsX1_at (va_wsS RX1 25 yJ9_floorMod_7cf53 wsJ9_floorMod_7cf53) := goodIn_app (goodIn_of _ (by decide +kernel)) ggX1_at_J9_floorMod_7cf53
theorem dX1_at_0 : decode cX1_at 0 = .ok (.aload_n 0, 1) := by decide +kernel
theorem dX1_at_1 : decode cX1_at 1 = .ok (.getfield 9, 3) := by decide +kernel
theorem dX1_at_4 : decode cX1_at 4 = .ok (.iload_n 1, 1) := by decide +kernel
theorem dX1_at_5 : decode cX1_at 5 = .ok (.sipush 400, 3) := by decide +kernel
theorem dX1_at_8 : decode cX1_at 8 = .ok (.invokestatic 25, 3) := by decide +kernel
theorem dX1_at_11 : decode cX1_at 11 = .ok (.iaload, 1) := by decide +kernel
theorem dX1_at_12 : decode cX1_at 12 = .ok (.ireturn, 1) := by decide +kernel
theorem dX2_init_0 : decode cX2_init 0 = .ok (.aload_n 0, 1) := by decide +kernel
theorem dX2_init_1 : decode cX2_init 1 = .ok (.invokespecial 3, 3) := by decide +kernel
theorem dX2_init_4 : decode cX2_init 4 = .ok (.aload_n 0, 1) := by decide +kernel
theorem dX2_init_5 : decode cX2_init 5 = .ok (.iconst 5, 1) := by decide +kernel
theorem dX2_init_6 : decode cX2_init 6 = .ok (.newarray .int, 2) := by decide +kernel
theorem dX2_init_8 : decode cX2_init 8 = .ok (.putfield 9, 3) := by decide +kernel
theorem dX2_init_11 : decode cX2_init 11 = .ok (.aload_n 0, 1) := by decide +kernel
theorem dX2_init_12 : decode cX2_init 12 = .ok (.iconst 5, 1) := by decide +kernel
theorem dX2_init_13 : decode cX2_init 13 = .ok (.newarray .int, 2) := by decide +kernel
theorem dX2_init_15 : decode cX2_init 15 = .ok (.putfield 15, 3) := by decide +kernel
theorem dX2_init_18 : decode cX2_init 18 = .ok (.aload_n 0, 1) := by decide +kernel
theorem dX2_init_19 : decode cX2_init 19 = .ok (.sipush 405, 3) := by decide +kernel
theorem dX2_init_22 : decode cX2_init 22 = .ok (.newarray .int, 2) := by decide +kernel
theorem dX2_init_24 : decode cX2_init 24 = .ok (.putfield 18, 3) := by decide +kernel
theorem dX2_init_27 : decode cX2_init 27 = .ok (.aload_n 0, 1) := by decide +kernel
theorem dX2_init_28 : decode cX2_init 28 = .ok (.sipush 405, 3) := by decide +kernel
theorem dX2_init_31 : decode cX2_init 31 = .ok (.newarray .int, 2) := by decide +kernel
theorem dX2_init_33 : decode cX2_init 33 = .ok (.putfield 21, 3) := by decide +kernel
theorem dX2_init_36 : decode cX2_init 36 = .ok (.iconst 0, 1) := by decide +kernel
theorem dX2_init_37 : decode cX2_init 37 = .ok (.istore_n 1, 1) := by decide +kernel
theorem dX2_init_38 : decode cX2_init 38 = .ok (.iload_n 1, 1) := by decide +kernel
theorem dX2_init_39 : decode cX2_init 39 = .ok (.iconst 5, 1) := by decide +kernel
theorem dX2_init_40 : decode cX2_init 40 = .ok (.if_icmp .ge 39, 3) := by decide +kernel
theorem dX2_init_43 : decode cX2_init 43 = .ok (.aload_n 0, 1) := by decide +kernel
theorem dX2_init_44 : decode cX2_init 44 = .ok (.getfield 18, 3) := by decide +kernel
theorem dX2_init_47 : decode cX2_init 47 = .ok (.sipush 400, 3) := by decide +kernel
theorem dX2_init_50 : decode cX2_init 50 = .ok (.iload_n 1, 1) := by decide +kernel
theorem dX2_init_51 : decode cX2_init 51 = .ok (.iadd, 1) := by decide +kernel
theorem dX2_init_52 : decode cX2_init 52 = .ok (.sipush 400, 3) := by decide +kernel
theorem dX2_init_55 : decode cX2_init 55 = .ok (.iload_n 1, 1) := by decide +kernel
theorem dX2_init_56 : decode cX2_init 56 = .ok (.iadd, 1) := by decide +kernel
theorem dX2_init_57 : decode cX2_init 57 = .ok (.iastore, 1) := by decide +kernel
theorem dX2_init_58 : decode cX2_init 58 = .ok (.aload_n 0, 1) := by decide +kernel
theorem dX2_init_59 : decode cX2_init 59 = .ok (.getfield 21, 3) := by decide +kernel
theorem dX2_init_62 : decode cX2_init 62 = .ok (.sipush 400, 3) := by decide +kernel
theorem dX2_init_65 : decode cX2_init 65 = .ok (.iload_n 1, 1) := by decide +kernel
theorem dX2_init_66 : decode cX2_init 66 = .ok (.iadd, 1) := by decide +kernel
theorem dX2_init_67 : decode cX2_init 67 = .ok (.sipush 400, 3) := by decide +kernel
theorem dX2_init_70 : decode cX2_init 70 = .ok (.iload_n 1, 1) := by decide +kernel
theorem dX2_init_71 : decode cX2_init 71 = .ok (.iadd, 1) := by decide +kernel
theorem dX2_init_72 : decode cX2_init 72 = .ok (.iastore, 1) := by decide +kernel
theorem dX2_init_73 : decode cX2_init 73 = .ok (.iinc 1 1, 3) := by decide +kernel
theorem dX2_init_76 : decode cX2_init 76 = .ok (.goto (-38), 3) := by decide +kernel
theorem dX2_init_79 : decode cX2_init 79 = .ok (.return_, 1) := by decide +kernel
theorem dX2_copyFrom_0 : decode cX2_copyFrom 0 = .ok (.aload_n 1, 1) := by decide +kernel
theorem dX2_copyFrom_1 : decode cX2_copyFrom 1 = .ok (.getfield 9, 3) := by decide +kernel
theorem dX2_copyFrom_4 : decode cX2_copyFrom 4 = .ok (.iconst 0, 1) := by decide +kernel
theorem dX2_copyFrom_5 : decode cX2_copyFrom 5 = .ok (.aload_n 0, 1) := by decide +kernel
theorem dX2_copyFrom_6 : decode cX2_copyFrom 6 = .ok (.getfield 9, 3) := by decide +kernel
theorem dX2_copyFrom_9 : decode cX2_copyFrom 9 = .ok (.iconst 0, 1) := by decide +kernel
theorem dX2_copyFrom_10 : decode cX2_copyFrom 10 = .ok (.iconst 5, 1) := by decide +kernel
theorem dX2_copyFrom_11 : decode cX2_copyFrom 11 = .ok (.invokestatic 24, 3) := by decide +kernel
theorem dX2_copyFrom_14 : decode cX2_copyFrom 14 = .ok (.aload_n 1, 1) := by decide +kernel
theorem dX2_copyFrom_15 : decode cX2_copyFrom 15 = .ok (.getfield 15, 3) := by decide +kernel
theorem dX2_copyFrom_18 : decode cX2_copyFrom 18 = .ok (.iconst 0, 1) := by decide +kernel
theorem dX2_copyFrom_19 : decode cX2_copyFrom 19 = .ok (.aload_n 0, 1) := by decide +kernel
theorem dX2_copyFrom_20 : decode cX2_copyFrom 20 = .ok (.getfield 15, 3) := by decide +kernel
theorem dX2_copyFrom_23 : decode cX2_copyFrom 23 = .ok (.iconst 0, 1) := by decide +kernel
theorem dX2_copyFrom_24 : decode cX2_copyFrom 24 = .ok (.iconst 5, 1) := by decide +kernel
theorem dX2_copyFrom_25 : decode cX2_copyFrom 25 = .ok (.invokestatic 24, 3) := by decide +kernel
theorem dX2_copyFrom_28 : decode cX2_copyFrom 28 = .ok (.aload_n 1, 1) := by decide +kernel
theorem dX2_copyFrom_29 : decode cX2_copyFrom 29 = .ok (.getfield 18, 3) := by decide +kernel
theorem dX2_copyFrom_32 : decode cX2_copyFrom 32 = .ok (.iconst 0, 1) := by decide +kernel
theorem dX2_copyFrom_33 : decode cX2_copyFrom 33 = .ok (.aload_n 0, 1) := by decide +kernel
theorem dX2_copyFrom_34 : decode cX2_copyFrom 34 = .ok (.getfield 18, 3) := by decide +kernel
theorem dX2_copyFrom_37 : decode cX2_copyFrom 37 = .ok (.iconst 0, 1) := by decide +kernel
theorem dX2_copyFrom_38 : decode cX2_copyFrom 38 = .ok (.sipush 405, 3) := by decide +kernel
theorem dX2_copyFrom_41 : decode cX2_copyFrom 41 = .ok (.invokestatic 24, 3) := by decide +kernel
theorem dX2_copyFrom_44 : decode cX2_copyFrom 44 = .ok (.aload_n 1, 1) := by decide +kernel
theorem dX2_copyFrom_45 : decode cX2_copyFrom 45 = .ok (.getfield 21, 3) := by decide +kernel
theorem dX2_copyFrom_48 : decode cX2_copyFrom 48 = .ok (.iconst 0, 1) := by decide +kernel
theorem dX2_copyFrom_49 : decode cX2_copyFrom 49 = .ok (.aload_n 0, 1) := by decide +kernel
theorem dX2_copyFrom_50 : decode cX2_copyFrom 50 = .ok (.getfield 21, 3) := by decide +kernel
theorem dX2_copyFrom_53 : decode cX2_copyFrom 53 = .ok (.iconst 0, 1) := by decide +kernel
theorem dX2_copyFrom_54 : decode cX2_copyFrom 54 = .ok (.sipush 405, 3) := by decide +kernel
theorem dX2_copyFrom_57 : decode cX2_copyFrom 57 = .ok (.invokestatic 24, 3) := by decide +kernel
theorem dX2_copyFrom_60 : decode cX2_copyFrom 60 = .ok (.return_, 1) := by decide +kernel
theorem dX2_add_0 : decode cX2_add 0 = .ok (.sipush 400, 3) := by decide +kernel
theorem dX2_add_3 : decode cX2_add 3 = .ok (.iload_n 1, 1) := by decide +kernel
theorem dX2_add_4 : decode cX2_add 4 = .ok (.iadd, 1) := by decide +kernel
theorem dX2_add_5 : decode cX2_add 5 = .ok (.istore 4, 2) := by decide +kernel
theorem dX2_add_7 : decode cX2_add 7 = .ok (.aload_n 0, 1) := by decide +kernel
theorem dX2_add_8 : decode cX2_add 8 = .ok (.getfield 21, 3) := by decide +kernel
theorem dX2_add_11 : decode cX2_add 11 = .ok (.iload 4, 2) := by decide +kernel
theorem dX2_add_13 : decode cX2_add 13 = .ok (.iaload, 1) := by decide +kernel
theorem dX2_add_14 : decode cX2_add 14 = .ok (.istore 5, 2) := by decide +kernel
theorem dX2_add_16 : decode cX2_add 16 = .ok (.aload_n 0, 1) := by decide +kernel
theorem dX2_add_17 : decode cX2_add 17 = .ok (.getfield 18, 3) := by decide +kernel
theorem dX2_add_20 : decode cX2_add 20 = .ok (.iload 5, 2) := by decide +kernel
theorem dX2_add_22 : decode cX2_add 22 = .ok (.iload_n 2, 1) := by decide +kernel
theorem dX2_add_23 : decode cX2_add 23 = .ok (.iastore, 1) := by decide +kernel
theorem dX2_add_24 : decode cX2_add 24 = .ok (.aload_n 0, 1) := by decide +kernel
theorem dX2_add_25 : decode cX2_add 25 = .ok (.getfield 21, 3) := by decide +kernel
theorem dX2_add_28 : decode cX2_add 28 = .ok (.iload_n 2, 1) := by decide +kernel
theorem dX2_add_29 : decode cX2_add 29 = .ok (.iload 5, 2) := by decide +kernel
theorem dX2_add_31 : decode cX2_add 31 = .ok (.iastore, 1) := by decide +kernel
theorem dX2_add_32 : decode cX2_add 32 = .ok (.aload_n 0, 1) := by decide +kernel
theorem dX2_add_33 : decode cX2_add 33 = .ok (.getfield 18, 3) := by decide +kernel
theorem dX2_add_36 : decode cX2_add 36 = .ok (.iload_n 2, 1) := by decide +kernel
theorem dX2_add_37 : decode cX2_add 37 = .ok (.iload 4, 2) := by decide +kernel
theorem dX2_add_39 : decode cX2_add 39 = .ok (.iastore, 1) := by decide +kernel
theorem dX2_add_40 : decode cX2_add 40 = .ok (.aload_n 0, 1) := by decide +kernel
theorem dX2_add_41 : decode cX2_add 41 = .ok (.getfield 21, 3) := by decide +kernel
theorem dX2_add_44 : decode cX2_add 44 = .ok (.iload 4, 2) := by decide +kernel
theorem dX2_add_46 : decode cX2_add 46 = .ok (.iload_n 2, 1) := by decide +kernel
theorem dX2_add_47 : decode cX2_add 47 = .ok (.iastore, 1) := by decide +kernel
theorem dX2_add_48 : decode cX2_add 48 = .ok (.aload_n 0, 1) := by decide +kernel
theorem dX2_add_49 : decode cX2_add 49 = .ok (.getfield 9, 3) := by decide +kernel
theorem dX2_add_52 : decode cX2_add 52 = .ok (.iload_n 1, 1) := by decide +kernel
theorem dX2_add_53 : decode cX2_add 53 = .ok (.dup2, 1) := by decide +kernel
theorem dX2_add_54 : decode cX2_add 54 = .ok (.iaload, 1) := by decide +kernel
theorem dX2_add_55 : decode cX2_add 55 = .ok (.iconst 1, 1) := by decide +kernel
theorem dX2_add_56 : decode cX2_add 56 = .ok (.iadd, 1) := by decide +kernel
theorem dX2_add_57 : decode cX2_add 57 = .ok (.iastore, 1) := by decide +kernel
theorem dX2_add_58 : decode cX2_add 58 = .ok (.aload_n 0, 1) := by decide +kernel
theorem dX2_add_59 : decode cX2_add 59 = .ok (.getfield 15, 3) := by decide +kernel
theorem dX2_add_62 : decode cX2_add 62 = .ok (.iload_n 1, 1) := by decide +kernel
theorem dX2_add_63 : decode cX2_add 63 = .ok (.dup2, 1) := by decide +kernel
theorem dX2_add_64 : decode cX2_add 64 = .ok (.iaload, 1) := by decide +kernel
theorem dX2_add_65 : decode cX2_add 65 = .ok (.iload_n 3, 1) := by decide +kernel
theorem dX2_add_66 : decode cX2_add 66 = .ok (.iadd, 1) := by decide +kernel
theorem dX2_add_67 : decode cX2_add 67 = .ok (.iastore, 1) := by decide +kernel
theorem dX2_add_68 : decode cX2_add 68 = .ok (.return_, 1) := by decide +kernel
theorem dX2_remove_0 : decode cX2_remove 0 = .ok (.aload_n 0, 1) := by decide +kernel
theorem dX2_remove_1 : decode cX2_remove 1 = .ok (.getfield 18, 3) := by decide +kernel
theorem dX2_remove_4 : decode cX2_remove 4 = .ok (.aload_n 0, 1) := by decide +kernel
theorem dX2_remove_5 : decode cX2_remove 5 = .ok (.getfield 21, 3) := by decide +kernel
theorem dX2_remove_8 : decode cX2_remove 8 = .ok (.iload_n 2, 1) := by decide +kernel
theorem dX2_remove_9 : decode cX2_remove 9 = .ok (.iaload, 1) := by decide +kernel
theorem dX2_remove_10 : decode cX2_remove 10 = .ok (.aload_n 0, 1) := by decide +kernel
theorem dX2_remove_11 : decode cX2_remove 11 = .ok (.getfield 18, 3) := by decide +kernel
theorem dX2_remove_14 : decode cX2_remove 14 = .ok (.iload_n 2, 1) := by decide +kernel
theorem dX2_remove_15 : decode cX2_remove 15 = .ok (.iaload, 1) := by decide +kernel
theorem dX2_remove_16 : decode cX2_remove 16 = .ok (.iastore, 1) := by decide +kernel
theorem dX2_remove_17 : decode cX2_remove 17 = .ok (.aload_n 0, 1) := by decide +kernel
theorem dX2_remove_18 : decode cX2_remove 18 = .ok (.getfield 21, 3) := by decide +kernel
theorem dX2_remove_21 : decode cX2_remove 21 = .ok (.aload_n 0, 1) := by decide +kernel
theorem dX2_remove_22 : decode cX2_remove 22 = .ok (.getfield 18, 3) := by decide +kernel
theorem dX2_remove_25 : decode cX2_remove 25 = .ok (.iload_n 2, 1) := by decide +kernel
theorem dX2_remove_26 : decode cX2_remove 26 = .ok (.iaload, 1) := by decide +kernel
theorem dX2_remove_27 : decode cX2_remove 27 = .ok (.aload_n 0, 1) := by decide +kernel
theorem dX2_remove_28 : decode cX2_remove 28 = .ok (.getfield 21, 3) := by decide +kernel
theorem dX2_remove_31 : decode cX2_remove 31 = .ok (.iload_n 2, 1) := by decide +kernel
theorem dX2_remove_32 : decode cX2_remove 32 = .ok (.iaload, 1) := by decide +kernel
theorem dX2_remove_33 : decode cX2_remove 33 = .ok (.iastore, 1) := by decide +kernel
theorem dX2_remove_34 : decode cX2_remove 34 = .ok (.aload_n 0, 1) := by decide +kernel
theorem dX2_remove_35 : decode cX2_remove 35 = .ok (.getfield 9, 3) := by decide +kernel
theorem dX2_remove_38 : decode cX2_remove 38 = .ok (.iload_n 1, 1) := by decide +kernel
theorem dX2_remove_39 : decode cX2_remove 39 = .ok (.dup2, 1) := by decide +kernel
theorem dX2_remove_40 : decode cX2_remove 40 = .ok (.iaload, 1) := by decide +kernel
theorem dX2_remove_41 : decode cX2_remove 41 = .ok (.iconst 1, 1) := by decide +kernel
theorem dX2_remove_42 : decode cX2_remove 42 = .ok (.isub, 1) := by decide +kernel
theorem dX2_remove_43 : decode cX2_remove 43 = .ok (.iastore, 1) := by decide +kernel
theorem dX2_remove_44 : decode cX2_remove 44 = .ok (.aload_n 0, 1) := by decide +kernel
theorem dX2_remove_45 : decode cX2_remove 45 = .ok (.getfield 15, 3) := by decide +kernel
theorem dX2_remove_48 : decode cX2_remove 48 = .ok (.iload_n 1, 1) := by decide +kernel
theorem dX2_remove_49 : decode cX2_remove 49 = .ok (.dup2, 1) := by decide +kernel
theorem dX2_remove_50 : decode cX2_remove 50 = .ok (.iaload, 1) := by decide +kernel
theorem dX2_remove_51 : decode cX2_remove 51 = .ok (.iload_n 3, 1) := by decide +kernel
theorem dX2_remove_52 : decode cX2_remove 52 = .ok (.isub, 1) := by decide +kernel
theorem dX2_remove_53 : decode cX2_remove 53 = .ok (.iastore, 1) := by decide +kernel
theorem dX2_remove_54 : decode cX2_remove 54 = .ok (.return_, 1) := by decide +kernel
theorem dX2_oldest_0 : decode cX2_oldest 0 = .ok (.aload_n 0, 1) := by decide +kernel
theorem dX2_oldest_1 : decode cX2_oldest 1 = .ok (.getfield 18, 3) := by decide +kernel
theorem dX2_oldest_4 : decode cX2_oldest 4 = .ok (.sipush 400, 3) := by decide +kernel
theorem dX2_oldest_7 : decode cX2_oldest 7 = .ok (.iload_n 1, 1) := by decide +kernel
theorem dX2_oldest_8 : decode cX2_oldest 8 = .ok (.iadd, 1) := by decide +kernel
theorem dX2_oldest_9 : decode cX2_oldest 9 = .ok (.iaload, 1) := by decide +kernel
theorem dX2_oldest_10 : decode cX2_oldest 10 = .ok (.ireturn, 1) := by decide +kernel
set_option maxRecDepth 20000 in
theorem ggX2_keyAt_X2_oldest : GoodIn wsX2_keyAt wsX2_oldest := goodIn_r _ [7, 2, 8, 9, 10, 11] (by decide +kernel) (by decide +kernel)
set_option maxRecDepth 20000 in
theorem gX2_keyAt_X2_oldest : GoodIn wsX2_keyAt (wsV RX2 30 RX2 yX2_oldest wsX2_oldest) := goodIn_app (goodIn_of _ (by decide +kernel)) ggX2_keyAt_X2_oldest
theorem dX2_keyAt_0 : decode cX2_keyAt 0 = .ok (.aload_n 0, 1) := by decide +kernel
theorem dX2_keyAt_1 : decode cX2_keyAt 1 = .ok (.iload_n 1, 1) := by decide +kernel
theorem dX2_keyAt_2 : decode cX2_keyAt 2 = .ok (.invokevirtual 30, 3) := by decide +kernel
theorem dX2_keyAt_5 : decode cX2_keyAt 5 = .ok (.istore_n 3, 1) := by decide +kernel
theorem dX2_keyAt_6 : decode cX2_keyAt 6 = .ok (.iconst 0, 1) := by decide +kernel
theorem dX2_keyAt_7 : decode cX2_keyAt 7 = .ok (.istore 4, 2) := by decide +kernel
theorem dX2_keyAt_9 : decode cX2_keyAt 9 = .ok (.iload 4, 2) := by decide +kernel
theorem dX2_keyAt_11 : decode cX2_keyAt 11 = .ok (.aload_n 0, 1) := by decide +kernel
theorem dX2_keyAt_12 : decode cX2_keyAt 12 = .ok (.getfield 9, 3) := by decide +kernel
theorem dX2_keyAt_15 : decode cX2_keyAt 15 = .ok (.iload_n 1, 1) := by decide +kernel
theorem dX2_keyAt_16 : decode cX2_keyAt 16 = .ok (.iaload, 1) := by decide +kernel
theorem dX2_keyAt_17 : decode cX2_keyAt 17 = .ok (.if_icmp .ge 24, 3) := by decide +kernel
theorem dX2_keyAt_20 : decode cX2_keyAt 20 = .ok (.iload 4, 2) := by decide +kernel
theorem dX2_keyAt_22 : decode cX2_keyAt 22 = .ok (.iload_n 2, 1) := by decide +kernel
theorem dX2_keyAt_23 : decode cX2_keyAt 23 = .ok (.if_icmp .ne 5, 3) := by decide +kernel
theorem dX2_keyAt_26 : decode cX2_keyAt 26 = .ok (.iload_n 3, 1) := by decide +kernel
theorem dX2_keyAt_27 : decode cX2_keyAt 27 = .ok (.ireturn, 1) := by decide +kernel
theorem dX2_keyAt_28 : decode cX2_keyAt 28 = .ok (.aload_n 0, 1) := by decide +kernel
theorem dX2_keyAt_29 : decode cX2_keyAt 29 = .ok (.getfield 18, 3) := by decide +kernel
theorem dX2_keyAt_32 : decode cX2_keyAt 32 = .ok (.iload_n 3, 1) := by decide +kernel
theorem dX2_keyAt_33 : decode cX2_keyAt 33 = .ok (.iaload, 1) := by decide +kernel
theorem dX2_keyAt_34 : decode cX2_keyAt 34 = .ok (.istore_n 3, 1) := by decide +kernel
theorem dX2_keyAt_35 : decode cX2_keyAt 35 = .ok (.iinc 4 1, 3) := by decide +kernel
theorem dX2_keyAt_38 : decode cX2_keyAt 38 = .ok (.goto (-29), 3) := by decide +kernel
theorem dX2_keyAt_41 : decode cX2_keyAt 41 = .ok (.bipush (-5), 2) := by decide +kernel
theorem dX2_keyAt_43 : decode cX2_keyAt 43 = .ok (.ireturn, 1) := by decide +kernel
set_option maxRecDepth 20000 in
theorem ggX2_placeOf_X2_oldest : GoodIn wsX2_placeOf wsX2_oldest := goodIn_r _ [7, 2, 8, 9, 10, 11] (by decide +kernel) (by decide +kernel)
set_option maxRecDepth 20000 in
theorem gX2_placeOf_X2_oldest : GoodIn wsX2_placeOf (wsV RX2 30 RX2 yX2_oldest wsX2_oldest) := goodIn_app (goodIn_of _ (by decide +kernel)) ggX2_placeOf_X2_oldest
theorem dX2_placeOf_0 : decode cX2_placeOf 0 = .ok (.aload_n 0, 1) := by decide +kernel
theorem dX2_placeOf_1 : decode cX2_placeOf 1 = .ok (.iload_n 1, 1) := by decide +kernel
theorem dX2_placeOf_2 : decode cX2_placeOf 2 = .ok (.invokevirtual 30, 3) := by decide +kernel
theorem dX2_placeOf_5 : decode cX2_placeOf 5 = .ok (.istore_n 3, 1) := by decide +kernel
theorem dX2_placeOf_6 : decode cX2_placeOf 6 = .ok (.iconst 0, 1) := by decide +kernel
theorem dX2_placeOf_7 : decode cX2_placeOf 7 = .ok (.istore 4, 2) := by decide +kernel
theorem dX2_placeOf_9 : decode cX2_placeOf 9 = .ok (.iload 4, 2) := by decide +kernel
theorem dX2_placeOf_11 : decode cX2_placeOf 11 = .ok (.aload_n 0, 1) := by decide +kernel
theorem dX2_placeOf_12 : decode cX2_placeOf 12 = .ok (.getfield 9, 3) := by decide +kernel
theorem dX2_placeOf_15 : decode cX2_placeOf 15 = .ok (.iload_n 1, 1) := by decide +kernel
theorem dX2_placeOf_16 : decode cX2_placeOf 16 = .ok (.iaload, 1) := by decide +kernel
theorem dX2_placeOf_17 : decode cX2_placeOf 17 = .ok (.if_icmp .ge 24, 3) := by decide +kernel
theorem dX2_placeOf_20 : decode cX2_placeOf 20 = .ok (.iload_n 3, 1) := by decide +kernel
theorem dX2_placeOf_21 : decode cX2_placeOf 21 = .ok (.iload_n 2, 1) := by decide +kernel
theorem dX2_placeOf_22 : decode cX2_placeOf 22 = .ok (.if_icmp .ne 6, 3) := by decide +kernel
theorem dX2_placeOf_25 : decode cX2_placeOf 25 = .ok (.iload 4, 2) := by decide +kernel
theorem dX2_placeOf_27 : decode cX2_placeOf 27 = .ok (.ireturn, 1) := by decide +kernel
theorem dX2_placeOf_28 : decode cX2_placeOf 28 = .ok (.aload_n 0, 1) := by decide +kernel
theorem dX2_placeOf_29 : decode cX2_placeOf 29 = .ok (.getfield 18, 3) := by decide +kernel
theorem dX2_placeOf_32 : decode cX2_placeOf 32 = .ok (.iload_n 3, 1) := by decide +kernel
theorem dX2_placeOf_33 : decode cX2_placeOf 33 = .ok (.iaload, 1) := by decide +kernel
theorem dX2_placeOf_34 : decode cX2_placeOf 34 = .ok (.istore_n 3, 1) := by decide +kernel
theorem dX2_placeOf_35 : decode cX2_placeOf 35 = .ok (.iinc 4 1, 3) := by decide +kernel
theorem dX2_placeOf_38 : decode cX2_placeOf 38 = .ok (.goto (-29), 3) := by decide +kernel
theorem dX2_placeOf_41 : decode cX2_placeOf 41 = .ok (.bipush (-5), 2) := by decide +kernel
theorem dX2_placeOf_43 : decode cX2_placeOf 43 = .ok (.ireturn, 1) := by decide +kernel
set_option maxRecDepth 20000 in
theorem ggX2_oldestLoose_X2_oldest : GoodIn wsX2_oldestLoose wsX2_oldest := goodIn_r _ [7, 2, 8, 9, 10, 11] (by decide +kernel) (by decide +kernel)
set_option maxRecDepth 20000 in
theorem gX2_oldestLoose_X2_oldest : GoodIn wsX2_oldestLoose (wsV RX2 30 RX2 yX2_oldest wsX2_oldest) := goodIn_app (goodIn_of _ (by decide +kernel)) ggX2_oldestLoose_X2_oldest
theorem dX2_oldestLoose_0 : decode cX2_oldestLoose 0 = .ok (.aload_n 0, 1) := by decide +kernel
theorem dX2_oldestLoose_1 : decode cX2_oldestLoose 1 = .ok (.iload_n 1, 1) := by decide +kernel
theorem dX2_oldestLoose_2 : decode cX2_oldestLoose 2 = .ok (.invokevirtual 30, 3) := by decide +kernel
theorem dX2_oldestLoose_5 : decode cX2_oldestLoose 5 = .ok (.istore_n 3, 1) := by decide +kernel
theorem dX2_oldestLoose_6 : decode cX2_oldestLoose 6 = .ok (.iconst 0, 1) := by decide +kernel
theorem dX2_oldestLoose_7 : decode cX2_oldestLoose 7 = .ok (.istore 4, 2) := by decide +kernel
theorem dX2_oldestLoose_9 : decode cX2_oldestLoose 9 = .ok (.iload 4, 2) := by decide +kernel
theorem dX2_oldestLoose_11 : decode cX2_oldestLoose 11 = .ok (.aload_n 0, 1) := by decide +kernel
theorem dX2_oldestLoose_12 : decode cX2_oldestLoose 12 = .ok (.getfield 9, 3) := by decide +kernel
theorem dX2_oldestLoose_15 : decode cX2_oldestLoose 15 = .ok (.iload_n 1, 1) := by decide +kernel
theorem dX2_oldestLoose_16 : decode cX2_oldestLoose 16 = .ok (.iaload, 1) := by decide +kernel
theorem dX2_oldestLoose_17 : decode cX2_oldestLoose 17 = .ok (.if_icmp .ge 24, 3) := by decide +kernel
theorem dX2_oldestLoose_20 : decode cX2_oldestLoose 20 = .ok (.aload_n 2, 1) := by decide +kernel
theorem dX2_oldestLoose_21 : decode cX2_oldestLoose 21 = .ok (.iload_n 3, 1) := by decide +kernel
theorem dX2_oldestLoose_22 : decode cX2_oldestLoose 22 = .ok (.iaload, 1) := by decide +kernel
theorem dX2_oldestLoose_23 : decode cX2_oldestLoose 23 = .ok (.ifCond .ne 5, 3) := by decide +kernel
theorem dX2_oldestLoose_26 : decode cX2_oldestLoose 26 = .ok (.iload_n 3, 1) := by decide +kernel
theorem dX2_oldestLoose_27 : decode cX2_oldestLoose 27 = .ok (.ireturn, 1) := by decide +kernel
theorem dX2_oldestLoose_28 : decode cX2_oldestLoose 28 = .ok (.aload_n 0, 1) := by decide +kernel
theorem dX2_oldestLoose_29 : decode cX2_oldestLoose 29 = .ok (.getfield 18, 3) := by decide +kernel
theorem dX2_oldestLoose_32 : decode cX2_oldestLoose 32 = .ok (.iload_n 3, 1) := by decide +kernel
theorem dX2_oldestLoose_33 : decode cX2_oldestLoose 33 = .ok (.iaload, 1) := by decide +kernel
theorem dX2_oldestLoose_34 : decode cX2_oldestLoose 34 = .ok (.istore_n 3, 1) := by decide +kernel
theorem dX2_oldestLoose_35 : decode cX2_oldestLoose 35 = .ok (.iinc 4 1, 3) := by decide +kernel
theorem dX2_oldestLoose_38 : decode cX2_oldestLoose 38 = .ok (.goto (-29), 3) := by decide +kernel
theorem dX2_oldestLoose_41 : decode cX2_oldestLoose 41 = .ok (.bipush (-5), 2) := by decide +kernel
theorem dX2_oldestLoose_43 : decode cX2_oldestLoose 43 = .ok (.ireturn, 1) := by decide +kernel
set_option maxRecDepth 20000 in
theorem ggX3_init_X2_init : GoodIn wsX3_init wsX2_init := goodIn_r _ [23, 24, 2, 3, 4, 25, 26, 27, 28, 44, 45, 46, 47] (by decide +kernel) (by decide +kernel)
set_option maxRecDepth 20000 in
theorem gX3_init_X2_init : GoodIn wsX3_init (wsX2_init) := ggX3_init_X2_init
set_option maxRecDepth 20000 in
theorem ggX3_init_X1_init : GoodIn wsX3_init wsX1_init := goodIn_r _ [30, 31, 2, 3, 4, 32, 48, 49] (by decide +kernel) (by decide +kernel)
set_option maxRecDepth 20000 in
theorem gX3_init_X1_init_n32 : GoodIn wsX3_init (wsX1_init) := ggX3_init_X1_init
set_option maxRecDepth 20000 in
theorem ggX3_init_X0_init : GoodIn wsX3_init wsX0_init := goodIn_r _ [34, 35, 2, 3, 4, 36, 37, 50, 51, 52] (by decide +kernel) (by decide +kernel)
set_option maxRecDepth 20000 in
theorem gX3_init_X0_init_n39 : GoodIn wsX3_init (wsX0_init) := ggX3_init_X0_init
theorem dX3_init_0 : decode cX3_init 0 = .ok (.aload_n 0, 1) := by decide +kernel
theorem dX3_init_1 : decode cX3_init 1 = .ok (.invokespecial 3, 3) := by decide +kernel
theorem dX3_init_4 : decode cX3_init 4 = .ok (.aload_n 0, 1) := by decide +kernel
theorem dX3_init_5 : decode cX3_init 5 = .ok (.iconst 4, 1) := by decide +kernel
theorem dX3_init_6 : decode cX3_init 6 = .ok (.newarray .int, 2) := by decide +kernel
theorem dX3_init_8 : decode cX3_init 8 = .ok (.putfield 9, 3) := by decide +kernel
theorem dX3_init_11 : decode cX3_init 11 = .ok (.aload_n 0, 1) := by decide +kernel
theorem dX3_init_12 : decode cX3_init 12 = .ok (.iconst 5, 1) := by decide +kernel
theorem dX3_init_13 : decode cX3_init 13 = .ok (.newarray .int, 2) := by decide +kernel
theorem dX3_init_15 : decode cX3_init 15 = .ok (.putfield 15, 3) := by decide +kernel
theorem dX3_init_18 : decode cX3_init 18 = .ok (.aload_n 0, 1) := by decide +kernel
theorem dX3_init_19 : decode cX3_init 19 = .ok (.new 18, 3) := by decide +kernel
theorem dX3_init_22 : decode cX3_init 22 = .ok (.dup, 1) := by decide +kernel
theorem dX3_init_23 : decode cX3_init 23 = .ok (.invokespecial 20, 3) := by decide +kernel
theorem dX3_init_26 : decode cX3_init 26 = .ok (.putfield 21, 3) := by decide +kernel
theorem dX3_init_29 : decode cX3_init 29 = .ok (.aload_n 0, 1) := by decide +kernel
theorem dX3_init_30 : decode cX3_init 30 = .ok (.bipush 7, 2) := by decide +kernel
theorem dX3_init_32 : decode cX3_init 32 = .ok (.sipush 400, 3) := by decide +kernel
theorem dX3_init_35 : decode cX3_init 35 = .ok (.multianewarray 25 2, 4) := by decide +kernel
theorem dX3_init_39 : decode cX3_init 39 = .ok (.putfield 27, 3) := by decide +kernel
theorem dX3_init_42 : decode cX3_init 42 = .ok (.aload_n 0, 1) := by decide +kernel
theorem dX3_init_43 : decode cX3_init 43 = .ok (.new 30, 3) := by decide +kernel
theorem dX3_init_46 : decode cX3_init 46 = .ok (.dup, 1) := by decide +kernel
theorem dX3_init_47 : decode cX3_init 47 = .ok (.invokespecial 32, 3) := by decide +kernel
theorem dX3_init_50 : decode cX3_init 50 = .ok (.putfield 33, 3) := by decide +kernel
theorem dX3_init_53 : decode cX3_init 53 = .ok (.aload_n 0, 1) := by decide +kernel
theorem dX3_init_54 : decode cX3_init 54 = .ok (.new 37, 3) := by decide +kernel
theorem dX3_init_57 : decode cX3_init 57 = .ok (.dup, 1) := by decide +kernel
theorem dX3_init_58 : decode cX3_init 58 = .ok (.invokespecial 39, 3) := by decide +kernel
theorem dX3_init_61 : decode cX3_init 61 = .ok (.putfield 40, 3) := by decide +kernel
theorem dX3_init_64 : decode cX3_init 64 = .ok (.aload_n 0, 1) := by decide +kernel
theorem dX3_init_65 : decode cX3_init 65 = .ok (.getfield 9, 3) := by decide +kernel
theorem dX3_init_68 : decode cX3_init 68 = .ok (.iconst 0, 1) := by decide +kernel
theorem dX3_init_69 : decode cX3_init 69 = .ok (.bipush 20, 2) := by decide +kernel
theorem dX3_init_71 : decode cX3_init 71 = .ok (.iastore, 1) := by decide +kernel
theorem dX3_init_72 : decode cX3_init 72 = .ok (.aload_n 0, 1) := by decide +kernel
theorem dX3_init_73 : decode cX3_init 73 = .ok (.getfield 9, 3) := by decide +kernel
theorem dX3_init_76 : decode cX3_init 76 = .ok (.iconst 1, 1) := by decide +kernel
theorem dX3_init_77 : decode cX3_init 77 = .ok (.bipush 10, 2) := by decide +kernel
theorem dX3_init_79 : decode cX3_init 79 = .ok (.iastore, 1) := by decide +kernel
theorem dX3_init_80 : decode cX3_init 80 = .ok (.aload_n 0, 1) := by decide +kernel
theorem dX3_init_81 : decode cX3_init 81 = .ok (.getfield 9, 3) := by decide +kernel
theorem dX3_init_84 : decode cX3_init 84 = .ok (.iconst 2, 1) := by decide +kernel
theorem dX3_init_85 : decode cX3_init 85 = .ok (.iconst 2, 1) := by decide +kernel
theorem dX3_init_86 : decode cX3_init 86 = .ok (.iastore, 1) := by decide +kernel
theorem dX3_init_87 : decode cX3_init 87 = .ok (.aload_n 0, 1) := by decide +kernel
theorem dX3_init_88 : decode cX3_init 88 = .ok (.getfield 9, 3) := by decide +kernel
theorem dX3_init_91 : decode cX3_init 91 = .ok (.iconst 3, 1) := by decide +kernel
theorem dX3_init_92 : decode cX3_init 92 = .ok (.iconst 1, 1) := by decide +kernel
theorem dX3_init_93 : decode cX3_init 93 = .ok (.iastore, 1) := by decide +kernel
theorem dX3_init_94 : decode cX3_init 94 = .ok (.return_, 1) := by decide +kernel
set_option maxRecDepth 20000 in
theorem ggX3_copyFrom_X2_copyFrom : GoodIn wsX3_copyFrom wsX2_copyFrom := goodIn_r _ [15, 16, 17, 3, 4, 5, 18, 19, 20, 44, 45, 46, 47] (by decide +kernel) (by decide +kernel)
set_option maxRecDepth 20000 in
theorem gX3_copyFrom_X2_copyFrom : GoodIn wsX3_copyFrom (wsV RX3 50 RX2 yX2_copyFrom wsX2_copyFrom) := goodIn_app (goodIn_of _ (by decide +kernel)) ggX3_copyFrom_X2_copyFrom
set_option maxRecDepth 20000 in
theorem ggX3_copyFrom_X1_copyFrom : GoodIn wsX3_copyFrom wsX1_copyFrom := goodIn_r _ [25, 26, 27, 3, 4, 5, 28, 48, 49] (by decide +kernel) (by decide +kernel)
set_option maxRecDepth 20000 in
theorem gX3_copyFrom_X1_copyFrom : GoodIn wsX3_copyFrom (wsV RX3 54 RX1 yX1_copyFrom wsX1_copyFrom) := goodIn_app (goodIn_of _ (by decide +kernel)) ggX3_copyFrom_X1_copyFrom
set_option maxRecDepth 20000 in
theorem ggX3_copyFrom_X0_copyFrom : GoodIn wsX3_copyFrom wsX0_copyFrom := goodIn_r _ [33, 34, 35, 3, 4, 5, 36, 37, 50, 51, 52] (by decide +kernel) (by decide +kernel)
set_option maxRecDepth 20000 in
theorem gX3_copyFrom_X0_copyFrom : GoodIn wsX3_copyFrom (wsV RX3 57 RX0 yX0_copyFrom wsX0_copyFrom) := goodIn_app (goodIn_of _ (by decide +kernel)) ggX3_copyFrom_X0_copyFrom
theorem dX3_copyFrom_0 : decode cX3_copyFrom 0 = .ok (.aload_n 1, 1) := by decide +kernel
theorem dX3_copyFrom_1 : decode cX3_copyFrom 1 = .ok (.getfield 9, 3) := by decide +kernel
theorem dX3_copyFrom_4 : decode cX3_copyFrom 4 = .ok (.iconst 0, 1) := by decide +kernel
theorem dX3_copyFrom_5 : decode cX3_copyFrom 5 = .ok (.aload_n 0, 1) := by decide +kernel
theorem dX3_copyFrom_6 : decode cX3_copyFrom 6 = .ok (.getfield 9, 3) := by decide +kernel
theorem dX3_copyFrom_9 : decode cX3_copyFrom 9 = .ok (.iconst 0, 1) := by decide +kernel
theorem dX3_copyFrom_10 : decode cX3_copyFrom 10 = .ok (.iconst 4, 1) := by decide +kernel
theorem dX3_copyFrom_11 : decode cX3_copyFrom 11 = .ok (.invokestatic 44, 3) := by decide +kernel
theorem dX3_copyFrom_14 : decode cX3_copyFrom 14 = .ok (.aload_n 1, 1) := by decide +kernel
theorem dX3_copyFrom_15 : decode cX3_copyFrom 15 = .ok (.getfield 15, 3) := by decide +kernel
theorem dX3_copyFrom_18 : decode cX3_copyFrom 18 = .ok (.iconst 0, 1) := by decide +kernel
theorem dX3_copyFrom_19 : decode cX3_copyFrom 19 = .ok (.aload_n 0, 1) := by decide +kernel
theorem dX3_copyFrom_20 : decode cX3_copyFrom 20 = .ok (.getfield 15, 3) := by decide +kernel
theorem dX3_copyFrom_23 : decode cX3_copyFrom 23 = .ok (.iconst 0, 1) := by decide +kernel
theorem dX3_copyFrom_24 : decode cX3_copyFrom 24 = .ok (.iconst 5, 1) := by decide +kernel
theorem dX3_copyFrom_25 : decode cX3_copyFrom 25 = .ok (.invokestatic 44, 3) := by decide +kernel
theorem dX3_copyFrom_28 : decode cX3_copyFrom 28 = .ok (.aload_n 0, 1) := by decide +kernel
theorem dX3_copyFrom_29 : decode cX3_copyFrom 29 = .ok (.getfield 21, 3) := by decide +kernel
theorem dX3_copyFrom_32 : decode cX3_copyFrom 32 = .ok (.aload_n 1, 1) := by decide +kernel
theorem dX3_copyFrom_33 : decode cX3_copyFrom 33 = .ok (.getfield 21, 3) := by decide +kernel
theorem dX3_copyFrom_36 : decode cX3_copyFrom 36 = .ok (.invokevirtual 50, 3) := by decide +kernel
theorem dX3_copyFrom_39 : decode cX3_copyFrom 39 = .ok (.iconst 0, 1) := by decide +kernel
theorem dX3_copyFrom_40 : decode cX3_copyFrom 40 = .ok (.istore_n 2, 1) := by decide +kernel
theorem dX3_copyFrom_41 : decode cX3_copyFrom 41 = .ok (.iload_n 2, 1) := by decide +kernel
theorem dX3_copyFrom_42 : decode cX3_copyFrom 42 = .ok (.bipush 7, 2) := by decide +kernel
theorem dX3_copyFrom_44 : decode cX3_copyFrom 44 = .ok (.if_icmp .ge 29, 3) := by decide +kernel
theorem dX3_copyFrom_47 : decode cX3_copyFrom 47 = .ok (.aload_n 1, 1) := by decide +kernel
theorem dX3_copyFrom_48 : decode cX3_copyFrom 48 = .ok (.getfield 27, 3) := by decide +kernel
theorem dX3_copyFrom_51 : decode cX3_copyFrom 51 = .ok (.iload_n 2, 1) := by decide +kernel
theorem dX3_copyFrom_52 : decode cX3_copyFrom 52 = .ok (.aaload, 1) := by decide +kernel
theorem dX3_copyFrom_53 : decode cX3_copyFrom 53 = .ok (.iconst 0, 1) := by decide +kernel
theorem dX3_copyFrom_54 : decode cX3_copyFrom 54 = .ok (.aload_n 0, 1) := by decide +kernel
theorem dX3_copyFrom_55 : decode cX3_copyFrom 55 = .ok (.getfield 27, 3) := by decide +kernel
theorem dX3_copyFrom_58 : decode cX3_copyFrom 58 = .ok (.iload_n 2, 1) := by decide +kernel
theorem dX3_copyFrom_59 : decode cX3_copyFrom 59 = .ok (.aaload, 1) := by decide +kernel
theorem dX3_copyFrom_60 : decode cX3_copyFrom 60 = .ok (.iconst 0, 1) := by decide +kernel
theorem dX3_copyFrom_61 : decode cX3_copyFrom 61 = .ok (.sipush 400, 3) := by decide +kernel
theorem dX3_copyFrom_64 : decode cX3_copyFrom 64 = .ok (.invokestatic 44, 3) := by decide +kernel
theorem dX3_copyFrom_67 : decode cX3_copyFrom 67 = .ok (.iinc 2 1, 3) := by decide +kernel
theorem dX3_copyFrom_70 : decode cX3_copyFrom 70 = .ok (.goto (-29), 3) := by decide +kernel
theorem dX3_copyFrom_73 : decode cX3_copyFrom 73 = .ok (.aload_n 0, 1) := by decide +kernel
theorem dX3_copyFrom_74 : decode cX3_copyFrom 74 = .ok (.getfield 33, 3) := by decide +kernel
theorem dX3_copyFrom_77 : decode cX3_copyFrom 77 = .ok (.aload_n 1, 1) := by decide +kernel
theorem dX3_copyFrom_78 : decode cX3_copyFrom 78 = .ok (.getfield 33, 3) := by decide +kernel
theorem dX3_copyFrom_81 : decode cX3_copyFrom 81 = .ok (.invokevirtual 54, 3) := by decide +kernel
theorem dX3_copyFrom_84 : decode cX3_copyFrom 84 = .ok (.aload_n 0, 1) := by decide +kernel
theorem dX3_copyFrom_85 : decode cX3_copyFrom 85 = .ok (.getfield 40, 3) := by decide +kernel
theorem dX3_copyFrom_88 : decode cX3_copyFrom 88 = .ok (.aload_n 1, 1) := by decide +kernel
theorem dX3_copyFrom_89 : decode cX3_copyFrom 89 = .ok (.getfield 40, 3) := by decide +kernel
theorem dX3_copyFrom_92 : decode cX3_copyFrom 92 = .ok (.invokevirtual 57, 3) := by decide +kernel
theorem dX3_copyFrom_95 : decode cX3_copyFrom 95 = .ok (.return_, 1) := by decide +kernel
theorem dX3_isThing_0 : decode cX3_isThing 0 = .ok (.aload_n 0, 1) := by decide +kernel
theorem dX3_isThing_1 : decode cX3_isThing 1 = .ok (.getfield 27, 3) := by decide +kernel
theorem dX3_isThing_4 : decode cX3_isThing 4 = .ok (.iconst 0, 1) := by decide +kernel
theorem dX3_isThing_5 : decode cX3_isThing 5 = .ok (.aaload, 1) := by decide +kernel
theorem dX3_isThing_6 : decode cX3_isThing 6 = .ok (.iload_n 1, 1) := by decide +kernel
theorem dX3_isThing_7 : decode cX3_isThing 7 = .ok (.iaload, 1) := by decide +kernel
theorem dX3_isThing_8 : decode cX3_isThing 8 = .ok (.istore_n 2, 1) := by decide +kernel
theorem dX3_isThing_9 : decode cX3_isThing 9 = .ok (.iload_n 2, 1) := by decide +kernel
theorem dX3_isThing_10 : decode cX3_isThing 10 = .ok (.iconst 1, 1) := by decide +kernel
theorem dX3_isThing_11 : decode cX3_isThing 11 = .ok (.if_icmp .eq 8, 3) := by decide +kernel
theorem dX3_isThing_14 : decode cX3_isThing 14 = .ok (.iload_n 2, 1) := by decide +kernel
theorem dX3_isThing_15 : decode cX3_isThing 15 = .ok (.iconst 2, 1) := by decide +kernel
theorem dX3_isThing_16 : decode cX3_isThing 16 = .ok (.if_icmp .ne 7, 3) := by decide +kernel
theorem dX3_isThing_19 : decode cX3_isThing 19 = .ok (.iconst 1, 1) := by decide +kernel
theorem dX3_isThing_20 : decode cX3_isThing 20 = .ok (.goto 4, 3) := by decide +kernel
theorem dX3_isThing_23 : decode cX3_isThing 23 = .ok (.iconst 0, 1) := by decide +kernel
theorem dX3_isThing_24 : decode cX3_isThing 24 = .ok (.ireturn, 1) := by decide +kernel
theorem dX3_thingCount_0 : decode cX3_thingCount 0 = .ok (.aload_n 0, 1) := by decide +kernel
theorem dX3_thingCount_1 : decode cX3_thingCount 1 = .ok (.getfield 21, 3) := by decide +kernel
theorem dX3_thingCount_4 : decode cX3_thingCount 4 = .ok (.getfield 60, 3) := by decide +kernel
theorem dX3_thingCount_7 : decode cX3_thingCount 7 = .ok (.iconst 1, 1) := by decide +kernel
theorem dX3_thingCount_8 : decode cX3_thingCount 8 = .ok (.iaload, 1) := by decide +kernel
theorem dX3_thingCount_9 : decode cX3_thingCount 9 = .ok (.aload_n 0, 1) := by decide +kernel
theorem dX3_thingCount_10 : decode cX3_thingCount 10 = .ok (.getfield 21, 3) := by decide +kernel
theorem dX3_thingCount_13 : decode cX3_thingCount 13 = .ok (.getfield 60, 3) := by decide +kernel
theorem dX3_thingCount_16 : decode cX3_thingCount 16 = .ok (.iconst 2, 1) := by decide +kernel
theorem dX3_thingCount_17 : decode cX3_thingCount 17 = .ok (.iaload, 1) := by decide +kernel
theorem dX3_thingCount_18 : decode cX3_thingCount 18 = .ok (.iadd, 1) := by decide +kernel
theorem dX3_thingCount_19 : decode cX3_thingCount 19 = .ok (.ireturn, 1) := by decide +kernel
theorem dX3_weightOfThings_0 : decode cX3_weightOfThings 0 = .ok (.aload_n 0, 1) := by decide +kernel
theorem dX3_weightOfThings_1 : decode cX3_weightOfThings 1 = .ok (.getfield 21, 3) := by decide +kernel
theorem dX3_weightOfThings_4 : decode cX3_weightOfThings 4 = .ok (.getfield 63, 3) := by decide +kernel
theorem dX3_weightOfThings_7 : decode cX3_weightOfThings 7 = .ok (.iconst 1, 1) := by decide +kernel
theorem dX3_weightOfThings_8 : decode cX3_weightOfThings 8 = .ok (.iaload, 1) := by decide +kernel
theorem dX3_weightOfThings_9 : decode cX3_weightOfThings 9 = .ok (.aload_n 0, 1) := by decide +kernel
theorem dX3_weightOfThings_10 : decode cX3_weightOfThings 10 = .ok (.getfield 21, 3) := by decide +kernel
theorem dX3_weightOfThings_13 : decode cX3_weightOfThings 13 = .ok (.getfield 63, 3) := by decide +kernel
theorem dX3_weightOfThings_16 : decode cX3_weightOfThings 16 = .ok (.iconst 2, 1) := by decide +kernel
theorem dX3_weightOfThings_17 : decode cX3_weightOfThings 17 = .ok (.iaload, 1) := by decide +kernel
theorem dX3_weightOfThings_18 : decode cX3_weightOfThings 18 = .ok (.iadd, 1) := by decide +kernel
theorem dX3_weightOfThings_19 : decode cX3_weightOfThings 19 = .ok (.ireturn, 1) := by decide +kernel
set_option maxRecDepth 20000 in
theorem ggX3_placeOf_X2_placeOf : GoodIn wsX3_placeOf wsX2_placeOf := goodIn_r _ [7, 8, 9, 10, 11, 12, 6, 13, 20, 21, 22, 23] (by decide +kernel) (by decide +kernel)
set_option maxRecDepth 20000 in
theorem gX3_placeOf_X2_placeOf : GoodIn wsX3_placeOf (wsV RX3 66 RX2 yX2_placeOf wsX2_placeOf) := goodIn_app (goodIn_of _ (by decide +kernel)) ggX3_placeOf_X2_placeOf
theorem dX3_placeOf_0 : decode cX3_placeOf 0 = .ok (.aload_n 0, 1) := by decide +kernel
theorem dX3_placeOf_1 : decode cX3_placeOf 1 = .ok (.getfield 27, 3) := by decide +kernel
theorem dX3_placeOf_4 : decode cX3_placeOf 4 = .ok (.iconst 0, 1) := by decide +kernel
theorem dX3_placeOf_5 : decode cX3_placeOf 5 = .ok (.aaload, 1) := by decide +kernel
theorem dX3_placeOf_6 : decode cX3_placeOf 6 = .ok (.iload_n 1, 1) := by decide +kernel
theorem dX3_placeOf_7 : decode cX3_placeOf 7 = .ok (.iaload, 1) := by decide +kernel
theorem dX3_placeOf_8 : decode cX3_placeOf 8 = .ok (.istore_n 2, 1) := by decide +kernel
theorem dX3_placeOf_9 : decode cX3_placeOf 9 = .ok (.iload_n 2, 1) := by decide +kernel
theorem dX3_placeOf_10 : decode cX3_placeOf 10 = .ok (.ifCond .ne 8, 3) := by decide +kernel
theorem dX3_placeOf_13 : decode cX3_placeOf 13 = .ok (.bipush (-5), 2) := by decide +kernel
theorem dX3_placeOf_15 : decode cX3_placeOf 15 = .ok (.goto 12, 3) := by decide +kernel
theorem dX3_placeOf_18 : decode cX3_placeOf 18 = .ok (.aload_n 0, 1) := by decide +kernel
theorem dX3_placeOf_19 : decode cX3_placeOf 19 = .ok (.getfield 21, 3) := by decide +kernel
theorem dX3_placeOf_22 : decode cX3_placeOf 22 = .ok (.iload_n 2, 1) := by decide +kernel
theorem dX3_placeOf_23 : decode cX3_placeOf 23 = .ok (.iload_n 1, 1) := by decide +kernel
theorem dX3_placeOf_24 : decode cX3_placeOf 24 = .ok (.invokevirtual 66, 3) := by decide +kernel
theorem dX3_placeOf_27 : decode cX3_placeOf 27 = .ok (.ireturn, 1) := by decide +kernel
set_option maxRecDepth 20000 in
theorem ggX3_move_X2_remove : GoodIn wsX3_move wsX2_remove := goodIn_r _ [7, 8, 9, 10, 11, 22, 23, 24, 25] (by decide +kernel) (by decide +kernel)
set_option maxRecDepth 20000 in
theorem gX3_move_X2_remove : GoodIn wsX3_move (wsV RX3 70 RX2 yX2_remove wsX2_remove) := goodIn_app (goodIn_of _ (by decide +kernel)) ggX3_move_X2_remove
set_option maxRecDepth 20000 in
theorem ggX3_move_X2_add : GoodIn wsX3_move wsX2_add := goodIn_r _ [15, 9, 8, 10, 11, 22, 23, 24, 25] (by decide +kernel) (by decide +kernel)
set_option maxRecDepth 20000 in
theorem gX3_move_X2_add : GoodIn wsX3_move (wsV RX3 74 RX2 yX2_add wsX2_add) := goodIn_app (goodIn_of _ (by decide +kernel)) ggX3_move_X2_add
theorem dX3_move_0 : decode cX3_move 0 = .ok (.aload_n 0, 1) := by decide +kernel
theorem dX3_move_1 : decode cX3_move 1 = .ok (.getfield 27, 3) := by decide +kernel
theorem dX3_move_4 : decode cX3_move 4 = .ok (.iconst 0, 1) := by decide +kernel
theorem dX3_move_5 : decode cX3_move 5 = .ok (.aaload, 1) := by decide +kernel
theorem dX3_move_6 : decode cX3_move 6 = .ok (.iload_n 1, 1) := by decide +kernel
theorem dX3_move_7 : decode cX3_move 7 = .ok (.iaload, 1) := by decide +kernel
theorem dX3_move_8 : decode cX3_move 8 = .ok (.istore_n 3, 1) := by decide +kernel
theorem dX3_move_9 : decode cX3_move 9 = .ok (.iload_n 3, 1) := by decide +kernel
theorem dX3_move_10 : decode cX3_move 10 = .ok (.ifCond .eq 20, 3) := by decide +kernel
theorem dX3_move_13 : decode cX3_move 13 = .ok (.aload_n 0, 1) := by decide +kernel
theorem dX3_move_14 : decode cX3_move 14 = .ok (.getfield 21, 3) := by decide +kernel
theorem dX3_move_17 : decode cX3_move 17 = .ok (.iload_n 3, 1) := by decide +kernel
theorem dX3_move_18 : decode cX3_move 18 = .ok (.iload_n 1, 1) := by decide +kernel
theorem dX3_move_19 : decode cX3_move 19 = .ok (.aload_n 0, 1) := by decide +kernel
theorem dX3_move_20 : decode cX3_move 20 = .ok (.getfield 27, 3) := by decide +kernel
theorem dX3_move_23 : decode cX3_move 23 = .ok (.iconst 1, 1) := by decide +kernel
theorem dX3_move_24 : decode cX3_move 24 = .ok (.aaload, 1) := by decide +kernel
theorem dX3_move_25 : decode cX3_move 25 = .ok (.iload_n 1, 1) := by decide +kernel
theorem dX3_move_26 : decode cX3_move 26 = .ok (.iaload, 1) := by decide +kernel
theorem dX3_move_27 : decode cX3_move 27 = .ok (.invokevirtual 70, 3) := by decide +kernel
theorem dX3_move_30 : decode cX3_move 30 = .ok (.aload_n 0, 1) := by decide +kernel
theorem dX3_move_31 : decode cX3_move 31 = .ok (.getfield 27, 3) := by decide +kernel
theorem dX3_move_34 : decode cX3_move 34 = .ok (.iconst 0, 1) := by decide +kernel
theorem dX3_move_35 : decode cX3_move 35 = .ok (.aaload, 1) := by decide +kernel
theorem dX3_move_36 : decode cX3_move 36 = .ok (.iload_n 1, 1) := by decide +kernel
theorem dX3_move_37 : decode cX3_move 37 = .ok (.iload_n 2, 1) := by decide +kernel
theorem dX3_move_38 : decode cX3_move 38 = .ok (.iastore, 1) := by decide +kernel
theorem dX3_move_39 : decode cX3_move 39 = .ok (.iload_n 2, 1) := by decide +kernel
theorem dX3_move_40 : decode cX3_move 40 = .ok (.ifCond .eq 20, 3) := by decide +kernel
theorem dX3_move_43 : decode cX3_move 43 = .ok (.aload_n 0, 1) := by decide +kernel
theorem dX3_move_44 : decode cX3_move 44 = .ok (.getfield 21, 3) := by decide +kernel
theorem dX3_move_47 : decode cX3_move 47 = .ok (.iload_n 2, 1) := by decide +kernel
theorem dX3_move_48 : decode cX3_move 48 = .ok (.iload_n 1, 1) := by decide +kernel
theorem dX3_move_49 : decode cX3_move 49 = .ok (.aload_n 0, 1) := by decide +kernel
theorem dX3_move_50 : decode cX3_move 50 = .ok (.getfield 27, 3) := by decide +kernel
theorem dX3_move_53 : decode cX3_move 53 = .ok (.iconst 1, 1) := by decide +kernel
theorem dX3_move_54 : decode cX3_move 54 = .ok (.aaload, 1) := by decide +kernel
theorem dX3_move_55 : decode cX3_move 55 = .ok (.iload_n 1, 1) := by decide +kernel
theorem dX3_move_56 : decode cX3_move 56 = .ok (.iaload, 1) := by decide +kernel
theorem dX3_move_57 : decode cX3_move 57 = .ok (.invokevirtual 74, 3) := by decide +kernel
theorem dX3_move_60 : decode cX3_move 60 = .ok (.return_, 1) := by decide +kernel
set_option maxRecDepth 20000 in
theorem ggX3_store_X3_isThing : GoodIn wsX3_store wsX3_isThing := goodIn_r _ [6, 1, 90, 91, 92, 93, 94, 95] (by decide +kernel) (by decide +kernel)
set_option maxRecDepth 20000 in
theorem gX3_store_X3_isThing : GoodIn wsX3_store (wsV RX3 77 RX3 yX3_isThing wsX3_isThing) := goodIn_app (goodIn_of _ (by decide +kernel)) ggX3_store_X3_isThing
set_option maxRecDepth 20000 in
theorem ggX3_store_X3_replace : GoodIn wsX3_store wsX3_replace := goodIn_r _ [10, 11, 12, 1, 13, 14, 15, 5, 16, 17, 18, 19, 20, 21, 22, 23, 24, 25, 26, 27, 28, 29, 30, 31, 32, 33, 34, 35, 36, 37, 38, 90, 91, 92, 93, 94, 95, 96, 97, 98, 99] (by decide +kernel) (by decide +kernel)
set_option maxRecDepth 20000 in
theorem gX3_store_X3_replace : GoodIn wsX3_store (wsV RX3 81 RX3 yX3_replace wsX3_replace) := goodIn_app (goodIn_of _ (by decide +kernel)) ggX3_store_X3_replace
set_option maxRecDepth 20000 in
theorem ggX3_store_X3_admit : GoodIn wsX3_store wsX3_admit := goodIn_r _ [42, 1, 21, 43, 44, 19, 45, 17, 18, 20, 46, 22, 23, 24, 5, 25, 11, 26, 27, 28, 29, 30, 31, 32, 33, 34, 35, 36, 37, 38, 90, 91, 92, 93, 94, 95, 96, 97, 98, 99] (by decide +kernel) (by decide +kernel)
set_option maxRecDepth 20000 in
theorem gX3_store_X3_admit : GoodIn wsX3_store (wsV RX3 85 RX3 yX3_admit wsX3_admit) := goodIn_app (goodIn_of _ (by decide +kernel)) ggX3_store_X3_admit
set_option maxRecDepth 20000 in
theorem ggX3_store_X3_trim : GoodIn wsX3_store wsX3_trim := goodIn_r _ [50, 51, 52, 53, 5, 54, 55, 11, 12, 21, 1, 56, 57, 58, 29, 59, 33, 31, 60, 61, 62, 63, 22, 23, 24, 25, 26, 27, 28, 30, 32, 34, 35, 36, 37, 38, 64, 65, 66, 67, 68, 69, 70, 71, 72, 73, 74, 75, 76, 77, 78, 79, 80, 81, 82, 83, 84, 85, 86, 87, 88, 89, 90, 91, 92, 93, 94, 95, 96, 97, 98, 99, 100, 101] (by decide +kernel) (by decide +kernel)
set_option maxRecDepth 20000 in
theorem gX3_store_X3_trim : GoodIn wsX3_store (wsV RX3 88 RX3 yX3_trim wsX3_trim) := goodIn_app (goodIn_of _ (by decide +kernel)) ggX3_store_X3_trim
theorem dX3_store_0 : decode cX3_store 0 = .ok (.aload_n 0, 1) := by decide +kernel
theorem dX3_store_1 : decode cX3_store 1 = .ok (.getfield 27, 3) := by decide +kernel
theorem dX3_store_4 : decode cX3_store 4 = .ok (.iconst 0, 1) := by decide +kernel
theorem dX3_store_5 : decode cX3_store 5 = .ok (.aaload, 1) := by decide +kernel
theorem dX3_store_6 : decode cX3_store 6 = .ok (.iload_n 1, 1) := by decide +kernel
theorem dX3_store_7 : decode cX3_store 7 = .ok (.iaload, 1) := by decide +kernel
theorem dX3_store_8 : decode cX3_store 8 = .ok (.istore 5, 2) := by decide +kernel
theorem dX3_store_10 : decode cX3_store 10 = .ok (.aload_n 0, 1) := by decide +kernel
theorem dX3_store_11 : decode cX3_store 11 = .ok (.iload_n 1, 1) := by decide +kernel
theorem dX3_store_12 : decode cX3_store 12 = .ok (.invokevirtual 77, 3) := by decide +kernel
theorem dX3_store_15 : decode cX3_store 15 = .ok (.ifCond .eq 15, 3) := by decide +kernel
theorem dX3_store_18 : decode cX3_store 18 = .ok (.aload_n 0, 1) := by decide +kernel
theorem dX3_store_19 : decode cX3_store 19 = .ok (.iload_n 1, 1) := by decide +kernel
theorem dX3_store_20 : decode cX3_store 20 = .ok (.iload_n 2, 1) := by decide +kernel
theorem dX3_store_21 : decode cX3_store 21 = .ok (.iload_n 3, 1) := by decide +kernel
theorem dX3_store_22 : decode cX3_store 22 = .ok (.iload 4, 2) := by decide +kernel
theorem dX3_store_24 : decode cX3_store 24 = .ok (.invokevirtual 81, 3) := by decide +kernel
theorem dX3_store_27 : decode cX3_store 27 = .ok (.goto 12, 3) := by decide +kernel
theorem dX3_store_30 : decode cX3_store 30 = .ok (.aload_n 0, 1) := by decide +kernel
theorem dX3_store_31 : decode cX3_store 31 = .ok (.iload_n 1, 1) := by decide +kernel
theorem dX3_store_32 : decode cX3_store 32 = .ok (.iload_n 2, 1) := by decide +kernel
theorem dX3_store_33 : decode cX3_store 33 = .ok (.iload_n 3, 1) := by decide +kernel
theorem dX3_store_34 : decode cX3_store 34 = .ok (.iload 4, 2) := by decide +kernel
theorem dX3_store_36 : decode cX3_store 36 = .ok (.invokevirtual 85, 3) := by decide +kernel
theorem dX3_store_39 : decode cX3_store 39 = .ok (.aload_n 0, 1) := by decide +kernel
theorem dX3_store_40 : decode cX3_store 40 = .ok (.invokevirtual 88, 3) := by decide +kernel
theorem dX3_store_43 : decode cX3_store 43 = .ok (.iload 5, 2) := by decide +kernel
theorem dX3_store_45 : decode cX3_store 45 = .ok (.ifCond .ne 5, 3) := by decide +kernel
theorem dX3_store_48 : decode cX3_store 48 = .ok (.iconst 0, 1) := by decide +kernel
theorem dX3_store_49 : decode cX3_store 49 = .ok (.ireturn, 1) := by decide +kernel
theorem dX3_store_50 : decode cX3_store 50 = .ok (.iload 5, 2) := by decide +kernel
theorem dX3_store_52 : decode cX3_store 52 = .ok (.iconst 1, 1) := by decide +kernel
theorem dX3_store_53 : decode cX3_store 53 = .ok (.if_icmp .eq 9, 3) := by decide +kernel
theorem dX3_store_56 : decode cX3_store 56 = .ok (.iload 5, 2) := by decide +kernel
theorem dX3_store_58 : decode cX3_store 58 = .ok (.iconst 2, 1) := by decide +kernel
theorem dX3_store_59 : decode cX3_store 59 = .ok (.if_icmp .ne 7, 3) := by decide +kernel
theorem dX3_store_62 : decode cX3_store 62 = .ok (.iconst 2, 1) := by decide +kernel
theorem dX3_store_63 : decode cX3_store 63 = .ok (.goto 4, 3) := by decide +kernel
theorem dX3_store_66 : decode cX3_store 66 = .ok (.iconst 1, 1) := by decide +kernel
theorem dX3_store_67 : decode cX3_store 67 = .ok (.ireturn, 1) := by decide +kernel
set_option maxRecDepth 20000 in
theorem ggX3_replace_X3_hit : GoodIn wsX3_replace wsX3_hit := goodIn_r _ [8, 3, 9, 10, 11, 12, 13, 14, 15, 16, 7, 17, 1, 18, 19, 20, 21, 22, 23, 24, 25, 26, 27, 28, 29, 30, 31, 32, 33, 34, 35, 36, 37, 38, 39, 40] (by decide +kernel) (by decide +kernel)
set_option maxRecDepth 20000 in
theorem gX3_replace_X3_hit : GoodIn wsX3_replace (wsV RX3 91 RX3 yX3_hit wsX3_hit) := goodIn_app (goodIn_of _ (by decide +kernel)) ggX3_replace_X3_hit
theorem dX3_replace_0 : decode cX3_replace 0 = .ok (.aload_n 0, 1) := by decide +kernel
theorem dX3_replace_1 : decode cX3_replace 1 = .ok (.getfield 21, 3) := by decide +kernel
theorem dX3_replace_4 : decode cX3_replace 4 = .ok (.getfield 63, 3) := by decide +kernel
theorem dX3_replace_7 : decode cX3_replace 7 = .ok (.aload_n 0, 1) := by decide +kernel
theorem dX3_replace_8 : decode cX3_replace 8 = .ok (.getfield 27, 3) := by decide +kernel
theorem dX3_replace_11 : decode cX3_replace 11 = .ok (.iconst 0, 1) := by decide +kernel
theorem dX3_replace_12 : decode cX3_replace 12 = .ok (.aaload, 1) := by decide +kernel
theorem dX3_replace_13 : decode cX3_replace 13 = .ok (.iload_n 1, 1) := by decide +kernel
theorem dX3_replace_14 : decode cX3_replace 14 = .ok (.iaload, 1) := by decide +kernel
theorem dX3_replace_15 : decode cX3_replace 15 = .ok (.dup2, 1) := by decide +kernel
theorem dX3_replace_16 : decode cX3_replace 16 = .ok (.iaload, 1) := by decide +kernel
theorem dX3_replace_17 : decode cX3_replace 17 = .ok (.iload_n 3, 1) := by decide +kernel
theorem dX3_replace_18 : decode cX3_replace 18 = .ok (.aload_n 0, 1) := by decide +kernel
theorem dX3_replace_19 : decode cX3_replace 19 = .ok (.getfield 27, 3) := by decide +kernel
theorem dX3_replace_22 : decode cX3_replace 22 = .ok (.iconst 1, 1) := by decide +kernel
theorem dX3_replace_23 : decode cX3_replace 23 = .ok (.aaload, 1) := by decide +kernel
theorem dX3_replace_24 : decode cX3_replace 24 = .ok (.iload_n 1, 1) := by decide +kernel
theorem dX3_replace_25 : decode cX3_replace 25 = .ok (.iaload, 1) := by decide +kernel
theorem dX3_replace_26 : decode cX3_replace 26 = .ok (.isub, 1) := by decide +kernel
theorem dX3_replace_27 : decode cX3_replace 27 = .ok (.iadd, 1) := by decide +kernel
theorem dX3_replace_28 : decode cX3_replace 28 = .ok (.iastore, 1) := by decide +kernel
theorem dX3_replace_29 : decode cX3_replace 29 = .ok (.aload_n 0, 1) := by decide +kernel
theorem dX3_replace_30 : decode cX3_replace 30 = .ok (.getfield 27, 3) := by decide +kernel
theorem dX3_replace_33 : decode cX3_replace 33 = .ok (.bipush 6, 2) := by decide +kernel
theorem dX3_replace_35 : decode cX3_replace 35 = .ok (.aaload, 1) := by decide +kernel
theorem dX3_replace_36 : decode cX3_replace 36 = .ok (.iload_n 1, 1) := by decide +kernel
theorem dX3_replace_37 : decode cX3_replace 37 = .ok (.iload_n 2, 1) := by decide +kernel
theorem dX3_replace_38 : decode cX3_replace 38 = .ok (.iastore, 1) := by decide +kernel
theorem dX3_replace_39 : decode cX3_replace 39 = .ok (.aload_n 0, 1) := by decide +kernel
theorem dX3_replace_40 : decode cX3_replace 40 = .ok (.getfield 27, 3) := by decide +kernel
theorem dX3_replace_43 : decode cX3_replace 43 = .ok (.iconst 1, 1) := by decide +kernel
theorem dX3_replace_44 : decode cX3_replace 44 = .ok (.aaload, 1) := by decide +kernel
theorem dX3_replace_45 : decode cX3_replace 45 = .ok (.iload_n 1, 1) := by decide +kernel
theorem dX3_replace_46 : decode cX3_replace 46 = .ok (.iload_n 3, 1) := by decide +kernel
theorem dX3_replace_47 : decode cX3_replace 47 = .ok (.iastore, 1) := by decide +kernel
theorem dX3_replace_48 : decode cX3_replace 48 = .ok (.aload_n 0, 1) := by decide +kernel
theorem dX3_replace_49 : decode cX3_replace 49 = .ok (.getfield 27, 3) := by decide +kernel
theorem dX3_replace_52 : decode cX3_replace 52 = .ok (.iconst 2, 1) := by decide +kernel
theorem dX3_replace_53 : decode cX3_replace 53 = .ok (.aaload, 1) := by decide +kernel
theorem dX3_replace_54 : decode cX3_replace 54 = .ok (.iload_n 1, 1) := by decide +kernel
theorem dX3_replace_55 : decode cX3_replace 55 = .ok (.iload 4, 2) := by decide +kernel
theorem dX3_replace_57 : decode cX3_replace 57 = .ok (.iastore, 1) := by decide +kernel
theorem dX3_replace_58 : decode cX3_replace 58 = .ok (.aload_n 0, 1) := by decide +kernel
theorem dX3_replace_59 : decode cX3_replace 59 = .ok (.iload_n 1, 1) := by decide +kernel
theorem dX3_replace_60 : decode cX3_replace 60 = .ok (.invokevirtual 91, 3) := by decide +kernel
theorem dX3_replace_63 : decode cX3_replace 63 = .ok (.return_, 1) := by decide +kernel
set_option maxRecDepth 20000 in
theorem ggX3_admit_X3_move : GoodIn wsX3_admit wsX3_move := goodIn_r _ [15, 1, 16, 17, 18, 19, 20, 21, 22, 23, 24, 25, 26, 27, 28, 29, 30, 31, 32, 33, 34, 35, 36, 37, 38, 39] (by decide +kernel) (by decide +kernel)
set_option maxRecDepth 20000 in
theorem gX3_admit_X3_move : GoodIn wsX3_admit (wsV RX3 95 RX3 yX3_move wsX3_move) := goodIn_app (goodIn_of _ (by decide +kernel)) ggX3_admit_X3_move
theorem dX3_admit_0 : decode cX3_admit 0 = .ok (.aload_n 0, 1) := by decide +kernel
theorem dX3_admit_1 : decode cX3_admit 1 = .ok (.getfield 27, 3) := by decide +kernel
theorem dX3_admit_4 : decode cX3_admit 4 = .ok (.iconst 0, 1) := by decide +kernel
theorem dX3_admit_5 : decode cX3_admit 5 = .ok (.aaload, 1) := by decide +kernel
theorem dX3_admit_6 : decode cX3_admit 6 = .ok (.iload_n 1, 1) := by decide +kernel
theorem dX3_admit_7 : decode cX3_admit 7 = .ok (.iaload, 1) := by decide +kernel
theorem dX3_admit_8 : decode cX3_admit 8 = .ok (.istore 5, 2) := by decide +kernel
theorem dX3_admit_10 : decode cX3_admit 10 = .ok (.aload_n 0, 1) := by decide +kernel
theorem dX3_admit_11 : decode cX3_admit 11 = .ok (.iload_n 1, 1) := by decide +kernel
theorem dX3_admit_12 : decode cX3_admit 12 = .ok (.iconst 0, 1) := by decide +kernel
theorem dX3_admit_13 : decode cX3_admit 13 = .ok (.invokevirtual 95, 3) := by decide +kernel
theorem dX3_admit_16 : decode cX3_admit 16 = .ok (.iload 5, 2) := by decide +kernel
theorem dX3_admit_18 : decode cX3_admit 18 = .ok (.iconst 3, 1) := by decide +kernel
theorem dX3_admit_19 : decode cX3_admit 19 = .ok (.if_icmp .ne 24, 3) := by decide +kernel
theorem dX3_admit_22 : decode cX3_admit 22 = .ok (.aload_n 0, 1) := by decide +kernel
theorem dX3_admit_23 : decode cX3_admit 23 = .ok (.getfield 9, 3) := by decide +kernel
theorem dX3_admit_26 : decode cX3_admit 26 = .ok (.iconst 1, 1) := by decide +kernel
theorem dX3_admit_27 : decode cX3_admit 27 = .ok (.aload_n 0, 1) := by decide +kernel
theorem dX3_admit_28 : decode cX3_admit 28 = .ok (.getfield 9, 3) := by decide +kernel
theorem dX3_admit_31 : decode cX3_admit 31 = .ok (.iconst 1, 1) := by decide +kernel
theorem dX3_admit_32 : decode cX3_admit 32 = .ok (.iaload, 1) := by decide +kernel
theorem dX3_admit_33 : decode cX3_admit 33 = .ok (.iload_n 3, 1) := by decide +kernel
theorem dX3_admit_34 : decode cX3_admit 34 = .ok (.isub, 1) := by decide +kernel
theorem dX3_admit_35 : decode cX3_admit 35 = .ok (.iconst 0, 1) := by decide +kernel
theorem dX3_admit_36 : decode cX3_admit 36 = .ok (.invokestatic 99, 3) := by decide +kernel
theorem dX3_admit_39 : decode cX3_admit 39 = .ok (.iastore, 1) := by decide +kernel
theorem dX3_admit_40 : decode cX3_admit 40 = .ok (.goto 32, 3) := by decide +kernel
theorem dX3_admit_43 : decode cX3_admit 43 = .ok (.iload 5, 2) := by decide +kernel
theorem dX3_admit_45 : decode cX3_admit 45 = .ok (.iconst 4, 1) := by decide +kernel
theorem dX3_admit_46 : decode cX3_admit 46 = .ok (.if_icmp .ne 26, 3) := by decide +kernel
theorem dX3_admit_49 : decode cX3_admit 49 = .ok (.aload_n 0, 1) := by decide +kernel
theorem dX3_admit_50 : decode cX3_admit 50 = .ok (.getfield 9, 3) := by decide +kernel
theorem dX3_admit_53 : decode cX3_admit 53 = .ok (.iconst 1, 1) := by decide +kernel
theorem dX3_admit_54 : decode cX3_admit 54 = .ok (.aload_n 0, 1) := by decide +kernel
theorem dX3_admit_55 : decode cX3_admit 55 = .ok (.getfield 9, 3) := by decide +kernel
theorem dX3_admit_58 : decode cX3_admit 58 = .ok (.iconst 1, 1) := by decide +kernel
theorem dX3_admit_59 : decode cX3_admit 59 = .ok (.iaload, 1) := by decide +kernel
theorem dX3_admit_60 : decode cX3_admit 60 = .ok (.iload_n 3, 1) := by decide +kernel
theorem dX3_admit_61 : decode cX3_admit 61 = .ok (.iadd, 1) := by decide +kernel
theorem dX3_admit_62 : decode cX3_admit 62 = .ok (.aload_n 0, 1) := by decide +kernel
theorem dX3_admit_63 : decode cX3_admit 63 = .ok (.getfield 9, 3) := by decide +kernel
theorem dX3_admit_66 : decode cX3_admit 66 = .ok (.iconst 0, 1) := by decide +kernel
theorem dX3_admit_67 : decode cX3_admit 67 = .ok (.iaload, 1) := by decide +kernel
theorem dX3_admit_68 : decode cX3_admit 68 = .ok (.invokestatic 104, 3) := by decide +kernel
theorem dX3_admit_71 : decode cX3_admit 71 = .ok (.iastore, 1) := by decide +kernel
theorem dX3_admit_72 : decode cX3_admit 72 = .ok (.aload_n 0, 1) := by decide +kernel
theorem dX3_admit_73 : decode cX3_admit 73 = .ok (.getfield 15, 3) := by decide +kernel
theorem dX3_admit_76 : decode cX3_admit 76 = .ok (.iconst 4, 1) := by decide +kernel
theorem dX3_admit_77 : decode cX3_admit 77 = .ok (.dup2, 1) := by decide +kernel
theorem dX3_admit_78 : decode cX3_admit 78 = .ok (.iaload, 1) := by decide +kernel
theorem dX3_admit_79 : decode cX3_admit 79 = .ok (.iload 4, 2) := by decide +kernel
theorem dX3_admit_81 : decode cX3_admit 81 = .ok (.iadd, 1) := by decide +kernel
theorem dX3_admit_82 : decode cX3_admit 82 = .ok (.iastore, 1) := by decide +kernel
theorem dX3_admit_83 : decode cX3_admit 83 = .ok (.aload_n 0, 1) := by decide +kernel
theorem dX3_admit_84 : decode cX3_admit 84 = .ok (.getfield 27, 3) := by decide +kernel
theorem dX3_admit_87 : decode cX3_admit 87 = .ok (.bipush 6, 2) := by decide +kernel
theorem dX3_admit_89 : decode cX3_admit 89 = .ok (.aaload, 1) := by decide +kernel
theorem dX3_admit_90 : decode cX3_admit 90 = .ok (.iload_n 1, 1) := by decide +kernel
theorem dX3_admit_91 : decode cX3_admit 91 = .ok (.iload_n 2, 1) := by decide +kernel
theorem dX3_admit_92 : decode cX3_admit 92 = .ok (.iastore, 1) := by decide +kernel
theorem dX3_admit_93 : decode cX3_admit 93 = .ok (.aload_n 0, 1) := by decide +kernel
theorem dX3_admit_94 : decode cX3_admit 94 = .ok (.getfield 27, 3) := by decide +kernel
theorem dX3_admit_97 : decode cX3_admit 97 = .ok (.iconst 1, 1) := by decide +kernel
theorem dX3_admit_98 : decode cX3_admit 98 = .ok (.aaload, 1) := by decide +kernel
theorem dX3_admit_99 : decode cX3_admit 99 = .ok (.iload_n 1, 1) := by decide +kernel
theorem dX3_admit_100 : decode cX3_admit 100 = .ok (.iload_n 3, 1) := by decide +kernel
theorem dX3_admit_101 : decode cX3_admit 101 = .ok (.iastore, 1) := by decide +kernel
theorem dX3_admit_102 : decode cX3_admit 102 = .ok (.aload_n 0, 1) := by decide +kernel
theorem dX3_admit_103 : decode cX3_admit 103 = .ok (.getfield 27, 3) := by decide +kernel
theorem dX3_admit_106 : decode cX3_admit 106 = .ok (.iconst 2, 1) := by decide +kernel
theorem dX3_admit_107 : decode cX3_admit 107 = .ok (.aaload, 1) := by decide +kernel
theorem dX3_admit_108 : decode cX3_admit 108 = .ok (.iload_n 1, 1) := by decide +kernel
theorem dX3_admit_109 : decode cX3_admit 109 = .ok (.iload 4, 2) := by decide +kernel
theorem dX3_admit_111 : decode cX3_admit 111 = .ok (.iastore, 1) := by decide +kernel
theorem dX3_admit_112 : decode cX3_admit 112 = .ok (.aload_n 0, 1) := by decide +kernel
theorem dX3_admit_113 : decode cX3_admit 113 = .ok (.getfield 27, 3) := by decide +kernel
theorem dX3_admit_116 : decode cX3_admit 116 = .ok (.iconst 3, 1) := by decide +kernel
theorem dX3_admit_117 : decode cX3_admit 117 = .ok (.aaload, 1) := by decide +kernel
theorem dX3_admit_118 : decode cX3_admit 118 = .ok (.iload_n 1, 1) := by decide +kernel
theorem dX3_admit_119 : decode cX3_admit 119 = .ok (.iconst 0, 1) := by decide +kernel
theorem dX3_admit_120 : decode cX3_admit 120 = .ok (.iastore, 1) := by decide +kernel
theorem dX3_admit_121 : decode cX3_admit 121 = .ok (.aload_n 0, 1) := by decide +kernel
theorem dX3_admit_122 : decode cX3_admit 122 = .ok (.getfield 27, 3) := by decide +kernel
theorem dX3_admit_125 : decode cX3_admit 125 = .ok (.iconst 4, 1) := by decide +kernel
theorem dX3_admit_126 : decode cX3_admit 126 = .ok (.aaload, 1) := by decide +kernel
theorem dX3_admit_127 : decode cX3_admit 127 = .ok (.iload_n 1, 1) := by decide +kernel
theorem dX3_admit_128 : decode cX3_admit 128 = .ok (.iload 5, 2) := by decide +kernel
theorem dX3_admit_130 : decode cX3_admit 130 = .ok (.ifCond .ne 12, 3) := by decide +kernel
theorem dX3_admit_133 : decode cX3_admit 133 = .ok (.aload_n 0, 1) := by decide +kernel
theorem dX3_admit_134 : decode cX3_admit 134 = .ok (.getfield 9, 3) := by decide +kernel
theorem dX3_admit_137 : decode cX3_admit 137 = .ok (.iconst 3, 1) := by decide +kernel
theorem dX3_admit_138 : decode cX3_admit 138 = .ok (.iaload, 1) := by decide +kernel
theorem dX3_admit_139 : decode cX3_admit 139 = .ok (.goto 4, 3) := by decide +kernel
theorem dX3_admit_142 : decode cX3_admit 142 = .ok (.iconst 0, 1) := by decide +kernel
theorem dX3_admit_143 : decode cX3_admit 143 = .ok (.iastore, 1) := by decide +kernel
theorem dX3_admit_144 : decode cX3_admit 144 = .ok (.aload_n 0, 1) := by decide +kernel
theorem dX3_admit_145 : decode cX3_admit 145 = .ok (.getfield 27, 3) := by decide +kernel
theorem dX3_admit_148 : decode cX3_admit 148 = .ok (.iconst 5, 1) := by decide +kernel
theorem dX3_admit_149 : decode cX3_admit 149 = .ok (.aaload, 1) := by decide +kernel
theorem dX3_admit_150 : decode cX3_admit 150 = .ok (.iload_n 1, 1) := by decide +kernel
theorem dX3_admit_151 : decode cX3_admit 151 = .ok (.iconst 0, 1) := by decide +kernel
theorem dX3_admit_152 : decode cX3_admit 152 = .ok (.iastore, 1) := by decide +kernel
theorem dX3_admit_153 : decode cX3_admit 153 = .ok (.aload_n 0, 1) := by decide +kernel
theorem dX3_admit_154 : decode cX3_admit 154 = .ok (.iload_n 1, 1) := by decide +kernel
theorem dX3_admit_155 : decode cX3_admit 155 = .ok (.iload 5, 2) := by decide +kernel
theorem dX3_admit_157 : decode cX3_admit 157 = .ok (.ifCond .ne 7, 3) := by decide +kernel
theorem dX3_admit_160 : decode cX3_admit 160 = .ok (.iconst 1, 1) := by decide +kernel
theorem dX3_admit_161 : decode cX3_admit 161 = .ok (.goto 4, 3) := by decide +kernel
theorem dX3_admit_164 : decode cX3_admit 164 = .ok (.iconst 2, 1) := by decide +kernel
theorem dX3_admit_165 : decode cX3_admit 165 = .ok (.invokevirtual 95, 3) := by decide +kernel
theorem dX3_admit_168 : decode cX3_admit 168 = .ok (.return_, 1) := by decide +kernel
set_option maxRecDepth 20000 in
theorem ggX3_hit_X3_move : GoodIn wsX3_hit wsX3_move := goodIn_r _ [11, 1, 12, 13, 14, 15, 16, 17, 18, 19, 20, 21, 22, 23, 24, 25, 26, 27, 28, 29, 30, 31, 32, 33, 34, 35] (by decide +kernel) (by decide +kernel)
set_option maxRecDepth 20000 in
theorem gX3_hit_X3_move : GoodIn wsX3_hit (wsV RX3 95 RX3 yX3_move wsX3_move) := goodIn_app (goodIn_of _ (by decide +kernel)) ggX3_hit_X3_move
theorem dX3_hit_0 : decode cX3_hit 0 = .ok (.aload_n 0, 1) := by decide +kernel
theorem dX3_hit_1 : decode cX3_hit 1 = .ok (.getfield 27, 3) := by decide +kernel
theorem dX3_hit_4 : decode cX3_hit 4 = .ok (.iconst 0, 1) := by decide +kernel
theorem dX3_hit_5 : decode cX3_hit 5 = .ok (.aaload, 1) := by decide +kernel
theorem dX3_hit_6 : decode cX3_hit 6 = .ok (.iload_n 1, 1) := by decide +kernel
theorem dX3_hit_7 : decode cX3_hit 7 = .ok (.iaload, 1) := by decide +kernel
theorem dX3_hit_8 : decode cX3_hit 8 = .ok (.istore_n 2, 1) := by decide +kernel
theorem dX3_hit_9 : decode cX3_hit 9 = .ok (.aload_n 0, 1) := by decide +kernel
theorem dX3_hit_10 : decode cX3_hit 10 = .ok (.getfield 27, 3) := by decide +kernel
theorem dX3_hit_13 : decode cX3_hit 13 = .ok (.iconst 3, 1) := by decide +kernel
theorem dX3_hit_14 : decode cX3_hit 14 = .ok (.aaload, 1) := by decide +kernel
theorem dX3_hit_15 : decode cX3_hit 15 = .ok (.iload_n 1, 1) := by decide +kernel
theorem dX3_hit_16 : decode cX3_hit 16 = .ok (.aload_n 0, 1) := by decide +kernel
theorem dX3_hit_17 : decode cX3_hit 17 = .ok (.getfield 27, 3) := by decide +kernel
theorem dX3_hit_20 : decode cX3_hit 20 = .ok (.iconst 3, 1) := by decide +kernel
theorem dX3_hit_21 : decode cX3_hit 21 = .ok (.aaload, 1) := by decide +kernel
theorem dX3_hit_22 : decode cX3_hit 22 = .ok (.iload_n 1, 1) := by decide +kernel
theorem dX3_hit_23 : decode cX3_hit 23 = .ok (.iaload, 1) := by decide +kernel
theorem dX3_hit_24 : decode cX3_hit 24 = .ok (.iconst 1, 1) := by decide +kernel
theorem dX3_hit_25 : decode cX3_hit 25 = .ok (.iadd, 1) := by decide +kernel
theorem dX3_hit_26 : decode cX3_hit 26 = .ok (.bipush 99, 2) := by decide +kernel
theorem dX3_hit_28 : decode cX3_hit 28 = .ok (.invokestatic 104, 3) := by decide +kernel
theorem dX3_hit_31 : decode cX3_hit 31 = .ok (.iastore, 1) := by decide +kernel
theorem dX3_hit_32 : decode cX3_hit 32 = .ok (.iload_n 2, 1) := by decide +kernel
theorem dX3_hit_33 : decode cX3_hit 33 = .ok (.iconst 1, 1) := by decide +kernel
theorem dX3_hit_34 : decode cX3_hit 34 = .ok (.if_icmp .ne 24, 3) := by decide +kernel
theorem dX3_hit_37 : decode cX3_hit 37 = .ok (.aload_n 0, 1) := by decide +kernel
theorem dX3_hit_38 : decode cX3_hit 38 = .ok (.getfield 27, 3) := by decide +kernel
theorem dX3_hit_41 : decode cX3_hit 41 = .ok (.iconst 3, 1) := by decide +kernel
theorem dX3_hit_42 : decode cX3_hit 42 = .ok (.aaload, 1) := by decide +kernel
theorem dX3_hit_43 : decode cX3_hit 43 = .ok (.iload_n 1, 1) := by decide +kernel
theorem dX3_hit_44 : decode cX3_hit 44 = .ok (.iaload, 1) := by decide +kernel
theorem dX3_hit_45 : decode cX3_hit 45 = .ok (.aload_n 0, 1) := by decide +kernel
theorem dX3_hit_46 : decode cX3_hit 46 = .ok (.getfield 9, 3) := by decide +kernel
theorem dX3_hit_49 : decode cX3_hit 49 = .ok (.iconst 2, 1) := by decide +kernel
theorem dX3_hit_50 : decode cX3_hit 50 = .ok (.iaload, 1) := by decide +kernel
theorem dX3_hit_51 : decode cX3_hit 51 = .ok (.if_icmp .lt 7, 3) := by decide +kernel
theorem dX3_hit_54 : decode cX3_hit 54 = .ok (.iconst 1, 1) := by decide +kernel
theorem dX3_hit_55 : decode cX3_hit 55 = .ok (.goto 4, 3) := by decide +kernel
theorem dX3_hit_58 : decode cX3_hit 58 = .ok (.iconst 0, 1) := by decide +kernel
theorem dX3_hit_59 : decode cX3_hit 59 = .ok (.istore_n 3, 1) := by decide +kernel
theorem dX3_hit_60 : decode cX3_hit 60 = .ok (.aload_n 0, 1) := by decide +kernel
theorem dX3_hit_61 : decode cX3_hit 61 = .ok (.iload_n 1, 1) := by decide +kernel
theorem dX3_hit_62 : decode cX3_hit 62 = .ok (.iload_n 3, 1) := by decide +kernel
theorem dX3_hit_63 : decode cX3_hit 63 = .ok (.ifCond .eq 7, 3) := by decide +kernel
theorem dX3_hit_66 : decode cX3_hit 66 = .ok (.iconst 2, 1) := by decide +kernel
theorem dX3_hit_67 : decode cX3_hit 67 = .ok (.goto 4, 3) := by decide +kernel
theorem dX3_hit_70 : decode cX3_hit 70 = .ok (.iload_n 2, 1) := by decide +kernel
theorem dX3_hit_71 : decode cX3_hit 71 = .ok (.invokevirtual 95, 3) := by decide +kernel
theorem dX3_hit_74 : decode cX3_hit 74 = .ok (.return_, 1) := by decide +kernel
set_option maxRecDepth 20000 in
theorem ggX3_fetch_X3_isThing : GoodIn wsX3_fetch wsX3_isThing := goodIn_r _ [7, 2, 79, 80, 81, 82, 83, 84] (by decide +kernel) (by decide +kernel)
set_option maxRecDepth 20000 in
theorem gX3_fetch_X3_isThing : GoodIn wsX3_fetch (wsV RX3 77 RX3 yX3_isThing wsX3_isThing) := goodIn_app (goodIn_of _ (by decide +kernel)) ggX3_fetch_X3_isThing
set_option maxRecDepth 20000 in
theorem ggX3_fetch_X3_hit : GoodIn wsX3_fetch wsX3_hit := goodIn_r _ [11, 2, 12, 13, 14, 15, 16, 17, 18, 19, 6, 20, 21, 22, 23, 24, 25, 26, 27, 28, 29, 30, 31, 32, 33, 34, 79, 80, 81, 82, 83, 84, 85, 86, 87, 88] (by decide +kernel) (by decide +kernel)
set_option maxRecDepth 20000 in
theorem gX3_fetch_X3_hit : GoodIn wsX3_fetch (wsV RX3 91 RX3 yX3_hit wsX3_hit) := goodIn_app (goodIn_of _ (by decide +kernel)) ggX3_fetch_X3_hit
set_option maxRecDepth 20000 in
theorem ggX3_fetch_X3_trim : GoodIn wsX3_fetch wsX3_trim := goodIn_r _ [38, 39, 40, 41, 6, 42, 43, 21, 44, 16, 2, 45, 46, 47, 25, 48, 29, 27, 49, 50, 51, 52, 17, 18, 19, 20, 22, 23, 24, 26, 28, 30, 31, 32, 33, 34, 53, 54, 55, 56, 57, 58, 59, 60, 61, 62, 63, 64, 65, 66, 67, 68, 69, 70, 71, 72, 73, 74, 75, 76, 77, 78, 79, 80, 81, 82, 83, 84, 85, 86, 87, 88, 89, 90] (by decide +kernel) (by decide +kernel)
set_option maxRecDepth 20000 in
theorem gX3_fetch_X3_trim : GoodIn wsX3_fetch (wsV RX3 88 RX3 yX3_trim wsX3_trim) := goodIn_app (goodIn_of _ (by decide +kernel)) ggX3_fetch_X3_trim
theorem dX3_fetch_0 : decode cX3_fetch 0 = .ok (.aload_n 0, 1) := by decide +kernel
theorem dX3_fetch_1 : decode cX3_fetch 1 = .ok (.iload_n 1, 1) := by decide +kernel
theorem dX3_fetch_2 : decode cX3_fetch 2 = .ok (.invokevirtual 77, 3) := by decide +kernel
theorem dX3_fetch_5 : decode cX3_fetch 5 = .ok (.ifCond .eq 41, 3) := by decide +kernel
theorem dX3_fetch_8 : decode cX3_fetch 8 = .ok (.aload_n 0, 1) := by decide +kernel
theorem dX3_fetch_9 : decode cX3_fetch 9 = .ok (.iload_n 1, 1) := by decide +kernel
theorem dX3_fetch_10 : decode cX3_fetch 10 = .ok (.invokevirtual 91, 3) := by decide +kernel
theorem dX3_fetch_13 : decode cX3_fetch 13 = .ok (.aload_n 0, 1) := by decide +kernel
theorem dX3_fetch_14 : decode cX3_fetch 14 = .ok (.getfield 15, 3) := by decide +kernel
theorem dX3_fetch_17 : decode cX3_fetch 17 = .ok (.iconst 3, 1) := by decide +kernel
theorem dX3_fetch_18 : decode cX3_fetch 18 = .ok (.dup2, 1) := by decide +kernel
theorem dX3_fetch_19 : decode cX3_fetch 19 = .ok (.iaload, 1) := by decide +kernel
theorem dX3_fetch_20 : decode cX3_fetch 20 = .ok (.aload_n 0, 1) := by decide +kernel
theorem dX3_fetch_21 : decode cX3_fetch 21 = .ok (.getfield 27, 3) := by decide +kernel
theorem dX3_fetch_24 : decode cX3_fetch 24 = .ok (.iconst 2, 1) := by decide +kernel
theorem dX3_fetch_25 : decode cX3_fetch 25 = .ok (.aaload, 1) := by decide +kernel
theorem dX3_fetch_26 : decode cX3_fetch 26 = .ok (.iload_n 1, 1) := by decide +kernel
theorem dX3_fetch_27 : decode cX3_fetch 27 = .ok (.iaload, 1) := by decide +kernel
theorem dX3_fetch_28 : decode cX3_fetch 28 = .ok (.iadd, 1) := by decide +kernel
theorem dX3_fetch_29 : decode cX3_fetch 29 = .ok (.iastore, 1) := by decide +kernel
theorem dX3_fetch_30 : decode cX3_fetch 30 = .ok (.aload_n 0, 1) := by decide +kernel
theorem dX3_fetch_31 : decode cX3_fetch 31 = .ok (.getfield 15, 3) := by decide +kernel
theorem dX3_fetch_34 : decode cX3_fetch 34 = .ok (.iconst 0, 1) := by decide +kernel
theorem dX3_fetch_35 : decode cX3_fetch 35 = .ok (.dup2, 1) := by decide +kernel
theorem dX3_fetch_36 : decode cX3_fetch 36 = .ok (.iaload, 1) := by decide +kernel
theorem dX3_fetch_37 : decode cX3_fetch 37 = .ok (.iconst 1, 1) := by decide +kernel
theorem dX3_fetch_38 : decode cX3_fetch 38 = .ok (.iadd, 1) := by decide +kernel
theorem dX3_fetch_39 : decode cX3_fetch 39 = .ok (.iastore, 1) := by decide +kernel
theorem dX3_fetch_40 : decode cX3_fetch 40 = .ok (.aload_n 0, 1) := by decide +kernel
theorem dX3_fetch_41 : decode cX3_fetch 41 = .ok (.invokevirtual 88, 3) := by decide +kernel
theorem dX3_fetch_44 : decode cX3_fetch 44 = .ok (.iconst 1, 1) := by decide +kernel
theorem dX3_fetch_45 : decode cX3_fetch 45 = .ok (.ireturn, 1) := by decide +kernel
theorem dX3_fetch_46 : decode cX3_fetch 46 = .ok (.aload_n 0, 1) := by decide +kernel
theorem dX3_fetch_47 : decode cX3_fetch 47 = .ok (.getfield 15, 3) := by decide +kernel
theorem dX3_fetch_50 : decode cX3_fetch 50 = .ok (.iconst 1, 1) := by decide +kernel
theorem dX3_fetch_51 : decode cX3_fetch 51 = .ok (.dup2, 1) := by decide +kernel
theorem dX3_fetch_52 : decode cX3_fetch 52 = .ok (.iaload, 1) := by decide +kernel
theorem dX3_fetch_53 : decode cX3_fetch 53 = .ok (.iconst 1, 1) := by decide +kernel
theorem dX3_fetch_54 : decode cX3_fetch 54 = .ok (.iadd, 1) := by decide +kernel
theorem dX3_fetch_55 : decode cX3_fetch 55 = .ok (.iastore, 1) := by decide +kernel
theorem dX3_fetch_56 : decode cX3_fetch 56 = .ok (.aload_n 0, 1) := by decide +kernel
theorem dX3_fetch_57 : decode cX3_fetch 57 = .ok (.getfield 27, 3) := by decide +kernel
theorem dX3_fetch_60 : decode cX3_fetch 60 = .ok (.iconst 0, 1) := by decide +kernel
theorem dX3_fetch_61 : decode cX3_fetch 61 = .ok (.aaload, 1) := by decide +kernel
theorem dX3_fetch_62 : decode cX3_fetch 62 = .ok (.iload_n 1, 1) := by decide +kernel
theorem dX3_fetch_63 : decode cX3_fetch 63 = .ok (.iaload, 1) := by decide +kernel
theorem dX3_fetch_64 : decode cX3_fetch 64 = .ok (.ifCond .eq 13, 3) := by decide +kernel
theorem dX3_fetch_67 : decode cX3_fetch 67 = .ok (.aload_n 0, 1) := by decide +kernel
theorem dX3_fetch_68 : decode cX3_fetch 68 = .ok (.getfield 15, 3) := by decide +kernel
theorem dX3_fetch_71 : decode cX3_fetch 71 = .ok (.iconst 2, 1) := by decide +kernel
theorem dX3_fetch_72 : decode cX3_fetch 72 = .ok (.dup2, 1) := by decide +kernel
theorem dX3_fetch_73 : decode cX3_fetch 73 = .ok (.iaload, 1) := by decide +kernel
theorem dX3_fetch_74 : decode cX3_fetch 74 = .ok (.iconst 1, 1) := by decide +kernel
theorem dX3_fetch_75 : decode cX3_fetch 75 = .ok (.iadd, 1) := by decide +kernel
theorem dX3_fetch_76 : decode cX3_fetch 76 = .ok (.iastore, 1) := by decide +kernel
theorem dX3_fetch_77 : decode cX3_fetch 77 = .ok (.iconst 0, 1) := by decide +kernel
theorem dX3_fetch_78 : decode cX3_fetch 78 = .ok (.ireturn, 1) := by decide +kernel
set_option maxRecDepth 20000 in
theorem ggX3_trim_X3_demote : GoodIn wsX3_trim wsX3_demote := goodIn_r _ [5, 6, 7, 8, 9, 10, 11, 12, 13, 14, 15, 16, 17, 18, 19, 20, 21, 22, 23, 24, 4, 25, 26, 27, 28, 29, 30, 31, 32, 33, 34, 35, 62, 63, 64, 65, 66, 67, 68, 69, 70, 71] (by decide +kernel) (by decide +kernel)
set_option maxRecDepth 20000 in
theorem gX3_trim_X3_demote : GoodIn wsX3_trim (wsV RX3 107 RX3 yX3_demote wsX3_demote) := goodIn_app (goodIn_of _ (by decide +kernel)) ggX3_trim_X3_demote
set_option maxRecDepth 20000 in
theorem ggX3_trim_X3_makeRoom : GoodIn wsX3_trim wsX3_makeRoom := goodIn_r _ [39, 6, 9, 7, 10, 40, 41, 42, 43, 4, 44, 8, 11, 12, 13, 14, 15, 16, 17, 18, 19, 20, 21, 22, 23, 24, 25, 26, 27, 28, 29, 30, 31, 32, 33, 34, 35, 45, 46, 47, 48, 49, 50, 51, 52, 53, 54, 55, 62, 63, 64, 65, 66, 67, 68, 69, 70, 71, 72, 73] (by decide +kernel) (by decide +kernel)
set_option maxRecDepth 20000 in
theorem gX3_trim_X3_makeRoom : GoodIn wsX3_trim (wsV RX3 110 RX3 yX3_makeRoom wsX3_makeRoom) := goodIn_app (goodIn_of _ (by decide +kernel)) ggX3_trim_X3_makeRoom
set_option maxRecDepth 20000 in
theorem ggX3_trim_X3_forget : GoodIn wsX3_trim wsX3_forget := goodIn_r _ [59, 7, 60, 8, 9, 61, 19, 20, 14, 21, 17, 22, 23, 24, 4, 25, 10, 26, 27, 28, 29, 30, 16, 31, 32, 33, 34, 35, 62, 63, 64, 65, 66, 67, 68, 69, 70, 71] (by decide +kernel) (by decide +kernel)
set_option maxRecDepth 20000 in
theorem gX3_trim_X3_forget : GoodIn wsX3_trim (wsV RX3 113 RX3 yX3_forget wsX3_forget) := goodIn_app (goodIn_of _ (by decide +kernel)) ggX3_trim_X3_forget
theorem dX3_trim_0 : decode cX3_trim 0 = .ok (.aload_n 0, 1) := by decide +kernel
theorem dX3_trim_1 : decode cX3_trim 1 = .ok (.invokevirtual 107, 3) := by decide +kernel
theorem dX3_trim_4 : decode cX3_trim 4 = .ok (.aload_n 0, 1) := by decide +kernel
theorem dX3_trim_5 : decode cX3_trim 5 = .ok (.invokevirtual 110, 3) := by decide +kernel
theorem dX3_trim_8 : decode cX3_trim 8 = .ok (.aload_n 0, 1) := by decide +kernel
theorem dX3_trim_9 : decode cX3_trim 9 = .ok (.iconst 3, 1) := by decide +kernel
theorem dX3_trim_10 : decode cX3_trim 10 = .ok (.invokevirtual 113, 3) := by decide +kernel
theorem dX3_trim_13 : decode cX3_trim 13 = .ok (.aload_n 0, 1) := by decide +kernel
theorem dX3_trim_14 : decode cX3_trim 14 = .ok (.iconst 4, 1) := by decide +kernel
theorem dX3_trim_15 : decode cX3_trim 15 = .ok (.invokevirtual 113, 3) := by decide +kernel
theorem dX3_trim_18 : decode cX3_trim 18 = .ok (.return_, 1) := by decide +kernel
set_option maxRecDepth 20000 in
theorem ggX3_demote_X2_oldestLoose : GoodIn wsX3_demote wsX2_oldestLoose := goodIn_r _ [10, 11, 12, 13, 14, 15, 9, 16, 38, 39, 40, 41] (by decide +kernel) (by decide +kernel)
set_option maxRecDepth 20000 in
theorem gX3_demote_X2_oldestLoose : GoodIn wsX3_demote (wsV RX3 117 RX2 yX2_oldestLoose wsX2_oldestLoose) := goodIn_app (goodIn_of _ (by decide +kernel)) ggX3_demote_X2_oldestLoose
set_option maxRecDepth 20000 in
theorem ggX3_demote_X3_move : GoodIn wsX3_demote wsX3_move := goodIn_r _ [21, 5, 2, 22, 23, 24, 9, 25, 12, 26, 11, 27, 28, 29, 30, 31, 32, 33, 34, 35, 36, 37, 38, 39, 40, 41] (by decide +kernel) (by decide +kernel)
set_option maxRecDepth 20000 in
theorem gX3_demote_X3_move : GoodIn wsX3_demote (wsV RX3 95 RX3 yX3_move wsX3_move) := goodIn_app (goodIn_of _ (by decide +kernel)) ggX3_demote_X3_move
theorem dX3_demote_0 : decode cX3_demote 0 = .ok (.iconst 0, 1) := by decide +kernel
theorem dX3_demote_1 : decode cX3_demote 1 = .ok (.istore_n 1, 1) := by decide +kernel
theorem dX3_demote_2 : decode cX3_demote 2 = .ok (.iload_n 1, 1) := by decide +kernel
theorem dX3_demote_3 : decode cX3_demote 3 = .ok (.ldc 116, 2) := by decide +kernel
theorem dX3_demote_5 : decode cX3_demote 5 = .ok (.if_icmp .ge 62, 3) := by decide +kernel
theorem dX3_demote_8 : decode cX3_demote 8 = .ok (.aload_n 0, 1) := by decide +kernel
theorem dX3_demote_9 : decode cX3_demote 9 = .ok (.getfield 21, 3) := by decide +kernel
theorem dX3_demote_12 : decode cX3_demote 12 = .ok (.getfield 63, 3) := by decide +kernel
theorem dX3_demote_15 : decode cX3_demote 15 = .ok (.iconst 2, 1) := by decide +kernel
theorem dX3_demote_16 : decode cX3_demote 16 = .ok (.iaload, 1) := by decide +kernel
theorem dX3_demote_17 : decode cX3_demote 17 = .ok (.aload_n 0, 1) := by decide +kernel
theorem dX3_demote_18 : decode cX3_demote 18 = .ok (.getfield 9, 3) := by decide +kernel
theorem dX3_demote_21 : decode cX3_demote 21 = .ok (.iconst 1, 1) := by decide +kernel
theorem dX3_demote_22 : decode cX3_demote 22 = .ok (.iaload, 1) := by decide +kernel
theorem dX3_demote_23 : decode cX3_demote 23 = .ok (.if_icmp .le 44, 3) := by decide +kernel
theorem dX3_demote_26 : decode cX3_demote 26 = .ok (.aload_n 0, 1) := by decide +kernel
theorem dX3_demote_27 : decode cX3_demote 27 = .ok (.getfield 21, 3) := by decide +kernel
theorem dX3_demote_30 : decode cX3_demote 30 = .ok (.iconst 2, 1) := by decide +kernel
theorem dX3_demote_31 : decode cX3_demote 31 = .ok (.aload_n 0, 1) := by decide +kernel
theorem dX3_demote_32 : decode cX3_demote 32 = .ok (.getfield 27, 3) := by decide +kernel
theorem dX3_demote_35 : decode cX3_demote 35 = .ok (.iconst 5, 1) := by decide +kernel
theorem dX3_demote_36 : decode cX3_demote 36 = .ok (.aaload, 1) := by decide +kernel
theorem dX3_demote_37 : decode cX3_demote 37 = .ok (.invokevirtual 117, 3) := by decide +kernel
theorem dX3_demote_40 : decode cX3_demote 40 = .ok (.istore_n 2, 1) := by decide +kernel
theorem dX3_demote_41 : decode cX3_demote 41 = .ok (.iload_n 2, 1) := by decide +kernel
theorem dX3_demote_42 : decode cX3_demote 42 = .ok (.ifCond .ge 4, 3) := by decide +kernel
theorem dX3_demote_45 : decode cX3_demote 45 = .ok (.return_, 1) := by decide +kernel
theorem dX3_demote_46 : decode cX3_demote 46 = .ok (.aload_n 0, 1) := by decide +kernel
theorem dX3_demote_47 : decode cX3_demote 47 = .ok (.getfield 27, 3) := by decide +kernel
theorem dX3_demote_50 : decode cX3_demote 50 = .ok (.iconst 3, 1) := by decide +kernel
theorem dX3_demote_51 : decode cX3_demote 51 = .ok (.aaload, 1) := by decide +kernel
theorem dX3_demote_52 : decode cX3_demote 52 = .ok (.iload_n 2, 1) := by decide +kernel
theorem dX3_demote_53 : decode cX3_demote 53 = .ok (.iconst 0, 1) := by decide +kernel
theorem dX3_demote_54 : decode cX3_demote 54 = .ok (.iastore, 1) := by decide +kernel
theorem dX3_demote_55 : decode cX3_demote 55 = .ok (.aload_n 0, 1) := by decide +kernel
theorem dX3_demote_56 : decode cX3_demote 56 = .ok (.iload_n 2, 1) := by decide +kernel
theorem dX3_demote_57 : decode cX3_demote 57 = .ok (.iconst 1, 1) := by decide +kernel
theorem dX3_demote_58 : decode cX3_demote 58 = .ok (.invokevirtual 95, 3) := by decide +kernel
theorem dX3_demote_61 : decode cX3_demote 61 = .ok (.iinc 1 1, 3) := by decide +kernel
theorem dX3_demote_64 : decode cX3_demote 64 = .ok (.goto (-62), 3) := by decide +kernel
theorem dX3_demote_67 : decode cX3_demote 67 = .ok (.return_, 1) := by decide +kernel
set_option maxRecDepth 20000 in
theorem ggX3_makeRoom_X3_weightOfThings : GoodIn wsX3_makeRoom wsX3_weightOfThings := goodIn_r _ [10, 3, 11, 48, 49, 50, 51, 52, 53, 54, 55, 56, 57] (by decide +kernel) (by decide +kernel)
set_option maxRecDepth 20000 in
theorem gX3_makeRoom_X3_weightOfThings : GoodIn wsX3_makeRoom (wsV RX3 121 RX3 yX3_weightOfThings wsX3_weightOfThings) := goodIn_app (goodIn_of _ (by decide +kernel)) ggX3_makeRoom_X3_weightOfThings
set_option maxRecDepth 20000 in
theorem ggX3_makeRoom_X2_oldestLoose : GoodIn wsX3_makeRoom wsX2_oldestLoose := goodIn_r _ [16, 17, 18, 19, 20, 21, 15, 22, 54, 55, 56, 57] (by decide +kernel) (by decide +kernel)
set_option maxRecDepth 20000 in
theorem gX3_makeRoom_X2_oldestLoose : GoodIn wsX3_makeRoom (wsV RX3 117 RX2 yX2_oldestLoose wsX2_oldestLoose) := goodIn_app (goodIn_of _ (by decide +kernel)) ggX3_makeRoom_X2_oldestLoose
set_option maxRecDepth 20000 in
theorem ggX3_makeRoom_X3_move : GoodIn wsX3_makeRoom wsX3_move := goodIn_r _ [26, 4, 3, 27, 28, 29, 15, 30, 18, 31, 17, 32, 33, 34, 35, 36, 48, 49, 50, 51, 52, 53, 54, 55, 56, 57] (by decide +kernel) (by decide +kernel)
set_option maxRecDepth 20000 in
theorem gX3_makeRoom_X3_move : GoodIn wsX3_makeRoom (wsV RX3 95 RX3 yX3_move wsX3_move) := goodIn_app (goodIn_of _ (by decide +kernel)) ggX3_makeRoom_X3_move
set_option maxRecDepth 20000 in
theorem ggX3_makeRoom_X1_add : GoodIn wsX3_makeRoom wsX1_add := goodIn_r _ [41, 42, 43, 44, 45, 46, 47, 58, 59] (by decide +kernel) (by decide +kernel)
set_option maxRecDepth 20000 in
theorem gX3_makeRoom_X1_add : GoodIn wsX3_makeRoom (wsV RX3 125 RX1 yX1_add wsX1_add) := goodIn_app (goodIn_of _ (by decide +kernel)) ggX3_makeRoom_X1_add
theorem dX3_makeRoom_0 : decode cX3_makeRoom 0 = .ok (.iconst 0, 1) := by decide +kernel
theorem dX3_makeRoom_1 : decode cX3_makeRoom 1 = .ok (.istore_n 1, 1) := by decide +kernel
theorem dX3_makeRoom_2 : decode cX3_makeRoom 2 = .ok (.iload_n 1, 1) := by decide +kernel
theorem dX3_makeRoom_3 : decode cX3_makeRoom 3 = .ok (.ldc 116, 2) := by decide +kernel
theorem dX3_makeRoom_5 : decode cX3_makeRoom 5 = .ok (.if_icmp .ge 116, 3) := by decide +kernel
theorem dX3_makeRoom_8 : decode cX3_makeRoom 8 = .ok (.aload_n 0, 1) := by decide +kernel
theorem dX3_makeRoom_9 : decode cX3_makeRoom 9 = .ok (.invokevirtual 121, 3) := by decide +kernel
theorem dX3_makeRoom_12 : decode cX3_makeRoom 12 = .ok (.aload_n 0, 1) := by decide +kernel
theorem dX3_makeRoom_13 : decode cX3_makeRoom 13 = .ok (.getfield 9, 3) := by decide +kernel
theorem dX3_makeRoom_16 : decode cX3_makeRoom 16 = .ok (.iconst 0, 1) := by decide +kernel
theorem dX3_makeRoom_17 : decode cX3_makeRoom 17 = .ok (.iaload, 1) := by decide +kernel
theorem dX3_makeRoom_18 : decode cX3_makeRoom 18 = .ok (.if_icmp .le 103, 3) := by decide +kernel
theorem dX3_makeRoom_21 : decode cX3_makeRoom 21 = .ok (.iconst 3, 1) := by decide +kernel
theorem dX3_makeRoom_22 : decode cX3_makeRoom 22 = .ok (.istore_n 2, 1) := by decide +kernel
theorem dX3_makeRoom_23 : decode cX3_makeRoom 23 = .ok (.aload_n 0, 1) := by decide +kernel
theorem dX3_makeRoom_24 : decode cX3_makeRoom 24 = .ok (.getfield 21, 3) := by decide +kernel
theorem dX3_makeRoom_27 : decode cX3_makeRoom 27 = .ok (.iconst 1, 1) := by decide +kernel
theorem dX3_makeRoom_28 : decode cX3_makeRoom 28 = .ok (.aload_n 0, 1) := by decide +kernel
theorem dX3_makeRoom_29 : decode cX3_makeRoom 29 = .ok (.getfield 27, 3) := by decide +kernel
theorem dX3_makeRoom_32 : decode cX3_makeRoom 32 = .ok (.iconst 5, 1) := by decide +kernel
theorem dX3_makeRoom_33 : decode cX3_makeRoom 33 = .ok (.aaload, 1) := by decide +kernel
theorem dX3_makeRoom_34 : decode cX3_makeRoom 34 = .ok (.invokevirtual 117, 3) := by decide +kernel
theorem dX3_makeRoom_37 : decode cX3_makeRoom 37 = .ok (.istore_n 3, 1) := by decide +kernel
theorem dX3_makeRoom_38 : decode cX3_makeRoom 38 = .ok (.iload_n 3, 1) := by decide +kernel
theorem dX3_makeRoom_39 : decode cX3_makeRoom 39 = .ok (.ifCond .ge 20, 3) := by decide +kernel
theorem dX3_makeRoom_42 : decode cX3_makeRoom 42 = .ok (.iconst 4, 1) := by decide +kernel
theorem dX3_makeRoom_43 : decode cX3_makeRoom 43 = .ok (.istore_n 2, 1) := by decide +kernel
theorem dX3_makeRoom_44 : decode cX3_makeRoom 44 = .ok (.aload_n 0, 1) := by decide +kernel
theorem dX3_makeRoom_45 : decode cX3_makeRoom 45 = .ok (.getfield 21, 3) := by decide +kernel
theorem dX3_makeRoom_48 : decode cX3_makeRoom 48 = .ok (.iconst 2, 1) := by decide +kernel
theorem dX3_makeRoom_49 : decode cX3_makeRoom 49 = .ok (.aload_n 0, 1) := by decide +kernel
theorem dX3_makeRoom_50 : decode cX3_makeRoom 50 = .ok (.getfield 27, 3) := by decide +kernel
theorem dX3_makeRoom_53 : decode cX3_makeRoom 53 = .ok (.iconst 5, 1) := by decide +kernel
theorem dX3_makeRoom_54 : decode cX3_makeRoom 54 = .ok (.aaload, 1) := by decide +kernel
theorem dX3_makeRoom_55 : decode cX3_makeRoom 55 = .ok (.invokevirtual 117, 3) := by decide +kernel
theorem dX3_makeRoom_58 : decode cX3_makeRoom 58 = .ok (.istore_n 3, 1) := by decide +kernel
theorem dX3_makeRoom_59 : decode cX3_makeRoom 59 = .ok (.iload_n 3, 1) := by decide +kernel
theorem dX3_makeRoom_60 : decode cX3_makeRoom 60 = .ok (.ifCond .ge 4, 3) := by decide +kernel
theorem dX3_makeRoom_63 : decode cX3_makeRoom 63 = .ok (.return_, 1) := by decide +kernel
theorem dX3_makeRoom_64 : decode cX3_makeRoom 64 = .ok (.iload_n 2, 1) := by decide +kernel
theorem dX3_makeRoom_65 : decode cX3_makeRoom 65 = .ok (.iconst 3, 1) := by decide +kernel
theorem dX3_makeRoom_66 : decode cX3_makeRoom 66 = .ok (.if_icmp .ne 35, 3) := by decide +kernel
theorem dX3_makeRoom_69 : decode cX3_makeRoom 69 = .ok (.aload_n 0, 1) := by decide +kernel
theorem dX3_makeRoom_70 : decode cX3_makeRoom 70 = .ok (.getfield 27, 3) := by decide +kernel
theorem dX3_makeRoom_73 : decode cX3_makeRoom 73 = .ok (.iconst 4, 1) := by decide +kernel
theorem dX3_makeRoom_74 : decode cX3_makeRoom 74 = .ok (.aaload, 1) := by decide +kernel
theorem dX3_makeRoom_75 : decode cX3_makeRoom 75 = .ok (.iload_n 3, 1) := by decide +kernel
theorem dX3_makeRoom_76 : decode cX3_makeRoom 76 = .ok (.iaload, 1) := by decide +kernel
theorem dX3_makeRoom_77 : decode cX3_makeRoom 77 = .ok (.ifCond .le 24, 3) := by decide +kernel
theorem dX3_makeRoom_80 : decode cX3_makeRoom 80 = .ok (.aload_n 0, 1) := by decide +kernel
theorem dX3_makeRoom_81 : decode cX3_makeRoom 81 = .ok (.getfield 27, 3) := by decide +kernel
theorem dX3_makeRoom_84 : decode cX3_makeRoom 84 = .ok (.iconst 4, 1) := by decide +kernel
theorem dX3_makeRoom_85 : decode cX3_makeRoom 85 = .ok (.aaload, 1) := by decide +kernel
theorem dX3_makeRoom_86 : decode cX3_makeRoom 86 = .ok (.iload_n 3, 1) := by decide +kernel
theorem dX3_makeRoom_87 : decode cX3_makeRoom 87 = .ok (.dup2, 1) := by decide +kernel
theorem dX3_makeRoom_88 : decode cX3_makeRoom 88 = .ok (.iaload, 1) := by decide +kernel
theorem dX3_makeRoom_89 : decode cX3_makeRoom 89 = .ok (.iconst 1, 1) := by decide +kernel
theorem dX3_makeRoom_90 : decode cX3_makeRoom 90 = .ok (.isub, 1) := by decide +kernel
theorem dX3_makeRoom_91 : decode cX3_makeRoom 91 = .ok (.iastore, 1) := by decide +kernel
theorem dX3_makeRoom_92 : decode cX3_makeRoom 92 = .ok (.aload_n 0, 1) := by decide +kernel
theorem dX3_makeRoom_93 : decode cX3_makeRoom 93 = .ok (.iload_n 3, 1) := by decide +kernel
theorem dX3_makeRoom_94 : decode cX3_makeRoom 94 = .ok (.iconst 1, 1) := by decide +kernel
theorem dX3_makeRoom_95 : decode cX3_makeRoom 95 = .ok (.invokevirtual 95, 3) := by decide +kernel
theorem dX3_makeRoom_98 : decode cX3_makeRoom 98 = .ok (.goto 17, 3) := by decide +kernel
theorem dX3_makeRoom_101 : decode cX3_makeRoom 101 = .ok (.aload_n 0, 1) := by decide +kernel
theorem dX3_makeRoom_102 : decode cX3_makeRoom 102 = .ok (.iload_n 3, 1) := by decide +kernel
theorem dX3_makeRoom_103 : decode cX3_makeRoom 103 = .ok (.iload_n 2, 1) := by decide +kernel
theorem dX3_makeRoom_104 : decode cX3_makeRoom 104 = .ok (.invokevirtual 95, 3) := by decide +kernel
theorem dX3_makeRoom_107 : decode cX3_makeRoom 107 = .ok (.aload_n 0, 1) := by decide +kernel
theorem dX3_makeRoom_108 : decode cX3_makeRoom 108 = .ok (.getfield 33, 3) := by decide +kernel
theorem dX3_makeRoom_111 : decode cX3_makeRoom 111 = .ok (.iload_n 3, 1) := by decide +kernel
theorem dX3_makeRoom_112 : decode cX3_makeRoom 112 = .ok (.invokevirtual 125, 3) := by decide +kernel
theorem dX3_makeRoom_115 : decode cX3_makeRoom 115 = .ok (.iinc 1 1, 3) := by decide +kernel
theorem dX3_makeRoom_118 : decode cX3_makeRoom 118 = .ok (.goto (-116), 3) := by decide +kernel
theorem dX3_makeRoom_121 : decode cX3_makeRoom 121 = .ok (.return_, 1) := by decide +kernel
set_option maxRecDepth 20000 in
theorem ggX3_forget_X2_oldest : GoodIn wsX3_forget wsX2_oldest := goodIn_r _ [9, 10, 34, 35, 36, 37] (by decide +kernel) (by decide +kernel)
set_option maxRecDepth 20000 in
theorem gX3_forget_X2_oldest : GoodIn wsX3_forget (wsV RX3 127 RX2 yX2_oldest wsX2_oldest) := goodIn_app (goodIn_of _ (by decide +kernel)) ggX3_forget_X2_oldest
set_option maxRecDepth 20000 in
theorem ggX3_forget_X3_move : GoodIn wsX3_forget wsX3_move := goodIn_r _ [15, 16, 1, 17, 18, 19, 8, 20, 10, 21, 22, 23, 24, 25, 26, 27, 28, 29, 30, 31, 32, 33, 34, 35, 36, 37] (by decide +kernel) (by decide +kernel)
set_option maxRecDepth 20000 in
theorem gX3_forget_X3_move : GoodIn wsX3_forget (wsV RX3 95 RX3 yX3_move wsX3_move) := goodIn_app (goodIn_of _ (by decide +kernel)) ggX3_forget_X3_move
theorem dX3_forget_0 : decode cX3_forget 0 = .ok (.aload_n 0, 1) := by decide +kernel
theorem dX3_forget_1 : decode cX3_forget 1 = .ok (.getfield 21, 3) := by decide +kernel
theorem dX3_forget_4 : decode cX3_forget 4 = .ok (.getfield 60, 3) := by decide +kernel
theorem dX3_forget_7 : decode cX3_forget 7 = .ok (.iload_n 1, 1) := by decide +kernel
theorem dX3_forget_8 : decode cX3_forget 8 = .ok (.iaload, 1) := by decide +kernel
theorem dX3_forget_9 : decode cX3_forget 9 = .ok (.istore_n 2, 1) := by decide +kernel
theorem dX3_forget_10 : decode cX3_forget 10 = .ok (.iconst 0, 1) := by decide +kernel
theorem dX3_forget_11 : decode cX3_forget 11 = .ok (.istore_n 3, 1) := by decide +kernel
theorem dX3_forget_12 : decode cX3_forget 12 = .ok (.iload_n 3, 1) := by decide +kernel
theorem dX3_forget_13 : decode cX3_forget 13 = .ok (.iload_n 2, 1) := by decide +kernel
theorem dX3_forget_14 : decode cX3_forget 14 = .ok (.if_icmp .ge 40, 3) := by decide +kernel
theorem dX3_forget_17 : decode cX3_forget 17 = .ok (.aload_n 0, 1) := by decide +kernel
theorem dX3_forget_18 : decode cX3_forget 18 = .ok (.getfield 21, 3) := by decide +kernel
theorem dX3_forget_21 : decode cX3_forget 21 = .ok (.getfield 63, 3) := by decide +kernel
theorem dX3_forget_24 : decode cX3_forget 24 = .ok (.iload_n 1, 1) := by decide +kernel
theorem dX3_forget_25 : decode cX3_forget 25 = .ok (.iaload, 1) := by decide +kernel
theorem dX3_forget_26 : decode cX3_forget 26 = .ok (.aload_n 0, 1) := by decide +kernel
theorem dX3_forget_27 : decode cX3_forget 27 = .ok (.getfield 9, 3) := by decide +kernel
theorem dX3_forget_30 : decode cX3_forget 30 = .ok (.iconst 0, 1) := by decide +kernel
theorem dX3_forget_31 : decode cX3_forget 31 = .ok (.iaload, 1) := by decide +kernel
theorem dX3_forget_32 : decode cX3_forget 32 = .ok (.if_icmp .le 22, 3) := by decide +kernel
theorem dX3_forget_35 : decode cX3_forget 35 = .ok (.aload_n 0, 1) := by decide +kernel
theorem dX3_forget_36 : decode cX3_forget 36 = .ok (.aload_n 0, 1) := by decide +kernel
theorem dX3_forget_37 : decode cX3_forget 37 = .ok (.getfield 21, 3) := by decide +kernel
theorem dX3_forget_40 : decode cX3_forget 40 = .ok (.iload_n 1, 1) := by decide +kernel
theorem dX3_forget_41 : decode cX3_forget 41 = .ok (.invokevirtual 127, 3) := by decide +kernel
theorem dX3_forget_44 : decode cX3_forget 44 = .ok (.iconst 0, 1) := by decide +kernel
theorem dX3_forget_45 : decode cX3_forget 45 = .ok (.invokevirtual 95, 3) := by decide +kernel
theorem dX3_forget_48 : decode cX3_forget 48 = .ok (.iinc 3 1, 3) := by decide +kernel
theorem dX3_forget_51 : decode cX3_forget 51 = .ok (.goto (-39), 3) := by decide +kernel
theorem dX3_forget_54 : decode cX3_forget 54 = .ok (.return_, 1) := by decide +kernel
set_option maxRecDepth 20000 in
theorem ggX3_perform_X3_fetch : GoodIn wsX3_perform wsX3_fetch := goodIn_r _ [11, 1, 12, 13, 14, 15, 10, 16, 17, 18, 19, 20, 21, 22, 23, 24, 6, 25, 26, 27, 28, 29, 30, 31, 32, 33, 34, 35, 36, 37, 38, 39, 40, 41, 42, 43, 44, 45, 46, 47, 48, 49, 50, 51, 52, 53, 54, 55, 56, 57, 58, 59, 60, 61, 62, 63, 64, 65, 66, 67, 68, 69, 70, 71, 72, 73, 74, 75, 76, 77, 78, 79, 80, 81, 82, 83, 84, 85, 86, 102, 103, 104, 105, 106, 107, 112, 113, 114, 115, 116, 117] (by decide +kernel) (by decide +kernel)
set_option maxRecDepth 20000 in
theorem gX3_perform_X3_fetch : GoodIn wsX3_perform (wsV RX3 143 RX3 yX3_fetch wsX3_fetch) := goodIn_app (goodIn_of _ (by decide +kernel)) ggX3_perform_X3_fetch
set_option maxRecDepth 20000 in
theorem ggX3_perform_X3_store : GoodIn wsX3_perform wsX3_store := goodIn_r _ [90, 12, 13, 14, 15, 10, 16, 91, 92, 93, 94, 29, 52, 17, 18, 19, 20, 21, 22, 23, 24, 6, 25, 26, 27, 28, 30, 31, 32, 33, 34, 35, 36, 37, 38, 39, 40, 41, 42, 95, 96, 97, 98, 99, 100, 101, 1, 43, 44, 45, 46, 47, 48, 49, 50, 51, 53, 54, 55, 56, 57, 58, 59, 60, 61, 62, 63, 64, 65, 66, 67, 68, 69, 70, 71, 72, 73, 74, 75, 76, 77, 78, 79, 80, 81, 82, 83, 84, 85, 86, 102, 103, 104, 105, 106, 107, 112, 113, 114, 115, 116, 117] (by decide +kernel) (by decide +kernel)
set_option maxRecDepth 20000 in
theorem gX3_perform_X3_store : GoodIn wsX3_perform (wsV RX3 147 RX3 yX3_store wsX3_store) := goodIn_app (goodIn_of _ (by decide +kernel)) ggX3_perform_X3_store
set_option maxRecDepth 20000 in
theorem ggX3_perform_X3_move : GoodIn wsX3_perform wsX3_move := goodIn_r _ [28, 12, 29, 30, 31, 32, 33, 34, 35, 36, 37, 38, 39, 40, 41, 42, 102, 103, 104, 105, 106, 107, 112, 113, 114, 115] (by decide +kernel) (by decide +kernel)
set_option maxRecDepth 20000 in
theorem gX3_perform_X3_move : GoodIn wsX3_perform (wsV RX3 95 RX3 yX3_move wsX3_move) := goodIn_app (goodIn_of _ (by decide +kernel)) ggX3_perform_X3_move
theorem dX3_perform_0 : decode cX3_perform 0 = .ok (.aload_n 0, 1) := by decide +kernel
theorem dX3_perform_1 : decode cX3_perform 1 = .ok (.getfield 15, 3) := by decide +kernel
theorem dX3_perform_4 : decode cX3_perform 4 = .ok (.iconst 0, 1) := by decide +kernel
theorem dX3_perform_5 : decode cX3_perform 5 = .ok (.iaload, 1) := by decide +kernel
theorem dX3_perform_6 : decode cX3_perform 6 = .ok (.istore_n 2, 1) := by decide +kernel
theorem dX3_perform_7 : decode cX3_perform 7 = .ok (.iconst 0, 1) := by decide +kernel
theorem dX3_perform_8 : decode cX3_perform 8 = .ok (.istore_n 3, 1) := by decide +kernel
theorem dX3_perform_9 : decode cX3_perform 9 = .ok (.iload_n 3, 1) := by decide +kernel
theorem dX3_perform_10 : decode cX3_perform 10 = .ok (.aload_n 1, 1) := by decide +kernel
theorem dX3_perform_11 : decode cX3_perform 11 = .ok (.getfield 131, 3) := by decide +kernel
theorem dX3_perform_14 : decode cX3_perform 14 = .ok (.if_icmp .ge 98, 3) := by decide +kernel
theorem dX3_perform_17 : decode cX3_perform 17 = .ok (.aload_n 1, 1) := by decide +kernel
theorem dX3_perform_18 : decode cX3_perform 18 = .ok (.getfield 137, 3) := by decide +kernel
theorem dX3_perform_21 : decode cX3_perform 21 = .ok (.iload_n 3, 1) := by decide +kernel
theorem dX3_perform_22 : decode cX3_perform 22 = .ok (.iaload, 1) := by decide +kernel
theorem dX3_perform_23 : decode cX3_perform 23 = .ok (.istore 4, 2) := by decide +kernel
theorem dX3_perform_25 : decode cX3_perform 25 = .ok (.aload_n 1, 1) := by decide +kernel
theorem dX3_perform_26 : decode cX3_perform 26 = .ok (.getfield 140, 3) := by decide +kernel
theorem dX3_perform_29 : decode cX3_perform 29 = .ok (.iload_n 3, 1) := by decide +kernel
theorem dX3_perform_30 : decode cX3_perform 30 = .ok (.iaload, 1) := by decide +kernel
theorem dX3_perform_31 : decode cX3_perform 31 = .ok (.lookupswitch 68 #[(103, 25), (112, 35)], 25) := by decide +kernel
theorem dX3_perform_56 : decode cX3_perform 56 = .ok (.aload_n 0, 1) := by decide +kernel
theorem dX3_perform_57 : decode cX3_perform 57 = .ok (.iload 4, 2) := by decide +kernel
theorem dX3_perform_59 : decode cX3_perform 59 = .ok (.invokevirtual 143, 3) := by decide +kernel
theorem dX3_perform_62 : decode cX3_perform 62 = .ok (.pop, 1) := by decide +kernel
theorem dX3_perform_63 : decode cX3_perform 63 = .ok (.goto 43, 3) := by decide +kernel
theorem dX3_perform_66 : decode cX3_perform 66 = .ok (.aload_n 1, 1) := by decide +kernel
theorem dX3_perform_67 : decode cX3_perform 67 = .ok (.getfield 146, 3) := by decide +kernel
theorem dX3_perform_70 : decode cX3_perform 70 = .ok (.iload_n 3, 1) := by decide +kernel
theorem dX3_perform_71 : decode cX3_perform 71 = .ok (.iaload, 1) := by decide +kernel
theorem dX3_perform_72 : decode cX3_perform 72 = .ok (.aload_n 0, 1) := by decide +kernel
theorem dX3_perform_73 : decode cX3_perform 73 = .ok (.getfield 9, 3) := by decide +kernel
theorem dX3_perform_76 : decode cX3_perform 76 = .ok (.iconst 0, 1) := by decide +kernel
theorem dX3_perform_77 : decode cX3_perform 77 = .ok (.iaload, 1) := by decide +kernel
theorem dX3_perform_78 : decode cX3_perform 78 = .ok (.if_icmp .gt 28, 3) := by decide +kernel
theorem dX3_perform_81 : decode cX3_perform 81 = .ok (.aload_n 0, 1) := by decide +kernel
theorem dX3_perform_82 : decode cX3_perform 82 = .ok (.iload 4, 2) := by decide +kernel
theorem dX3_perform_84 : decode cX3_perform 84 = .ok (.iconst 0, 1) := by decide +kernel
theorem dX3_perform_85 : decode cX3_perform 85 = .ok (.aload_n 1, 1) := by decide +kernel
theorem dX3_perform_86 : decode cX3_perform 86 = .ok (.getfield 146, 3) := by decide +kernel
theorem dX3_perform_89 : decode cX3_perform 89 = .ok (.iload_n 3, 1) := by decide +kernel
theorem dX3_perform_90 : decode cX3_perform 90 = .ok (.iaload, 1) := by decide +kernel
theorem dX3_perform_91 : decode cX3_perform 91 = .ok (.iconst 1, 1) := by decide +kernel
theorem dX3_perform_92 : decode cX3_perform 92 = .ok (.invokevirtual 147, 3) := by decide +kernel
theorem dX3_perform_95 : decode cX3_perform 95 = .ok (.pop, 1) := by decide +kernel
theorem dX3_perform_96 : decode cX3_perform 96 = .ok (.goto 10, 3) := by decide +kernel
theorem dX3_perform_99 : decode cX3_perform 99 = .ok (.aload_n 0, 1) := by decide +kernel
theorem dX3_perform_100 : decode cX3_perform 100 = .ok (.iload 4, 2) := by decide +kernel
theorem dX3_perform_102 : decode cX3_perform 102 = .ok (.iconst 0, 1) := by decide +kernel
theorem dX3_perform_103 : decode cX3_perform 103 = .ok (.invokevirtual 95, 3) := by decide +kernel
theorem dX3_perform_106 : decode cX3_perform 106 = .ok (.iinc 3 1, 3) := by decide +kernel
theorem dX3_perform_109 : decode cX3_perform 109 = .ok (.goto (-100), 3) := by decide +kernel
theorem dX3_perform_112 : decode cX3_perform 112 = .ok (.aload_n 0, 1) := by decide +kernel
theorem dX3_perform_113 : decode cX3_perform 113 = .ok (.getfield 15, 3) := by decide +kernel
theorem dX3_perform_116 : decode cX3_perform 116 = .ok (.iconst 0, 1) := by decide +kernel
theorem dX3_perform_117 : decode cX3_perform 117 = .ok (.iaload, 1) := by decide +kernel
theorem dX3_perform_118 : decode cX3_perform 118 = .ok (.iload_n 2, 1) := by decide +kernel
theorem dX3_perform_119 : decode cX3_perform 119 = .ok (.isub, 1) := by decide +kernel
theorem dX3_perform_120 : decode cX3_perform 120 = .ok (.ireturn, 1) := by decide +kernel
theorem dX4_init_0 : decode cX4_init 0 = .ok (.aload_n 0, 1) := by decide +kernel
theorem dX4_init_1 : decode cX4_init 1 = .ok (.invokespecial 3, 3) := by decide +kernel
theorem dX4_init_4 : decode cX4_init 4 = .ok (.aload_n 0, 1) := by decide +kernel
theorem dX4_init_5 : decode cX4_init 5 = .ok (.bipush 60, 2) := by decide +kernel
theorem dX4_init_7 : decode cX4_init 7 = .ok (.newarray .long, 2) := by decide +kernel
theorem dX4_init_9 : decode cX4_init 9 = .ok (.putfield 9, 3) := by decide +kernel
theorem dX4_init_12 : decode cX4_init 12 = .ok (.aload_n 0, 1) := by decide +kernel
theorem dX4_init_13 : decode cX4_init 13 = .ok (.iconst (-1), 1) := by decide +kernel
theorem dX4_init_14 : decode cX4_init 14 = .ok (.putfield 15, 3) := by decide +kernel
theorem dX4_init_17 : decode cX4_init 17 = .ok (.return_, 1) := by decide +kernel
theorem dX4_become_0 : decode cX4_become 0 = .ok (.iconst 0, 1) := by decide +kernel
theorem dX4_become_1 : decode cX4_become 1 = .ok (.istore_n 3, 1) := by decide +kernel
theorem dX4_become_2 : decode cX4_become 2 = .ok (.iload_n 3, 1) := by decide +kernel
theorem dX4_become_3 : decode cX4_become 3 = .ok (.bipush 60, 2) := by decide +kernel
theorem dX4_become_5 : decode cX4_become 5 = .ok (.if_icmp .ge 16, 3) := by decide +kernel
theorem dX4_become_8 : decode cX4_become 8 = .ok (.aload_n 0, 1) := by decide +kernel
theorem dX4_become_9 : decode cX4_become 9 = .ok (.getfield 9, 3) := by decide +kernel
theorem dX4_become_12 : decode cX4_become 12 = .ok (.iload_n 3, 1) := by decide +kernel
theorem dX4_become_13 : decode cX4_become 13 = .ok (.lconst 0, 1) := by decide +kernel
theorem dX4_become_14 : decode cX4_become 14 = .ok (.lastore, 1) := by decide +kernel
theorem dX4_become_15 : decode cX4_become 15 = .ok (.iinc 3 1, 3) := by decide +kernel
theorem dX4_become_18 : decode cX4_become 18 = .ok (.goto (-16), 3) := by decide +kernel
theorem dX4_become_21 : decode cX4_become 21 = .ok (.aload_n 0, 1) := by decide +kernel
theorem dX4_become_22 : decode cX4_become 22 = .ok (.iload_n 1, 1) := by decide +kernel
theorem dX4_become_23 : decode cX4_become 23 = .ok (.putfield 15, 3) := by decide +kernel
theorem dX4_become_26 : decode cX4_become 26 = .ok (.aload_n 0, 1) := by decide +kernel
theorem dX4_become_27 : decode cX4_become 27 = .ok (.iload_n 2, 1) := by decide +kernel
theorem dX4_become_28 : decode cX4_become 28 = .ok (.putfield 19, 3) := by decide +kernel
theorem dX4_become_31 : decode cX4_become 31 = .ok (.return_, 1) := by decide +kernel
theorem dX4_asItem_0 : decode cX4_asItem 0 = .ok (.aload_n 0, 1) := by decide +kernel
theorem dX4_asItem_1 : decode cX4_asItem 1 = .ok (.getfield 15, 3) := by decide +kernel
theorem dX4_asItem_4 : decode cX4_asItem 4 = .ok (.tableswitch 48 0 3 #[32, 37, 42, 46], 32) := by decide +kernel
theorem dX4_asItem_36 : decode cX4_asItem 36 = .ok (.lload_n 1, 1) := by decide +kernel
theorem dX4_asItem_37 : decode cX4_asItem 37 = .ok (.l2i, 1) := by decide +kernel
theorem dX4_asItem_38 : decode cX4_asItem 38 = .ok (.i2b, 1) := by decide +kernel
theorem dX4_asItem_39 : decode cX4_asItem 39 = .ok (.i2l, 1) := by decide +kernel
theorem dX4_asItem_40 : decode cX4_asItem 40 = .ok (.lreturn, 1) := by decide +kernel
theorem dX4_asItem_41 : decode cX4_asItem 41 = .ok (.lload_n 1, 1) := by decide +kernel
theorem dX4_asItem_42 : decode cX4_asItem 42 = .ok (.l2i, 1) := by decide +kernel
theorem dX4_asItem_43 : decode cX4_asItem 43 = .ok (.i2s, 1) := by decide +kernel
theorem dX4_asItem_44 : decode cX4_asItem 44 = .ok (.i2l, 1) := by decide +kernel
theorem dX4_asItem_45 : decode cX4_asItem 45 = .ok (.lreturn, 1) := by decide +kernel
theorem dX4_asItem_46 : decode cX4_asItem 46 = .ok (.lload_n 1, 1) := by decide +kernel
theorem dX4_asItem_47 : decode cX4_asItem 47 = .ok (.l2i, 1) := by decide +kernel
theorem dX4_asItem_48 : decode cX4_asItem 48 = .ok (.i2l, 1) := by decide +kernel
theorem dX4_asItem_49 : decode cX4_asItem 49 = .ok (.lreturn, 1) := by decide +kernel
theorem dX4_asItem_50 : decode cX4_asItem 50 = .ok (.lload_n 1, 1) := by decide +kernel
theorem dX4_asItem_51 : decode cX4_asItem 51 = .ok (.lreturn, 1) := by decide +kernel
theorem dX4_asItem_52 : decode cX4_asItem 52 = .ok (.lload_n 1, 1) := by decide +kernel
theorem dX4_asItem_53 : decode cX4_asItem 53 = .ok (.lconst 0, 1) := by decide +kernel
theorem dX4_asItem_54 : decode cX4_asItem 54 = .ok (.lcmp, 1) := by decide +kernel
theorem dX4_asItem_55 : decode cX4_asItem 55 = .ok (.ifCond .eq 7, 3) := by decide +kernel
theorem dX4_asItem_58 : decode cX4_asItem 58 = .ok (.lconst 1, 1) := by decide +kernel
theorem dX4_asItem_59 : decode cX4_asItem 59 = .ok (.goto 4, 3) := by decide +kernel
theorem dX4_asItem_62 : decode cX4_asItem 62 = .ok (.lconst 0, 1) := by decide +kernel
theorem dX4_asItem_63 : decode cX4_asItem 63 = .ok (.lreturn, 1) := by decide +kernel
theorem dX4_hasRange_0 : decode cX4_hasRange 0 = .ok (.iload_n 1, 1) := by decide +kernel
theorem dX4_hasRange_1 : decode cX4_hasRange 1 = .ok (.ifCond .lt 29, 3) := by decide +kernel
theorem dX4_hasRange_4 : decode cX4_hasRange 4 = .ok (.iload_n 2, 1) := by decide +kernel
theorem dX4_hasRange_5 : decode cX4_hasRange 5 = .ok (.ifCond .lt 25, 3) := by decide +kernel
theorem dX4_hasRange_8 : decode cX4_hasRange 8 = .ok (.iload_n 2, 1) := by decide +kernel
theorem dX4_hasRange_9 : decode cX4_hasRange 9 = .ok (.aload_n 0, 1) := by decide +kernel
theorem dX4_hasRange_10 : decode cX4_hasRange 10 = .ok (.getfield 19, 3) := by decide +kernel
theorem dX4_hasRange_13 : decode cX4_hasRange 13 = .ok (.if_icmp .gt 17, 3) := by decide +kernel
theorem dX4_hasRange_16 : decode cX4_hasRange 16 = .ok (.iload_n 1, 1) := by decide +kernel
theorem dX4_hasRange_17 : decode cX4_hasRange 17 = .ok (.aload_n 0, 1) := by decide +kernel
theorem dX4_hasRange_18 : decode cX4_hasRange 18 = .ok (.getfield 19, 3) := by decide +kernel
theorem dX4_hasRange_21 : decode cX4_hasRange 21 = .ok (.iload_n 2, 1) := by decide +kernel
theorem dX4_hasRange_22 : decode cX4_hasRange 22 = .ok (.isub, 1) := by decide +kernel
theorem dX4_hasRange_23 : decode cX4_hasRange 23 = .ok (.if_icmp .gt 7, 3) := by decide +kernel
theorem dX4_hasRange_26 : decode cX4_hasRange 26 = .ok (.iconst 1, 1) := by decide +kernel
theorem dX4_hasRange_27 : decode cX4_hasRange 27 = .ok (.goto 4, 3) := by decide +kernel
theorem dX4_hasRange_30 : decode cX4_hasRange 30 = .ok (.iconst 0, 1) := by decide +kernel
theorem dX4_hasRange_31 : decode cX4_hasRange 31 = .ok (.ireturn, 1) := by decide +kernel
theorem dX5_init_0 : decode cX5_init 0 = .ok (.aload_n 0, 1) := by decide +kernel
theorem dX5_init_1 : decode cX5_init 1 = .ok (.invokespecial 3, 3) := by decide +kernel
theorem dX5_init_4 : decode cX5_init 4 = .ok (.aload_n 0, 1) := by decide +kernel
theorem dX5_init_5 : decode cX5_init 5 = .ok (.bipush 100, 2) := by decide +kernel
theorem dX5_init_7 : decode cX5_init 7 = .ok (.newarray .int, 2) := by decide +kernel
theorem dX5_init_9 : decode cX5_init 9 = .ok (.putfield 9, 3) := by decide +kernel
theorem dX5_init_12 : decode cX5_init 12 = .ok (.return_, 1) := by decide +kernel
set_option maxRecDepth 20000 in
theorem ggX5_readInto_X5_readClause : GoodIn wsX5_readInto wsX5_readClause := goodIn_r _ [8, 1, 9, 10, 11, 12, 13, 7, 14, 3, 15, 16, 17, 18, 19, 20, 21, 22, 23, 24, 25, 26, 27, 28, 29, 30, 31] (by decide +kernel) (by decide +kernel)
set_option maxRecDepth 20000 in
theorem gX5_readInto_X5_readClause : GoodIn wsX5_readInto (wsV RX5 19 RX5 yX5_readClause wsX5_readClause) := goodIn_app (goodIn_of _ (by decide +kernel)) ggX5_readInto_X5_readClause
set_option maxRecDepth 20000 in
theorem ggX5_readInto_X5_skip : GoodIn wsX5_readInto wsX5_skip := goodIn_r _ [19, 1, 11, 12, 13, 7, 14, 3, 15, 25, 26, 27] (by decide +kernel) (by decide +kernel)
set_option maxRecDepth 20000 in
theorem gX5_readInto_X5_skip : GoodIn wsX5_readInto (wsV RX5 31 RX5 yX5_skip wsX5_skip) := goodIn_app (goodIn_of _ (by decide +kernel)) ggX5_readInto_X5_skip
theorem dX5_readInto_0 : decode cX5_readInto 0 = .ok (.aload_n 0, 1) := by decide +kernel
theorem dX5_readInto_1 : decode cX5_readInto 1 = .ok (.iconst 0, 1) := by decide +kernel
theorem dX5_readInto_2 : decode cX5_readInto 2 = .ok (.putfield 15, 3) := by decide +kernel
theorem dX5_readInto_5 : decode cX5_readInto 5 = .ok (.iconst 0, 1) := by decide +kernel
theorem dX5_readInto_6 : decode cX5_readInto 6 = .ok (.istore_n 2, 1) := by decide +kernel
theorem dX5_readInto_7 : decode cX5_readInto 7 = .ok (.iload_n 2, 1) := by decide +kernel
theorem dX5_readInto_8 : decode cX5_readInto 8 = .ok (.bipush 20, 2) := by decide +kernel
theorem dX5_readInto_10 : decode cX5_readInto 10 = .ok (.if_icmp .ge 66, 3) := by decide +kernel
theorem dX5_readInto_13 : decode cX5_readInto 13 = .ok (.aload_n 0, 1) := by decide +kernel
theorem dX5_readInto_14 : decode cX5_readInto 14 = .ok (.aload_n 1, 1) := by decide +kernel
theorem dX5_readInto_15 : decode cX5_readInto 15 = .ok (.iload_n 2, 1) := by decide +kernel
theorem dX5_readInto_16 : decode cX5_readInto 16 = .ok (.invokevirtual 19, 3) := by decide +kernel
theorem dX5_readInto_19 : decode cX5_readInto 19 = .ok (.ifCond .ne 8, 3) := by decide +kernel
theorem dX5_readInto_22 : decode cX5_readInto 22 = .ok (.aload_n 0, 1) := by decide +kernel
theorem dX5_readInto_23 : decode cX5_readInto 23 = .ok (.getfield 15, 3) := by decide +kernel
theorem dX5_readInto_26 : decode cX5_readInto 26 = .ok (.ireturn, 1) := by decide +kernel
theorem dX5_readInto_27 : decode cX5_readInto 27 = .ok (.aload_n 1, 1) := by decide +kernel
theorem dX5_readInto_28 : decode cX5_readInto 28 = .ok (.iload_n 2, 1) := by decide +kernel
theorem dX5_readInto_29 : decode cX5_readInto 29 = .ok (.iconst 1, 1) := by decide +kernel
theorem dX5_readInto_30 : decode cX5_readInto 30 = .ok (.iadd, 1) := by decide +kernel
theorem dX5_readInto_31 : decode cX5_readInto 31 = .ok (.putfield 23, 3) := by decide +kernel
theorem dX5_readInto_34 : decode cX5_readInto 34 = .ok (.aload_n 0, 1) := by decide +kernel
theorem dX5_readInto_35 : decode cX5_readInto 35 = .ok (.getfield 15, 3) := by decide +kernel
theorem dX5_readInto_38 : decode cX5_readInto 38 = .ok (.aload_n 0, 1) := by decide +kernel
theorem dX5_readInto_39 : decode cX5_readInto 39 = .ok (.getfield 28, 3) := by decide +kernel
theorem dX5_readInto_42 : decode cX5_readInto 42 = .ok (.if_icmp .lt 6, 3) := by decide +kernel
theorem dX5_readInto_45 : decode cX5_readInto 45 = .ok (.bipush (-5), 2) := by decide +kernel
theorem dX5_readInto_47 : decode cX5_readInto 47 = .ok (.ireturn, 1) := by decide +kernel
theorem dX5_readInto_48 : decode cX5_readInto 48 = .ok (.iload_n 2, 1) := by decide +kernel
theorem dX5_readInto_49 : decode cX5_readInto 49 = .ok (.bipush 19, 2) := by decide +kernel
theorem dX5_readInto_51 : decode cX5_readInto 51 = .ok (.if_icmp .eq 14, 3) := by decide +kernel
theorem dX5_readInto_54 : decode cX5_readInto 54 = .ok (.aload_n 0, 1) := by decide +kernel
theorem dX5_readInto_55 : decode cX5_readInto 55 = .ok (.bipush 59, 2) := by decide +kernel
theorem dX5_readInto_57 : decode cX5_readInto 57 = .ok (.bipush 59, 2) := by decide +kernel
theorem dX5_readInto_59 : decode cX5_readInto 59 = .ok (.invokevirtual 31, 3) := by decide +kernel
theorem dX5_readInto_62 : decode cX5_readInto 62 = .ok (.ifCond .ne 8, 3) := by decide +kernel
theorem dX5_readInto_65 : decode cX5_readInto 65 = .ok (.aload_n 0, 1) := by decide +kernel
theorem dX5_readInto_66 : decode cX5_readInto 66 = .ok (.getfield 15, 3) := by decide +kernel
theorem dX5_readInto_69 : decode cX5_readInto 69 = .ok (.ireturn, 1) := by decide +kernel
theorem dX5_readInto_70 : decode cX5_readInto 70 = .ok (.iinc 2 1, 3) := by decide +kernel
theorem dX5_readInto_73 : decode cX5_readInto 73 = .ok (.goto (-66), 3) := by decide +kernel
theorem dX5_readInto_76 : decode cX5_readInto 76 = .ok (.aload_n 0, 1) := by decide +kernel
theorem dX5_readInto_77 : decode cX5_readInto 77 = .ok (.getfield 15, 3) := by decide +kernel
theorem dX5_readInto_80 : decode cX5_readInto 80 = .ok (.ireturn, 1) := by decide +kernel
set_option maxRecDepth 20000 in
theorem ggX5_readClause_X5_next : GoodIn wsX5_readClause wsX5_next := goodIn_r _ [8, 1, 9, 10, 20, 21, 22] (by decide +kernel) (by decide +kernel)
set_option maxRecDepth 20000 in
theorem gX5_readClause_X5_next : GoodIn wsX5_readClause (wsV RX5 35 RX5 yX5_next wsX5_next) := goodIn_app (goodIn_of _ (by decide +kernel)) ggX5_readClause_X5_next
set_option maxRecDepth 20000 in
theorem ggX5_readClause_X5_skip : GoodIn wsX5_readClause wsX5_skip := goodIn_r _ [14, 1, 4, 5, 6, 7, 8, 9, 10, 20, 21, 22] (by decide +kernel) (by decide +kernel)
set_option maxRecDepth 20000 in
theorem gX5_readClause_X5_skip : GoodIn wsX5_readClause (wsV RX5 31 RX5 yX5_skip wsX5_skip) := goodIn_app (goodIn_of _ (by decide +kernel)) ggX5_readClause_X5_skip
set_option maxRecDepth 20000 in
theorem ggX5_readClause_X5_readWeight : GoodIn wsX5_readClause wsX5_readWeight := goodIn_r _ [18, 19, 11, 12, 13, 7, 14, 1, 4, 5, 6, 8, 9, 10, 23, 24, 25, 26, 20, 21, 22] (by decide +kernel) (by decide +kernel)
set_option maxRecDepth 20000 in
theorem gX5_readClause_X5_readWeight : GoodIn wsX5_readClause (wsV RX5 45 RX5 yX5_readWeight wsX5_readWeight) := goodIn_app (goodIn_of _ (by decide +kernel)) ggX5_readClause_X5_readWeight
theorem dX5_readClause_0 : decode cX5_readClause 0 = .ok (.aload_n 0, 1) := by decide +kernel
theorem dX5_readClause_1 : decode cX5_readClause 1 = .ok (.invokevirtual 35, 3) := by decide +kernel
theorem dX5_readClause_4 : decode cX5_readClause 4 = .ok (.istore_n 3, 1) := by decide +kernel
theorem dX5_readClause_5 : decode cX5_readClause 5 = .ok (.iload_n 3, 1) := by decide +kernel
