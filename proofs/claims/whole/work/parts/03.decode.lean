theorem dX0_init_0 : decode cX0_init 0 = .ok (.aload_n 0, 1) := by decide +kernel
theorem dX0_init_1 : decode cX0_init 1 = .ok (.invokespecial 3, 3) := by decide +kernel
theorem dX0_init_4 : decode cX0_init 4 = .ok (.aload_n 0, 1) := by decide +kernel
theorem dX0_init_5 : decode cX0_init 5 = .ok (.sipush 432, 3) := by decide +kernel
theorem dX0_init_8 : decode cX0_init 8 = .ok (.newarray .int, 2) := by decide +kernel
theorem dX0_init_10 : decode cX0_init 10 = .ok (.putfield 11, 3) := by decide +kernel
theorem dX0_init_13 : decode cX0_init 13 = .ok (.return_, 1) := by decide +kernel
theorem dX0_forgetAll_0 : decode cX0_forgetAll 0 = .ok (.aload_n 0, 1) := by decide +kernel
theorem dX0_forgetAll_1 : decode cX0_forgetAll 1 = .ok (.iconst 0, 1) := by decide +kernel
theorem dX0_forgetAll_2 : decode cX0_forgetAll 2 = .ok (.putfield 15, 3) := by decide +kernel
theorem dX0_forgetAll_5 : decode cX0_forgetAll 5 = .ok (.return_, 1) := by decide +kernel
theorem dX0_keep_0 : decode cX0_keep 0 = .ok (.aload_n 0, 1) := by decide +kernel
theorem dX0_keep_1 : decode cX0_keep 1 = .ok (.getfield 15, 3) := by decide +kernel
theorem dX0_keep_4 : decode cX0_keep 4 = .ok (.bipush 24, 2) := by decide +kernel
theorem dX0_keep_6 : decode cX0_keep 6 = .ok (.if_icmp .ne 26, 3) := by decide +kernel
theorem dX0_keep_9 : decode cX0_keep 9 = .ok (.aload_n 0, 1) := by decide +kernel
theorem dX0_keep_10 : decode cX0_keep 10 = .ok (.aload_n 0, 1) := by decide +kernel
theorem dX0_keep_11 : decode cX0_keep 11 = .ok (.getfield 19, 3) := by decide +kernel
theorem dX0_keep_14 : decode cX0_keep 14 = .ok (.iconst 1, 1) := by decide +kernel
theorem dX0_keep_15 : decode cX0_keep 15 = .ok (.iadd, 1) := by decide +kernel
theorem dX0_keep_16 : decode cX0_keep 16 = .ok (.bipush 24, 2) := by decide +kernel
theorem dX0_keep_18 : decode cX0_keep 18 = .ok (.irem, 1) := by decide +kernel
theorem dX0_keep_19 : decode cX0_keep 19 = .ok (.putfield 19, 3) := by decide +kernel
theorem dX0_keep_22 : decode cX0_keep 22 = .ok (.aload_n 0, 1) := by decide +kernel
theorem dX0_keep_23 : decode cX0_keep 23 = .ok (.dup, 1) := by decide +kernel
theorem dX0_keep_24 : decode cX0_keep 24 = .ok (.getfield 15, 3) := by decide +kernel
theorem dX0_keep_27 : decode cX0_keep 27 = .ok (.iconst 1, 1) := by decide +kernel
theorem dX0_keep_28 : decode cX0_keep 28 = .ok (.isub, 1) := by decide +kernel
theorem dX0_keep_29 : decode cX0_keep 29 = .ok (.putfield 15, 3) := by decide +kernel
theorem dX0_keep_32 : decode cX0_keep 32 = .ok (.aload_n 0, 1) := by decide +kernel
theorem dX0_keep_33 : decode cX0_keep 33 = .ok (.aload_n 0, 1) := by decide +kernel
theorem dX0_keep_34 : decode cX0_keep 34 = .ok (.getfield 15, 3) := by decide +kernel
theorem dX0_keep_37 : decode cX0_keep 37 = .ok (.invokevirtual 22, 3) := by decide +kernel
theorem dX0_keep_40 : decode cX0_keep 40 = .ok (.istore_n 2, 1) := by decide +kernel
theorem dX0_keep_41 : decode cX0_keep 41 = .ok (.aload_n 0, 1) := by decide +kernel
theorem dX0_keep_42 : decode cX0_keep 42 = .ok (.dup, 1) := by decide +kernel
theorem dX0_keep_43 : decode cX0_keep 43 = .ok (.getfield 15, 3) := by decide +kernel
theorem dX0_keep_46 : decode cX0_keep 46 = .ok (.iconst 1, 1) := by decide +kernel
theorem dX0_keep_47 : decode cX0_keep 47 = .ok (.iadd, 1) := by decide +kernel
theorem dX0_keep_48 : decode cX0_keep 48 = .ok (.putfield 15, 3) := by decide +kernel
theorem dX0_keep_51 : decode cX0_keep 51 = .ok (.aload_n 0, 1) := by decide +kernel
theorem dX0_keep_52 : decode cX0_keep 52 = .ok (.getfield 11, 3) := by decide +kernel
theorem dX0_keep_55 : decode cX0_keep 55 = .ok (.iload_n 2, 1) := by decide +kernel
theorem dX0_keep_56 : decode cX0_keep 56 = .ok (.aload_n 1, 1) := by decide +kernel
theorem dX0_keep_57 : decode cX0_keep 57 = .ok (.getfield 26, 3) := by decide +kernel
theorem dX0_keep_60 : decode cX0_keep 60 = .ok (.iastore, 1) := by decide +kernel
theorem dX0_keep_61 : decode cX0_keep 61 = .ok (.aload_n 1, 1) := by decide +kernel
theorem dX0_keep_62 : decode cX0_keep 62 = .ok (.getfield 31, 3) := by decide +kernel
theorem dX0_keep_65 : decode cX0_keep 65 = .ok (.iconst 0, 1) := by decide +kernel
theorem dX0_keep_66 : decode cX0_keep 66 = .ok (.aload_n 0, 1) := by decide +kernel
theorem dX0_keep_67 : decode cX0_keep 67 = .ok (.getfield 11, 3) := by decide +kernel
theorem dX0_keep_70 : decode cX0_keep 70 = .ok (.iload_n 2, 1) := by decide +kernel
theorem dX0_keep_71 : decode cX0_keep 71 = .ok (.iconst 1, 1) := by decide +kernel
theorem dX0_keep_72 : decode cX0_keep 72 = .ok (.iadd, 1) := by decide +kernel
theorem dX0_keep_73 : decode cX0_keep 73 = .ok (.iconst 5, 1) := by decide +kernel
theorem dX0_keep_74 : decode cX0_keep 74 = .ok (.invokestatic 34, 3) := by decide +kernel
theorem dX0_keep_77 : decode cX0_keep 77 = .ok (.iinc 2 6, 3) := by decide +kernel
theorem dX0_keep_80 : decode cX0_keep 80 = .ok (.aload_n 1, 1) := by decide +kernel
theorem dX0_keep_81 : decode cX0_keep 81 = .ok (.getfield 40, 3) := by decide +kernel
theorem dX0_keep_84 : decode cX0_keep 84 = .ok (.iconst 0, 1) := by decide +kernel
theorem dX0_keep_85 : decode cX0_keep 85 = .ok (.aload_n 0, 1) := by decide +kernel
theorem dX0_keep_86 : decode cX0_keep 86 = .ok (.getfield 11, 3) := by decide +kernel
theorem dX0_keep_89 : decode cX0_keep 89 = .ok (.iload_n 2, 1) := by decide +kernel
theorem dX0_keep_90 : decode cX0_keep 90 = .ok (.iconst 4, 1) := by decide +kernel
theorem dX0_keep_91 : decode cX0_keep 91 = .ok (.invokestatic 34, 3) := by decide +kernel
theorem dX0_keep_94 : decode cX0_keep 94 = .ok (.aload_n 1, 1) := by decide +kernel
theorem dX0_keep_95 : decode cX0_keep 95 = .ok (.getfield 43, 3) := by decide +kernel
theorem dX0_keep_98 : decode cX0_keep 98 = .ok (.iconst 0, 1) := by decide +kernel
theorem dX0_keep_99 : decode cX0_keep 99 = .ok (.aload_n 0, 1) := by decide +kernel
theorem dX0_keep_100 : decode cX0_keep 100 = .ok (.getfield 11, 3) := by decide +kernel
theorem dX0_keep_103 : decode cX0_keep 103 = .ok (.iload_n 2, 1) := by decide +kernel
theorem dX0_keep_104 : decode cX0_keep 104 = .ok (.iconst 4, 1) := by decide +kernel
theorem dX0_keep_105 : decode cX0_keep 105 = .ok (.iadd, 1) := by decide +kernel
theorem dX0_keep_106 : decode cX0_keep 106 = .ok (.iconst 4, 1) := by decide +kernel
theorem dX0_keep_107 : decode cX0_keep 107 = .ok (.invokestatic 34, 3) := by decide +kernel
theorem dX0_keep_110 : decode cX0_keep 110 = .ok (.aload_n 1, 1) := by decide +kernel
theorem dX0_keep_111 : decode cX0_keep 111 = .ok (.getfield 46, 3) := by decide +kernel
theorem dX0_keep_114 : decode cX0_keep 114 = .ok (.iconst 0, 1) := by decide +kernel
theorem dX0_keep_115 : decode cX0_keep 115 = .ok (.aload_n 0, 1) := by decide +kernel
theorem dX0_keep_116 : decode cX0_keep 116 = .ok (.getfield 11, 3) := by decide +kernel
theorem dX0_keep_119 : decode cX0_keep 119 = .ok (.iload_n 2, 1) := by decide +kernel
theorem dX0_keep_120 : decode cX0_keep 120 = .ok (.bipush 8, 2) := by decide +kernel
theorem dX0_keep_122 : decode cX0_keep 122 = .ok (.iadd, 1) := by decide +kernel
theorem dX0_keep_123 : decode cX0_keep 123 = .ok (.iconst 4, 1) := by decide +kernel
theorem dX0_keep_124 : decode cX0_keep 124 = .ok (.invokestatic 34, 3) := by decide +kernel
theorem dX0_keep_127 : decode cX0_keep 127 = .ok (.return_, 1) := by decide +kernel
theorem dX0_takeBack_0 : decode cX0_takeBack 0 = .ok (.aload_n 0, 1) := by decide +kernel
theorem dX0_takeBack_1 : decode cX0_takeBack 1 = .ok (.getfield 15, 3) := by decide +kernel
theorem dX0_takeBack_4 : decode cX0_takeBack 4 = .ok (.ifCond .ne 5, 3) := by decide +kernel
theorem dX0_takeBack_7 : decode cX0_takeBack 7 = .ok (.iconst 0, 1) := by decide +kernel
theorem dX0_takeBack_8 : decode cX0_takeBack 8 = .ok (.ireturn, 1) := by decide +kernel
theorem dX0_takeBack_9 : decode cX0_takeBack 9 = .ok (.aload_n 0, 1) := by decide +kernel
theorem dX0_takeBack_10 : decode cX0_takeBack 10 = .ok (.dup, 1) := by decide +kernel
theorem dX0_takeBack_11 : decode cX0_takeBack 11 = .ok (.getfield 15, 3) := by decide +kernel
theorem dX0_takeBack_14 : decode cX0_takeBack 14 = .ok (.iconst 1, 1) := by decide +kernel
theorem dX0_takeBack_15 : decode cX0_takeBack 15 = .ok (.isub, 1) := by decide +kernel
theorem dX0_takeBack_16 : decode cX0_takeBack 16 = .ok (.putfield 15, 3) := by decide +kernel
theorem dX0_takeBack_19 : decode cX0_takeBack 19 = .ok (.aload_n 0, 1) := by decide +kernel
theorem dX0_takeBack_20 : decode cX0_takeBack 20 = .ok (.aload_n 0, 1) := by decide +kernel
theorem dX0_takeBack_21 : decode cX0_takeBack 21 = .ok (.getfield 15, 3) := by decide +kernel
theorem dX0_takeBack_24 : decode cX0_takeBack 24 = .ok (.invokevirtual 22, 3) := by decide +kernel
theorem dX0_takeBack_27 : decode cX0_takeBack 27 = .ok (.istore_n 2, 1) := by decide +kernel
theorem dX0_takeBack_28 : decode cX0_takeBack 28 = .ok (.aload_n 1, 1) := by decide +kernel
theorem dX0_takeBack_29 : decode cX0_takeBack 29 = .ok (.aload_n 0, 1) := by decide +kernel
theorem dX0_takeBack_30 : decode cX0_takeBack 30 = .ok (.getfield 11, 3) := by decide +kernel
theorem dX0_takeBack_33 : decode cX0_takeBack 33 = .ok (.iload_n 2, 1) := by decide +kernel
theorem dX0_takeBack_34 : decode cX0_takeBack 34 = .ok (.iaload, 1) := by decide +kernel
theorem dX0_takeBack_35 : decode cX0_takeBack 35 = .ok (.putfield 26, 3) := by decide +kernel
theorem dX0_takeBack_38 : decode cX0_takeBack 38 = .ok (.aload_n 0, 1) := by decide +kernel
theorem dX0_takeBack_39 : decode cX0_takeBack 39 = .ok (.getfield 11, 3) := by decide +kernel
theorem dX0_takeBack_42 : decode cX0_takeBack 42 = .ok (.iload_n 2, 1) := by decide +kernel
theorem dX0_takeBack_43 : decode cX0_takeBack 43 = .ok (.iconst 1, 1) := by decide +kernel
theorem dX0_takeBack_44 : decode cX0_takeBack 44 = .ok (.iadd, 1) := by decide +kernel
theorem dX0_takeBack_45 : decode cX0_takeBack 45 = .ok (.aload_n 1, 1) := by decide +kernel
theorem dX0_takeBack_46 : decode cX0_takeBack 46 = .ok (.getfield 31, 3) := by decide +kernel
theorem dX0_takeBack_49 : decode cX0_takeBack 49 = .ok (.iconst 0, 1) := by decide +kernel
theorem dX0_takeBack_50 : decode cX0_takeBack 50 = .ok (.iconst 5, 1) := by decide +kernel
theorem dX0_takeBack_51 : decode cX0_takeBack 51 = .ok (.invokestatic 34, 3) := by decide +kernel
theorem dX0_takeBack_54 : decode cX0_takeBack 54 = .ok (.iinc 2 6, 3) := by decide +kernel
theorem dX0_takeBack_57 : decode cX0_takeBack 57 = .ok (.aload_n 0, 1) := by decide +kernel
theorem dX0_takeBack_58 : decode cX0_takeBack 58 = .ok (.getfield 11, 3) := by decide +kernel
theorem dX0_takeBack_61 : decode cX0_takeBack 61 = .ok (.iload_n 2, 1) := by decide +kernel
theorem dX0_takeBack_62 : decode cX0_takeBack 62 = .ok (.aload_n 1, 1) := by decide +kernel
theorem dX0_takeBack_63 : decode cX0_takeBack 63 = .ok (.getfield 40, 3) := by decide +kernel
theorem dX0_takeBack_66 : decode cX0_takeBack 66 = .ok (.iconst 0, 1) := by decide +kernel
theorem dX0_takeBack_67 : decode cX0_takeBack 67 = .ok (.iconst 4, 1) := by decide +kernel
theorem dX0_takeBack_68 : decode cX0_takeBack 68 = .ok (.invokestatic 34, 3) := by decide +kernel
theorem dX0_takeBack_71 : decode cX0_takeBack 71 = .ok (.aload_n 0, 1) := by decide +kernel
theorem dX0_takeBack_72 : decode cX0_takeBack 72 = .ok (.getfield 11, 3) := by decide +kernel
theorem dX0_takeBack_75 : decode cX0_takeBack 75 = .ok (.iload_n 2, 1) := by decide +kernel
theorem dX0_takeBack_76 : decode cX0_takeBack 76 = .ok (.iconst 4, 1) := by decide +kernel
theorem dX0_takeBack_77 : decode cX0_takeBack 77 = .ok (.iadd, 1) := by decide +kernel
theorem dX0_takeBack_78 : decode cX0_takeBack 78 = .ok (.aload_n 1, 1) := by decide +kernel
theorem dX0_takeBack_79 : decode cX0_takeBack 79 = .ok (.getfield 43, 3) := by decide +kernel
theorem dX0_takeBack_82 : decode cX0_takeBack 82 = .ok (.iconst 0, 1) := by decide +kernel
theorem dX0_takeBack_83 : decode cX0_takeBack 83 = .ok (.iconst 4, 1) := by decide +kernel
theorem dX0_takeBack_84 : decode cX0_takeBack 84 = .ok (.invokestatic 34, 3) := by decide +kernel
theorem dX0_takeBack_87 : decode cX0_takeBack 87 = .ok (.aload_n 0, 1) := by decide +kernel
theorem dX0_takeBack_88 : decode cX0_takeBack 88 = .ok (.getfield 11, 3) := by decide +kernel
theorem dX0_takeBack_91 : decode cX0_takeBack 91 = .ok (.iload_n 2, 1) := by decide +kernel
theorem dX0_takeBack_92 : decode cX0_takeBack 92 = .ok (.bipush 8, 2) := by decide +kernel
theorem dX0_takeBack_94 : decode cX0_takeBack 94 = .ok (.iadd, 1) := by decide +kernel
theorem dX0_takeBack_95 : decode cX0_takeBack 95 = .ok (.aload_n 1, 1) := by decide +kernel
theorem dX0_takeBack_96 : decode cX0_takeBack 96 = .ok (.getfield 46, 3) := by decide +kernel
theorem dX0_takeBack_99 : decode cX0_takeBack 99 = .ok (.iconst 0, 1) := by decide +kernel
theorem dX0_takeBack_100 : decode cX0_takeBack 100 = .ok (.iconst 4, 1) := by decide +kernel
theorem dX0_takeBack_101 : decode cX0_takeBack 101 = .ok (.invokestatic 34, 3) := by decide +kernel
theorem dX0_takeBack_104 : decode cX0_takeBack 104 = .ok (.iconst 1, 1) := by decide +kernel
theorem dX0_takeBack_105 : decode cX0_takeBack 105 = .ok (.ireturn, 1) := by decide +kernel
theorem dX0_startOf_0 : decode cX0_startOf 0 = .ok (.aload_n 0, 1) := by decide +kernel
theorem dX0_startOf_1 : decode cX0_startOf 1 = .ok (.getfield 19, 3) := by decide +kernel
theorem dX0_startOf_4 : decode cX0_startOf 4 = .ok (.iload_n 1, 1) := by decide +kernel
theorem dX0_startOf_5 : decode cX0_startOf 5 = .ok (.iadd, 1) := by decide +kernel
theorem dX0_startOf_6 : decode cX0_startOf 6 = .ok (.bipush 24, 2) := by decide +kernel
theorem dX0_startOf_8 : decode cX0_startOf 8 = .ok (.irem, 1) := by decide +kernel
theorem dX0_startOf_9 : decode cX0_startOf 9 = .ok (.bipush 18, 2) := by decide +kernel
theorem dX0_startOf_11 : decode cX0_startOf 11 = .ok (.imul, 1) := by decide +kernel
theorem dX0_startOf_12 : decode cX0_startOf 12 = .ok (.ireturn, 1) := by decide +kernel
theorem dX1_init_0 : decode cX1_init 0 = .ok (.aload_n 0, 1) := by decide +kernel
theorem dX1_init_1 : decode cX1_init 1 = .ok (.invokespecial 3, 3) := by decide +kernel
theorem dX1_init_4 : decode cX1_init 4 = .ok (.aload_n 0, 1) := by decide +kernel
theorem dX1_init_5 : decode cX1_init 5 = .ok (.iconst 5, 1) := by decide +kernel
theorem dX1_init_6 : decode cX1_init 6 = .ok (.newarray .int, 2) := by decide +kernel
theorem dX1_init_8 : decode cX1_init 8 = .ok (.putfield 9, 3) := by decide +kernel
theorem dX1_init_11 : decode cX1_init 11 = .ok (.aload_n 0, 1) := by decide +kernel
theorem dX1_init_12 : decode cX1_init 12 = .ok (.iconst 5, 1) := by decide +kernel
theorem dX1_init_13 : decode cX1_init 13 = .ok (.newarray .int, 2) := by decide +kernel
theorem dX1_init_15 : decode cX1_init 15 = .ok (.putfield 15, 3) := by decide +kernel
theorem dX1_init_18 : decode cX1_init 18 = .ok (.aload_n 0, 1) := by decide +kernel
theorem dX1_init_19 : decode cX1_init 19 = .ok (.iconst 4, 1) := by decide +kernel
theorem dX1_init_20 : decode cX1_init 20 = .ok (.newarray .int, 2) := by decide +kernel
theorem dX1_init_22 : decode cX1_init 22 = .ok (.putfield 18, 3) := by decide +kernel
theorem dX1_init_25 : decode cX1_init 25 = .ok (.aload_n 0, 1) := by decide +kernel
theorem dX1_init_26 : decode cX1_init 26 = .ok (.iconst 4, 1) := by decide +kernel
theorem dX1_init_27 : decode cX1_init 27 = .ok (.newarray .int, 2) := by decide +kernel
theorem dX1_init_29 : decode cX1_init 29 = .ok (.putfield 21, 3) := by decide +kernel
theorem dX1_init_32 : decode cX1_init 32 = .ok (.aload_n 0, 1) := by decide +kernel
theorem dX1_init_33 : decode cX1_init 33 = .ok (.iconst 4, 1) := by decide +kernel
theorem dX1_init_34 : decode cX1_init 34 = .ok (.newarray .int, 2) := by decide +kernel
theorem dX1_init_36 : decode cX1_init 36 = .ok (.putfield 24, 3) := by decide +kernel
theorem dX1_init_39 : decode cX1_init 39 = .ok (.aload_n 0, 1) := by decide +kernel
theorem dX1_init_40 : decode cX1_init 40 = .ok (.iconst 4, 1) := by decide +kernel
theorem dX1_init_41 : decode cX1_init 41 = .ok (.newarray .int, 2) := by decide +kernel
theorem dX1_init_43 : decode cX1_init 43 = .ok (.putfield 27, 3) := by decide +kernel
theorem dX1_init_46 : decode cX1_init 46 = .ok (.aload_n 0, 1) := by decide +kernel
theorem dX1_init_47 : decode cX1_init 47 = .ok (.iconst 4, 1) := by decide +kernel
theorem dX1_init_48 : decode cX1_init 48 = .ok (.newarray .int, 2) := by decide +kernel
theorem dX1_init_50 : decode cX1_init 50 = .ok (.putfield 30, 3) := by decide +kernel
theorem dX1_init_53 : decode cX1_init 53 = .ok (.return_, 1) := by decide +kernel
theorem dX1_close_0 : decode cX1_close 0 = .ok (.aload_n 0, 1) := by decide +kernel
theorem dX1_close_1 : decode cX1_close 1 = .ok (.iconst 0, 1) := by decide +kernel
theorem dX1_close_2 : decode cX1_close 2 = .ok (.putfield 33, 3) := by decide +kernel
theorem dX1_close_5 : decode cX1_close 5 = .ok (.aload_n 0, 1) := by decide +kernel
theorem dX1_close_6 : decode cX1_close 6 = .ok (.iconst 0, 1) := by decide +kernel
theorem dX1_close_7 : decode cX1_close 7 = .ok (.putfield 37, 3) := by decide +kernel
theorem dX1_close_10 : decode cX1_close 10 = .ok (.aload_n 0, 1) := by decide +kernel
theorem dX1_close_11 : decode cX1_close 11 = .ok (.iconst 0, 1) := by decide +kernel
theorem dX1_close_12 : decode cX1_close 12 = .ok (.putfield 40, 3) := by decide +kernel
theorem dX1_close_15 : decode cX1_close 15 = .ok (.return_, 1) := by decide +kernel
theorem dX1_copyFrom_0 : decode cX1_copyFrom 0 = .ok (.aload_n 1, 1) := by decide +kernel
theorem dX1_copyFrom_1 : decode cX1_copyFrom 1 = .ok (.getfield 9, 3) := by decide +kernel
theorem dX1_copyFrom_4 : decode cX1_copyFrom 4 = .ok (.iconst 0, 1) := by decide +kernel
theorem dX1_copyFrom_5 : decode cX1_copyFrom 5 = .ok (.aload_n 0, 1) := by decide +kernel
theorem dX1_copyFrom_6 : decode cX1_copyFrom 6 = .ok (.getfield 9, 3) := by decide +kernel
theorem dX1_copyFrom_9 : decode cX1_copyFrom 9 = .ok (.iconst 0, 1) := by decide +kernel
theorem dX1_copyFrom_10 : decode cX1_copyFrom 10 = .ok (.iconst 5, 1) := by decide +kernel
theorem dX1_copyFrom_11 : decode cX1_copyFrom 11 = .ok (.invokestatic 43, 3) := by decide +kernel
theorem dX1_copyFrom_14 : decode cX1_copyFrom 14 = .ok (.aload_n 1, 1) := by decide +kernel
theorem dX1_copyFrom_15 : decode cX1_copyFrom 15 = .ok (.getfield 15, 3) := by decide +kernel
theorem dX1_copyFrom_18 : decode cX1_copyFrom 18 = .ok (.iconst 0, 1) := by decide +kernel
theorem dX1_copyFrom_19 : decode cX1_copyFrom 19 = .ok (.aload_n 0, 1) := by decide +kernel
theorem dX1_copyFrom_20 : decode cX1_copyFrom 20 = .ok (.getfield 15, 3) := by decide +kernel
theorem dX1_copyFrom_23 : decode cX1_copyFrom 23 = .ok (.iconst 0, 1) := by decide +kernel
theorem dX1_copyFrom_24 : decode cX1_copyFrom 24 = .ok (.iconst 5, 1) := by decide +kernel
theorem dX1_copyFrom_25 : decode cX1_copyFrom 25 = .ok (.invokestatic 43, 3) := by decide +kernel
theorem dX1_copyFrom_28 : decode cX1_copyFrom 28 = .ok (.aload_n 1, 1) := by decide +kernel
theorem dX1_copyFrom_29 : decode cX1_copyFrom 29 = .ok (.getfield 18, 3) := by decide +kernel
theorem dX1_copyFrom_32 : decode cX1_copyFrom 32 = .ok (.iconst 0, 1) := by decide +kernel
theorem dX1_copyFrom_33 : decode cX1_copyFrom 33 = .ok (.aload_n 0, 1) := by decide +kernel
theorem dX1_copyFrom_34 : decode cX1_copyFrom 34 = .ok (.getfield 18, 3) := by decide +kernel
theorem dX1_copyFrom_37 : decode cX1_copyFrom 37 = .ok (.iconst 0, 1) := by decide +kernel
theorem dX1_copyFrom_38 : decode cX1_copyFrom 38 = .ok (.iconst 4, 1) := by decide +kernel
theorem dX1_copyFrom_39 : decode cX1_copyFrom 39 = .ok (.invokestatic 43, 3) := by decide +kernel
theorem dX1_copyFrom_42 : decode cX1_copyFrom 42 = .ok (.aload_n 1, 1) := by decide +kernel
theorem dX1_copyFrom_43 : decode cX1_copyFrom 43 = .ok (.getfield 21, 3) := by decide +kernel
theorem dX1_copyFrom_46 : decode cX1_copyFrom 46 = .ok (.iconst 0, 1) := by decide +kernel
theorem dX1_copyFrom_47 : decode cX1_copyFrom 47 = .ok (.aload_n 0, 1) := by decide +kernel
theorem dX1_copyFrom_48 : decode cX1_copyFrom 48 = .ok (.getfield 21, 3) := by decide +kernel
theorem dX1_copyFrom_51 : decode cX1_copyFrom 51 = .ok (.iconst 0, 1) := by decide +kernel
theorem dX1_copyFrom_52 : decode cX1_copyFrom 52 = .ok (.iconst 4, 1) := by decide +kernel
theorem dX1_copyFrom_53 : decode cX1_copyFrom 53 = .ok (.invokestatic 43, 3) := by decide +kernel
theorem dX1_copyFrom_56 : decode cX1_copyFrom 56 = .ok (.aload_n 1, 1) := by decide +kernel
theorem dX1_copyFrom_57 : decode cX1_copyFrom 57 = .ok (.getfield 24, 3) := by decide +kernel
theorem dX1_copyFrom_60 : decode cX1_copyFrom 60 = .ok (.iconst 0, 1) := by decide +kernel
theorem dX1_copyFrom_61 : decode cX1_copyFrom 61 = .ok (.aload_n 0, 1) := by decide +kernel
theorem dX1_copyFrom_62 : decode cX1_copyFrom 62 = .ok (.getfield 24, 3) := by decide +kernel
theorem dX1_copyFrom_65 : decode cX1_copyFrom 65 = .ok (.iconst 0, 1) := by decide +kernel
theorem dX1_copyFrom_66 : decode cX1_copyFrom 66 = .ok (.iconst 4, 1) := by decide +kernel
theorem dX1_copyFrom_67 : decode cX1_copyFrom 67 = .ok (.invokestatic 43, 3) := by decide +kernel
theorem dX1_copyFrom_70 : decode cX1_copyFrom 70 = .ok (.aload_n 1, 1) := by decide +kernel
theorem dX1_copyFrom_71 : decode cX1_copyFrom 71 = .ok (.getfield 27, 3) := by decide +kernel
theorem dX1_copyFrom_74 : decode cX1_copyFrom 74 = .ok (.iconst 0, 1) := by decide +kernel
theorem dX1_copyFrom_75 : decode cX1_copyFrom 75 = .ok (.aload_n 0, 1) := by decide +kernel
theorem dX1_copyFrom_76 : decode cX1_copyFrom 76 = .ok (.getfield 27, 3) := by decide +kernel
theorem dX1_copyFrom_79 : decode cX1_copyFrom 79 = .ok (.iconst 0, 1) := by decide +kernel
theorem dX1_copyFrom_80 : decode cX1_copyFrom 80 = .ok (.iconst 4, 1) := by decide +kernel
theorem dX1_copyFrom_81 : decode cX1_copyFrom 81 = .ok (.invokestatic 43, 3) := by decide +kernel
theorem dX1_copyFrom_84 : decode cX1_copyFrom 84 = .ok (.aload_n 1, 1) := by decide +kernel
theorem dX1_copyFrom_85 : decode cX1_copyFrom 85 = .ok (.getfield 30, 3) := by decide +kernel
theorem dX1_copyFrom_88 : decode cX1_copyFrom 88 = .ok (.iconst 0, 1) := by decide +kernel
theorem dX1_copyFrom_89 : decode cX1_copyFrom 89 = .ok (.aload_n 0, 1) := by decide +kernel
theorem dX1_copyFrom_90 : decode cX1_copyFrom 90 = .ok (.getfield 30, 3) := by decide +kernel
theorem dX1_copyFrom_93 : decode cX1_copyFrom 93 = .ok (.iconst 0, 1) := by decide +kernel
theorem dX1_copyFrom_94 : decode cX1_copyFrom 94 = .ok (.iconst 4, 1) := by decide +kernel
theorem dX1_copyFrom_95 : decode cX1_copyFrom 95 = .ok (.invokestatic 43, 3) := by decide +kernel
theorem dX1_copyFrom_98 : decode cX1_copyFrom 98 = .ok (.aload_n 0, 1) := by decide +kernel
theorem dX1_copyFrom_99 : decode cX1_copyFrom 99 = .ok (.aload_n 1, 1) := by decide +kernel
theorem dX1_copyFrom_100 : decode cX1_copyFrom 100 = .ok (.getfield 33, 3) := by decide +kernel
theorem dX1_copyFrom_103 : decode cX1_copyFrom 103 = .ok (.putfield 33, 3) := by decide +kernel
theorem dX1_copyFrom_106 : decode cX1_copyFrom 106 = .ok (.aload_n 0, 1) := by decide +kernel
theorem dX1_copyFrom_107 : decode cX1_copyFrom 107 = .ok (.aload_n 1, 1) := by decide +kernel
theorem dX1_copyFrom_108 : decode cX1_copyFrom 108 = .ok (.getfield 37, 3) := by decide +kernel
theorem dX1_copyFrom_111 : decode cX1_copyFrom 111 = .ok (.putfield 37, 3) := by decide +kernel
theorem dX1_copyFrom_114 : decode cX1_copyFrom 114 = .ok (.aload_n 0, 1) := by decide +kernel
theorem dX1_copyFrom_115 : decode cX1_copyFrom 115 = .ok (.aload_n 1, 1) := by decide +kernel
theorem dX1_copyFrom_116 : decode cX1_copyFrom 116 = .ok (.getfield 49, 3) := by decide +kernel
theorem dX1_copyFrom_119 : decode cX1_copyFrom 119 = .ok (.putfield 49, 3) := by decide +kernel
theorem dX1_copyFrom_122 : decode cX1_copyFrom 122 = .ok (.aload_n 0, 1) := by decide +kernel
theorem dX1_copyFrom_123 : decode cX1_copyFrom 123 = .ok (.aload_n 1, 1) := by decide +kernel
theorem dX1_copyFrom_124 : decode cX1_copyFrom 124 = .ok (.getfield 52, 3) := by decide +kernel
theorem dX1_copyFrom_127 : decode cX1_copyFrom 127 = .ok (.putfield 52, 3) := by decide +kernel
theorem dX1_copyFrom_130 : decode cX1_copyFrom 130 = .ok (.aload_n 0, 1) := by decide +kernel
theorem dX1_copyFrom_131 : decode cX1_copyFrom 131 = .ok (.aload_n 1, 1) := by decide +kernel
theorem dX1_copyFrom_132 : decode cX1_copyFrom 132 = .ok (.getfield 40, 3) := by decide +kernel
theorem dX1_copyFrom_135 : decode cX1_copyFrom 135 = .ok (.putfield 40, 3) := by decide +kernel
theorem dX1_copyFrom_138 : decode cX1_copyFrom 138 = .ok (.return_, 1) := by decide +kernel
theorem dX1_isOpen_0 : decode cX1_isOpen 0 = .ok (.aload_n 0, 1) := by decide +kernel
theorem dX1_isOpen_1 : decode cX1_isOpen 1 = .ok (.getfield 33, 3) := by decide +kernel
theorem dX1_isOpen_4 : decode cX1_isOpen 4 = .ok (.ifCond .le 7, 3) := by decide +kernel
theorem dX1_isOpen_7 : decode cX1_isOpen 7 = .ok (.iconst 1, 1) := by decide +kernel
theorem dX1_isOpen_8 : decode cX1_isOpen 8 = .ok (.goto 4, 3) := by decide +kernel
theorem dX1_isOpen_11 : decode cX1_isOpen 11 = .ok (.iconst 0, 1) := by decide +kernel
theorem dX1_isOpen_12 : decode cX1_isOpen 12 = .ok (.ireturn, 1) := by decide +kernel
theorem dX1_hasClient_0 : decode cX1_hasClient 0 = .ok (.iload_n 1, 1) := by decide +kernel
theorem dX1_hasClient_1 : decode cX1_hasClient 1 = .ok (.ifCond .lt 15, 3) := by decide +kernel
theorem dX1_hasClient_4 : decode cX1_hasClient 4 = .ok (.iload_n 1, 1) := by decide +kernel
theorem dX1_hasClient_5 : decode cX1_hasClient 5 = .ok (.aload_n 0, 1) := by decide +kernel
theorem dX1_hasClient_6 : decode cX1_hasClient 6 = .ok (.getfield 33, 3) := by decide +kernel
theorem dX1_hasClient_9 : decode cX1_hasClient 9 = .ok (.if_icmp .ge 7, 3) := by decide +kernel
theorem dX1_hasClient_12 : decode cX1_hasClient 12 = .ok (.iconst 1, 1) := by decide +kernel
theorem dX1_hasClient_13 : decode cX1_hasClient 13 = .ok (.goto 4, 3) := by decide +kernel
theorem dX1_hasClient_16 : decode cX1_hasClient 16 = .ok (.iconst 0, 1) := by decide +kernel
theorem dX1_hasClient_17 : decode cX1_hasClient 17 = .ok (.ireturn, 1) := by decide +kernel
theorem dX1_hasWaker_0 : decode cX1_hasWaker 0 = .ok (.iload_n 1, 1) := by decide +kernel
theorem dX1_hasWaker_1 : decode cX1_hasWaker 1 = .ok (.ifCond .lt 15, 3) := by decide +kernel
theorem dX1_hasWaker_4 : decode cX1_hasWaker 4 = .ok (.iload_n 1, 1) := by decide +kernel
theorem dX1_hasWaker_5 : decode cX1_hasWaker 5 = .ok (.aload_n 0, 1) := by decide +kernel
theorem dX1_hasWaker_6 : decode cX1_hasWaker 6 = .ok (.getfield 37, 3) := by decide +kernel
theorem dX1_hasWaker_9 : decode cX1_hasWaker 9 = .ok (.if_icmp .ge 7, 3) := by decide +kernel
theorem dX1_hasWaker_12 : decode cX1_hasWaker 12 = .ok (.iconst 1, 1) := by decide +kernel
theorem dX1_hasWaker_13 : decode cX1_hasWaker 13 = .ok (.goto 4, 3) := by decide +kernel
theorem dX1_hasWaker_16 : decode cX1_hasWaker 16 = .ok (.iconst 0, 1) := by decide +kernel
theorem dX1_hasWaker_17 : decode cX1_hasWaker 17 = .ok (.ireturn, 1) := by decide +kernel
theorem dX1_hasAll_0 : decode cX1_hasAll 0 = .ok (.iload_n 1, 1) := by decide +kernel
theorem dX1_hasAll_1 : decode cX1_hasAll 1 = .ok (.ifCond .lt 17, 3) := by decide +kernel
theorem dX1_hasAll_4 : decode cX1_hasAll 4 = .ok (.iload_n 1, 1) := by decide +kernel
theorem dX1_hasAll_5 : decode cX1_hasAll 5 = .ok (.iconst 1, 1) := by decide +kernel
theorem dX1_hasAll_6 : decode cX1_hasAll 6 = .ok (.aload_n 0, 1) := by decide +kernel
theorem dX1_hasAll_7 : decode cX1_hasAll 7 = .ok (.getfield 33, 3) := by decide +kernel
theorem dX1_hasAll_10 : decode cX1_hasAll 10 = .ok (.ishl, 1) := by decide +kernel
theorem dX1_hasAll_11 : decode cX1_hasAll 11 = .ok (.if_icmp .ge 7, 3) := by decide +kernel
theorem dX1_hasAll_14 : decode cX1_hasAll 14 = .ok (.iconst 1, 1) := by decide +kernel
theorem dX1_hasAll_15 : decode cX1_hasAll 15 = .ok (.goto 4, 3) := by decide +kernel
theorem dX1_hasAll_18 : decode cX1_hasAll 18 = .ok (.iconst 0, 1) := by decide +kernel
theorem dX1_hasAll_19 : decode cX1_hasAll 19 = .ok (.ireturn, 1) := by decide +kernel
theorem dX1_lying_0 : decode cX1_lying 0 = .ok (.aload_n 0, 1) := by decide +kernel
theorem dX1_lying_1 : decode cX1_lying 1 = .ok (.iload_n 1, 1) := by decide +kernel
theorem dX1_lying_2 : decode cX1_lying 2 = .ok (.invokevirtual 55, 3) := by decide +kernel
theorem dX1_lying_5 : decode cX1_lying 5 = .ok (.ifCond .eq 11, 3) := by decide +kernel
theorem dX1_lying_8 : decode cX1_lying 8 = .ok (.aload_n 0, 1) := by decide +kernel
theorem dX1_lying_9 : decode cX1_lying 9 = .ok (.iload_n 2, 1) := by decide +kernel
theorem dX1_lying_10 : decode cX1_lying 10 = .ok (.invokevirtual 59, 3) := by decide +kernel
theorem dX1_lying_13 : decode cX1_lying 13 = .ok (.ifCond .ne 5, 3) := by decide +kernel
theorem dX1_lying_16 : decode cX1_lying 16 = .ok (.iconst 0, 1) := by decide +kernel
theorem dX1_lying_17 : decode cX1_lying 17 = .ok (.ireturn, 1) := by decide +kernel
theorem dX1_lying_18 : decode cX1_lying 18 = .ok (.aload_n 0, 1) := by decide +kernel
theorem dX1_lying_19 : decode cX1_lying 19 = .ok (.getfield 21, 3) := by decide +kernel
theorem dX1_lying_22 : decode cX1_lying 22 = .ok (.iload_n 1, 1) := by decide +kernel
theorem dX1_lying_23 : decode cX1_lying 23 = .ok (.iaload, 1) := by decide +kernel
theorem dX1_lying_24 : decode cX1_lying 24 = .ok (.istore 4, 2) := by decide +kernel
theorem dX1_lying_26 : decode cX1_lying 26 = .ok (.aload_n 0, 1) := by decide +kernel
theorem dX1_lying_27 : decode cX1_lying 27 = .ok (.getfield 18, 3) := by decide +kernel
theorem dX1_lying_30 : decode cX1_lying 30 = .ok (.iload_n 1, 1) := by decide +kernel
theorem dX1_lying_31 : decode cX1_lying 31 = .ok (.iaload, 1) := by decide +kernel
theorem dX1_lying_32 : decode cX1_lying 32 = .ok (.tableswitch 98 2 5 #[32, 50, 75, 82], 32) := by decide +kernel
theorem dX1_lying_64 : decode cX1_lying 64 = .ok (.iload_n 3, 1) := by decide +kernel
theorem dX1_lying_65 : decode cX1_lying 65 = .ok (.bipush 7, 2) := by decide +kernel
theorem dX1_lying_67 : decode cX1_lying 67 = .ok (.irem, 1) := by decide +kernel
theorem dX1_lying_68 : decode cX1_lying 68 = .ok (.aload_n 0, 1) := by decide +kernel
theorem dX1_lying_69 : decode cX1_lying 69 = .ok (.getfield 52, 3) := by decide +kernel
theorem dX1_lying_72 : decode cX1_lying 72 = .ok (.if_icmp .ne 7, 3) := by decide +kernel
theorem dX1_lying_75 : decode cX1_lying 75 = .ok (.iconst 0, 1) := by decide +kernel
theorem dX1_lying_76 : decode cX1_lying 76 = .ok (.goto 5, 3) := by decide +kernel
theorem dX1_lying_79 : decode cX1_lying 79 = .ok (.iload 4, 2) := by decide +kernel
theorem dX1_lying_81 : decode cX1_lying 81 = .ok (.ireturn, 1) := by decide +kernel
theorem dX1_lying_82 : decode cX1_lying 82 = .ok (.aload_n 0, 1) := by decide +kernel
theorem dX1_lying_83 : decode cX1_lying 83 = .ok (.getfield 24, 3) := by decide +kernel
theorem dX1_lying_86 : decode cX1_lying 86 = .ok (.iload_n 1, 1) := by decide +kernel
theorem dX1_lying_87 : decode cX1_lying 87 = .ok (.iaload, 1) := by decide +kernel
theorem dX1_lying_88 : decode cX1_lying 88 = .ok (.aload_n 0, 1) := by decide +kernel
theorem dX1_lying_89 : decode cX1_lying 89 = .ok (.getfield 15, 3) := by decide +kernel
theorem dX1_lying_92 : decode cX1_lying 92 = .ok (.iload_n 2, 1) := by decide +kernel
theorem dX1_lying_93 : decode cX1_lying 93 = .ok (.iaload, 1) := by decide +kernel
theorem dX1_lying_94 : decode cX1_lying 94 = .ok (.if_icmp .ne 10, 3) := by decide +kernel
theorem dX1_lying_97 : decode cX1_lying 97 = .ok (.iconst 2, 1) := by decide +kernel
theorem dX1_lying_98 : decode cX1_lying 98 = .ok (.iload 4, 2) := by decide +kernel
theorem dX1_lying_100 : decode cX1_lying 100 = .ok (.imul, 1) := by decide +kernel
theorem dX1_lying_101 : decode cX1_lying 101 = .ok (.goto 5, 3) := by decide +kernel
theorem dX1_lying_104 : decode cX1_lying 104 = .ok (.iload 4, 2) := by decide +kernel
theorem dX1_lying_106 : decode cX1_lying 106 = .ok (.ireturn, 1) := by decide +kernel
theorem dX1_lying_107 : decode cX1_lying 107 = .ok (.iload 4, 2) := by decide +kernel
theorem dX1_lying_109 : decode cX1_lying 109 = .ok (.iload_n 3, 1) := by decide +kernel
theorem dX1_lying_110 : decode cX1_lying 110 = .ok (.invokestatic 62, 3) := by decide +kernel
theorem dX1_lying_113 : decode cX1_lying 113 = .ok (.ireturn, 1) := by decide +kernel
theorem dX1_lying_114 : decode cX1_lying 114 = .ok (.bipush 9, 2) := by decide +kernel
theorem dX1_lying_116 : decode cX1_lying 116 = .ok (.iload 4, 2) := by decide +kernel
theorem dX1_lying_118 : decode cX1_lying 118 = .ok (.iload_n 3, 1) := by decide +kernel
theorem dX1_lying_119 : decode cX1_lying 119 = .ok (.invokestatic 62, 3) := by decide +kernel
theorem dX1_lying_122 : decode cX1_lying 122 = .ok (.iload_n 3, 1) := by decide +kernel
theorem dX1_lying_123 : decode cX1_lying 123 = .ok (.iconst 2, 1) := by decide +kernel
theorem dX1_lying_124 : decode cX1_lying 124 = .ok (.idiv, 1) := by decide +kernel
theorem dX1_lying_125 : decode cX1_lying 125 = .ok (.iadd, 1) := by decide +kernel
theorem dX1_lying_126 : decode cX1_lying 126 = .ok (.invokestatic 66, 3) := by decide +kernel
theorem dX1_lying_129 : decode cX1_lying 129 = .ok (.ireturn, 1) := by decide +kernel
theorem dX1_lying_130 : decode cX1_lying 130 = .ok (.iload 4, 2) := by decide +kernel
theorem dX1_lying_132 : decode cX1_lying 132 = .ok (.ireturn, 1) := by decide +kernel
theorem dX1_guarding_0 : decode cX1_guarding 0 = .ok (.iload_n 1, 1) := by decide +kernel
theorem dX1_guarding_1 : decode cX1_guarding 1 = .ok (.iconst 3, 1) := by decide +kernel
theorem dX1_guarding_2 : decode cX1_guarding 2 = .ok (.irem, 1) := by decide +kernel
theorem dX1_guarding_3 : decode cX1_guarding 3 = .ok (.iconst 2, 1) := by decide +kernel
theorem dX1_guarding_4 : decode cX1_guarding 4 = .ok (.if_icmp .ne 7, 3) := by decide +kernel
theorem dX1_guarding_7 : decode cX1_guarding 7 = .ok (.iconst 0, 1) := by decide +kernel
theorem dX1_guarding_8 : decode cX1_guarding 8 = .ok (.goto 4, 3) := by decide +kernel
theorem dX1_guarding_11 : decode cX1_guarding 11 = .ok (.iload_n 0, 1) := by decide +kernel
theorem dX1_guarding_12 : decode cX1_guarding 12 = .ok (.ireturn, 1) := by decide +kernel
theorem dX1_takenBy_0 : decode cX1_takenBy 0 = .ok (.aload_n 0, 1) := by decide +kernel
theorem dX1_takenBy_1 : decode cX1_takenBy 1 = .ok (.iload_n 1, 1) := by decide +kernel
theorem dX1_takenBy_2 : decode cX1_takenBy 2 = .ok (.invokevirtual 55, 3) := by decide +kernel
theorem dX1_takenBy_5 : decode cX1_takenBy 5 = .ok (.ifCond .eq 11, 3) := by decide +kernel
theorem dX1_takenBy_8 : decode cX1_takenBy 8 = .ok (.aload_n 0, 1) := by decide +kernel
theorem dX1_takenBy_9 : decode cX1_takenBy 9 = .ok (.iload_n 2, 1) := by decide +kernel
theorem dX1_takenBy_10 : decode cX1_takenBy 10 = .ok (.invokevirtual 59, 3) := by decide +kernel
theorem dX1_takenBy_13 : decode cX1_takenBy 13 = .ok (.ifCond .ne 5, 3) := by decide +kernel
theorem dX1_takenBy_16 : decode cX1_takenBy 16 = .ok (.iconst 0, 1) := by decide +kernel
theorem dX1_takenBy_17 : decode cX1_takenBy 17 = .ok (.ireturn, 1) := by decide +kernel
theorem dX1_takenBy_18 : decode cX1_takenBy 18 = .ok (.aload_n 0, 1) := by decide +kernel
theorem dX1_takenBy_19 : decode cX1_takenBy 19 = .ok (.iload_n 1, 1) := by decide +kernel
theorem dX1_takenBy_20 : decode cX1_takenBy 20 = .ok (.iload_n 2, 1) := by decide +kernel
theorem dX1_takenBy_21 : decode cX1_takenBy 21 = .ok (.iload_n 3, 1) := by decide +kernel
theorem dX1_takenBy_22 : decode cX1_takenBy 22 = .ok (.invokevirtual 71, 3) := by decide +kernel
theorem dX1_takenBy_25 : decode cX1_takenBy 25 = .ok (.istore 4, 2) := by decide +kernel
theorem dX1_takenBy_27 : decode cX1_takenBy 27 = .ok (.aload_n 0, 1) := by decide +kernel
theorem dX1_takenBy_28 : decode cX1_takenBy 28 = .ok (.getfield 24, 3) := by decide +kernel
theorem dX1_takenBy_31 : decode cX1_takenBy 31 = .ok (.iload_n 1, 1) := by decide +kernel
theorem dX1_takenBy_32 : decode cX1_takenBy 32 = .ok (.iaload, 1) := by decide +kernel
theorem dX1_takenBy_33 : decode cX1_takenBy 33 = .ok (.aload_n 0, 1) := by decide +kernel
theorem dX1_takenBy_34 : decode cX1_takenBy 34 = .ok (.getfield 15, 3) := by decide +kernel
theorem dX1_takenBy_37 : decode cX1_takenBy 37 = .ok (.iload_n 2, 1) := by decide +kernel
theorem dX1_takenBy_38 : decode cX1_takenBy 38 = .ok (.iaload, 1) := by decide +kernel
theorem dX1_takenBy_39 : decode cX1_takenBy 39 = .ok (.if_icmp .ne 8, 3) := by decide +kernel
theorem dX1_takenBy_42 : decode cX1_takenBy 42 = .ok (.iload 4, 2) := by decide +kernel
theorem dX1_takenBy_44 : decode cX1_takenBy 44 = .ok (.goto 7, 3) := by decide +kernel
theorem dX1_takenBy_47 : decode cX1_takenBy 47 = .ok (.iload 4, 2) := by decide +kernel
theorem dX1_takenBy_49 : decode cX1_takenBy 49 = .ok (.iconst 2, 1) := by decide +kernel
theorem dX1_takenBy_50 : decode cX1_takenBy 50 = .ok (.idiv, 1) := by decide +kernel
theorem dX1_takenBy_51 : decode cX1_takenBy 51 = .ok (.ireturn, 1) := by decide +kernel
theorem dX1_lighterBy_0 : decode cX1_lighterBy 0 = .ok (.iconst 0, 1) := by decide +kernel
theorem dX1_lighterBy_1 : decode cX1_lighterBy 1 = .ok (.istore_n 3, 1) := by decide +kernel
theorem dX1_lighterBy_2 : decode cX1_lighterBy 2 = .ok (.aload_n 0, 1) := by decide +kernel
theorem dX1_lighterBy_3 : decode cX1_lighterBy 3 = .ok (.iload_n 1, 1) := by decide +kernel
theorem dX1_lighterBy_4 : decode cX1_lighterBy 4 = .ok (.invokevirtual 75, 3) := by decide +kernel
theorem dX1_lighterBy_7 : decode cX1_lighterBy 7 = .ok (.iload_n 2, 1) := by decide +kernel
theorem dX1_lighterBy_8 : decode cX1_lighterBy 8 = .ok (.iand, 1) := by decide +kernel
theorem dX1_lighterBy_9 : decode cX1_lighterBy 9 = .ok (.istore 4, 2) := by decide +kernel
theorem dX1_lighterBy_11 : decode cX1_lighterBy 11 = .ok (.iconst 0, 1) := by decide +kernel
theorem dX1_lighterBy_12 : decode cX1_lighterBy 12 = .ok (.istore 5, 2) := by decide +kernel
theorem dX1_lighterBy_14 : decode cX1_lighterBy 14 = .ok (.iload 5, 2) := by decide +kernel
theorem dX1_lighterBy_16 : decode cX1_lighterBy 16 = .ok (.aload_n 0, 1) := by decide +kernel
theorem dX1_lighterBy_17 : decode cX1_lighterBy 17 = .ok (.getfield 37, 3) := by decide +kernel
theorem dX1_lighterBy_20 : decode cX1_lighterBy 20 = .ok (.if_icmp .ge 36, 3) := by decide +kernel
theorem dX1_lighterBy_23 : decode cX1_lighterBy 23 = .ok (.iload 4, 2) := by decide +kernel
theorem dX1_lighterBy_25 : decode cX1_lighterBy 25 = .ok (.iload 5, 2) := by decide +kernel
theorem dX1_lighterBy_27 : decode cX1_lighterBy 27 = .ok (.ishr, 1) := by decide +kernel
theorem dX1_lighterBy_28 : decode cX1_lighterBy 28 = .ok (.iconst 1, 1) := by decide +kernel
theorem dX1_lighterBy_29 : decode cX1_lighterBy 29 = .ok (.iand, 1) := by decide +kernel
theorem dX1_lighterBy_30 : decode cX1_lighterBy 30 = .ok (.iconst 1, 1) := by decide +kernel
theorem dX1_lighterBy_31 : decode cX1_lighterBy 31 = .ok (.if_icmp .ne 19, 3) := by decide +kernel
theorem dX1_lighterBy_34 : decode cX1_lighterBy 34 = .ok (.iload_n 3, 1) := by decide +kernel
theorem dX1_lighterBy_35 : decode cX1_lighterBy 35 = .ok (.aload_n 0, 1) := by decide +kernel
theorem dX1_lighterBy_36 : decode cX1_lighterBy 36 = .ok (.iload 5, 2) := by decide +kernel
theorem dX1_lighterBy_38 : decode cX1_lighterBy 38 = .ok (.iload_n 1, 1) := by decide +kernel
theorem dX1_lighterBy_39 : decode cX1_lighterBy 39 = .ok (.aload_n 0, 1) := by decide +kernel
theorem dX1_lighterBy_40 : decode cX1_lighterBy 40 = .ok (.getfield 40, 3) := by decide +kernel
theorem dX1_lighterBy_43 : decode cX1_lighterBy 43 = .ok (.invokevirtual 79, 3) := by decide +kernel
theorem dX1_lighterBy_46 : decode cX1_lighterBy 46 = .ok (.invokestatic 82, 3) := by decide +kernel
theorem dX1_lighterBy_49 : decode cX1_lighterBy 49 = .ok (.istore_n 3, 1) := by decide +kernel
theorem dX1_lighterBy_50 : decode cX1_lighterBy 50 = .ok (.iinc 5 1, 3) := by decide +kernel
theorem dX1_lighterBy_53 : decode cX1_lighterBy 53 = .ok (.goto (-39), 3) := by decide +kernel
theorem dX1_lighterBy_56 : decode cX1_lighterBy 56 = .ok (.iload_n 3, 1) := by decide +kernel
theorem dX1_lighterBy_57 : decode cX1_lighterBy 57 = .ok (.ireturn, 1) := by decide +kernel
theorem dX1_hiredBy_0 : decode cX1_hiredBy 0 = .ok (.iconst 0, 1) := by decide +kernel
theorem dX1_hiredBy_1 : decode cX1_hiredBy 1 = .ok (.istore_n 2, 1) := by decide +kernel
theorem dX1_hiredBy_2 : decode cX1_hiredBy 2 = .ok (.iconst 0, 1) := by decide +kernel
theorem dX1_hiredBy_3 : decode cX1_hiredBy 3 = .ok (.istore_n 3, 1) := by decide +kernel
theorem dX1_hiredBy_4 : decode cX1_hiredBy 4 = .ok (.iload_n 3, 1) := by decide +kernel
theorem dX1_hiredBy_5 : decode cX1_hiredBy 5 = .ok (.aload_n 0, 1) := by decide +kernel
theorem dX1_hiredBy_6 : decode cX1_hiredBy 6 = .ok (.getfield 37, 3) := by decide +kernel
theorem dX1_hiredBy_9 : decode cX1_hiredBy 9 = .ok (.if_icmp .ge 25, 3) := by decide +kernel
theorem dX1_hiredBy_12 : decode cX1_hiredBy 12 = .ok (.aload_n 0, 1) := by decide +kernel
theorem dX1_hiredBy_13 : decode cX1_hiredBy 13 = .ok (.getfield 27, 3) := by decide +kernel
theorem dX1_hiredBy_16 : decode cX1_hiredBy 16 = .ok (.iload_n 3, 1) := by decide +kernel
theorem dX1_hiredBy_17 : decode cX1_hiredBy 17 = .ok (.iaload, 1) := by decide +kernel
theorem dX1_hiredBy_18 : decode cX1_hiredBy 18 = .ok (.iload_n 1, 1) := by decide +kernel
theorem dX1_hiredBy_19 : decode cX1_hiredBy 19 = .ok (.if_icmp .ne 9, 3) := by decide +kernel
theorem dX1_hiredBy_22 : decode cX1_hiredBy 22 = .ok (.iload_n 2, 1) := by decide +kernel
theorem dX1_hiredBy_23 : decode cX1_hiredBy 23 = .ok (.iconst 1, 1) := by decide +kernel
theorem dX1_hiredBy_24 : decode cX1_hiredBy 24 = .ok (.iload_n 3, 1) := by decide +kernel
theorem dX1_hiredBy_25 : decode cX1_hiredBy 25 = .ok (.ishl, 1) := by decide +kernel
theorem dX1_hiredBy_26 : decode cX1_hiredBy 26 = .ok (.ior, 1) := by decide +kernel
theorem dX1_hiredBy_27 : decode cX1_hiredBy 27 = .ok (.istore_n 2, 1) := by decide +kernel
theorem dX1_hiredBy_28 : decode cX1_hiredBy 28 = .ok (.iinc 3 1, 3) := by decide +kernel
theorem dX1_hiredBy_31 : decode cX1_hiredBy 31 = .ok (.goto (-27), 3) := by decide +kernel
theorem dX1_hiredBy_34 : decode cX1_hiredBy 34 = .ok (.iload_n 2, 1) := by decide +kernel
theorem dX1_hiredBy_35 : decode cX1_hiredBy 35 = .ok (.ireturn, 1) := by decide +kernel
theorem dX1_passNight_0 : decode cX1_passNight 0 = .ok (.iconst 0, 1) := by decide +kernel
theorem dX1_passNight_1 : decode cX1_passNight 1 = .ok (.istore_n 2, 1) := by decide +kernel
theorem dX1_passNight_2 : decode cX1_passNight 2 = .ok (.iload_n 2, 1) := by decide +kernel
theorem dX1_passNight_3 : decode cX1_passNight 3 = .ok (.aload_n 0, 1) := by decide +kernel
theorem dX1_passNight_4 : decode cX1_passNight 4 = .ok (.getfield 33, 3) := by decide +kernel
theorem dX1_passNight_7 : decode cX1_passNight 7 = .ok (.if_icmp .ge 30, 3) := by decide +kernel
theorem dX1_passNight_10 : decode cX1_passNight 10 = .ok (.aload_n 0, 1) := by decide +kernel
theorem dX1_passNight_11 : decode cX1_passNight 11 = .ok (.getfield 9, 3) := by decide +kernel
theorem dX1_passNight_14 : decode cX1_passNight 14 = .ok (.iload_n 2, 1) := by decide +kernel
theorem dX1_passNight_15 : decode cX1_passNight 15 = .ok (.aload_n 0, 1) := by decide +kernel
theorem dX1_passNight_16 : decode cX1_passNight 16 = .ok (.getfield 9, 3) := by decide +kernel
theorem dX1_passNight_19 : decode cX1_passNight 19 = .ok (.iload_n 2, 1) := by decide +kernel
theorem dX1_passNight_20 : decode cX1_passNight 20 = .ok (.iaload, 1) := by decide +kernel
theorem dX1_passNight_21 : decode cX1_passNight 21 = .ok (.aload_n 0, 1) := by decide +kernel
theorem dX1_passNight_22 : decode cX1_passNight 22 = .ok (.iload_n 2, 1) := by decide +kernel
theorem dX1_passNight_23 : decode cX1_passNight 23 = .ok (.iload_n 1, 1) := by decide +kernel
theorem dX1_passNight_24 : decode cX1_passNight 24 = .ok (.invokevirtual 85, 3) := by decide +kernel
theorem dX1_passNight_27 : decode cX1_passNight 27 = .ok (.invokestatic 88, 3) := by decide +kernel
theorem dX1_passNight_30 : decode cX1_passNight 30 = .ok (.iastore, 1) := by decide +kernel
theorem dX1_passNight_31 : decode cX1_passNight 31 = .ok (.iinc 2 1, 3) := by decide +kernel
theorem dX1_passNight_34 : decode cX1_passNight 34 = .ok (.goto (-32), 3) := by decide +kernel
theorem dX1_passNight_37 : decode cX1_passNight 37 = .ok (.iconst 0, 1) := by decide +kernel
theorem dX1_passNight_38 : decode cX1_passNight 38 = .ok (.istore_n 2, 1) := by decide +kernel
theorem dX1_passNight_39 : decode cX1_passNight 39 = .ok (.iload_n 2, 1) := by decide +kernel
theorem dX1_passNight_40 : decode cX1_passNight 40 = .ok (.aload_n 0, 1) := by decide +kernel
theorem dX1_passNight_41 : decode cX1_passNight 41 = .ok (.getfield 37, 3) := by decide +kernel
theorem dX1_passNight_44 : decode cX1_passNight 44 = .ok (.if_icmp .ge 42, 3) := by decide +kernel
theorem dX1_passNight_47 : decode cX1_passNight 47 = .ok (.iload_n 1, 1) := by decide +kernel
theorem dX1_passNight_48 : decode cX1_passNight 48 = .ok (.iload_n 2, 1) := by decide +kernel
theorem dX1_passNight_49 : decode cX1_passNight 49 = .ok (.ishr, 1) := by decide +kernel
theorem dX1_passNight_50 : decode cX1_passNight 50 = .ok (.iconst 1, 1) := by decide +kernel
theorem dX1_passNight_51 : decode cX1_passNight 51 = .ok (.iand, 1) := by decide +kernel
theorem dX1_passNight_52 : decode cX1_passNight 52 = .ok (.iconst 1, 1) := by decide +kernel
theorem dX1_passNight_53 : decode cX1_passNight 53 = .ok (.if_icmp .ne 27, 3) := by decide +kernel
theorem dX1_passNight_56 : decode cX1_passNight 56 = .ok (.aload_n 0, 1) := by decide +kernel
theorem dX1_passNight_57 : decode cX1_passNight 57 = .ok (.getfield 30, 3) := by decide +kernel
theorem dX1_passNight_60 : decode cX1_passNight 60 = .ok (.iload_n 2, 1) := by decide +kernel
theorem dX1_passNight_61 : decode cX1_passNight 61 = .ok (.dup2, 1) := by decide +kernel
theorem dX1_passNight_62 : decode cX1_passNight 62 = .ok (.iaload, 1) := by decide +kernel
theorem dX1_passNight_63 : decode cX1_passNight 63 = .ok (.aload_n 0, 1) := by decide +kernel
theorem dX1_passNight_64 : decode cX1_passNight 64 = .ok (.iload_n 2, 1) := by decide +kernel
theorem dX1_passNight_65 : decode cX1_passNight 65 = .ok (.aload_n 0, 1) := by decide +kernel
theorem dX1_passNight_66 : decode cX1_passNight 66 = .ok (.getfield 27, 3) := by decide +kernel
theorem dX1_passNight_69 : decode cX1_passNight 69 = .ok (.iload_n 2, 1) := by decide +kernel
theorem dX1_passNight_70 : decode cX1_passNight 70 = .ok (.iaload, 1) := by decide +kernel
theorem dX1_passNight_71 : decode cX1_passNight 71 = .ok (.aload_n 0, 1) := by decide +kernel
theorem dX1_passNight_72 : decode cX1_passNight 72 = .ok (.getfield 40, 3) := by decide +kernel
theorem dX1_passNight_75 : decode cX1_passNight 75 = .ok (.invokevirtual 71, 3) := by decide +kernel
theorem dX1_passNight_78 : decode cX1_passNight 78 = .ok (.iadd, 1) := by decide +kernel
theorem dX1_passNight_79 : decode cX1_passNight 79 = .ok (.iastore, 1) := by decide +kernel
theorem dX1_passNight_80 : decode cX1_passNight 80 = .ok (.iinc 2 1, 3) := by decide +kernel
theorem dX1_passNight_83 : decode cX1_passNight 83 = .ok (.goto (-44), 3) := by decide +kernel
theorem dX1_passNight_86 : decode cX1_passNight 86 = .ok (.aload_n 0, 1) := by decide +kernel
theorem dX1_passNight_87 : decode cX1_passNight 87 = .ok (.dup, 1) := by decide +kernel
theorem dX1_passNight_88 : decode cX1_passNight 88 = .ok (.getfield 40, 3) := by decide +kernel
theorem dX1_passNight_91 : decode cX1_passNight 91 = .ok (.iconst 1, 1) := by decide +kernel
theorem dX1_passNight_92 : decode cX1_passNight 92 = .ok (.iadd, 1) := by decide +kernel
theorem dX1_passNight_93 : decode cX1_passNight 93 = .ok (.putfield 40, 3) := by decide +kernel
theorem dX1_passNight_96 : decode cX1_passNight 96 = .ok (.return_, 1) := by decide +kernel
theorem dX1_nextWeight_0 : decode cX1_nextWeight 0 = .ok (.iload_n 1, 1) := by decide +kernel
theorem dX1_nextWeight_1 : decode cX1_nextWeight 1 = .ok (.ifCond .le 11, 3) := by decide +kernel
theorem dX1_nextWeight_4 : decode cX1_nextWeight 4 = .ok (.iconst 0, 1) := by decide +kernel
theorem dX1_nextWeight_5 : decode cX1_nextWeight 5 = .ok (.iload_n 0, 1) := by decide +kernel
theorem dX1_nextWeight_6 : decode cX1_nextWeight 6 = .ok (.iload_n 1, 1) := by decide +kernel
theorem dX1_nextWeight_7 : decode cX1_nextWeight 7 = .ok (.isub, 1) := by decide +kernel
theorem dX1_nextWeight_8 : decode cX1_nextWeight 8 = .ok (.invokestatic 82, 3) := by decide +kernel
theorem dX1_nextWeight_11 : decode cX1_nextWeight 11 = .ok (.ireturn, 1) := by decide +kernel
theorem dX1_nextWeight_12 : decode cX1_nextWeight 12 = .ok (.iload_n 0, 1) := by decide +kernel
theorem dX1_nextWeight_13 : decode cX1_nextWeight 13 = .ok (.ifCond .le 14, 3) := by decide +kernel
theorem dX1_nextWeight_16 : decode cX1_nextWeight 16 = .ok (.bipush 99, 2) := by decide +kernel
theorem dX1_nextWeight_18 : decode cX1_nextWeight 18 = .ok (.iload_n 0, 1) := by decide +kernel
theorem dX1_nextWeight_19 : decode cX1_nextWeight 19 = .ok (.iconst 1, 1) := by decide +kernel
theorem dX1_nextWeight_20 : decode cX1_nextWeight 20 = .ok (.iadd, 1) := by decide +kernel
theorem dX1_nextWeight_21 : decode cX1_nextWeight 21 = .ok (.invokestatic 66, 3) := by decide +kernel
theorem dX1_nextWeight_24 : decode cX1_nextWeight 24 = .ok (.goto 4, 3) := by decide +kernel
theorem dX1_nextWeight_27 : decode cX1_nextWeight 27 = .ok (.iconst 0, 1) := by decide +kernel
theorem dX1_nextWeight_28 : decode cX1_nextWeight 28 = .ok (.ireturn, 1) := by decide +kernel
theorem dX1_makeHeavier_0 : decode cX1_makeHeavier 0 = .ok (.aload_n 0, 1) := by decide +kernel
theorem dX1_makeHeavier_1 : decode cX1_makeHeavier 1 = .ok (.iload_n 1, 1) := by decide +kernel
theorem dX1_makeHeavier_2 : decode cX1_makeHeavier 2 = .ok (.invokevirtual 59, 3) := by decide +kernel
theorem dX1_makeHeavier_5 : decode cX1_makeHeavier 5 = .ok (.ifCond .eq 22, 3) := by decide +kernel
theorem dX1_makeHeavier_8 : decode cX1_makeHeavier 8 = .ok (.aload_n 0, 1) := by decide +kernel
theorem dX1_makeHeavier_9 : decode cX1_makeHeavier 9 = .ok (.getfield 9, 3) := by decide +kernel
theorem dX1_makeHeavier_12 : decode cX1_makeHeavier 12 = .ok (.iload_n 1, 1) := by decide +kernel
theorem dX1_makeHeavier_13 : decode cX1_makeHeavier 13 = .ok (.bipush 99, 2) := by decide +kernel
theorem dX1_makeHeavier_15 : decode cX1_makeHeavier 15 = .ok (.aload_n 0, 1) := by decide +kernel
theorem dX1_makeHeavier_16 : decode cX1_makeHeavier 16 = .ok (.getfield 9, 3) := by decide +kernel
theorem dX1_makeHeavier_19 : decode cX1_makeHeavier 19 = .ok (.iload_n 1, 1) := by decide +kernel
theorem dX1_makeHeavier_20 : decode cX1_makeHeavier 20 = .ok (.iaload, 1) := by decide +kernel
theorem dX1_makeHeavier_21 : decode cX1_makeHeavier 21 = .ok (.iload_n 2, 1) := by decide +kernel
theorem dX1_makeHeavier_22 : decode cX1_makeHeavier 22 = .ok (.iadd, 1) := by decide +kernel
theorem dX1_makeHeavier_23 : decode cX1_makeHeavier 23 = .ok (.invokestatic 66, 3) := by decide +kernel
theorem dX1_makeHeavier_26 : decode cX1_makeHeavier 26 = .ok (.iastore, 1) := by decide +kernel
theorem dX1_makeHeavier_27 : decode cX1_makeHeavier 27 = .ok (.return_, 1) := by decide +kernel
theorem dX1_resting_0 : decode cX1_resting 0 = .ok (.iconst 0, 1) := by decide +kernel
theorem dX1_resting_1 : decode cX1_resting 1 = .ok (.istore_n 1, 1) := by decide +kernel
theorem dX1_resting_2 : decode cX1_resting 2 = .ok (.iconst 0, 1) := by decide +kernel
theorem dX1_resting_3 : decode cX1_resting 3 = .ok (.istore_n 2, 1) := by decide +kernel
theorem dX1_resting_4 : decode cX1_resting 4 = .ok (.iload_n 2, 1) := by decide +kernel
theorem dX1_resting_5 : decode cX1_resting 5 = .ok (.aload_n 0, 1) := by decide +kernel
theorem dX1_resting_6 : decode cX1_resting 6 = .ok (.getfield 33, 3) := by decide +kernel
theorem dX1_resting_9 : decode cX1_resting 9 = .ok (.if_icmp .ge 28, 3) := by decide +kernel
theorem dX1_resting_12 : decode cX1_resting 12 = .ok (.aload_n 0, 1) := by decide +kernel
theorem dX1_resting_13 : decode cX1_resting 13 = .ok (.getfield 9, 3) := by decide +kernel
theorem dX1_resting_16 : decode cX1_resting 16 = .ok (.iload_n 2, 1) := by decide +kernel
theorem dX1_resting_17 : decode cX1_resting 17 = .ok (.iaload, 1) := by decide +kernel
theorem dX1_resting_18 : decode cX1_resting 18 = .ok (.aload_n 0, 1) := by decide +kernel
theorem dX1_resting_19 : decode cX1_resting 19 = .ok (.getfield 49, 3) := by decide +kernel
theorem dX1_resting_22 : decode cX1_resting 22 = .ok (.if_icmp .gt 9, 3) := by decide +kernel
theorem dX1_resting_25 : decode cX1_resting 25 = .ok (.iload_n 1, 1) := by decide +kernel
theorem dX1_resting_26 : decode cX1_resting 26 = .ok (.iconst 1, 1) := by decide +kernel
theorem dX1_resting_27 : decode cX1_resting 27 = .ok (.iload_n 2, 1) := by decide +kernel
theorem dX1_resting_28 : decode cX1_resting 28 = .ok (.ishl, 1) := by decide +kernel
theorem dX1_resting_29 : decode cX1_resting 29 = .ok (.ior, 1) := by decide +kernel
theorem dX1_resting_30 : decode cX1_resting 30 = .ok (.istore_n 1, 1) := by decide +kernel
theorem dX1_resting_31 : decode cX1_resting 31 = .ok (.iinc 2 1, 3) := by decide +kernel
theorem dX1_resting_34 : decode cX1_resting 34 = .ok (.goto (-30), 3) := by decide +kernel
theorem dX1_resting_37 : decode cX1_resting 37 = .ok (.iload_n 1, 1) := by decide +kernel
theorem dX1_resting_38 : decode cX1_resting 38 = .ok (.ireturn, 1) := by decide +kernel
theorem dX1_weightsTogether_0 : decode cX1_weightsTogether 0 = .ok (.iconst 0, 1) := by decide +kernel
theorem dX1_weightsTogether_1 : decode cX1_weightsTogether 1 = .ok (.istore_n 1, 1) := by decide +kernel
theorem dX1_weightsTogether_2 : decode cX1_weightsTogether 2 = .ok (.iconst 0, 1) := by decide +kernel
theorem dX1_weightsTogether_3 : decode cX1_weightsTogether 3 = .ok (.istore_n 2, 1) := by decide +kernel
theorem dX1_weightsTogether_4 : decode cX1_weightsTogether 4 = .ok (.iload_n 2, 1) := by decide +kernel
theorem dX1_weightsTogether_5 : decode cX1_weightsTogether 5 = .ok (.aload_n 0, 1) := by decide +kernel
theorem dX1_weightsTogether_6 : decode cX1_weightsTogether 6 = .ok (.getfield 33, 3) := by decide +kernel
theorem dX1_weightsTogether_9 : decode cX1_weightsTogether 9 = .ok (.if_icmp .ge 18, 3) := by decide +kernel
theorem dX1_weightsTogether_12 : decode cX1_weightsTogether 12 = .ok (.iload_n 1, 1) := by decide +kernel
theorem dX1_weightsTogether_13 : decode cX1_weightsTogether 13 = .ok (.aload_n 0, 1) := by decide +kernel
theorem dX1_weightsTogether_14 : decode cX1_weightsTogether 14 = .ok (.getfield 9, 3) := by decide +kernel
theorem dX1_weightsTogether_17 : decode cX1_weightsTogether 17 = .ok (.iload_n 2, 1) := by decide +kernel
theorem dX1_weightsTogether_18 : decode cX1_weightsTogether 18 = .ok (.iaload, 1) := by decide +kernel
theorem dX1_weightsTogether_19 : decode cX1_weightsTogether 19 = .ok (.iadd, 1) := by decide +kernel
theorem dX1_weightsTogether_20 : decode cX1_weightsTogether 20 = .ok (.istore_n 1, 1) := by decide +kernel
theorem dX1_weightsTogether_21 : decode cX1_weightsTogether 21 = .ok (.iinc 2 1, 3) := by decide +kernel
theorem dX1_weightsTogether_24 : decode cX1_weightsTogether 24 = .ok (.goto (-20), 3) := by decide +kernel
theorem dX1_weightsTogether_27 : decode cX1_weightsTogether 27 = .ok (.iload_n 1, 1) := by decide +kernel
theorem dX1_weightsTogether_28 : decode cX1_weightsTogether 28 = .ok (.ireturn, 1) := by decide +kernel
theorem dX1_wagesTogether_0 : decode cX1_wagesTogether 0 = .ok (.iconst 0, 1) := by decide +kernel
theorem dX1_wagesTogether_1 : decode cX1_wagesTogether 1 = .ok (.istore_n 1, 1) := by decide +kernel
theorem dX1_wagesTogether_2 : decode cX1_wagesTogether 2 = .ok (.iconst 0, 1) := by decide +kernel
theorem dX1_wagesTogether_3 : decode cX1_wagesTogether 3 = .ok (.istore_n 2, 1) := by decide +kernel
theorem dX1_wagesTogether_4 : decode cX1_wagesTogether 4 = .ok (.iload_n 2, 1) := by decide +kernel
theorem dX1_wagesTogether_5 : decode cX1_wagesTogether 5 = .ok (.aload_n 0, 1) := by decide +kernel
theorem dX1_wagesTogether_6 : decode cX1_wagesTogether 6 = .ok (.getfield 37, 3) := by decide +kernel
theorem dX1_wagesTogether_9 : decode cX1_wagesTogether 9 = .ok (.if_icmp .ge 18, 3) := by decide +kernel
theorem dX1_wagesTogether_12 : decode cX1_wagesTogether 12 = .ok (.iload_n 1, 1) := by decide +kernel
theorem dX1_wagesTogether_13 : decode cX1_wagesTogether 13 = .ok (.aload_n 0, 1) := by decide +kernel
theorem dX1_wagesTogether_14 : decode cX1_wagesTogether 14 = .ok (.getfield 30, 3) := by decide +kernel
theorem dX1_wagesTogether_17 : decode cX1_wagesTogether 17 = .ok (.iload_n 2, 1) := by decide +kernel
theorem dX1_wagesTogether_18 : decode cX1_wagesTogether 18 = .ok (.iaload, 1) := by decide +kernel
theorem dX1_wagesTogether_19 : decode cX1_wagesTogether 19 = .ok (.iadd, 1) := by decide +kernel
theorem dX1_wagesTogether_20 : decode cX1_wagesTogether 20 = .ok (.istore_n 1, 1) := by decide +kernel
theorem dX1_wagesTogether_21 : decode cX1_wagesTogether 21 = .ok (.iinc 2 1, 3) := by decide +kernel
theorem dX1_wagesTogether_24 : decode cX1_wagesTogether 24 = .ok (.goto (-20), 3) := by decide +kernel
theorem dX1_wagesTogether_27 : decode cX1_wagesTogether 27 = .ok (.iload_n 1, 1) := by decide +kernel
theorem dX1_wagesTogether_28 : decode cX1_wagesTogether 28 = .ok (.ireturn, 1) := by decide +kernel
theorem dX2_init_0 : decode cX2_init 0 = .ok (.aload_n 0, 1) := by decide +kernel
theorem dX2_init_1 : decode cX2_init 1 = .ok (.invokespecial 3, 3) := by decide +kernel
theorem dX2_init_4 : decode cX2_init 4 = .ok (.aload_n 0, 1) := by decide +kernel
theorem dX2_init_5 : decode cX2_init 5 = .ok (.bipush 16, 2) := by decide +kernel
theorem dX2_init_7 : decode cX2_init 7 = .ok (.newarray .int, 2) := by decide +kernel
theorem dX2_init_9 : decode cX2_init 9 = .ok (.putfield 11, 3) := by decide +kernel
theorem dX2_init_12 : decode cX2_init 12 = .ok (.return_, 1) := by decide +kernel
theorem dX2_begin_0 : decode cX2_begin 0 = .ok (.aload_n 0, 1) := by decide +kernel
theorem dX2_begin_1 : decode cX2_begin 1 = .ok (.iconst 0, 1) := by decide +kernel
theorem dX2_begin_2 : decode cX2_begin 2 = .ok (.putfield 15, 3) := by decide +kernel
theorem dX2_begin_5 : decode cX2_begin 5 = .ok (.aload_n 0, 1) := by decide +kernel
theorem dX2_begin_6 : decode cX2_begin 6 = .ok (.aload_n 1, 1) := by decide +kernel
theorem dX2_begin_7 : decode cX2_begin 7 = .ok (.iload_n 2, 1) := by decide +kernel
theorem dX2_begin_8 : decode cX2_begin 8 = .ok (.iload_n 3, 1) := by decide +kernel
theorem dX2_begin_9 : decode cX2_begin 9 = .ok (.iconst 0, 1) := by decide +kernel
theorem dX2_begin_10 : decode cX2_begin 10 = .ok (.invokevirtual 19, 3) := by decide +kernel
theorem dX2_begin_13 : decode cX2_begin 13 = .ok (.ireturn, 1) := by decide +kernel
theorem dX2_isOfKind_0 : decode cX2_isOfKind 0 = .ok (.iload_n 0, 1) := by decide +kernel
theorem dX2_isOfKind_1 : decode cX2_isOfKind 1 = .ok (.istore_n 2, 1) := by decide +kernel
theorem dX2_isOfKind_2 : decode cX2_isOfKind 2 = .ok (.iconst 0, 1) := by decide +kernel
theorem dX2_isOfKind_3 : decode cX2_isOfKind 3 = .ok (.istore_n 3, 1) := by decide +kernel
theorem dX2_isOfKind_4 : decode cX2_isOfKind 4 = .ok (.iload_n 3, 1) := by decide +kernel
theorem dX2_isOfKind_5 : decode cX2_isOfKind 5 = .ok (.iconst 5, 1) := by decide +kernel
theorem dX2_isOfKind_6 : decode cX2_isOfKind 6 = .ok (.if_icmp .ge 23, 3) := by decide +kernel
theorem dX2_isOfKind_9 : decode cX2_isOfKind 9 = .ok (.iload_n 2, 1) := by decide +kernel
theorem dX2_isOfKind_10 : decode cX2_isOfKind 10 = .ok (.ifCond .le 19, 3) := by decide +kernel
theorem dX2_isOfKind_13 : decode cX2_isOfKind 13 = .ok (.iload_n 2, 1) := by decide +kernel
theorem dX2_isOfKind_14 : decode cX2_isOfKind 14 = .ok (.iload_n 1, 1) := by decide +kernel
theorem dX2_isOfKind_15 : decode cX2_isOfKind 15 = .ok (.if_icmp .eq 14, 3) := by decide +kernel
theorem dX2_isOfKind_18 : decode cX2_isOfKind 18 = .ok (.iload_n 2, 1) := by decide +kernel
theorem dX2_isOfKind_19 : decode cX2_isOfKind 19 = .ok (.invokestatic 23, 3) := by decide +kernel
theorem dX2_isOfKind_22 : decode cX2_isOfKind 22 = .ok (.istore_n 2, 1) := by decide +kernel
theorem dX2_isOfKind_23 : decode cX2_isOfKind 23 = .ok (.iinc 3 1, 3) := by decide +kernel
theorem dX2_isOfKind_26 : decode cX2_isOfKind 26 = .ok (.goto (-22), 3) := by decide +kernel
theorem dX2_isOfKind_29 : decode cX2_isOfKind 29 = .ok (.iload_n 2, 1) := by decide +kernel
theorem dX2_isOfKind_30 : decode cX2_isOfKind 30 = .ok (.iload_n 1, 1) := by decide +kernel
theorem dX2_isOfKind_31 : decode cX2_isOfKind 31 = .ok (.if_icmp .ne 7, 3) := by decide +kernel
theorem dX2_isOfKind_34 : decode cX2_isOfKind 34 = .ok (.iconst 1, 1) := by decide +kernel
theorem dX2_isOfKind_35 : decode cX2_isOfKind 35 = .ok (.goto 4, 3) := by decide +kernel
theorem dX2_isOfKind_38 : decode cX2_isOfKind 38 = .ok (.iconst 0, 1) := by decide +kernel
theorem dX2_isOfKind_39 : decode cX2_isOfKind 39 = .ok (.ireturn, 1) := by decide +kernel
theorem dX2_parentOf_0 : decode cX2_parentOf 0 = .ok (.iload_n 0, 1) := by decide +kernel
theorem dX2_parentOf_1 : decode cX2_parentOf 1 = .ok (.ifCond .lt 19, 3) := by decide +kernel
theorem dX2_parentOf_4 : decode cX2_parentOf 4 = .ok (.iload_n 0, 1) := by decide +kernel
theorem dX2_parentOf_5 : decode cX2_parentOf 5 = .ok (.getstatic 27, 3) := by decide +kernel
theorem dX2_parentOf_8 : decode cX2_parentOf 8 = .ok (.arraylength, 1) := by decide +kernel
theorem dX2_parentOf_9 : decode cX2_parentOf 9 = .ok (.if_icmp .ge 11, 3) := by decide +kernel
theorem dX2_parentOf_12 : decode cX2_parentOf 12 = .ok (.getstatic 27, 3) := by decide +kernel
theorem dX2_parentOf_15 : decode cX2_parentOf 15 = .ok (.iload_n 0, 1) := by decide +kernel
theorem dX2_parentOf_16 : decode cX2_parentOf 16 = .ok (.iaload, 1) := by decide +kernel
theorem dX2_parentOf_17 : decode cX2_parentOf 17 = .ok (.goto 4, 3) := by decide +kernel
theorem dX2_parentOf_20 : decode cX2_parentOf 20 = .ok (.iconst 0, 1) := by decide +kernel
theorem dX2_parentOf_21 : decode cX2_parentOf 21 = .ok (.ireturn, 1) := by decide +kernel
theorem dX2_askAnew_0 : decode cX2_askAnew 0 = .ok (.aload_n 1, 1) := by decide +kernel
theorem dX2_askAnew_1 : decode cX2_askAnew 1 = .ok (.iload_n 2, 1) := by decide +kernel
theorem dX2_askAnew_2 : decode cX2_askAnew 2 = .ok (.invokevirtual 30, 3) := by decide +kernel
theorem dX2_askAnew_5 : decode cX2_askAnew 5 = .ok (.ifCond .ne 5, 3) := by decide +kernel
theorem dX2_askAnew_8 : decode cX2_askAnew 8 = .ok (.iconst 0, 1) := by decide +kernel
theorem dX2_askAnew_9 : decode cX2_askAnew 9 = .ok (.ireturn, 1) := by decide +kernel
theorem dX2_askAnew_10 : decode cX2_askAnew 10 = .ok (.aload_n 0, 1) := by decide +kernel
theorem dX2_askAnew_11 : decode cX2_askAnew 11 = .ok (.aload_n 1, 1) := by decide +kernel
theorem dX2_askAnew_12 : decode cX2_askAnew 12 = .ok (.iload_n 2, 1) := by decide +kernel
theorem dX2_askAnew_13 : decode cX2_askAnew 13 = .ok (.aload_n 1, 1) := by decide +kernel
theorem dX2_askAnew_14 : decode cX2_askAnew 14 = .ok (.getfield 36, 3) := by decide +kernel
theorem dX2_askAnew_17 : decode cX2_askAnew 17 = .ok (.iload_n 2, 1) := by decide +kernel
theorem dX2_askAnew_18 : decode cX2_askAnew 18 = .ok (.iaload, 1) := by decide +kernel
theorem dX2_askAnew_19 : decode cX2_askAnew 19 = .ok (.iload_n 3, 1) := by decide +kernel
theorem dX2_askAnew_20 : decode cX2_askAnew 20 = .ok (.invokestatic 39, 3) := by decide +kernel
theorem dX2_askAnew_23 : decode cX2_askAnew 23 = .ok (.iload 4, 2) := by decide +kernel
theorem dX2_askAnew_25 : decode cX2_askAnew 25 = .ok (.iconst 1, 1) := by decide +kernel
theorem dX2_askAnew_26 : decode cX2_askAnew 26 = .ok (.iadd, 1) := by decide +kernel
theorem dX2_askAnew_27 : decode cX2_askAnew 27 = .ok (.invokevirtual 43, 3) := by decide +kernel
theorem dX2_askAnew_30 : decode cX2_askAnew 30 = .ok (.ireturn, 1) := by decide +kernel
theorem dX2_bodyFor_0 : decode cX2_bodyFor 0 = .ok (.iload_n 0, 1) := by decide +kernel
theorem dX2_bodyFor_1 : decode cX2_bodyFor 1 = .ok (.istore_n 2, 1) := by decide +kernel
theorem dX2_bodyFor_2 : decode cX2_bodyFor 2 = .ok (.iconst 0, 1) := by decide +kernel
theorem dX2_bodyFor_3 : decode cX2_bodyFor 3 = .ok (.istore_n 3, 1) := by decide +kernel
theorem dX2_bodyFor_4 : decode cX2_bodyFor 4 = .ok (.iload_n 3, 1) := by decide +kernel
theorem dX2_bodyFor_5 : decode cX2_bodyFor 5 = .ok (.iconst 5, 1) := by decide +kernel
theorem dX2_bodyFor_6 : decode cX2_bodyFor 6 = .ok (.if_icmp .ge 26, 3) := by decide +kernel
theorem dX2_bodyFor_9 : decode cX2_bodyFor 9 = .ok (.iload_n 2, 1) := by decide +kernel
theorem dX2_bodyFor_10 : decode cX2_bodyFor 10 = .ok (.ifCond .le 22, 3) := by decide +kernel
theorem dX2_bodyFor_13 : decode cX2_bodyFor 13 = .ok (.iload_n 2, 1) := by decide +kernel
theorem dX2_bodyFor_14 : decode cX2_bodyFor 14 = .ok (.iload_n 1, 1) := by decide +kernel
theorem dX2_bodyFor_15 : decode cX2_bodyFor 15 = .ok (.invokestatic 46, 3) := by decide +kernel
theorem dX2_bodyFor_18 : decode cX2_bodyFor 18 = .ok (.ifCond .ne 14, 3) := by decide +kernel
theorem dX2_bodyFor_21 : decode cX2_bodyFor 21 = .ok (.iload_n 2, 1) := by decide +kernel
theorem dX2_bodyFor_22 : decode cX2_bodyFor 22 = .ok (.invokestatic 23, 3) := by decide +kernel
theorem dX2_bodyFor_25 : decode cX2_bodyFor 25 = .ok (.istore_n 2, 1) := by decide +kernel
theorem dX2_bodyFor_26 : decode cX2_bodyFor 26 = .ok (.iinc 3 1, 3) := by decide +kernel
theorem dX2_bodyFor_29 : decode cX2_bodyFor 29 = .ok (.goto (-25), 3) := by decide +kernel
theorem dX2_bodyFor_32 : decode cX2_bodyFor 32 = .ok (.iload_n 2, 1) := by decide +kernel
theorem dX2_bodyFor_33 : decode cX2_bodyFor 33 = .ok (.iload_n 1, 1) := by decide +kernel
theorem dX2_bodyFor_34 : decode cX2_bodyFor 34 = .ok (.invokestatic 46, 3) := by decide +kernel
theorem dX2_bodyFor_37 : decode cX2_bodyFor 37 = .ok (.ireturn, 1) := by decide +kernel
theorem dX2_ownBody_0 : decode cX2_ownBody 0 = .ok (.iload_n 1, 1) := by decide +kernel
theorem dX2_ownBody_1 : decode cX2_ownBody 1 = .ok (.ifCond .ne 9, 3) := by decide +kernel
theorem dX2_ownBody_4 : decode cX2_ownBody 4 = .ok (.getstatic 49, 3) := by decide +kernel
theorem dX2_ownBody_7 : decode cX2_ownBody 7 = .ok (.goto 6, 3) := by decide +kernel
theorem dX2_ownBody_10 : decode cX2_ownBody 10 = .ok (.getstatic 52, 3) := by decide +kernel
theorem dX2_ownBody_13 : decode cX2_ownBody 13 = .ok (.astore_n 2, 1) := by decide +kernel
theorem dX2_ownBody_14 : decode cX2_ownBody 14 = .ok (.iload_n 0, 1) := by decide +kernel
theorem dX2_ownBody_15 : decode cX2_ownBody 15 = .ok (.ifCond .lt 15, 3) := by decide +kernel
theorem dX2_ownBody_18 : decode cX2_ownBody 18 = .ok (.iload_n 0, 1) := by decide +kernel
theorem dX2_ownBody_19 : decode cX2_ownBody 19 = .ok (.aload_n 2, 1) := by decide +kernel
theorem dX2_ownBody_20 : decode cX2_ownBody 20 = .ok (.arraylength, 1) := by decide +kernel
theorem dX2_ownBody_21 : decode cX2_ownBody 21 = .ok (.if_icmp .ge 9, 3) := by decide +kernel
theorem dX2_ownBody_24 : decode cX2_ownBody 24 = .ok (.aload_n 2, 1) := by decide +kernel
theorem dX2_ownBody_25 : decode cX2_ownBody 25 = .ok (.iload_n 0, 1) := by decide +kernel
theorem dX2_ownBody_26 : decode cX2_ownBody 26 = .ok (.iaload, 1) := by decide +kernel
theorem dX2_ownBody_27 : decode cX2_ownBody 27 = .ok (.goto 4, 3) := by decide +kernel
theorem dX2_ownBody_30 : decode cX2_ownBody 30 = .ok (.iconst 0, 1) := by decide +kernel
theorem dX2_ownBody_31 : decode cX2_ownBody 31 = .ok (.ireturn, 1) := by decide +kernel
theorem dX2_runBody_0 : decode cX2_runBody 0 = .ok (.iload 4, 2) := by decide +kernel
theorem dX2_runBody_2 : decode cX2_runBody 2 = .ok (.bipush 16, 2) := by decide +kernel
theorem dX2_runBody_4 : decode cX2_runBody 4 = .ok (.if_icmp .gt 11, 3) := by decide +kernel
theorem dX2_runBody_7 : decode cX2_runBody 7 = .ok (.aload_n 1, 1) := by decide +kernel
theorem dX2_runBody_8 : decode cX2_runBody 8 = .ok (.iload_n 2, 1) := by decide +kernel
theorem dX2_runBody_9 : decode cX2_runBody 9 = .ok (.invokevirtual 30, 3) := by decide +kernel
theorem dX2_runBody_12 : decode cX2_runBody 12 = .ok (.ifCond .ne 5, 3) := by decide +kernel
theorem dX2_runBody_15 : decode cX2_runBody 15 = .ok (.iconst 0, 1) := by decide +kernel
theorem dX2_runBody_16 : decode cX2_runBody 16 = .ok (.ireturn, 1) := by decide +kernel
theorem dX2_runBody_17 : decode cX2_runBody 17 = .ok (.aload_n 0, 1) := by decide +kernel
theorem dX2_runBody_18 : decode cX2_runBody 18 = .ok (.iload_n 3, 1) := by decide +kernel
theorem dX2_runBody_19 : decode cX2_runBody 19 = .ok (.invokevirtual 55, 3) := by decide +kernel
theorem dX2_runBody_22 : decode cX2_runBody 22 = .ok (.iload 4, 2) := by decide +kernel
theorem dX2_runBody_24 : decode cX2_runBody 24 = .ok (.iconst 1, 1) := by decide +kernel
theorem dX2_runBody_25 : decode cX2_runBody 25 = .ok (.iadd, 1) := by decide +kernel
theorem dX2_runBody_26 : decode cX2_runBody 26 = .ok (.istore 5, 2) := by decide +kernel
theorem dX2_runBody_28 : decode cX2_runBody 28 = .ok (.iload_n 3, 1) := by decide +kernel
theorem dX2_runBody_29 : decode cX2_runBody 29 = .ok (.tableswitch 211 10 24 #[75, 82, 103, 115, 129, 211, 211, 211, 211, 211, 142, 144, 162, 177, 198], 75) := by decide +kernel
theorem dX2_runBody_104 : decode cX2_runBody 104 = .ok (.aload_n 1, 1) := by decide +kernel
theorem dX2_runBody_105 : decode cX2_runBody 105 = .ok (.getfield 59, 3) := by decide +kernel
theorem dX2_runBody_108 : decode cX2_runBody 108 = .ok (.iload_n 2, 1) := by decide +kernel
theorem dX2_runBody_109 : decode cX2_runBody 109 = .ok (.iaload, 1) := by decide +kernel
theorem dX2_runBody_110 : decode cX2_runBody 110 = .ok (.ireturn, 1) := by decide +kernel
theorem dX2_runBody_111 : decode cX2_runBody 111 = .ok (.aload_n 0, 1) := by decide +kernel
theorem dX2_runBody_112 : decode cX2_runBody 112 = .ok (.aload_n 1, 1) := by decide +kernel
theorem dX2_runBody_113 : decode cX2_runBody 113 = .ok (.iload_n 2, 1) := by decide +kernel
theorem dX2_runBody_114 : decode cX2_runBody 114 = .ok (.bipush 10, 2) := by decide +kernel
theorem dX2_runBody_116 : decode cX2_runBody 116 = .ok (.iload 5, 2) := by decide +kernel
theorem dX2_runBody_118 : decode cX2_runBody 118 = .ok (.invokevirtual 43, 3) := by decide +kernel
theorem dX2_runBody_121 : decode cX2_runBody 121 = .ok (.aload_n 0, 1) := by decide +kernel
theorem dX2_runBody_122 : decode cX2_runBody 122 = .ok (.aload_n 1, 1) := by decide +kernel
theorem dX2_runBody_123 : decode cX2_runBody 123 = .ok (.iload_n 2, 1) := by decide +kernel
theorem dX2_runBody_124 : decode cX2_runBody 124 = .ok (.iconst 1, 1) := by decide +kernel
theorem dX2_runBody_125 : decode cX2_runBody 125 = .ok (.iload 5, 2) := by decide +kernel
theorem dX2_runBody_127 : decode cX2_runBody 127 = .ok (.invokevirtual 19, 3) := by decide +kernel
theorem dX2_runBody_130 : decode cX2_runBody 130 = .ok (.iadd, 1) := by decide +kernel
theorem dX2_runBody_131 : decode cX2_runBody 131 = .ok (.ireturn, 1) := by decide +kernel
theorem dX2_runBody_132 : decode cX2_runBody 132 = .ok (.aload_n 0, 1) := by decide +kernel
theorem dX2_runBody_133 : decode cX2_runBody 133 = .ok (.aload_n 1, 1) := by decide +kernel
theorem dX2_runBody_134 : decode cX2_runBody 134 = .ok (.iload_n 2, 1) := by decide +kernel
theorem dX2_runBody_135 : decode cX2_runBody 135 = .ok (.bipush 11, 2) := by decide +kernel
theorem dX2_runBody_137 : decode cX2_runBody 137 = .ok (.iload 5, 2) := by decide +kernel
theorem dX2_runBody_139 : decode cX2_runBody 139 = .ok (.invokevirtual 43, 3) := by decide +kernel
theorem dX2_runBody_142 : decode cX2_runBody 142 = .ok (.ineg, 1) := by decide +kernel
theorem dX2_runBody_143 : decode cX2_runBody 143 = .ok (.ireturn, 1) := by decide +kernel
theorem dX2_runBody_144 : decode cX2_runBody 144 = .ok (.aload_n 0, 1) := by decide +kernel
theorem dX2_runBody_145 : decode cX2_runBody 145 = .ok (.aload_n 1, 1) := by decide +kernel
theorem dX2_runBody_146 : decode cX2_runBody 146 = .ok (.iload_n 2, 1) := by decide +kernel
theorem dX2_runBody_147 : decode cX2_runBody 147 = .ok (.bipush 10, 2) := by decide +kernel
theorem dX2_runBody_149 : decode cX2_runBody 149 = .ok (.iload 5, 2) := by decide +kernel
theorem dX2_runBody_151 : decode cX2_runBody 151 = .ok (.invokevirtual 43, 3) := by decide +kernel
theorem dX2_runBody_154 : decode cX2_runBody 154 = .ok (.bipush 100, 2) := by decide +kernel
theorem dX2_runBody_156 : decode cX2_runBody 156 = .ok (.isub, 1) := by decide +kernel
theorem dX2_runBody_157 : decode cX2_runBody 157 = .ok (.ireturn, 1) := by decide +kernel
theorem dX2_runBody_158 : decode cX2_runBody 158 = .ok (.iconst 2, 1) := by decide +kernel
theorem dX2_runBody_159 : decode cX2_runBody 159 = .ok (.aload_n 0, 1) := by decide +kernel
theorem dX2_runBody_160 : decode cX2_runBody 160 = .ok (.aload_n 1, 1) := by decide +kernel
theorem dX2_runBody_161 : decode cX2_runBody 161 = .ok (.iload_n 2, 1) := by decide +kernel
theorem dX2_runBody_162 : decode cX2_runBody 162 = .ok (.bipush 13, 2) := by decide +kernel
theorem dX2_runBody_164 : decode cX2_runBody 164 = .ok (.iload 5, 2) := by decide +kernel
theorem dX2_runBody_166 : decode cX2_runBody 166 = .ok (.invokevirtual 43, 3) := by decide +kernel
theorem dX2_runBody_169 : decode cX2_runBody 169 = .ok (.imul, 1) := by decide +kernel
theorem dX2_runBody_170 : decode cX2_runBody 170 = .ok (.ireturn, 1) := by decide +kernel
theorem dX2_runBody_171 : decode cX2_runBody 171 = .ok (.iload_n 2, 1) := by decide +kernel
theorem dX2_runBody_172 : decode cX2_runBody 172 = .ok (.ireturn, 1) := by decide +kernel
theorem dX2_runBody_173 : decode cX2_runBody 173 = .ok (.aload_n 0, 1) := by decide +kernel
theorem dX2_runBody_174 : decode cX2_runBody 174 = .ok (.aload_n 1, 1) := by decide +kernel
theorem dX2_runBody_175 : decode cX2_runBody 175 = .ok (.iload_n 2, 1) := by decide +kernel
theorem dX2_runBody_176 : decode cX2_runBody 176 = .ok (.bipush 20, 2) := by decide +kernel
theorem dX2_runBody_178 : decode cX2_runBody 178 = .ok (.iload 5, 2) := by decide +kernel
theorem dX2_runBody_180 : decode cX2_runBody 180 = .ok (.invokevirtual 43, 3) := by decide +kernel
theorem dX2_runBody_183 : decode cX2_runBody 183 = .ok (.aload_n 1, 1) := by decide +kernel
theorem dX2_runBody_184 : decode cX2_runBody 184 = .ok (.getfield 62, 3) := by decide +kernel
theorem dX2_runBody_187 : decode cX2_runBody 187 = .ok (.iload_n 2, 1) := by decide +kernel
theorem dX2_runBody_188 : decode cX2_runBody 188 = .ok (.iaload, 1) := by decide +kernel
theorem dX2_runBody_189 : decode cX2_runBody 189 = .ok (.iadd, 1) := by decide +kernel
theorem dX2_runBody_190 : decode cX2_runBody 190 = .ok (.ireturn, 1) := by decide +kernel
theorem dX2_runBody_191 : decode cX2_runBody 191 = .ok (.aload_n 0, 1) := by decide +kernel
theorem dX2_runBody_192 : decode cX2_runBody 192 = .ok (.aload_n 1, 1) := by decide +kernel
theorem dX2_runBody_193 : decode cX2_runBody 193 = .ok (.iload_n 2, 1) := by decide +kernel
theorem dX2_runBody_194 : decode cX2_runBody 194 = .ok (.bipush 21, 2) := by decide +kernel
theorem dX2_runBody_196 : decode cX2_runBody 196 = .ok (.iload 5, 2) := by decide +kernel
theorem dX2_runBody_198 : decode cX2_runBody 198 = .ok (.invokevirtual 43, 3) := by decide +kernel
theorem dX2_runBody_201 : decode cX2_runBody 201 = .ok (.sipush 1000, 3) := by decide +kernel
theorem dX2_runBody_204 : decode cX2_runBody 204 = .ok (.isub, 1) := by decide +kernel
theorem dX2_runBody_205 : decode cX2_runBody 205 = .ok (.ireturn, 1) := by decide +kernel
theorem dX2_runBody_206 : decode cX2_runBody 206 = .ok (.aload_n 0, 1) := by decide +kernel
theorem dX2_runBody_207 : decode cX2_runBody 207 = .ok (.aload_n 1, 1) := by decide +kernel
theorem dX2_runBody_208 : decode cX2_runBody 208 = .ok (.iload_n 2, 1) := by decide +kernel
theorem dX2_runBody_209 : decode cX2_runBody 209 = .ok (.bipush 20, 2) := by decide +kernel
theorem dX2_runBody_211 : decode cX2_runBody 211 = .ok (.iload 5, 2) := by decide +kernel
theorem dX2_runBody_213 : decode cX2_runBody 213 = .ok (.invokevirtual 43, 3) := by decide +kernel
theorem dX2_runBody_216 : decode cX2_runBody 216 = .ok (.aload_n 0, 1) := by decide +kernel
theorem dX2_runBody_217 : decode cX2_runBody 217 = .ok (.aload_n 1, 1) := by decide +kernel
theorem dX2_runBody_218 : decode cX2_runBody 218 = .ok (.iload_n 2, 1) := by decide +kernel
theorem dX2_runBody_219 : decode cX2_runBody 219 = .ok (.iconst 0, 1) := by decide +kernel
theorem dX2_runBody_220 : decode cX2_runBody 220 = .ok (.iload 5, 2) := by decide +kernel
theorem dX2_runBody_222 : decode cX2_runBody 222 = .ok (.invokevirtual 19, 3) := by decide +kernel
theorem dX2_runBody_225 : decode cX2_runBody 225 = .ok (.isub, 1) := by decide +kernel
theorem dX2_runBody_226 : decode cX2_runBody 226 = .ok (.ireturn, 1) := by decide +kernel
theorem dX2_runBody_227 : decode cX2_runBody 227 = .ok (.iconst 2, 1) := by decide +kernel
theorem dX2_runBody_228 : decode cX2_runBody 228 = .ok (.aload_n 0, 1) := by decide +kernel
theorem dX2_runBody_229 : decode cX2_runBody 229 = .ok (.aload_n 1, 1) := by decide +kernel
theorem dX2_runBody_230 : decode cX2_runBody 230 = .ok (.iload_n 2, 1) := by decide +kernel
theorem dX2_runBody_231 : decode cX2_runBody 231 = .ok (.bipush 21, 2) := by decide +kernel
theorem dX2_runBody_233 : decode cX2_runBody 233 = .ok (.iload 5, 2) := by decide +kernel
theorem dX2_runBody_235 : decode cX2_runBody 235 = .ok (.invokevirtual 43, 3) := by decide +kernel
theorem dX2_runBody_238 : decode cX2_runBody 238 = .ok (.imul, 1) := by decide +kernel
theorem dX2_runBody_239 : decode cX2_runBody 239 = .ok (.ireturn, 1) := by decide +kernel
theorem dX2_runBody_240 : decode cX2_runBody 240 = .ok (.iconst 0, 1) := by decide +kernel
theorem dX2_runBody_241 : decode cX2_runBody 241 = .ok (.ireturn, 1) := by decide +kernel
theorem dX2_leave_0 : decode cX2_leave 0 = .ok (.aload_n 0, 1) := by decide +kernel
theorem dX2_leave_1 : decode cX2_leave 1 = .ok (.getfield 15, 3) := by decide +kernel
theorem dX2_leave_4 : decode cX2_leave 4 = .ok (.bipush 16, 2) := by decide +kernel
theorem dX2_leave_6 : decode cX2_leave 6 = .ok (.if_icmp .ge 23, 3) := by decide +kernel
theorem dX2_leave_9 : decode cX2_leave 9 = .ok (.aload_n 0, 1) := by decide +kernel
theorem dX2_leave_10 : decode cX2_leave 10 = .ok (.getfield 11, 3) := by decide +kernel
theorem dX2_leave_13 : decode cX2_leave 13 = .ok (.aload_n 0, 1) := by decide +kernel
theorem dX2_leave_14 : decode cX2_leave 14 = .ok (.getfield 15, 3) := by decide +kernel
theorem dX2_leave_17 : decode cX2_leave 17 = .ok (.iload_n 1, 1) := by decide +kernel
theorem dX2_leave_18 : decode cX2_leave 18 = .ok (.iastore, 1) := by decide +kernel
theorem dX2_leave_19 : decode cX2_leave 19 = .ok (.aload_n 0, 1) := by decide +kernel
theorem dX2_leave_20 : decode cX2_leave 20 = .ok (.dup, 1) := by decide +kernel
theorem dX2_leave_21 : decode cX2_leave 21 = .ok (.getfield 15, 3) := by decide +kernel
theorem dX2_leave_24 : decode cX2_leave 24 = .ok (.iconst 1, 1) := by decide +kernel
theorem dX2_leave_25 : decode cX2_leave 25 = .ok (.iadd, 1) := by decide +kernel
theorem dX2_leave_26 : decode cX2_leave 26 = .ok (.putfield 15, 3) := by decide +kernel
theorem dX2_leave_29 : decode cX2_leave 29 = .ok (.return_, 1) := by decide +kernel
theorem dX3_init_0 : decode cX3_init 0 = .ok (.aload_n 0, 1) := by decide +kernel
theorem dX3_init_1 : decode cX3_init 1 = .ok (.invokespecial 3, 3) := by decide +kernel
theorem dX3_init_4 : decode cX3_init 4 = .ok (.aload_n 0, 1) := by decide +kernel
theorem dX3_init_5 : decode cX3_init 5 = .ok (.bipush 40, 2) := by decide +kernel
theorem dX3_init_7 : decode cX3_init 7 = .ok (.newarray .int, 2) := by decide +kernel
theorem dX3_init_9 : decode cX3_init 9 = .ok (.putfield 9, 3) := by decide +kernel
theorem dX3_init_12 : decode cX3_init 12 = .ok (.aload_n 0, 1) := by decide +kernel
theorem dX3_init_13 : decode cX3_init 13 = .ok (.iconst (-1), 1) := by decide +kernel
theorem dX3_init_14 : decode cX3_init 14 = .ok (.putfield 15, 3) := by decide +kernel
theorem dX3_init_17 : decode cX3_init 17 = .ok (.return_, 1) := by decide +kernel
theorem dX3_isMissing_0 : decode cX3_isMissing 0 = .ok (.aload_n 0, 1) := by decide +kernel
theorem dX3_isMissing_1 : decode cX3_isMissing 1 = .ok (.getfield 15, 3) := by decide +kernel
theorem dX3_isMissing_4 : decode cX3_isMissing 4 = .ok (.ifCond .ge 7, 3) := by decide +kernel
theorem dX3_isMissing_7 : decode cX3_isMissing 7 = .ok (.iconst 1, 1) := by decide +kernel
theorem dX3_isMissing_8 : decode cX3_isMissing 8 = .ok (.goto 4, 3) := by decide +kernel
theorem dX3_isMissing_11 : decode cX3_isMissing 11 = .ok (.iconst 0, 1) := by decide +kernel
theorem dX3_isMissing_12 : decode cX3_isMissing 12 = .ok (.ireturn, 1) := by decide +kernel
theorem dX3_holds_0 : decode cX3_holds 0 = .ok (.iload_n 1, 1) := by decide +kernel
theorem dX3_holds_1 : decode cX3_holds 1 = .ok (.ifCond .lt 29, 3) := by decide +kernel
theorem dX3_holds_4 : decode cX3_holds 4 = .ok (.iload_n 2, 1) := by decide +kernel
theorem dX3_holds_5 : decode cX3_holds 5 = .ok (.ifCond .lt 25, 3) := by decide +kernel
theorem dX3_holds_8 : decode cX3_holds 8 = .ok (.iload_n 2, 1) := by decide +kernel
theorem dX3_holds_9 : decode cX3_holds 9 = .ok (.aload_n 0, 1) := by decide +kernel
theorem dX3_holds_10 : decode cX3_holds 10 = .ok (.getfield 15, 3) := by decide +kernel
theorem dX3_holds_13 : decode cX3_holds 13 = .ok (.if_icmp .gt 17, 3) := by decide +kernel
theorem dX3_holds_16 : decode cX3_holds 16 = .ok (.iload_n 1, 1) := by decide +kernel
theorem dX3_holds_17 : decode cX3_holds 17 = .ok (.aload_n 0, 1) := by decide +kernel
theorem dX3_holds_18 : decode cX3_holds 18 = .ok (.getfield 15, 3) := by decide +kernel
theorem dX3_holds_21 : decode cX3_holds 21 = .ok (.iload_n 2, 1) := by decide +kernel
theorem dX3_holds_22 : decode cX3_holds 22 = .ok (.isub, 1) := by decide +kernel
theorem dX3_holds_23 : decode cX3_holds 23 = .ok (.if_icmp .gt 7, 3) := by decide +kernel
theorem dX3_holds_26 : decode cX3_holds 26 = .ok (.iconst 1, 1) := by decide +kernel
theorem dX3_holds_27 : decode cX3_holds 27 = .ok (.goto 4, 3) := by decide +kernel
theorem dX3_holds_30 : decode cX3_holds 30 = .ok (.iconst 0, 1) := by decide +kernel
theorem dX3_holds_31 : decode cX3_holds 31 = .ok (.ireturn, 1) := by decide +kernel
theorem dX3_make_0 : decode cX3_make 0 = .ok (.aload_n 0, 1) := by decide +kernel
theorem dX3_make_1 : decode cX3_make 1 = .ok (.iload_n 1, 1) := by decide +kernel
theorem dX3_make_2 : decode cX3_make 2 = .ok (.putfield 19, 3) := by decide +kernel
theorem dX3_make_5 : decode cX3_make 5 = .ok (.aload_n 0, 1) := by decide +kernel
theorem dX3_make_6 : decode cX3_make 6 = .ok (.iload_n 2, 1) := by decide +kernel
theorem dX3_make_7 : decode cX3_make 7 = .ok (.putfield 15, 3) := by decide +kernel
theorem dX3_make_10 : decode cX3_make 10 = .ok (.iconst 0, 1) := by decide +kernel
theorem dX3_make_11 : decode cX3_make 11 = .ok (.istore_n 3, 1) := by decide +kernel
theorem dX3_make_12 : decode cX3_make 12 = .ok (.iload_n 3, 1) := by decide +kernel
theorem dX3_make_13 : decode cX3_make 13 = .ok (.bipush 40, 2) := by decide +kernel
theorem dX3_make_15 : decode cX3_make 15 = .ok (.if_icmp .ge 16, 3) := by decide +kernel
theorem dX3_make_18 : decode cX3_make 18 = .ok (.aload_n 0, 1) := by decide +kernel
theorem dX3_make_19 : decode cX3_make 19 = .ok (.getfield 9, 3) := by decide +kernel
theorem dX3_make_22 : decode cX3_make 22 = .ok (.iload_n 3, 1) := by decide +kernel
theorem dX3_make_23 : decode cX3_make 23 = .ok (.iconst 0, 1) := by decide +kernel
theorem dX3_make_24 : decode cX3_make 24 = .ok (.iastore, 1) := by decide +kernel
theorem dX3_make_25 : decode cX3_make 25 = .ok (.iinc 3 1, 3) := by decide +kernel
theorem dX3_make_28 : decode cX3_make 28 = .ok (.goto (-16), 3) := by decide +kernel
theorem dX3_make_31 : decode cX3_make 31 = .ok (.return_, 1) := by decide +kernel
theorem dX3_put_0 : decode cX3_put 0 = .ok (.aload_n 0, 1) := by decide +kernel
theorem dX3_put_1 : decode cX3_put 1 = .ok (.getfield 9, 3) := by decide +kernel
theorem dX3_put_4 : decode cX3_put 4 = .ok (.iload_n 1, 1) := by decide +kernel
theorem dX3_put_5 : decode cX3_put 5 = .ok (.aload_n 0, 1) := by decide +kernel
theorem dX3_put_6 : decode cX3_put 6 = .ok (.getfield 19, 3) := by decide +kernel
theorem dX3_put_9 : decode cX3_put 9 = .ok (.ifCond .ne 8, 3) := by decide +kernel
theorem dX3_put_12 : decode cX3_put 12 = .ok (.iload_n 2, 1) := by decide +kernel
theorem dX3_put_13 : decode cX3_put 13 = .ok (.i2b, 1) := by decide +kernel
theorem dX3_put_14 : decode cX3_put 14 = .ok (.goto 17, 3) := by decide +kernel
theorem dX3_put_17 : decode cX3_put 17 = .ok (.aload_n 0, 1) := by decide +kernel
theorem dX3_put_18 : decode cX3_put 18 = .ok (.getfield 19, 3) := by decide +kernel
theorem dX3_put_21 : decode cX3_put 21 = .ok (.iconst 1, 1) := by decide +kernel
theorem dX3_put_22 : decode cX3_put 22 = .ok (.if_icmp .ne 8, 3) := by decide +kernel
theorem dX3_put_25 : decode cX3_put 25 = .ok (.iload_n 2, 1) := by decide +kernel
theorem dX3_put_26 : decode cX3_put 26 = .ok (.i2s, 1) := by decide +kernel
theorem dX3_put_27 : decode cX3_put 27 = .ok (.goto 4, 3) := by decide +kernel
theorem dX3_put_30 : decode cX3_put 30 = .ok (.iload_n 2, 1) := by decide +kernel
theorem dX3_put_31 : decode cX3_put 31 = .ok (.iastore, 1) := by decide +kernel
theorem dX3_put_32 : decode cX3_put 32 = .ok (.aload_n 0, 1) := by decide +kernel
theorem dX3_put_33 : decode cX3_put 33 = .ok (.getfield 9, 3) := by decide +kernel
theorem dX3_put_36 : decode cX3_put 36 = .ok (.iload_n 1, 1) := by decide +kernel
theorem dX3_put_37 : decode cX3_put 37 = .ok (.iaload, 1) := by decide +kernel
theorem dX3_put_38 : decode cX3_put 38 = .ok (.ireturn, 1) := by decide +kernel
theorem dX3_lose_0 : decode cX3_lose 0 = .ok (.aload_n 0, 1) := by decide +kernel
theorem dX3_lose_1 : decode cX3_lose 1 = .ok (.getfield 15, 3) := by decide +kernel
theorem dX3_lose_4 : decode cX3_lose 4 = .ok (.istore_n 1, 1) := by decide +kernel
theorem dX3_lose_5 : decode cX3_lose 5 = .ok (.aload_n 0, 1) := by decide +kernel
theorem dX3_lose_6 : decode cX3_lose 6 = .ok (.iconst (-1), 1) := by decide +kernel
theorem dX3_lose_7 : decode cX3_lose 7 = .ok (.putfield 15, 3) := by decide +kernel
theorem dX3_lose_10 : decode cX3_lose 10 = .ok (.iload_n 1, 1) := by decide +kernel
theorem dX3_lose_11 : decode cX3_lose 11 = .ok (.ireturn, 1) := by decide +kernel
theorem dX4_init_0 : decode cX4_init 0 = .ok (.aload_n 0, 1) := by decide +kernel
theorem dX4_init_1 : decode cX4_init 1 = .ok (.invokespecial 3, 3) := by decide +kernel
theorem dX4_init_4 : decode cX4_init 4 = .ok (.aload_n 0, 1) := by decide +kernel
theorem dX4_init_5 : decode cX4_init 5 = .ok (.bipush 80, 2) := by decide +kernel
theorem dX4_init_7 : decode cX4_init 7 = .ok (.newarray .int, 2) := by decide +kernel
theorem dX4_init_9 : decode cX4_init 9 = .ok (.putfield 9, 3) := by decide +kernel
theorem dX4_init_12 : decode cX4_init 12 = .ok (.aload_n 0, 1) := by decide +kernel
theorem dX4_init_13 : decode cX4_init 13 = .ok (.bipush 16, 2) := by decide +kernel
theorem dX4_init_15 : decode cX4_init 15 = .ok (.newarray .int, 2) := by decide +kernel
theorem dX4_init_17 : decode cX4_init 17 = .ok (.putfield 15, 3) := by decide +kernel
theorem dX4_init_20 : decode cX4_init 20 = .ok (.aload_n 0, 1) := by decide +kernel
theorem dX4_init_21 : decode cX4_init 21 = .ok (.iconst 5, 1) := by decide +kernel
theorem dX4_init_22 : decode cX4_init 22 = .ok (.newarray .int, 2) := by decide +kernel
theorem dX4_init_24 : decode cX4_init 24 = .ok (.putfield 18, 3) := by decide +kernel
theorem dX4_init_27 : decode cX4_init 27 = .ok (.aload_n 0, 1) := by decide +kernel
theorem dX4_init_28 : decode cX4_init 28 = .ok (.iconst 4, 1) := by decide +kernel
theorem dX4_init_29 : decode cX4_init 29 = .ok (.newarray .int, 2) := by decide +kernel
theorem dX4_init_31 : decode cX4_init 31 = .ok (.putfield 21, 3) := by decide +kernel
theorem dX4_init_34 : decode cX4_init 34 = .ok (.aload_n 0, 1) := by decide +kernel
theorem dX4_init_35 : decode cX4_init 35 = .ok (.iconst 4, 1) := by decide +kernel
theorem dX4_init_36 : decode cX4_init 36 = .ok (.newarray .int, 2) := by decide +kernel
theorem dX4_init_38 : decode cX4_init 38 = .ok (.putfield 24, 3) := by decide +kernel
theorem dX4_init_41 : decode cX4_init 41 = .ok (.return_, 1) := by decide +kernel
theorem dX4_findBest_0 : decode cX4_findBest 0 = .ok (.aload_n 0, 1) := by decide +kernel
theorem dX4_findBest_1 : decode cX4_findBest 1 = .ok (.aload_n 1, 1) := by decide +kernel
theorem dX4_findBest_2 : decode cX4_findBest 2 = .ok (.iload_n 2, 1) := by decide +kernel
theorem dX4_findBest_3 : decode cX4_findBest 3 = .ok (.invokevirtual 27, 3) := by decide +kernel
theorem dX4_findBest_6 : decode cX4_findBest 6 = .ok (.aload_n 0, 1) := by decide +kernel
theorem dX4_findBest_7 : decode cX4_findBest 7 = .ok (.iconst (-1), 1) := by decide +kernel
theorem dX4_findBest_8 : decode cX4_findBest 8 = .ok (.putfield 31, 3) := by decide +kernel
theorem dX4_findBest_11 : decode cX4_findBest 11 = .ok (.aload_n 1, 1) := by decide +kernel
theorem dX4_findBest_12 : decode cX4_findBest 12 = .ok (.invokestatic 35, 3) := by decide +kernel
theorem dX4_findBest_15 : decode cX4_findBest 15 = .ok (.istore_n 3, 1) := by decide +kernel
theorem dX4_findBest_16 : decode cX4_findBest 16 = .ok (.iconst 0, 1) := by decide +kernel
theorem dX4_findBest_17 : decode cX4_findBest 17 = .ok (.istore 4, 2) := by decide +kernel
theorem dX4_findBest_19 : decode cX4_findBest 19 = .ok (.iload 4, 2) := by decide +kernel
theorem dX4_findBest_21 : decode cX4_findBest 21 = .ok (.iload_n 3, 1) := by decide +kernel
theorem dX4_findBest_22 : decode cX4_findBest 22 = .ok (.if_icmp .ge 118, 3) := by decide +kernel
theorem dX4_findBest_25 : decode cX4_findBest 25 = .ok (.aload_n 0, 1) := by decide +kernel
theorem dX4_findBest_26 : decode cX4_findBest 26 = .ok (.aload_n 1, 1) := by decide +kernel
theorem dX4_findBest_27 : decode cX4_findBest 27 = .ok (.iload 4, 2) := by decide +kernel
theorem dX4_findBest_29 : decode cX4_findBest 29 = .ok (.invokevirtual 39, 3) := by decide +kernel
theorem dX4_findBest_32 : decode cX4_findBest 32 = .ok (.pop, 1) := by decide +kernel
theorem dX4_findBest_33 : decode cX4_findBest 33 = .ok (.iconst 0, 1) := by decide +kernel
theorem dX4_findBest_34 : decode cX4_findBest 34 = .ok (.istore 5, 2) := by decide +kernel
theorem dX4_findBest_36 : decode cX4_findBest 36 = .ok (.iconst 0, 1) := by decide +kernel
theorem dX4_findBest_37 : decode cX4_findBest 37 = .ok (.istore 6, 2) := by decide +kernel
theorem dX4_findBest_39 : decode cX4_findBest 39 = .ok (.iconst 0, 1) := by decide +kernel
theorem dX4_findBest_40 : decode cX4_findBest 40 = .ok (.istore 7, 2) := by decide +kernel
theorem dX4_findBest_42 : decode cX4_findBest 42 = .ok (.iload 7, 2) := by decide +kernel
theorem dX4_findBest_44 : decode cX4_findBest 44 = .ok (.aload_n 1, 1) := by decide +kernel
theorem dX4_findBest_45 : decode cX4_findBest 45 = .ok (.getfield 43, 3) := by decide +kernel
theorem dX4_findBest_48 : decode cX4_findBest 48 = .ok (.if_icmp .ge 43, 3) := by decide +kernel
theorem dX4_findBest_51 : decode cX4_findBest 51 = .ok (.aload_n 0, 1) := by decide +kernel
theorem dX4_findBest_52 : decode cX4_findBest 52 = .ok (.iload 7, 2) := by decide +kernel
theorem dX4_findBest_54 : decode cX4_findBest 54 = .ok (.invokevirtual 48, 3) := by decide +kernel
theorem dX4_findBest_57 : decode cX4_findBest 57 = .ok (.istore 8, 2) := by decide +kernel
theorem dX4_findBest_59 : decode cX4_findBest 59 = .ok (.iload 6, 2) := by decide +kernel
theorem dX4_findBest_61 : decode cX4_findBest 61 = .ok (.iload 8, 2) := by decide +kernel
theorem dX4_findBest_63 : decode cX4_findBest 63 = .ok (.iadd, 1) := by decide +kernel
theorem dX4_findBest_64 : decode cX4_findBest 64 = .ok (.istore 6, 2) := by decide +kernel
theorem dX4_findBest_66 : decode cX4_findBest 66 = .ok (.iload 5, 2) := by decide +kernel
theorem dX4_findBest_68 : decode cX4_findBest 68 = .ok (.iload 8, 2) := by decide +kernel
theorem dX4_findBest_70 : decode cX4_findBest 70 = .ok (.aload_n 1, 1) := by decide +kernel
theorem dX4_findBest_71 : decode cX4_findBest 71 = .ok (.getfield 52, 3) := by decide +kernel
theorem dX4_findBest_74 : decode cX4_findBest 74 = .ok (.if_icmp .gt 7, 3) := by decide +kernel
theorem dX4_findBest_77 : decode cX4_findBest 77 = .ok (.iconst 1, 1) := by decide +kernel
theorem dX4_findBest_78 : decode cX4_findBest 78 = .ok (.goto 4, 3) := by decide +kernel
theorem dX4_findBest_81 : decode cX4_findBest 81 = .ok (.iconst 0, 1) := by decide +kernel
theorem dX4_findBest_82 : decode cX4_findBest 82 = .ok (.iadd, 1) := by decide +kernel
theorem dX4_findBest_83 : decode cX4_findBest 83 = .ok (.istore 5, 2) := by decide +kernel
theorem dX4_findBest_85 : decode cX4_findBest 85 = .ok (.iinc 7 1, 3) := by decide +kernel
theorem dX4_findBest_88 : decode cX4_findBest 88 = .ok (.goto (-46), 3) := by decide +kernel
theorem dX4_findBest_91 : decode cX4_findBest 91 = .ok (.iload 5, 2) := by decide +kernel
theorem dX4_findBest_93 : decode cX4_findBest 93 = .ok (.aload_n 0, 1) := by decide +kernel
theorem dX4_findBest_94 : decode cX4_findBest 94 = .ok (.getfield 31, 3) := by decide +kernel
theorem dX4_findBest_97 : decode cX4_findBest 97 = .ok (.if_icmp .gt 21, 3) := by decide +kernel
theorem dX4_findBest_100 : decode cX4_findBest 100 = .ok (.iload 5, 2) := by decide +kernel
theorem dX4_findBest_102 : decode cX4_findBest 102 = .ok (.aload_n 0, 1) := by decide +kernel
theorem dX4_findBest_103 : decode cX4_findBest 103 = .ok (.getfield 31, 3) := by decide +kernel
theorem dX4_findBest_106 : decode cX4_findBest 106 = .ok (.if_icmp .ne 28, 3) := by decide +kernel
theorem dX4_findBest_109 : decode cX4_findBest 109 = .ok (.iload 6, 2) := by decide +kernel
theorem dX4_findBest_111 : decode cX4_findBest 111 = .ok (.aload_n 0, 1) := by decide +kernel
theorem dX4_findBest_112 : decode cX4_findBest 112 = .ok (.getfield 55, 3) := by decide +kernel
theorem dX4_findBest_115 : decode cX4_findBest 115 = .ok (.if_icmp .ge 19, 3) := by decide +kernel
theorem dX4_findBest_118 : decode cX4_findBest 118 = .ok (.aload_n 0, 1) := by decide +kernel
theorem dX4_findBest_119 : decode cX4_findBest 119 = .ok (.iload 5, 2) := by decide +kernel
theorem dX4_findBest_121 : decode cX4_findBest 121 = .ok (.putfield 31, 3) := by decide +kernel
theorem dX4_findBest_124 : decode cX4_findBest 124 = .ok (.aload_n 0, 1) := by decide +kernel
theorem dX4_findBest_125 : decode cX4_findBest 125 = .ok (.iload 6, 2) := by decide +kernel
theorem dX4_findBest_127 : decode cX4_findBest 127 = .ok (.putfield 55, 3) := by decide +kernel
theorem dX4_findBest_130 : decode cX4_findBest 130 = .ok (.aload_n 0, 1) := by decide +kernel
theorem dX4_findBest_131 : decode cX4_findBest 131 = .ok (.invokevirtual 58, 3) := by decide +kernel
theorem dX4_findBest_134 : decode cX4_findBest 134 = .ok (.iinc 4 1, 3) := by decide +kernel
theorem dX4_findBest_137 : decode cX4_findBest 137 = .ok (.goto (-118), 3) := by decide +kernel
theorem dX4_findBest_140 : decode cX4_findBest 140 = .ok (.return_, 1) := by decide +kernel
theorem dX4_findFewest_0 : decode cX4_findFewest 0 = .ok (.aload_n 0, 1) := by decide +kernel
theorem dX4_findFewest_1 : decode cX4_findFewest 1 = .ok (.aload_n 1, 1) := by decide +kernel
theorem dX4_findFewest_2 : decode cX4_findFewest 2 = .ok (.iload_n 3, 1) := by decide +kernel
theorem dX4_findFewest_3 : decode cX4_findFewest 3 = .ok (.invokevirtual 27, 3) := by decide +kernel
theorem dX4_findFewest_6 : decode cX4_findFewest 6 = .ok (.aload_n 0, 1) := by decide +kernel
theorem dX4_findFewest_7 : decode cX4_findFewest 7 = .ok (.ldc 61, 2) := by decide +kernel
theorem dX4_findFewest_9 : decode cX4_findFewest 9 = .ok (.putfield 62, 3) := by decide +kernel
theorem dX4_findFewest_12 : decode cX4_findFewest 12 = .ok (.aload_n 1, 1) := by decide +kernel
theorem dX4_findFewest_13 : decode cX4_findFewest 13 = .ok (.invokestatic 35, 3) := by decide +kernel
theorem dX4_findFewest_16 : decode cX4_findFewest 16 = .ok (.istore 4, 2) := by decide +kernel
theorem dX4_findFewest_18 : decode cX4_findFewest 18 = .ok (.iconst 0, 1) := by decide +kernel
theorem dX4_findFewest_19 : decode cX4_findFewest 19 = .ok (.istore 5, 2) := by decide +kernel
theorem dX4_findFewest_21 : decode cX4_findFewest 21 = .ok (.iload 5, 2) := by decide +kernel
theorem dX4_findFewest_23 : decode cX4_findFewest 23 = .ok (.iload 4, 2) := by decide +kernel
theorem dX4_findFewest_25 : decode cX4_findFewest 25 = .ok (.if_icmp .ge 55, 3) := by decide +kernel
theorem dX4_findFewest_28 : decode cX4_findFewest 28 = .ok (.aload_n 0, 1) := by decide +kernel
theorem dX4_findFewest_29 : decode cX4_findFewest 29 = .ok (.aload_n 1, 1) := by decide +kernel
theorem dX4_findFewest_30 : decode cX4_findFewest 30 = .ok (.iload 5, 2) := by decide +kernel
theorem dX4_findFewest_32 : decode cX4_findFewest 32 = .ok (.invokevirtual 39, 3) := by decide +kernel
theorem dX4_findFewest_35 : decode cX4_findFewest 35 = .ok (.istore 6, 2) := by decide +kernel
theorem dX4_findFewest_37 : decode cX4_findFewest 37 = .ok (.aload_n 0, 1) := by decide +kernel
theorem dX4_findFewest_38 : decode cX4_findFewest 38 = .ok (.getfield 62, 3) := by decide +kernel
theorem dX4_findFewest_41 : decode cX4_findFewest 41 = .ok (.ldc 61, 2) := by decide +kernel
theorem dX4_findFewest_43 : decode cX4_findFewest 43 = .ok (.if_icmp .eq 12, 3) := by decide +kernel
theorem dX4_findFewest_46 : decode cX4_findFewest 46 = .ok (.iload 6, 2) := by decide +kernel
theorem dX4_findFewest_48 : decode cX4_findFewest 48 = .ok (.aload_n 0, 1) := by decide +kernel
theorem dX4_findFewest_49 : decode cX4_findFewest 49 = .ok (.getfield 62, 3) := by decide +kernel
theorem dX4_findFewest_52 : decode cX4_findFewest 52 = .ok (.if_icmp .ge 22, 3) := by decide +kernel
theorem dX4_findFewest_55 : decode cX4_findFewest 55 = .ok (.aload_n 0, 1) := by decide +kernel
theorem dX4_findFewest_56 : decode cX4_findFewest 56 = .ok (.aload_n 1, 1) := by decide +kernel
theorem dX4_findFewest_57 : decode cX4_findFewest 57 = .ok (.iload_n 2, 1) := by decide +kernel
theorem dX4_findFewest_58 : decode cX4_findFewest 58 = .ok (.invokevirtual 65, 3) := by decide +kernel
theorem dX4_findFewest_61 : decode cX4_findFewest 61 = .ok (.ifCond .eq 13, 3) := by decide +kernel
theorem dX4_findFewest_64 : decode cX4_findFewest 64 = .ok (.aload_n 0, 1) := by decide +kernel
theorem dX4_findFewest_65 : decode cX4_findFewest 65 = .ok (.iload 6, 2) := by decide +kernel
theorem dX4_findFewest_67 : decode cX4_findFewest 67 = .ok (.putfield 62, 3) := by decide +kernel
theorem dX4_findFewest_70 : decode cX4_findFewest 70 = .ok (.aload_n 0, 1) := by decide +kernel
theorem dX4_findFewest_71 : decode cX4_findFewest 71 = .ok (.invokevirtual 58, 3) := by decide +kernel
theorem dX4_findFewest_74 : decode cX4_findFewest 74 = .ok (.iinc 5 1, 3) := by decide +kernel
theorem dX4_findFewest_77 : decode cX4_findFewest 77 = .ok (.goto (-56), 3) := by decide +kernel
theorem dX4_findFewest_80 : decode cX4_findFewest 80 = .ok (.return_, 1) := by decide +kernel
theorem dX4_restAll_0 : decode cX4_restAll 0 = .ok (.iconst 0, 1) := by decide +kernel
theorem dX4_restAll_1 : decode cX4_restAll 1 = .ok (.istore_n 3, 1) := by decide +kernel
theorem dX4_restAll_2 : decode cX4_restAll 2 = .ok (.iload_n 3, 1) := by decide +kernel
theorem dX4_restAll_3 : decode cX4_restAll 3 = .ok (.aload_n 1, 1) := by decide +kernel
theorem dX4_restAll_4 : decode cX4_restAll 4 = .ok (.getfield 43, 3) := by decide +kernel
theorem dX4_restAll_7 : decode cX4_restAll 7 = .ok (.if_icmp .ge 32, 3) := by decide +kernel
theorem dX4_restAll_10 : decode cX4_restAll 10 = .ok (.iload_n 2, 1) := by decide +kernel
theorem dX4_restAll_11 : decode cX4_restAll 11 = .ok (.iload_n 3, 1) := by decide +kernel
theorem dX4_restAll_12 : decode cX4_restAll 12 = .ok (.ishr, 1) := by decide +kernel
theorem dX4_restAll_13 : decode cX4_restAll 13 = .ok (.iconst 1, 1) := by decide +kernel
theorem dX4_restAll_14 : decode cX4_restAll 14 = .ok (.iand, 1) := by decide +kernel
theorem dX4_restAll_15 : decode cX4_restAll 15 = .ok (.iconst 1, 1) := by decide +kernel
theorem dX4_restAll_16 : decode cX4_restAll 16 = .ok (.if_icmp .ne 17, 3) := by decide +kernel
theorem dX4_restAll_19 : decode cX4_restAll 19 = .ok (.aload_n 0, 1) := by decide +kernel
theorem dX4_restAll_20 : decode cX4_restAll 20 = .ok (.iload_n 3, 1) := by decide +kernel
theorem dX4_restAll_21 : decode cX4_restAll 21 = .ok (.invokevirtual 48, 3) := by decide +kernel
theorem dX4_restAll_24 : decode cX4_restAll 24 = .ok (.aload_n 1, 1) := by decide +kernel
theorem dX4_restAll_25 : decode cX4_restAll 25 = .ok (.getfield 52, 3) := by decide +kernel
theorem dX4_restAll_28 : decode cX4_restAll 28 = .ok (.if_icmp .le 5, 3) := by decide +kernel
theorem dX4_restAll_31 : decode cX4_restAll 31 = .ok (.iconst 0, 1) := by decide +kernel
theorem dX4_restAll_32 : decode cX4_restAll 32 = .ok (.ireturn, 1) := by decide +kernel
theorem dX4_restAll_33 : decode cX4_restAll 33 = .ok (.iinc 3 1, 3) := by decide +kernel
theorem dX4_restAll_36 : decode cX4_restAll 36 = .ok (.goto (-34), 3) := by decide +kernel
theorem dX4_restAll_39 : decode cX4_restAll 39 = .ok (.iconst 1, 1) := by decide +kernel
theorem dX4_restAll_40 : decode cX4_restAll 40 = .ok (.ireturn, 1) := by decide +kernel
theorem dX4_weightBehind_0 : decode cX4_weightBehind 0 = .ok (.aload_n 0, 1) := by decide +kernel
theorem dX4_weightBehind_1 : decode cX4_weightBehind 1 = .ok (.getfield 9, 3) := by decide +kernel
theorem dX4_weightBehind_4 : decode cX4_weightBehind 4 = .ok (.iload_n 1, 1) := by decide +kernel
theorem dX4_weightBehind_5 : decode cX4_weightBehind 5 = .ok (.bipush 16, 2) := by decide +kernel
theorem dX4_weightBehind_7 : decode cX4_weightBehind 7 = .ok (.imul, 1) := by decide +kernel
theorem dX4_weightBehind_8 : decode cX4_weightBehind 8 = .ok (.aload_n 0, 1) := by decide +kernel
theorem dX4_weightBehind_9 : decode cX4_weightBehind 9 = .ok (.getfield 18, 3) := by decide +kernel
theorem dX4_weightBehind_12 : decode cX4_weightBehind 12 = .ok (.iload_n 1, 1) := by decide +kernel
theorem dX4_weightBehind_13 : decode cX4_weightBehind 13 = .ok (.iaload, 1) := by decide +kernel
theorem dX4_weightBehind_14 : decode cX4_weightBehind 14 = .ok (.iadd, 1) := by decide +kernel
theorem dX4_weightBehind_15 : decode cX4_weightBehind 15 = .ok (.iaload, 1) := by decide +kernel
theorem dX4_weightBehind_16 : decode cX4_weightBehind 16 = .ok (.ireturn, 1) := by decide +kernel
theorem dX4_choose_0 : decode cX4_choose 0 = .ok (.aload_n 0, 1) := by decide +kernel
theorem dX4_choose_1 : decode cX4_choose 1 = .ok (.getfield 21, 3) := by decide +kernel
theorem dX4_choose_4 : decode cX4_choose 4 = .ok (.iconst 0, 1) := by decide +kernel
theorem dX4_choose_5 : decode cX4_choose 5 = .ok (.aload_n 0, 1) := by decide +kernel
theorem dX4_choose_6 : decode cX4_choose 6 = .ok (.getfield 24, 3) := by decide +kernel
theorem dX4_choose_9 : decode cX4_choose 9 = .ok (.iconst 0, 1) := by decide +kernel
theorem dX4_choose_10 : decode cX4_choose 10 = .ok (.iconst 4, 1) := by decide +kernel
theorem dX4_choose_11 : decode cX4_choose 11 = .ok (.invokestatic 69, 3) := by decide +kernel
theorem dX4_choose_14 : decode cX4_choose 14 = .ok (.return_, 1) := by decide +kernel
theorem dX4_foretellSets_0 : decode cX4_foretellSets 0 = .ok (.iconst 0, 1) := by decide +kernel
theorem dX4_foretellSets_1 : decode cX4_foretellSets 1 = .ok (.istore_n 3, 1) := by decide +kernel
theorem dX4_foretellSets_2 : decode cX4_foretellSets 2 = .ok (.iload_n 3, 1) := by decide +kernel
theorem dX4_foretellSets_3 : decode cX4_foretellSets 3 = .ok (.aload_n 1, 1) := by decide +kernel
theorem dX4_foretellSets_4 : decode cX4_foretellSets 4 = .ok (.getfield 43, 3) := by decide +kernel
theorem dX4_foretellSets_7 : decode cX4_foretellSets 7 = .ok (.if_icmp .ge 120, 3) := by decide +kernel
theorem dX4_foretellSets_10 : decode cX4_foretellSets 10 = .ok (.iconst 0, 1) := by decide +kernel
theorem dX4_foretellSets_11 : decode cX4_foretellSets 11 = .ok (.istore 4, 2) := by decide +kernel
theorem dX4_foretellSets_13 : decode cX4_foretellSets 13 = .ok (.iload 4, 2) := by decide +kernel
theorem dX4_foretellSets_15 : decode cX4_foretellSets 15 = .ok (.bipush 16, 2) := by decide +kernel
theorem dX4_foretellSets_17 : decode cX4_foretellSets 17 = .ok (.if_icmp .ge 27, 3) := by decide +kernel
theorem dX4_foretellSets_20 : decode cX4_foretellSets 20 = .ok (.aload_n 0, 1) := by decide +kernel
theorem dX4_foretellSets_21 : decode cX4_foretellSets 21 = .ok (.getfield 9, 3) := by decide +kernel
theorem dX4_foretellSets_24 : decode cX4_foretellSets 24 = .ok (.iload_n 3, 1) := by decide +kernel
theorem dX4_foretellSets_25 : decode cX4_foretellSets 25 = .ok (.bipush 16, 2) := by decide +kernel
theorem dX4_foretellSets_27 : decode cX4_foretellSets 27 = .ok (.imul, 1) := by decide +kernel
theorem dX4_foretellSets_28 : decode cX4_foretellSets 28 = .ok (.iload 4, 2) := by decide +kernel
theorem dX4_foretellSets_30 : decode cX4_foretellSets 30 = .ok (.iadd, 1) := by decide +kernel
theorem dX4_foretellSets_31 : decode cX4_foretellSets 31 = .ok (.aload_n 1, 1) := by decide +kernel
theorem dX4_foretellSets_32 : decode cX4_foretellSets 32 = .ok (.getfield 75, 3) := by decide +kernel
theorem dX4_foretellSets_35 : decode cX4_foretellSets 35 = .ok (.iload_n 3, 1) := by decide +kernel
theorem dX4_foretellSets_36 : decode cX4_foretellSets 36 = .ok (.iaload, 1) := by decide +kernel
theorem dX4_foretellSets_37 : decode cX4_foretellSets 37 = .ok (.iastore, 1) := by decide +kernel
theorem dX4_foretellSets_38 : decode cX4_foretellSets 38 = .ok (.iinc 4 1, 3) := by decide +kernel
theorem dX4_foretellSets_41 : decode cX4_foretellSets 41 = .ok (.goto (-28), 3) := by decide +kernel
theorem dX4_foretellSets_44 : decode cX4_foretellSets 44 = .ok (.iconst 0, 1) := by decide +kernel
theorem dX4_foretellSets_45 : decode cX4_foretellSets 45 = .ok (.istore 4, 2) := by decide +kernel
theorem dX4_foretellSets_47 : decode cX4_foretellSets 47 = .ok (.iload 4, 2) := by decide +kernel
theorem dX4_foretellSets_49 : decode cX4_foretellSets 49 = .ok (.iload_n 2, 1) := by decide +kernel
theorem dX4_foretellSets_50 : decode cX4_foretellSets 50 = .ok (.if_icmp .ge 71, 3) := by decide +kernel
theorem dX4_foretellSets_53 : decode cX4_foretellSets 53 = .ok (.aload_n 0, 1) := by decide +kernel
theorem dX4_foretellSets_54 : decode cX4_foretellSets 54 = .ok (.aload_n 1, 1) := by decide +kernel
theorem dX4_foretellSets_55 : decode cX4_foretellSets 55 = .ok (.iload_n 3, 1) := by decide +kernel
theorem dX4_foretellSets_56 : decode cX4_foretellSets 56 = .ok (.aload_n 1, 1) := by decide +kernel
theorem dX4_foretellSets_57 : decode cX4_foretellSets 57 = .ok (.getfield 78, 3) := by decide +kernel
theorem dX4_foretellSets_60 : decode cX4_foretellSets 60 = .ok (.iload 4, 2) := by decide +kernel
theorem dX4_foretellSets_62 : decode cX4_foretellSets 62 = .ok (.iadd, 1) := by decide +kernel
theorem dX4_foretellSets_63 : decode cX4_foretellSets 63 = .ok (.invokevirtual 81, 3) := by decide +kernel
theorem dX4_foretellSets_66 : decode cX4_foretellSets 66 = .ok (.iconst 0, 1) := by decide +kernel
theorem dX4_foretellSets_67 : decode cX4_foretellSets 67 = .ok (.istore 5, 2) := by decide +kernel
theorem dX4_foretellSets_69 : decode cX4_foretellSets 69 = .ok (.iload 5, 2) := by decide +kernel
theorem dX4_foretellSets_71 : decode cX4_foretellSets 71 = .ok (.bipush 16, 2) := by decide +kernel
theorem dX4_foretellSets_73 : decode cX4_foretellSets 73 = .ok (.if_icmp .ge 42, 3) := by decide +kernel
theorem dX4_foretellSets_76 : decode cX4_foretellSets 76 = .ok (.iload_n 3, 1) := by decide +kernel
theorem dX4_foretellSets_77 : decode cX4_foretellSets 77 = .ok (.bipush 16, 2) := by decide +kernel
theorem dX4_foretellSets_79 : decode cX4_foretellSets 79 = .ok (.imul, 1) := by decide +kernel
theorem dX4_foretellSets_80 : decode cX4_foretellSets 80 = .ok (.iload 5, 2) := by decide +kernel
theorem dX4_foretellSets_82 : decode cX4_foretellSets 82 = .ok (.iadd, 1) := by decide +kernel
theorem dX4_foretellSets_83 : decode cX4_foretellSets 83 = .ok (.istore 6, 2) := by decide +kernel
theorem dX4_foretellSets_85 : decode cX4_foretellSets 85 = .ok (.aload_n 0, 1) := by decide +kernel
theorem dX4_foretellSets_86 : decode cX4_foretellSets 86 = .ok (.getfield 9, 3) := by decide +kernel
theorem dX4_foretellSets_89 : decode cX4_foretellSets 89 = .ok (.iload 6, 2) := by decide +kernel
theorem dX4_foretellSets_91 : decode cX4_foretellSets 91 = .ok (.aload_n 0, 1) := by decide +kernel
theorem dX4_foretellSets_92 : decode cX4_foretellSets 92 = .ok (.getfield 9, 3) := by decide +kernel
theorem dX4_foretellSets_95 : decode cX4_foretellSets 95 = .ok (.iload 6, 2) := by decide +kernel
theorem dX4_foretellSets_97 : decode cX4_foretellSets 97 = .ok (.iaload, 1) := by decide +kernel
theorem dX4_foretellSets_98 : decode cX4_foretellSets 98 = .ok (.aload_n 0, 1) := by decide +kernel
theorem dX4_foretellSets_99 : decode cX4_foretellSets 99 = .ok (.getfield 15, 3) := by decide +kernel
theorem dX4_foretellSets_102 : decode cX4_foretellSets 102 = .ok (.iload 5, 2) := by decide +kernel
theorem dX4_foretellSets_104 : decode cX4_foretellSets 104 = .ok (.iaload, 1) := by decide +kernel
theorem dX4_foretellSets_105 : decode cX4_foretellSets 105 = .ok (.invokestatic 85, 3) := by decide +kernel
theorem dX4_foretellSets_108 : decode cX4_foretellSets 108 = .ok (.iastore, 1) := by decide +kernel
theorem dX4_foretellSets_109 : decode cX4_foretellSets 109 = .ok (.iinc 5 1, 3) := by decide +kernel
theorem dX4_foretellSets_112 : decode cX4_foretellSets 112 = .ok (.goto (-43), 3) := by decide +kernel
theorem dX4_foretellSets_115 : decode cX4_foretellSets 115 = .ok (.iinc 4 1, 3) := by decide +kernel
theorem dX4_foretellSets_118 : decode cX4_foretellSets 118 = .ok (.goto (-71), 3) := by decide +kernel
theorem dX4_foretellSets_121 : decode cX4_foretellSets 121 = .ok (.iinc 3 1, 3) := by decide +kernel
theorem dX4_foretellSets_124 : decode cX4_foretellSets 124 = .ok (.goto (-122), 3) := by decide +kernel
theorem dX4_foretellSets_127 : decode cX4_foretellSets 127 = .ok (.return_, 1) := by decide +kernel
theorem dX4_findTaken_0 : decode cX4_findTaken 0 = .ok (.aload_n 0, 1) := by decide +kernel
theorem dX4_findTaken_1 : decode cX4_findTaken 1 = .ok (.getfield 15, 3) := by decide +kernel
theorem dX4_findTaken_4 : decode cX4_findTaken 4 = .ok (.iconst 0, 1) := by decide +kernel
theorem dX4_findTaken_5 : decode cX4_findTaken 5 = .ok (.iconst 0, 1) := by decide +kernel
theorem dX4_findTaken_6 : decode cX4_findTaken 6 = .ok (.iastore, 1) := by decide +kernel
theorem dX4_findTaken_7 : decode cX4_findTaken 7 = .ok (.iconst 1, 1) := by decide +kernel
theorem dX4_findTaken_8 : decode cX4_findTaken 8 = .ok (.istore 4, 2) := by decide +kernel
theorem dX4_findTaken_10 : decode cX4_findTaken 10 = .ok (.iload 4, 2) := by decide +kernel
theorem dX4_findTaken_12 : decode cX4_findTaken 12 = .ok (.bipush 16, 2) := by decide +kernel
theorem dX4_findTaken_14 : decode cX4_findTaken 14 = .ok (.if_icmp .ge 64, 3) := by decide +kernel
theorem dX4_findTaken_17 : decode cX4_findTaken 17 = .ok (.iload 4, 2) := by decide +kernel
theorem dX4_findTaken_19 : decode cX4_findTaken 19 = .ok (.iload 4, 2) := by decide +kernel
theorem dX4_findTaken_21 : decode cX4_findTaken 21 = .ok (.iconst 1, 1) := by decide +kernel
theorem dX4_findTaken_22 : decode cX4_findTaken 22 = .ok (.isub, 1) := by decide +kernel
theorem dX4_findTaken_23 : decode cX4_findTaken 23 = .ok (.iand, 1) := by decide +kernel
theorem dX4_findTaken_24 : decode cX4_findTaken 24 = .ok (.istore 5, 2) := by decide +kernel
theorem dX4_findTaken_26 : decode cX4_findTaken 26 = .ok (.aload_n 0, 1) := by decide +kernel
theorem dX4_findTaken_27 : decode cX4_findTaken 27 = .ok (.getfield 15, 3) := by decide +kernel
theorem dX4_findTaken_30 : decode cX4_findTaken 30 = .ok (.iload 4, 2) := by decide +kernel
theorem dX4_findTaken_32 : decode cX4_findTaken 32 = .ok (.iload 5, 2) := by decide +kernel
theorem dX4_findTaken_34 : decode cX4_findTaken 34 = .ok (.ifCond .ne 17, 3) := by decide +kernel
theorem dX4_findTaken_37 : decode cX4_findTaken 37 = .ok (.aload_n 1, 1) := by decide +kernel
theorem dX4_findTaken_38 : decode cX4_findTaken 38 = .ok (.iload 4, 2) := by decide +kernel
theorem dX4_findTaken_40 : decode cX4_findTaken 40 = .ok (.invokestatic 89, 3) := by decide +kernel
theorem dX4_findTaken_43 : decode cX4_findTaken 43 = .ok (.iload_n 2, 1) := by decide +kernel
theorem dX4_findTaken_44 : decode cX4_findTaken 44 = .ok (.iload_n 3, 1) := by decide +kernel
theorem dX4_findTaken_45 : decode cX4_findTaken 45 = .ok (.invokevirtual 94, 3) := by decide +kernel
theorem dX4_findTaken_48 : decode cX4_findTaken 48 = .ok (.goto 23, 3) := by decide +kernel
theorem dX4_findTaken_51 : decode cX4_findTaken 51 = .ok (.aload_n 0, 1) := by decide +kernel
theorem dX4_findTaken_52 : decode cX4_findTaken 52 = .ok (.getfield 15, 3) := by decide +kernel
theorem dX4_findTaken_55 : decode cX4_findTaken 55 = .ok (.iload 5, 2) := by decide +kernel
theorem dX4_findTaken_57 : decode cX4_findTaken 57 = .ok (.iaload, 1) := by decide +kernel
theorem dX4_findTaken_58 : decode cX4_findTaken 58 = .ok (.aload_n 0, 1) := by decide +kernel
theorem dX4_findTaken_59 : decode cX4_findTaken 59 = .ok (.getfield 15, 3) := by decide +kernel
theorem dX4_findTaken_62 : decode cX4_findTaken 62 = .ok (.iload 4, 2) := by decide +kernel
theorem dX4_findTaken_64 : decode cX4_findTaken 64 = .ok (.iload 5, 2) := by decide +kernel
theorem dX4_findTaken_66 : decode cX4_findTaken 66 = .ok (.isub, 1) := by decide +kernel
theorem dX4_findTaken_67 : decode cX4_findTaken 67 = .ok (.iaload, 1) := by decide +kernel
theorem dX4_findTaken_68 : decode cX4_findTaken 68 = .ok (.invokestatic 98, 3) := by decide +kernel
theorem dX4_findTaken_71 : decode cX4_findTaken 71 = .ok (.iastore, 1) := by decide +kernel
theorem dX4_findTaken_72 : decode cX4_findTaken 72 = .ok (.iinc 4 1, 3) := by decide +kernel
theorem dX4_findTaken_75 : decode cX4_findTaken 75 = .ok (.goto (-65), 3) := by decide +kernel
theorem dX4_findTaken_78 : decode cX4_findTaken 78 = .ok (.return_, 1) := by decide +kernel
theorem dX4_waysToLet_0 : decode cX4_waysToLet 0 = .ok (.iconst 1, 1) := by decide +kernel
theorem dX4_waysToLet_1 : decode cX4_waysToLet 1 = .ok (.istore_n 1, 1) := by decide +kernel
theorem dX4_waysToLet_2 : decode cX4_waysToLet 2 = .ok (.iconst 0, 1) := by decide +kernel
theorem dX4_waysToLet_3 : decode cX4_waysToLet 3 = .ok (.istore_n 2, 1) := by decide +kernel
theorem dX4_waysToLet_4 : decode cX4_waysToLet 4 = .ok (.iload_n 2, 1) := by decide +kernel
theorem dX4_waysToLet_5 : decode cX4_waysToLet 5 = .ok (.aload_n 0, 1) := by decide +kernel
theorem dX4_waysToLet_6 : decode cX4_waysToLet 6 = .ok (.getfield 103, 3) := by decide +kernel
theorem dX4_waysToLet_9 : decode cX4_waysToLet 9 = .ok (.if_icmp .ge 18, 3) := by decide +kernel
theorem dX4_waysToLet_12 : decode cX4_waysToLet 12 = .ok (.iload_n 1, 1) := by decide +kernel
theorem dX4_waysToLet_13 : decode cX4_waysToLet 13 = .ok (.aload_n 0, 1) := by decide +kernel
theorem dX4_waysToLet_14 : decode cX4_waysToLet 14 = .ok (.getfield 43, 3) := by decide +kernel
theorem dX4_waysToLet_17 : decode cX4_waysToLet 17 = .ok (.iconst 1, 1) := by decide +kernel
theorem dX4_waysToLet_18 : decode cX4_waysToLet 18 = .ok (.iadd, 1) := by decide +kernel
theorem dX4_waysToLet_19 : decode cX4_waysToLet 19 = .ok (.imul, 1) := by decide +kernel
theorem dX4_waysToLet_20 : decode cX4_waysToLet 20 = .ok (.istore_n 1, 1) := by decide +kernel
theorem dX4_waysToLet_21 : decode cX4_waysToLet 21 = .ok (.iinc 2 1, 3) := by decide +kernel
theorem dX4_waysToLet_24 : decode cX4_waysToLet 24 = .ok (.goto (-20), 3) := by decide +kernel
theorem dX4_waysToLet_27 : decode cX4_waysToLet 27 = .ok (.iload_n 1, 1) := by decide +kernel
theorem dX4_waysToLet_28 : decode cX4_waysToLet 28 = .ok (.ireturn, 1) := by decide +kernel
theorem dX4_tryWay_0 : decode cX4_tryWay 0 = .ok (.iconst 0, 1) := by decide +kernel
theorem dX4_tryWay_1 : decode cX4_tryWay 1 = .ok (.istore_n 3, 1) := by decide +kernel
theorem dX4_tryWay_2 : decode cX4_tryWay 2 = .ok (.iload_n 3, 1) := by decide +kernel
theorem dX4_tryWay_3 : decode cX4_tryWay 3 = .ok (.iconst 5, 1) := by decide +kernel
theorem dX4_tryWay_4 : decode cX4_tryWay 4 = .ok (.if_icmp .ge 16, 3) := by decide +kernel
theorem dX4_tryWay_7 : decode cX4_tryWay 7 = .ok (.aload_n 0, 1) := by decide +kernel
theorem dX4_tryWay_8 : decode cX4_tryWay 8 = .ok (.getfield 18, 3) := by decide +kernel
theorem dX4_tryWay_11 : decode cX4_tryWay 11 = .ok (.iload_n 3, 1) := by decide +kernel
theorem dX4_tryWay_12 : decode cX4_tryWay 12 = .ok (.iconst 0, 1) := by decide +kernel
theorem dX4_tryWay_13 : decode cX4_tryWay 13 = .ok (.iastore, 1) := by decide +kernel
theorem dX4_tryWay_14 : decode cX4_tryWay 14 = .ok (.iinc 3 1, 3) := by decide +kernel
theorem dX4_tryWay_17 : decode cX4_tryWay 17 = .ok (.goto (-15), 3) := by decide +kernel
theorem dX4_tryWay_20 : decode cX4_tryWay 20 = .ok (.iconst 1, 1) := by decide +kernel
theorem dX4_tryWay_21 : decode cX4_tryWay 21 = .ok (.aload_n 1, 1) := by decide +kernel
theorem dX4_tryWay_22 : decode cX4_tryWay 22 = .ok (.getfield 43, 3) := by decide +kernel
theorem dX4_tryWay_25 : decode cX4_tryWay 25 = .ok (.iconst 1, 1) := by decide +kernel
theorem dX4_tryWay_26 : decode cX4_tryWay 26 = .ok (.iadd, 1) := by decide +kernel
theorem dX4_tryWay_27 : decode cX4_tryWay 27 = .ok (.invokestatic 98, 3) := by decide +kernel
theorem dX4_tryWay_30 : decode cX4_tryWay 30 = .ok (.istore_n 3, 1) := by decide +kernel
theorem dX4_tryWay_31 : decode cX4_tryWay 31 = .ok (.iload_n 2, 1) := by decide +kernel
theorem dX4_tryWay_32 : decode cX4_tryWay 32 = .ok (.istore 4, 2) := by decide +kernel
theorem dX4_tryWay_34 : decode cX4_tryWay 34 = .ok (.iconst 0, 1) := by decide +kernel
theorem dX4_tryWay_35 : decode cX4_tryWay 35 = .ok (.istore 5, 2) := by decide +kernel
theorem dX4_tryWay_37 : decode cX4_tryWay 37 = .ok (.aload_n 1, 1) := by decide +kernel
theorem dX4_tryWay_38 : decode cX4_tryWay 38 = .ok (.getfield 103, 3) := by decide +kernel
theorem dX4_tryWay_41 : decode cX4_tryWay 41 = .ok (.iconst 1, 1) := by decide +kernel
theorem dX4_tryWay_42 : decode cX4_tryWay 42 = .ok (.isub, 1) := by decide +kernel
theorem dX4_tryWay_43 : decode cX4_tryWay 43 = .ok (.istore 6, 2) := by decide +kernel
theorem dX4_tryWay_45 : decode cX4_tryWay 45 = .ok (.iload 6, 2) := by decide +kernel
theorem dX4_tryWay_47 : decode cX4_tryWay 47 = .ok (.ifCond .lt 64, 3) := by decide +kernel
theorem dX4_tryWay_50 : decode cX4_tryWay 50 = .ok (.iload 4, 2) := by decide +kernel
theorem dX4_tryWay_52 : decode cX4_tryWay 52 = .ok (.iload_n 3, 1) := by decide +kernel
theorem dX4_tryWay_53 : decode cX4_tryWay 53 = .ok (.irem, 1) := by decide +kernel
theorem dX4_tryWay_54 : decode cX4_tryWay 54 = .ok (.istore 7, 2) := by decide +kernel
theorem dX4_tryWay_56 : decode cX4_tryWay 56 = .ok (.iload 4, 2) := by decide +kernel
theorem dX4_tryWay_58 : decode cX4_tryWay 58 = .ok (.iload_n 3, 1) := by decide +kernel
theorem dX4_tryWay_59 : decode cX4_tryWay 59 = .ok (.idiv, 1) := by decide +kernel
theorem dX4_tryWay_60 : decode cX4_tryWay 60 = .ok (.istore 4, 2) := by decide +kernel
theorem dX4_tryWay_62 : decode cX4_tryWay 62 = .ok (.aload_n 0, 1) := by decide +kernel
theorem dX4_tryWay_63 : decode cX4_tryWay 63 = .ok (.getfield 21, 3) := by decide +kernel
theorem dX4_tryWay_66 : decode cX4_tryWay 66 = .ok (.iload 6, 2) := by decide +kernel
theorem dX4_tryWay_68 : decode cX4_tryWay 68 = .ok (.iconst 5, 1) := by decide +kernel
theorem dX4_tryWay_69 : decode cX4_tryWay 69 = .ok (.iastore, 1) := by decide +kernel
theorem dX4_tryWay_70 : decode cX4_tryWay 70 = .ok (.aload_n 1, 1) := by decide +kernel
theorem dX4_tryWay_71 : decode cX4_tryWay 71 = .ok (.iload 7, 2) := by decide +kernel
theorem dX4_tryWay_73 : decode cX4_tryWay 73 = .ok (.invokevirtual 106, 3) := by decide +kernel
theorem dX4_tryWay_76 : decode cX4_tryWay 76 = .ok (.ifCond .eq 29, 3) := by decide +kernel
theorem dX4_tryWay_79 : decode cX4_tryWay 79 = .ok (.aload_n 0, 1) := by decide +kernel
theorem dX4_tryWay_80 : decode cX4_tryWay 80 = .ok (.getfield 21, 3) := by decide +kernel
theorem dX4_tryWay_83 : decode cX4_tryWay 83 = .ok (.iload 6, 2) := by decide +kernel
theorem dX4_tryWay_85 : decode cX4_tryWay 85 = .ok (.iload 7, 2) := by decide +kernel
theorem dX4_tryWay_87 : decode cX4_tryWay 87 = .ok (.iastore, 1) := by decide +kernel
theorem dX4_tryWay_88 : decode cX4_tryWay 88 = .ok (.aload_n 0, 1) := by decide +kernel
theorem dX4_tryWay_89 : decode cX4_tryWay 89 = .ok (.getfield 18, 3) := by decide +kernel
theorem dX4_tryWay_92 : decode cX4_tryWay 92 = .ok (.iload 7, 2) := by decide +kernel
theorem dX4_tryWay_94 : decode cX4_tryWay 94 = .ok (.dup2, 1) := by decide +kernel
theorem dX4_tryWay_95 : decode cX4_tryWay 95 = .ok (.iaload, 1) := by decide +kernel
theorem dX4_tryWay_96 : decode cX4_tryWay 96 = .ok (.iconst 1, 1) := by decide +kernel
theorem dX4_tryWay_97 : decode cX4_tryWay 97 = .ok (.iload 6, 2) := by decide +kernel
theorem dX4_tryWay_99 : decode cX4_tryWay 99 = .ok (.ishl, 1) := by decide +kernel
theorem dX4_tryWay_100 : decode cX4_tryWay 100 = .ok (.ior, 1) := by decide +kernel
theorem dX4_tryWay_101 : decode cX4_tryWay 101 = .ok (.iastore, 1) := by decide +kernel
theorem dX4_tryWay_102 : decode cX4_tryWay 102 = .ok (.iinc 5 1, 3) := by decide +kernel
theorem dX4_tryWay_105 : decode cX4_tryWay 105 = .ok (.iinc 6 (-1), 3) := by decide +kernel
theorem dX4_tryWay_108 : decode cX4_tryWay 108 = .ok (.goto (-63), 3) := by decide +kernel
theorem dX4_tryWay_111 : decode cX4_tryWay 111 = .ok (.iload 5, 2) := by decide +kernel
theorem dX4_tryWay_113 : decode cX4_tryWay 113 = .ok (.ireturn, 1) := by decide +kernel
theorem dX5_init_0 : decode cX5_init 0 = .ok (.aload_n 0, 1) := by decide +kernel
theorem dX5_init_1 : decode cX5_init 1 = .ok (.invokespecial 3, 3) := by decide +kernel
theorem dX5_init_4 : decode cX5_init 4 = .ok (.aload_n 0, 1) := by decide +kernel
theorem dX5_init_5 : decode cX5_init 5 = .ok (.bipush 100, 2) := by decide +kernel
theorem dX5_init_7 : decode cX5_init 7 = .ok (.newarray .int, 2) := by decide +kernel
theorem dX5_init_9 : decode cX5_init 9 = .ok (.putfield 9, 3) := by decide +kernel
theorem dX5_init_12 : decode cX5_init 12 = .ok (.return_, 1) := by decide +kernel
theorem dX5_append_0 : decode cX5_append 0 = .ok (.aload_n 0, 1) := by decide +kernel
theorem dX5_append_1 : decode cX5_append 1 = .ok (.getfield 15, 3) := by decide +kernel
theorem dX5_append_4 : decode cX5_append 4 = .ok (.bipush 100, 2) := by decide +kernel
theorem dX5_append_6 : decode cX5_append 6 = .ok (.if_icmp .lt 5, 3) := by decide +kernel
theorem dX5_append_9 : decode cX5_append 9 = .ok (.iconst 0, 1) := by decide +kernel
theorem dX5_append_10 : decode cX5_append 10 = .ok (.ireturn, 1) := by decide +kernel
theorem dX5_append_11 : decode cX5_append 11 = .ok (.aload_n 0, 1) := by decide +kernel
theorem dX5_append_12 : decode cX5_append 12 = .ok (.getfield 9, 3) := by decide +kernel
theorem dX5_append_15 : decode cX5_append 15 = .ok (.aload_n 0, 1) := by decide +kernel
theorem dX5_append_16 : decode cX5_append 16 = .ok (.getfield 15, 3) := by decide +kernel
theorem dX5_append_19 : decode cX5_append 19 = .ok (.iload_n 1, 1) := by decide +kernel
theorem dX5_append_20 : decode cX5_append 20 = .ok (.iastore, 1) := by decide +kernel
theorem dX5_append_21 : decode cX5_append 21 = .ok (.aload_n 0, 1) := by decide +kernel
theorem dX5_append_22 : decode cX5_append 22 = .ok (.dup, 1) := by decide +kernel
theorem dX5_append_23 : decode cX5_append 23 = .ok (.getfield 15, 3) := by decide +kernel
theorem dX5_append_26 : decode cX5_append 26 = .ok (.iconst 1, 1) := by decide +kernel
theorem dX5_append_27 : decode cX5_append 27 = .ok (.iadd, 1) := by decide +kernel
theorem dX5_append_28 : decode cX5_append 28 = .ok (.putfield 15, 3) := by decide +kernel
theorem dX5_append_31 : decode cX5_append 31 = .ok (.iconst 1, 1) := by decide +kernel
theorem dX5_append_32 : decode cX5_append 32 = .ok (.ireturn, 1) := by decide +kernel
theorem dX5_readInto_0 : decode cX5_readInto 0 = .ok (.aload_n 0, 1) := by decide +kernel
theorem dX5_readInto_1 : decode cX5_readInto 1 = .ok (.iconst 0, 1) := by decide +kernel
theorem dX5_readInto_2 : decode cX5_readInto 2 = .ok (.putfield 19, 3) := by decide +kernel
theorem dX5_readInto_5 : decode cX5_readInto 5 = .ok (.aload_n 0, 1) := by decide +kernel
theorem dX5_readInto_6 : decode cX5_readInto 6 = .ok (.iconst 0, 1) := by decide +kernel
theorem dX5_readInto_7 : decode cX5_readInto 7 = .ok (.putfield 22, 3) := by decide +kernel
theorem dX5_readInto_10 : decode cX5_readInto 10 = .ok (.aload_n 1, 1) := by decide +kernel
theorem dX5_readInto_11 : decode cX5_readInto 11 = .ok (.invokevirtual 25, 3) := by decide +kernel
theorem dX5_readInto_14 : decode cX5_readInto 14 = .ok (.aload_n 0, 1) := by decide +kernel
theorem dX5_readInto_15 : decode cX5_readInto 15 = .ok (.aload_n 1, 1) := by decide +kernel
theorem dX5_readInto_16 : decode cX5_readInto 16 = .ok (.invokevirtual 30, 3) := by decide +kernel
theorem dX5_readInto_19 : decode cX5_readInto 19 = .ok (.aload_n 0, 1) := by decide +kernel
theorem dX5_readInto_20 : decode cX5_readInto 20 = .ok (.aload_n 1, 1) := by decide +kernel
theorem dX5_readInto_21 : decode cX5_readInto 21 = .ok (.invokevirtual 34, 3) := by decide +kernel
theorem dX5_readInto_24 : decode cX5_readInto 24 = .ok (.aload_n 0, 1) := by decide +kernel
theorem dX5_readInto_25 : decode cX5_readInto 25 = .ok (.aload_n 1, 1) := by decide +kernel
theorem dX5_readInto_26 : decode cX5_readInto 26 = .ok (.invokevirtual 37, 3) := by decide +kernel
theorem dX5_readInto_29 : decode cX5_readInto 29 = .ok (.aload_n 0, 1) := by decide +kernel
theorem dX5_readInto_30 : decode cX5_readInto 30 = .ok (.getfield 19, 3) := by decide +kernel
theorem dX5_readInto_33 : decode cX5_readInto 33 = .ok (.aload_n 0, 1) := by decide +kernel
theorem dX5_readInto_34 : decode cX5_readInto 34 = .ok (.getfield 15, 3) := by decide +kernel
theorem dX5_readInto_37 : decode cX5_readInto 37 = .ok (.if_icmp .ge 12, 3) := by decide +kernel
theorem dX5_readInto_40 : decode cX5_readInto 40 = .ok (.aload_n 0, 1) := by decide +kernel
theorem dX5_readInto_41 : decode cX5_readInto 41 = .ok (.iconst 1, 1) := by decide +kernel
theorem dX5_readInto_42 : decode cX5_readInto 42 = .ok (.aload_n 0, 1) := by decide +kernel
theorem dX5_readInto_43 : decode cX5_readInto 43 = .ok (.getfield 19, 3) := by decide +kernel
theorem dX5_readInto_46 : decode cX5_readInto 46 = .ok (.invokevirtual 40, 3) := by decide +kernel
theorem dX5_readInto_49 : decode cX5_readInto 49 = .ok (.aload_n 0, 1) := by decide +kernel
theorem dX5_readInto_50 : decode cX5_readInto 50 = .ok (.iconst 0, 1) := by decide +kernel
theorem dX5_readInto_51 : decode cX5_readInto 51 = .ok (.putfield 15, 3) := by decide +kernel
theorem dX5_readInto_54 : decode cX5_readInto 54 = .ok (.return_, 1) := by decide +kernel
theorem dX5_readLaw_0 : decode cX5_readLaw 0 = .ok (.aload_n 0, 1) := by decide +kernel
theorem dX5_readLaw_1 : decode cX5_readLaw 1 = .ok (.bipush 108, 2) := by decide +kernel
theorem dX5_readLaw_3 : decode cX5_readLaw 3 = .ok (.invokevirtual 44, 3) := by decide +kernel
theorem dX5_readLaw_6 : decode cX5_readLaw 6 = .ok (.aload_n 1, 1) := by decide +kernel
theorem dX5_readLaw_7 : decode cX5_readLaw 7 = .ok (.aload_n 0, 1) := by decide +kernel
theorem dX5_readLaw_8 : decode cX5_readLaw 8 = .ok (.bipush 20, 2) := by decide +kernel
theorem dX5_readLaw_10 : decode cX5_readLaw 10 = .ok (.invokevirtual 48, 3) := by decide +kernel
theorem dX5_readLaw_13 : decode cX5_readLaw 13 = .ok (.putfield 52, 3) := by decide +kernel
theorem dX5_readLaw_16 : decode cX5_readLaw 16 = .ok (.aload_n 0, 1) := by decide +kernel
theorem dX5_readLaw_17 : decode cX5_readLaw 17 = .ok (.bipush 44, 2) := by decide +kernel
theorem dX5_readLaw_19 : decode cX5_readLaw 19 = .ok (.invokevirtual 44, 3) := by decide +kernel
theorem dX5_readLaw_22 : decode cX5_readLaw 22 = .ok (.aload_n 1, 1) := by decide +kernel
theorem dX5_readLaw_23 : decode cX5_readLaw 23 = .ok (.aload_n 0, 1) := by decide +kernel
theorem dX5_readLaw_24 : decode cX5_readLaw 24 = .ok (.bipush 6, 2) := by decide +kernel
theorem dX5_readLaw_26 : decode cX5_readLaw 26 = .ok (.invokevirtual 48, 3) := by decide +kernel
theorem dX5_readLaw_29 : decode cX5_readLaw 29 = .ok (.putfield 55, 3) := by decide +kernel
theorem dX5_readLaw_32 : decode cX5_readLaw 32 = .ok (.aload_n 0, 1) := by decide +kernel
theorem dX5_readLaw_33 : decode cX5_readLaw 33 = .ok (.bipush 59, 2) := by decide +kernel
theorem dX5_readLaw_35 : decode cX5_readLaw 35 = .ok (.invokevirtual 44, 3) := by decide +kernel
theorem dX5_readLaw_38 : decode cX5_readLaw 38 = .ok (.return_, 1) := by decide +kernel
theorem dX5_readClients_0 : decode cX5_readClients 0 = .ok (.aload_n 0, 1) := by decide +kernel
theorem dX5_readClients_1 : decode cX5_readClients 1 = .ok (.aload_n 1, 1) := by decide +kernel
theorem dX5_readClients_2 : decode cX5_readClients 2 = .ok (.invokevirtual 58, 3) := by decide +kernel
theorem dX5_readClients_5 : decode cX5_readClients 5 = .ok (.iconst 0, 1) := by decide +kernel
theorem dX5_readClients_6 : decode cX5_readClients 6 = .ok (.istore_n 2, 1) := by decide +kernel
theorem dX5_readClients_7 : decode cX5_readClients 7 = .ok (.iload_n 2, 1) := by decide +kernel
theorem dX5_readClients_8 : decode cX5_readClients 8 = .ok (.iconst 5, 1) := by decide +kernel
theorem dX5_readClients_9 : decode cX5_readClients 9 = .ok (.if_icmp .ge 23, 3) := by decide +kernel
theorem dX5_readClients_12 : decode cX5_readClients 12 = .ok (.aload_n 0, 1) := by decide +kernel
theorem dX5_readClients_13 : decode cX5_readClients 13 = .ok (.invokevirtual 61, 3) := by decide +kernel
theorem dX5_readClients_16 : decode cX5_readClients 16 = .ok (.bipush 119, 2) := by decide +kernel
theorem dX5_readClients_18 : decode cX5_readClients 18 = .ok (.if_icmp .ne 14, 3) := by decide +kernel
theorem dX5_readClients_21 : decode cX5_readClients 21 = .ok (.aload_n 0, 1) := by decide +kernel
theorem dX5_readClients_22 : decode cX5_readClients 22 = .ok (.aload_n 1, 1) := by decide +kernel
theorem dX5_readClients_23 : decode cX5_readClients 23 = .ok (.invokevirtual 58, 3) := by decide +kernel
theorem dX5_readClients_26 : decode cX5_readClients 26 = .ok (.iinc 2 1, 3) := by decide +kernel
theorem dX5_readClients_29 : decode cX5_readClients 29 = .ok (.goto (-22), 3) := by decide +kernel
theorem dX5_readClients_32 : decode cX5_readClients 32 = .ok (.return_, 1) := by decide +kernel
theorem dX5_readClient_0 : decode cX5_readClient 0 = .ok (.aload_n 1, 1) := by decide +kernel
theorem dX5_readClient_1 : decode cX5_readClient 1 = .ok (.getfield 65, 3) := by decide +kernel
theorem dX5_readClient_4 : decode cX5_readClient 4 = .ok (.istore_n 2, 1) := by decide +kernel
theorem dX5_readClient_5 : decode cX5_readClient 5 = .ok (.iload_n 2, 1) := by decide +kernel
theorem dX5_readClient_6 : decode cX5_readClient 6 = .ok (.iconst 5, 1) := by decide +kernel
theorem dX5_readClient_7 : decode cX5_readClient 7 = .ok (.if_icmp .lt 13, 3) := by decide +kernel
theorem dX5_readClient_10 : decode cX5_readClient 10 = .ok (.aload_n 0, 1) := by decide +kernel
theorem dX5_readClient_11 : decode cX5_readClient 11 = .ok (.iconst 3, 1) := by decide +kernel
theorem dX5_readClient_12 : decode cX5_readClient 12 = .ok (.aload_n 0, 1) := by decide +kernel
theorem dX5_readClient_13 : decode cX5_readClient 13 = .ok (.getfield 19, 3) := by decide +kernel
theorem dX5_readClient_16 : decode cX5_readClient 16 = .ok (.invokevirtual 40, 3) := by decide +kernel
theorem dX5_readClient_19 : decode cX5_readClient 19 = .ok (.return_, 1) := by decide +kernel
theorem dX5_readClient_20 : decode cX5_readClient 20 = .ok (.aload_n 0, 1) := by decide +kernel
theorem dX5_readClient_21 : decode cX5_readClient 21 = .ok (.bipush 119, 2) := by decide +kernel
theorem dX5_readClient_23 : decode cX5_readClient 23 = .ok (.invokevirtual 44, 3) := by decide +kernel
theorem dX5_readClient_26 : decode cX5_readClient 26 = .ok (.aload_n 1, 1) := by decide +kernel
theorem dX5_readClient_27 : decode cX5_readClient 27 = .ok (.getfield 68, 3) := by decide +kernel
theorem dX5_readClient_30 : decode cX5_readClient 30 = .ok (.iload_n 2, 1) := by decide +kernel
theorem dX5_readClient_31 : decode cX5_readClient 31 = .ok (.aload_n 0, 1) := by decide +kernel
theorem dX5_readClient_32 : decode cX5_readClient 32 = .ok (.bipush 40, 2) := by decide +kernel
theorem dX5_readClient_34 : decode cX5_readClient 34 = .ok (.invokevirtual 48, 3) := by decide +kernel
theorem dX5_readClient_37 : decode cX5_readClient 37 = .ok (.iastore, 1) := by decide +kernel
theorem dX5_readClient_38 : decode cX5_readClient 38 = .ok (.aload_n 0, 1) := by decide +kernel
theorem dX5_readClient_39 : decode cX5_readClient 39 = .ok (.bipush 44, 2) := by decide +kernel
theorem dX5_readClient_41 : decode cX5_readClient 41 = .ok (.invokevirtual 44, 3) := by decide +kernel
theorem dX5_readClient_44 : decode cX5_readClient 44 = .ok (.aload_n 1, 1) := by decide +kernel
theorem dX5_readClient_45 : decode cX5_readClient 45 = .ok (.getfield 71, 3) := by decide +kernel
theorem dX5_readClient_48 : decode cX5_readClient 48 = .ok (.iload_n 2, 1) := by decide +kernel
theorem dX5_readClient_49 : decode cX5_readClient 49 = .ok (.aload_n 0, 1) := by decide +kernel
theorem dX5_readClient_50 : decode cX5_readClient 50 = .ok (.iconst 5, 1) := by decide +kernel
theorem dX5_readClient_51 : decode cX5_readClient 51 = .ok (.invokevirtual 48, 3) := by decide +kernel
theorem dX5_readClient_54 : decode cX5_readClient 54 = .ok (.iastore, 1) := by decide +kernel
theorem dX5_readClient_55 : decode cX5_readClient 55 = .ok (.aload_n 0, 1) := by decide +kernel
theorem dX5_readClient_56 : decode cX5_readClient 56 = .ok (.bipush 59, 2) := by decide +kernel
theorem dX5_readClient_58 : decode cX5_readClient 58 = .ok (.invokevirtual 44, 3) := by decide +kernel
theorem dX5_readClient_61 : decode cX5_readClient 61 = .ok (.aload_n 1, 1) := by decide +kernel
theorem dX5_readClient_62 : decode cX5_readClient 62 = .ok (.iload_n 2, 1) := by decide +kernel
theorem dX5_readClient_63 : decode cX5_readClient 63 = .ok (.iconst 1, 1) := by decide +kernel
theorem dX5_readClient_64 : decode cX5_readClient 64 = .ok (.iadd, 1) := by decide +kernel
theorem dX5_readClient_65 : decode cX5_readClient 65 = .ok (.putfield 65, 3) := by decide +kernel
theorem dX5_readClient_68 : decode cX5_readClient 68 = .ok (.return_, 1) := by decide +kernel
theorem dX5_readWakers_0 : decode cX5_readWakers 0 = .ok (.iconst 0, 1) := by decide +kernel
theorem dX5_readWakers_1 : decode cX5_readWakers 1 = .ok (.istore_n 2, 1) := by decide +kernel
theorem dX5_readWakers_2 : decode cX5_readWakers 2 = .ok (.iload_n 2, 1) := by decide +kernel
theorem dX5_readWakers_3 : decode cX5_readWakers 3 = .ok (.iconst 4, 1) := by decide +kernel
theorem dX5_readWakers_4 : decode cX5_readWakers 4 = .ok (.if_icmp .gt 24, 3) := by decide +kernel
theorem dX5_readWakers_7 : decode cX5_readWakers 7 = .ok (.aload_n 0, 1) := by decide +kernel
theorem dX5_readWakers_8 : decode cX5_readWakers 8 = .ok (.invokevirtual 61, 3) := by decide +kernel
theorem dX5_readWakers_11 : decode cX5_readWakers 11 = .ok (.invokestatic 74, 3) := by decide +kernel
theorem dX5_readWakers_14 : decode cX5_readWakers 14 = .ok (.ifCond .eq 14, 3) := by decide +kernel
theorem dX5_readWakers_17 : decode cX5_readWakers 17 = .ok (.aload_n 0, 1) := by decide +kernel
theorem dX5_readWakers_18 : decode cX5_readWakers 18 = .ok (.aload_n 1, 1) := by decide +kernel
theorem dX5_readWakers_19 : decode cX5_readWakers 19 = .ok (.invokevirtual 77, 3) := by decide +kernel
theorem dX5_readWakers_22 : decode cX5_readWakers 22 = .ok (.iinc 2 1, 3) := by decide +kernel
theorem dX5_readWakers_25 : decode cX5_readWakers 25 = .ok (.goto (-23), 3) := by decide +kernel
theorem dX5_readWakers_28 : decode cX5_readWakers 28 = .ok (.return_, 1) := by decide +kernel
theorem dX5_readWaker_0 : decode cX5_readWaker 0 = .ok (.aload_n 1, 1) := by decide +kernel
theorem dX5_readWaker_1 : decode cX5_readWaker 1 = .ok (.getfield 80, 3) := by decide +kernel
theorem dX5_readWaker_4 : decode cX5_readWaker 4 = .ok (.istore_n 2, 1) := by decide +kernel
theorem dX5_readWaker_5 : decode cX5_readWaker 5 = .ok (.iload_n 2, 1) := by decide +kernel
theorem dX5_readWaker_6 : decode cX5_readWaker 6 = .ok (.iconst 4, 1) := by decide +kernel
theorem dX5_readWaker_7 : decode cX5_readWaker 7 = .ok (.if_icmp .lt 13, 3) := by decide +kernel
theorem dX5_readWaker_10 : decode cX5_readWaker 10 = .ok (.aload_n 0, 1) := by decide +kernel
theorem dX5_readWaker_11 : decode cX5_readWaker 11 = .ok (.iconst 3, 1) := by decide +kernel
theorem dX5_readWaker_12 : decode cX5_readWaker 12 = .ok (.aload_n 0, 1) := by decide +kernel
theorem dX5_readWaker_13 : decode cX5_readWaker 13 = .ok (.getfield 19, 3) := by decide +kernel
theorem dX5_readWaker_16 : decode cX5_readWaker 16 = .ok (.invokevirtual 40, 3) := by decide +kernel
theorem dX5_readWaker_19 : decode cX5_readWaker 19 = .ok (.return_, 1) := by decide +kernel
theorem dX5_readWaker_20 : decode cX5_readWaker 20 = .ok (.aload_n 1, 1) := by decide +kernel
theorem dX5_readWaker_21 : decode cX5_readWaker 21 = .ok (.getfield 83, 3) := by decide +kernel
theorem dX5_readWaker_24 : decode cX5_readWaker 24 = .ok (.iload_n 2, 1) := by decide +kernel
theorem dX5_readWaker_25 : decode cX5_readWaker 25 = .ok (.aload_n 0, 1) := by decide +kernel
theorem dX5_readWaker_26 : decode cX5_readWaker 26 = .ok (.invokevirtual 61, 3) := by decide +kernel
theorem dX5_readWaker_29 : decode cX5_readWaker 29 = .ok (.invokestatic 74, 3) := by decide +kernel
theorem dX5_readWaker_32 : decode cX5_readWaker 32 = .ok (.iastore, 1) := by decide +kernel
theorem dX5_readWaker_33 : decode cX5_readWaker 33 = .ok (.aload_n 0, 1) := by decide +kernel
theorem dX5_readWaker_34 : decode cX5_readWaker 34 = .ok (.dup, 1) := by decide +kernel
theorem dX5_readWaker_35 : decode cX5_readWaker 35 = .ok (.getfield 19, 3) := by decide +kernel
theorem dX5_readWaker_38 : decode cX5_readWaker 38 = .ok (.iconst 1, 1) := by decide +kernel
theorem dX5_readWaker_39 : decode cX5_readWaker 39 = .ok (.iadd, 1) := by decide +kernel
theorem dX5_readWaker_40 : decode cX5_readWaker 40 = .ok (.putfield 19, 3) := by decide +kernel
theorem dX5_readWaker_43 : decode cX5_readWaker 43 = .ok (.aload_n 1, 1) := by decide +kernel
theorem dX5_readWaker_44 : decode cX5_readWaker 44 = .ok (.getfield 86, 3) := by decide +kernel
theorem dX5_readWaker_47 : decode cX5_readWaker 47 = .ok (.iload_n 2, 1) := by decide +kernel
theorem dX5_readWaker_48 : decode cX5_readWaker 48 = .ok (.aload_n 0, 1) := by decide +kernel
theorem dX5_readWaker_49 : decode cX5_readWaker 49 = .ok (.bipush 9, 2) := by decide +kernel
theorem dX5_readWaker_51 : decode cX5_readWaker 51 = .ok (.invokevirtual 48, 3) := by decide +kernel
theorem dX5_readWaker_54 : decode cX5_readWaker 54 = .ok (.iastore, 1) := by decide +kernel
theorem dX5_readWaker_55 : decode cX5_readWaker 55 = .ok (.aload_n 0, 1) := by decide +kernel
theorem dX5_readWaker_56 : decode cX5_readWaker 56 = .ok (.bipush 44, 2) := by decide +kernel
theorem dX5_readWaker_58 : decode cX5_readWaker 58 = .ok (.invokevirtual 44, 3) := by decide +kernel
theorem dX5_readWaker_61 : decode cX5_readWaker 61 = .ok (.aload_n 1, 1) := by decide +kernel
theorem dX5_readWaker_62 : decode cX5_readWaker 62 = .ok (.getfield 89, 3) := by decide +kernel
theorem dX5_readWaker_65 : decode cX5_readWaker 65 = .ok (.iload_n 2, 1) := by decide +kernel
theorem dX5_readWaker_66 : decode cX5_readWaker 66 = .ok (.aload_n 0, 1) := by decide +kernel
theorem dX5_readWaker_67 : decode cX5_readWaker 67 = .ok (.iconst 5, 1) := by decide +kernel
theorem dX5_readWaker_68 : decode cX5_readWaker 68 = .ok (.invokevirtual 48, 3) := by decide +kernel
theorem dX5_readWaker_71 : decode cX5_readWaker 71 = .ok (.iastore, 1) := by decide +kernel
theorem dX5_readWaker_72 : decode cX5_readWaker 72 = .ok (.aload_n 0, 1) := by decide +kernel
theorem dX5_readWaker_73 : decode cX5_readWaker 73 = .ok (.bipush 44, 2) := by decide +kernel
theorem dX5_readWaker_75 : decode cX5_readWaker 75 = .ok (.invokevirtual 44, 3) := by decide +kernel
theorem dX5_readWaker_78 : decode cX5_readWaker 78 = .ok (.aload_n 1, 1) := by decide +kernel
theorem dX5_readWaker_79 : decode cX5_readWaker 79 = .ok (.getfield 92, 3) := by decide +kernel
theorem dX5_readWaker_82 : decode cX5_readWaker 82 = .ok (.iload_n 2, 1) := by decide +kernel
theorem dX5_readWaker_83 : decode cX5_readWaker 83 = .ok (.aload_n 0, 1) := by decide +kernel
theorem dX5_readWaker_84 : decode cX5_readWaker 84 = .ok (.aload_n 1, 1) := by decide +kernel
theorem dX5_readWaker_85 : decode cX5_readWaker 85 = .ok (.invokevirtual 95, 3) := by decide +kernel
theorem dX5_readWaker_88 : decode cX5_readWaker 88 = .ok (.iastore, 1) := by decide +kernel
theorem dX5_readWaker_89 : decode cX5_readWaker 89 = .ok (.aload_n 0, 1) := by decide +kernel
theorem dX5_readWaker_90 : decode cX5_readWaker 90 = .ok (.bipush 59, 2) := by decide +kernel
theorem dX5_readWaker_92 : decode cX5_readWaker 92 = .ok (.invokevirtual 44, 3) := by decide +kernel
theorem dX5_readWaker_95 : decode cX5_readWaker 95 = .ok (.aload_n 1, 1) := by decide +kernel
theorem dX5_readWaker_96 : decode cX5_readWaker 96 = .ok (.getfield 99, 3) := by decide +kernel
theorem dX5_readWaker_99 : decode cX5_readWaker 99 = .ok (.iload_n 2, 1) := by decide +kernel
theorem dX5_readWaker_100 : decode cX5_readWaker 100 = .ok (.iconst 0, 1) := by decide +kernel
theorem dX5_readWaker_101 : decode cX5_readWaker 101 = .ok (.iastore, 1) := by decide +kernel
theorem dX5_readWaker_102 : decode cX5_readWaker 102 = .ok (.aload_n 1, 1) := by decide +kernel
theorem dX5_readWaker_103 : decode cX5_readWaker 103 = .ok (.iload_n 2, 1) := by decide +kernel
theorem dX5_readWaker_104 : decode cX5_readWaker 104 = .ok (.iconst 1, 1) := by decide +kernel
theorem dX5_readWaker_105 : decode cX5_readWaker 105 = .ok (.iadd, 1) := by decide +kernel
theorem dX5_readWaker_106 : decode cX5_readWaker 106 = .ok (.putfield 80, 3) := by decide +kernel
theorem dX5_readWaker_109 : decode cX5_readWaker 109 = .ok (.return_, 1) := by decide +kernel
theorem dX5_kindTold_0 : decode cX5_kindTold 0 = .ok (.iload_n 0, 1) := by decide +kernel
theorem dX5_kindTold_1 : decode cX5_kindTold 1 = .ok (.tableswitch 77 99 111 #[69, 77, 77, 77, 73, 77, 77, 77, 77, 77, 71, 75, 67], 67) := by decide +kernel
theorem dX5_kindTold_68 : decode cX5_kindTold 68 = .ok (.iconst 1, 1) := by decide +kernel
theorem dX5_kindTold_69 : decode cX5_kindTold 69 = .ok (.ireturn, 1) := by decide +kernel
theorem dX5_kindTold_70 : decode cX5_kindTold 70 = .ok (.iconst 2, 1) := by decide +kernel
theorem dX5_kindTold_71 : decode cX5_kindTold 71 = .ok (.ireturn, 1) := by decide +kernel
theorem dX5_kindTold_72 : decode cX5_kindTold 72 = .ok (.iconst 3, 1) := by decide +kernel
theorem dX5_kindTold_73 : decode cX5_kindTold 73 = .ok (.ireturn, 1) := by decide +kernel
theorem dX5_kindTold_74 : decode cX5_kindTold 74 = .ok (.iconst 4, 1) := by decide +kernel
theorem dX5_kindTold_75 : decode cX5_kindTold 75 = .ok (.ireturn, 1) := by decide +kernel
theorem dX5_kindTold_76 : decode cX5_kindTold 76 = .ok (.iconst 5, 1) := by decide +kernel
theorem dX5_kindTold_77 : decode cX5_kindTold 77 = .ok (.ireturn, 1) := by decide +kernel
theorem dX5_kindTold_78 : decode cX5_kindTold 78 = .ok (.iconst 0, 1) := by decide +kernel
theorem dX5_kindTold_79 : decode cX5_kindTold 79 = .ok (.ireturn, 1) := by decide +kernel
theorem dX5_hirer_0 : decode cX5_hirer 0 = .ok (.aload_n 0, 1) := by decide +kernel
theorem dX5_hirer_1 : decode cX5_hirer 1 = .ok (.getfield 19, 3) := by decide +kernel
theorem dX5_hirer_4 : decode cX5_hirer 4 = .ok (.istore_n 2, 1) := by decide +kernel
theorem dX5_hirer_5 : decode cX5_hirer 5 = .ok (.aload_n 0, 1) := by decide +kernel
theorem dX5_hirer_6 : decode cX5_hirer 6 = .ok (.iconst 5, 1) := by decide +kernel
theorem dX5_hirer_7 : decode cX5_hirer 7 = .ok (.invokevirtual 48, 3) := by decide +kernel
theorem dX5_hirer_10 : decode cX5_hirer 10 = .ok (.istore_n 3, 1) := by decide +kernel
theorem dX5_hirer_11 : decode cX5_hirer 11 = .ok (.iload_n 3, 1) := by decide +kernel
theorem dX5_hirer_12 : decode cX5_hirer 12 = .ok (.iconst 5, 1) := by decide +kernel
theorem dX5_hirer_13 : decode cX5_hirer 13 = .ok (.if_icmp .eq 17, 3) := by decide +kernel
theorem dX5_hirer_16 : decode cX5_hirer 16 = .ok (.aload_n 1, 1) := by decide +kernel
theorem dX5_hirer_17 : decode cX5_hirer 17 = .ok (.iload_n 3, 1) := by decide +kernel
theorem dX5_hirer_18 : decode cX5_hirer 18 = .ok (.invokevirtual 102, 3) := by decide +kernel
theorem dX5_hirer_21 : decode cX5_hirer 21 = .ok (.ifCond .ne 9, 3) := by decide +kernel
theorem dX5_hirer_24 : decode cX5_hirer 24 = .ok (.aload_n 0, 1) := by decide +kernel
theorem dX5_hirer_25 : decode cX5_hirer 25 = .ok (.iconst 2, 1) := by decide +kernel
theorem dX5_hirer_26 : decode cX5_hirer 26 = .ok (.iload_n 2, 1) := by decide +kernel
theorem dX5_hirer_27 : decode cX5_hirer 27 = .ok (.invokevirtual 40, 3) := by decide +kernel
theorem dX5_hirer_30 : decode cX5_hirer 30 = .ok (.iload_n 3, 1) := by decide +kernel
theorem dX5_hirer_31 : decode cX5_hirer 31 = .ok (.ireturn, 1) := by decide +kernel
theorem dX5_number_0 : decode cX5_number 0 = .ok (.aload_n 0, 1) := by decide +kernel
theorem dX5_number_1 : decode cX5_number 1 = .ok (.getfield 19, 3) := by decide +kernel
theorem dX5_number_4 : decode cX5_number 4 = .ok (.istore_n 2, 1) := by decide +kernel
theorem dX5_number_5 : decode cX5_number 5 = .ok (.iconst 0, 1) := by decide +kernel
theorem dX5_number_6 : decode cX5_number 6 = .ok (.istore_n 3, 1) := by decide +kernel
theorem dX5_number_7 : decode cX5_number 7 = .ok (.iconst 0, 1) := by decide +kernel
theorem dX5_number_8 : decode cX5_number 8 = .ok (.istore 4, 2) := by decide +kernel
theorem dX5_number_10 : decode cX5_number 10 = .ok (.iload 4, 2) := by decide +kernel
theorem dX5_number_12 : decode cX5_number 12 = .ok (.bipush 100, 2) := by decide +kernel
theorem dX5_number_14 : decode cX5_number 14 = .ok (.if_icmp .ge 48, 3) := by decide +kernel
theorem dX5_number_17 : decode cX5_number 17 = .ok (.aload_n 0, 1) := by decide +kernel
theorem dX5_number_18 : decode cX5_number 18 = .ok (.invokevirtual 61, 3) := by decide +kernel
theorem dX5_number_21 : decode cX5_number 21 = .ok (.invokestatic 106, 3) := by decide +kernel
theorem dX5_number_24 : decode cX5_number 24 = .ok (.ifCond .eq 38, 3) := by decide +kernel
theorem dX5_number_27 : decode cX5_number 27 = .ok (.sipush 1000, 3) := by decide +kernel
theorem dX5_number_30 : decode cX5_number 30 = .ok (.iload_n 3, 1) := by decide +kernel
theorem dX5_number_31 : decode cX5_number 31 = .ok (.bipush 10, 2) := by decide +kernel
theorem dX5_number_33 : decode cX5_number 33 = .ok (.imul, 1) := by decide +kernel
theorem dX5_number_34 : decode cX5_number 34 = .ok (.aload_n 0, 1) := by decide +kernel
theorem dX5_number_35 : decode cX5_number 35 = .ok (.invokevirtual 61, 3) := by decide +kernel
theorem dX5_number_38 : decode cX5_number 38 = .ok (.iadd, 1) := by decide +kernel
theorem dX5_number_39 : decode cX5_number 39 = .ok (.bipush 48, 2) := by decide +kernel
theorem dX5_number_41 : decode cX5_number 41 = .ok (.isub, 1) := by decide +kernel
theorem dX5_number_42 : decode cX5_number 42 = .ok (.invokestatic 109, 3) := by decide +kernel
theorem dX5_number_45 : decode cX5_number 45 = .ok (.istore_n 3, 1) := by decide +kernel
theorem dX5_number_46 : decode cX5_number 46 = .ok (.aload_n 0, 1) := by decide +kernel
theorem dX5_number_47 : decode cX5_number 47 = .ok (.dup, 1) := by decide +kernel
theorem dX5_number_48 : decode cX5_number 48 = .ok (.getfield 19, 3) := by decide +kernel
theorem dX5_number_51 : decode cX5_number 51 = .ok (.iconst 1, 1) := by decide +kernel
theorem dX5_number_52 : decode cX5_number 52 = .ok (.iadd, 1) := by decide +kernel
theorem dX5_number_53 : decode cX5_number 53 = .ok (.putfield 19, 3) := by decide +kernel
theorem dX5_number_56 : decode cX5_number 56 = .ok (.iinc 4 1, 3) := by decide +kernel
theorem dX5_number_59 : decode cX5_number 59 = .ok (.goto (-49), 3) := by decide +kernel
theorem dX5_number_62 : decode cX5_number 62 = .ok (.aload_n 0, 1) := by decide +kernel
theorem dX5_number_63 : decode cX5_number 63 = .ok (.getfield 19, 3) := by decide +kernel
theorem dX5_number_66 : decode cX5_number 66 = .ok (.iload_n 2, 1) := by decide +kernel
theorem dX5_number_67 : decode cX5_number 67 = .ok (.if_icmp .eq 13, 3) := by decide +kernel
theorem dX5_number_70 : decode cX5_number 70 = .ok (.aload_n 0, 1) := by decide +kernel
theorem dX5_number_71 : decode cX5_number 71 = .ok (.getfield 19, 3) := by decide +kernel
theorem dX5_number_74 : decode cX5_number 74 = .ok (.iload_n 2, 1) := by decide +kernel
theorem dX5_number_75 : decode cX5_number 75 = .ok (.isub, 1) := by decide +kernel
theorem dX5_number_76 : decode cX5_number 76 = .ok (.iconst 2, 1) := by decide +kernel
theorem dX5_number_77 : decode cX5_number 77 = .ok (.if_icmp .le 12, 3) := by decide +kernel
theorem dX5_number_80 : decode cX5_number 80 = .ok (.aload_n 0, 1) := by decide +kernel
theorem dX5_number_81 : decode cX5_number 81 = .ok (.iconst 1, 1) := by decide +kernel
theorem dX5_number_82 : decode cX5_number 82 = .ok (.iload_n 2, 1) := by decide +kernel
theorem dX5_number_83 : decode cX5_number 83 = .ok (.invokevirtual 40, 3) := by decide +kernel
theorem dX5_number_86 : decode cX5_number 86 = .ok (.goto 14, 3) := by decide +kernel
theorem dX5_number_89 : decode cX5_number 89 = .ok (.iload_n 3, 1) := by decide +kernel
theorem dX5_number_90 : decode cX5_number 90 = .ok (.iload_n 1, 1) := by decide +kernel
theorem dX5_number_91 : decode cX5_number 91 = .ok (.if_icmp .le 9, 3) := by decide +kernel
theorem dX5_number_94 : decode cX5_number 94 = .ok (.aload_n 0, 1) := by decide +kernel
theorem dX5_number_95 : decode cX5_number 95 = .ok (.iconst 2, 1) := by decide +kernel
theorem dX5_number_96 : decode cX5_number 96 = .ok (.iload_n 2, 1) := by decide +kernel
theorem dX5_number_97 : decode cX5_number 97 = .ok (.invokevirtual 40, 3) := by decide +kernel
theorem dX5_number_100 : decode cX5_number 100 = .ok (.iload_n 3, 1) := by decide +kernel
theorem dX5_number_101 : decode cX5_number 101 = .ok (.ireturn, 1) := by decide +kernel
theorem dX5_expect_0 : decode cX5_expect 0 = .ok (.aload_n 0, 1) := by decide +kernel
theorem dX5_expect_1 : decode cX5_expect 1 = .ok (.invokevirtual 61, 3) := by decide +kernel
theorem dX5_expect_4 : decode cX5_expect 4 = .ok (.iload_n 1, 1) := by decide +kernel
theorem dX5_expect_5 : decode cX5_expect 5 = .ok (.if_icmp .ne 16, 3) := by decide +kernel
theorem dX5_expect_8 : decode cX5_expect 8 = .ok (.aload_n 0, 1) := by decide +kernel
theorem dX5_expect_9 : decode cX5_expect 9 = .ok (.dup, 1) := by decide +kernel
theorem dX5_expect_10 : decode cX5_expect 10 = .ok (.getfield 19, 3) := by decide +kernel
theorem dX5_expect_13 : decode cX5_expect 13 = .ok (.iconst 1, 1) := by decide +kernel
theorem dX5_expect_14 : decode cX5_expect 14 = .ok (.iadd, 1) := by decide +kernel
theorem dX5_expect_15 : decode cX5_expect 15 = .ok (.putfield 19, 3) := by decide +kernel
theorem dX5_expect_18 : decode cX5_expect 18 = .ok (.goto 12, 3) := by decide +kernel
theorem dX5_expect_21 : decode cX5_expect 21 = .ok (.aload_n 0, 1) := by decide +kernel
theorem dX5_expect_22 : decode cX5_expect 22 = .ok (.iconst 1, 1) := by decide +kernel
theorem dX5_expect_23 : decode cX5_expect 23 = .ok (.aload_n 0, 1) := by decide +kernel
theorem dX5_expect_24 : decode cX5_expect 24 = .ok (.getfield 19, 3) := by decide +kernel
theorem dX5_expect_27 : decode cX5_expect 27 = .ok (.invokevirtual 40, 3) := by decide +kernel
theorem dX5_expect_30 : decode cX5_expect 30 = .ok (.return_, 1) := by decide +kernel
theorem dX5_isFigure_0 : decode cX5_isFigure 0 = .ok (.iload_n 0, 1) := by decide +kernel
theorem dX5_isFigure_1 : decode cX5_isFigure 1 = .ok (.bipush 48, 2) := by decide +kernel
theorem dX5_isFigure_3 : decode cX5_isFigure 3 = .ok (.if_icmp .lt 13, 3) := by decide +kernel
theorem dX5_isFigure_6 : decode cX5_isFigure 6 = .ok (.iload_n 0, 1) := by decide +kernel
theorem dX5_isFigure_7 : decode cX5_isFigure 7 = .ok (.bipush 57, 2) := by decide +kernel
theorem dX5_isFigure_9 : decode cX5_isFigure 9 = .ok (.if_icmp .gt 7, 3) := by decide +kernel
theorem dX5_isFigure_12 : decode cX5_isFigure 12 = .ok (.iconst 1, 1) := by decide +kernel
theorem dX5_isFigure_13 : decode cX5_isFigure 13 = .ok (.goto 4, 3) := by decide +kernel
theorem dX5_isFigure_16 : decode cX5_isFigure 16 = .ok (.iconst 0, 1) := by decide +kernel
theorem dX5_isFigure_17 : decode cX5_isFigure 17 = .ok (.ireturn, 1) := by decide +kernel
theorem dX5_next_0 : decode cX5_next 0 = .ok (.aload_n 0, 1) := by decide +kernel
theorem dX5_next_1 : decode cX5_next 1 = .ok (.getfield 22, 3) := by decide +kernel
theorem dX5_next_4 : decode cX5_next 4 = .ok (.ifCond .ne 26, 3) := by decide +kernel
theorem dX5_next_7 : decode cX5_next 7 = .ok (.aload_n 0, 1) := by decide +kernel
theorem dX5_next_8 : decode cX5_next 8 = .ok (.getfield 19, 3) := by decide +kernel
theorem dX5_next_11 : decode cX5_next 11 = .ok (.aload_n 0, 1) := by decide +kernel
theorem dX5_next_12 : decode cX5_next 12 = .ok (.getfield 15, 3) := by decide +kernel
theorem dX5_next_15 : decode cX5_next 15 = .ok (.if_icmp .ge 15, 3) := by decide +kernel
theorem dX5_next_18 : decode cX5_next 18 = .ok (.aload_n 0, 1) := by decide +kernel
theorem dX5_next_19 : decode cX5_next 19 = .ok (.getfield 9, 3) := by decide +kernel
theorem dX5_next_22 : decode cX5_next 22 = .ok (.aload_n 0, 1) := by decide +kernel
theorem dX5_next_23 : decode cX5_next 23 = .ok (.getfield 19, 3) := by decide +kernel
theorem dX5_next_26 : decode cX5_next 26 = .ok (.iaload, 1) := by decide +kernel
theorem dX5_next_27 : decode cX5_next 27 = .ok (.goto 4, 3) := by decide +kernel
theorem dX5_next_30 : decode cX5_next 30 = .ok (.iconst (-1), 1) := by decide +kernel
theorem dX5_next_31 : decode cX5_next 31 = .ok (.ireturn, 1) := by decide +kernel
theorem dX5_fail_0 : decode cX5_fail 0 = .ok (.aload_n 0, 1) := by decide +kernel
theorem dX5_fail_1 : decode cX5_fail 1 = .ok (.getfield 22, 3) := by decide +kernel
theorem dX5_fail_4 : decode cX5_fail 4 = .ok (.ifCond .ne 13, 3) := by decide +kernel
theorem dX5_fail_7 : decode cX5_fail 7 = .ok (.aload_n 0, 1) := by decide +kernel
theorem dX5_fail_8 : decode cX5_fail 8 = .ok (.iload_n 1, 1) := by decide +kernel
theorem dX5_fail_9 : decode cX5_fail 9 = .ok (.putfield 22, 3) := by decide +kernel
theorem dX5_fail_12 : decode cX5_fail 12 = .ok (.aload_n 0, 1) := by decide +kernel
theorem dX5_fail_13 : decode cX5_fail 13 = .ok (.iload_n 2, 1) := by decide +kernel
theorem dX5_fail_14 : decode cX5_fail 14 = .ok (.putfield 115, 3) := by decide +kernel
theorem dX5_fail_17 : decode cX5_fail 17 = .ok (.return_, 1) := by decide +kernel
theorem dX6_init_0 : decode cX6_init 0 = .ok (.aload_n 0, 1) := by decide +kernel
theorem dX6_init_1 : decode cX6_init 1 = .ok (.invokespecial 3, 3) := by decide +kernel
theorem dX6_init_4 : decode cX6_init 4 = .ok (.aload_n 0, 1) := by decide +kernel
theorem dX6_init_5 : decode cX6_init 5 = .ok (.bipush 8, 2) := by decide +kernel
theorem dX6_init_7 : decode cX6_init 7 = .ok (.anewarray 9, 3) := by decide +kernel
theorem dX6_init_10 : decode cX6_init 10 = .ok (.putfield 11, 3) := by decide +kernel
theorem dX6_init_13 : decode cX6_init 13 = .ok (.aload_n 0, 1) := by decide +kernel
theorem dX6_init_14 : decode cX6_init 14 = .ok (.iconst 2, 1) := by decide +kernel
theorem dX6_init_15 : decode cX6_init 15 = .ok (.anewarray 15, 3) := by decide +kernel
theorem dX6_init_18 : decode cX6_init 18 = .ok (.putfield 17, 3) := by decide +kernel
theorem dX6_init_21 : decode cX6_init 21 = .ok (.aload_n 0, 1) := by decide +kernel
theorem dX6_init_22 : decode cX6_init 22 = .ok (.new 15, 3) := by decide +kernel
theorem dX6_init_25 : decode cX6_init 25 = .ok (.dup, 1) := by decide +kernel
theorem dX6_init_26 : decode cX6_init 26 = .ok (.invokespecial 21, 3) := by decide +kernel
theorem dX6_init_29 : decode cX6_init 29 = .ok (.putfield 22, 3) := by decide +kernel
theorem dX6_init_32 : decode cX6_init 32 = .ok (.aload_n 0, 1) := by decide +kernel
theorem dX6_init_33 : decode cX6_init 33 = .ok (.new 15, 3) := by decide +kernel
theorem dX6_init_36 : decode cX6_init 36 = .ok (.dup, 1) := by decide +kernel
theorem dX6_init_37 : decode cX6_init 37 = .ok (.invokespecial 21, 3) := by decide +kernel
theorem dX6_init_40 : decode cX6_init 40 = .ok (.putfield 26, 3) := by decide +kernel
theorem dX6_init_43 : decode cX6_init 43 = .ok (.aload_n 0, 1) := by decide +kernel
theorem dX6_init_44 : decode cX6_init 44 = .ok (.new 29, 3) := by decide +kernel
theorem dX6_init_47 : decode cX6_init 47 = .ok (.dup, 1) := by decide +kernel
theorem dX6_init_48 : decode cX6_init 48 = .ok (.invokespecial 31, 3) := by decide +kernel
theorem dX6_init_51 : decode cX6_init 51 = .ok (.putfield 32, 3) := by decide +kernel
theorem dX6_init_54 : decode cX6_init 54 = .ok (.aload_n 0, 1) := by decide +kernel
theorem dX6_init_55 : decode cX6_init 55 = .ok (.new 36, 3) := by decide +kernel
theorem dX6_init_58 : decode cX6_init 58 = .ok (.dup, 1) := by decide +kernel
theorem dX6_init_59 : decode cX6_init 59 = .ok (.invokespecial 38, 3) := by decide +kernel
theorem dX6_init_62 : decode cX6_init 62 = .ok (.putfield 39, 3) := by decide +kernel
theorem dX6_init_65 : decode cX6_init 65 = .ok (.aload_n 0, 1) := by decide +kernel
theorem dX6_init_66 : decode cX6_init 66 = .ok (.new 43, 3) := by decide +kernel
theorem dX6_init_69 : decode cX6_init 69 = .ok (.dup, 1) := by decide +kernel
theorem dX6_init_70 : decode cX6_init 70 = .ok (.invokespecial 45, 3) := by decide +kernel
theorem dX6_init_73 : decode cX6_init 73 = .ok (.putfield 46, 3) := by decide +kernel
theorem dX6_init_76 : decode cX6_init 76 = .ok (.aload_n 0, 1) := by decide +kernel
theorem dX6_init_77 : decode cX6_init 77 = .ok (.new 50, 3) := by decide +kernel
theorem dX6_init_80 : decode cX6_init 80 = .ok (.dup, 1) := by decide +kernel
theorem dX6_init_81 : decode cX6_init 81 = .ok (.invokespecial 52, 3) := by decide +kernel
theorem dX6_init_84 : decode cX6_init 84 = .ok (.putfield 53, 3) := by decide +kernel
theorem dX6_init_87 : decode cX6_init 87 = .ok (.iconst 0, 1) := by decide +kernel
theorem dX6_init_88 : decode cX6_init 88 = .ok (.istore_n 1, 1) := by decide +kernel
theorem dX6_init_89 : decode cX6_init 89 = .ok (.iload_n 1, 1) := by decide +kernel
theorem dX6_init_90 : decode cX6_init 90 = .ok (.bipush 8, 2) := by decide +kernel
theorem dX6_init_92 : decode cX6_init 92 = .ok (.if_icmp .ge 22, 3) := by decide +kernel
theorem dX6_init_95 : decode cX6_init 95 = .ok (.aload_n 0, 1) := by decide +kernel
theorem dX6_init_96 : decode cX6_init 96 = .ok (.getfield 11, 3) := by decide +kernel
theorem dX6_init_99 : decode cX6_init 99 = .ok (.iload_n 1, 1) := by decide +kernel
theorem dX6_init_100 : decode cX6_init 100 = .ok (.new 9, 3) := by decide +kernel
theorem dX6_init_103 : decode cX6_init 103 = .ok (.dup, 1) := by decide +kernel
theorem dX6_init_104 : decode cX6_init 104 = .ok (.invokespecial 57, 3) := by decide +kernel
theorem dX6_init_107 : decode cX6_init 107 = .ok (.aastore, 1) := by decide +kernel
theorem dX6_init_108 : decode cX6_init 108 = .ok (.iinc 1 1, 3) := by decide +kernel
theorem dX6_init_111 : decode cX6_init 111 = .ok (.goto (-22), 3) := by decide +kernel
theorem dX6_init_114 : decode cX6_init 114 = .ok (.iconst 0, 1) := by decide +kernel
theorem dX6_init_115 : decode cX6_init 115 = .ok (.istore_n 1, 1) := by decide +kernel
theorem dX6_init_116 : decode cX6_init 116 = .ok (.iload_n 1, 1) := by decide +kernel
theorem dX6_init_117 : decode cX6_init 117 = .ok (.iconst 2, 1) := by decide +kernel
theorem dX6_init_118 : decode cX6_init 118 = .ok (.if_icmp .ge 22, 3) := by decide +kernel
theorem dX6_init_121 : decode cX6_init 121 = .ok (.aload_n 0, 1) := by decide +kernel
theorem dX6_init_122 : decode cX6_init 122 = .ok (.getfield 17, 3) := by decide +kernel
theorem dX6_init_125 : decode cX6_init 125 = .ok (.iload_n 1, 1) := by decide +kernel
theorem dX6_init_126 : decode cX6_init 126 = .ok (.new 15, 3) := by decide +kernel
theorem dX6_init_129 : decode cX6_init 129 = .ok (.dup, 1) := by decide +kernel
theorem dX6_init_130 : decode cX6_init 130 = .ok (.invokespecial 21, 3) := by decide +kernel
theorem dX6_init_133 : decode cX6_init 133 = .ok (.aastore, 1) := by decide +kernel
theorem dX6_init_134 : decode cX6_init 134 = .ok (.iinc 1 1, 3) := by decide +kernel
theorem dX6_init_137 : decode cX6_init 137 = .ok (.goto (-21), 3) := by decide +kernel
theorem dX6_init_140 : decode cX6_init 140 = .ok (.return_, 1) := by decide +kernel
theorem dX6_row_0 : decode cX6_row 0 = .ok (.iload_n 1, 1) := by decide +kernel
theorem dX6_row_1 : decode cX6_row 1 = .ok (.iconst 0, 1) := by decide +kernel
theorem dX6_row_2 : decode cX6_row 2 = .ok (.bipush 7, 2) := by decide +kernel
theorem dX6_row_4 : decode cX6_row 4 = .ok (.invokestatic 58, 3) := by decide +kernel
theorem dX6_row_7 : decode cX6_row 7 = .ok (.ifCond .eq 18, 3) := by decide +kernel
theorem dX6_row_10 : decode cX6_row 10 = .ok (.iload_n 2, 1) := by decide +kernel
theorem dX6_row_11 : decode cX6_row 11 = .ok (.iconst 0, 1) := by decide +kernel
theorem dX6_row_12 : decode cX6_row 12 = .ok (.iconst 2, 1) := by decide +kernel
theorem dX6_row_13 : decode cX6_row 13 = .ok (.invokestatic 58, 3) := by decide +kernel
theorem dX6_row_16 : decode cX6_row 16 = .ok (.ifCond .eq 9, 3) := by decide +kernel
theorem dX6_row_19 : decode cX6_row 19 = .ok (.iload_n 3, 1) := by decide +kernel
theorem dX6_row_20 : decode cX6_row 20 = .ok (.bipush 40, 2) := by decide +kernel
theorem dX6_row_22 : decode cX6_row 22 = .ok (.if_icmp .le 6, 3) := by decide +kernel
theorem dX6_row_25 : decode cX6_row 25 = .ok (.ldc 62, 2) := by decide +kernel
theorem dX6_row_27 : decode cX6_row 27 = .ok (.ireturn, 1) := by decide +kernel
theorem dX6_row_28 : decode cX6_row 28 = .ok (.iload_n 3, 1) := by decide +kernel
theorem dX6_row_29 : decode cX6_row 29 = .ok (.ifCond .ge 9, 3) := by decide +kernel
theorem dX6_row_32 : decode cX6_row 32 = .ok (.aload_n 0, 1) := by decide +kernel
theorem dX6_row_33 : decode cX6_row 33 = .ok (.iconst 4, 1) := by decide +kernel
theorem dX6_row_34 : decode cX6_row 34 = .ok (.invokevirtual 63, 3) := by decide +kernel
theorem dX6_row_37 : decode cX6_row 37 = .ok (.ireturn, 1) := by decide +kernel
theorem dX6_row_38 : decode cX6_row 38 = .ok (.aload_n 0, 1) := by decide +kernel
theorem dX6_row_39 : decode cX6_row 39 = .ok (.getfield 11, 3) := by decide +kernel
theorem dX6_row_42 : decode cX6_row 42 = .ok (.iload_n 1, 1) := by decide +kernel
theorem dX6_row_43 : decode cX6_row 43 = .ok (.aaload, 1) := by decide +kernel
theorem dX6_row_44 : decode cX6_row 44 = .ok (.iload_n 2, 1) := by decide +kernel
theorem dX6_row_45 : decode cX6_row 45 = .ok (.iload_n 3, 1) := by decide +kernel
theorem dX6_row_46 : decode cX6_row 46 = .ok (.invokevirtual 67, 3) := by decide +kernel
theorem dX6_row_49 : decode cX6_row 49 = .ok (.aload_n 0, 1) := by decide +kernel
theorem dX6_row_50 : decode cX6_row 50 = .ok (.iload_n 3, 1) := by decide +kernel
theorem dX6_row_51 : decode cX6_row 51 = .ok (.invokevirtual 71, 3) := by decide +kernel
theorem dX6_row_54 : decode cX6_row 54 = .ok (.ireturn, 1) := by decide +kernel
theorem dX6_set_0 : decode cX6_set 0 = .ok (.iload_n 1, 1) := by decide +kernel
theorem dX6_set_1 : decode cX6_set 1 = .ok (.iconst 0, 1) := by decide +kernel
theorem dX6_set_2 : decode cX6_set 2 = .ok (.bipush 7, 2) := by decide +kernel
theorem dX6_set_4 : decode cX6_set 4 = .ok (.invokestatic 58, 3) := by decide +kernel
theorem dX6_set_7 : decode cX6_set 7 = .ok (.ifCond .ne 6, 3) := by decide +kernel
theorem dX6_set_10 : decode cX6_set 10 = .ok (.ldc 62, 2) := by decide +kernel
theorem dX6_set_12 : decode cX6_set 12 = .ok (.ireturn, 1) := by decide +kernel
theorem dX6_set_13 : decode cX6_set 13 = .ok (.aload_n 0, 1) := by decide +kernel
theorem dX6_set_14 : decode cX6_set 14 = .ok (.getfield 11, 3) := by decide +kernel
theorem dX6_set_17 : decode cX6_set 17 = .ok (.iload_n 1, 1) := by decide +kernel
theorem dX6_set_18 : decode cX6_set 18 = .ok (.aaload, 1) := by decide +kernel
theorem dX6_set_19 : decode cX6_set 19 = .ok (.astore 4, 2) := by decide +kernel
theorem dX6_set_21 : decode cX6_set 21 = .ok (.aload 4, 2) := by decide +kernel
theorem dX6_set_23 : decode cX6_set 23 = .ok (.invokevirtual 74, 3) := by decide +kernel
theorem dX6_set_26 : decode cX6_set 26 = .ok (.ifCond .eq 9, 3) := by decide +kernel
theorem dX6_set_29 : decode cX6_set 29 = .ok (.aload_n 0, 1) := by decide +kernel
theorem dX6_set_30 : decode cX6_set 30 = .ok (.iconst 1, 1) := by decide +kernel
theorem dX6_set_31 : decode cX6_set 31 = .ok (.invokevirtual 63, 3) := by decide +kernel
theorem dX6_set_34 : decode cX6_set 34 = .ok (.ireturn, 1) := by decide +kernel
theorem dX6_set_35 : decode cX6_set 35 = .ok (.aload 4, 2) := by decide +kernel
theorem dX6_set_37 : decode cX6_set 37 = .ok (.iload_n 2, 1) := by decide +kernel
theorem dX6_set_38 : decode cX6_set 38 = .ok (.iconst 1, 1) := by decide +kernel
theorem dX6_set_39 : decode cX6_set 39 = .ok (.invokevirtual 78, 3) := by decide +kernel
theorem dX6_set_42 : decode cX6_set 42 = .ok (.ifCond .ne 9, 3) := by decide +kernel
theorem dX6_set_45 : decode cX6_set 45 = .ok (.aload_n 0, 1) := by decide +kernel
theorem dX6_set_46 : decode cX6_set 46 = .ok (.iconst 2, 1) := by decide +kernel
theorem dX6_set_47 : decode cX6_set 47 = .ok (.invokevirtual 63, 3) := by decide +kernel
theorem dX6_set_50 : decode cX6_set 50 = .ok (.ireturn, 1) := by decide +kernel
theorem dX6_set_51 : decode cX6_set 51 = .ok (.aload_n 0, 1) := by decide +kernel
theorem dX6_set_52 : decode cX6_set 52 = .ok (.aload 4, 2) := by decide +kernel
theorem dX6_set_54 : decode cX6_set 54 = .ok (.iload_n 2, 1) := by decide +kernel
theorem dX6_set_55 : decode cX6_set 55 = .ok (.iload_n 3, 1) := by decide +kernel
theorem dX6_set_56 : decode cX6_set 56 = .ok (.invokevirtual 82, 3) := by decide +kernel
theorem dX6_set_59 : decode cX6_set 59 = .ok (.invokevirtual 71, 3) := by decide +kernel
theorem dX6_set_62 : decode cX6_set 62 = .ok (.ireturn, 1) := by decide +kernel
theorem dX6_copy_0 : decode cX6_copy 0 = .ok (.iload_n 1, 1) := by decide +kernel
theorem dX6_copy_1 : decode cX6_copy 1 = .ok (.iconst 0, 1) := by decide +kernel
theorem dX6_copy_2 : decode cX6_copy 2 = .ok (.bipush 7, 2) := by decide +kernel
theorem dX6_copy_4 : decode cX6_copy 4 = .ok (.invokestatic 58, 3) := by decide +kernel
theorem dX6_copy_7 : decode cX6_copy 7 = .ok (.ifCond .eq 13, 3) := by decide +kernel
theorem dX6_copy_10 : decode cX6_copy 10 = .ok (.iload_n 3, 1) := by decide +kernel
theorem dX6_copy_11 : decode cX6_copy 11 = .ok (.iconst 0, 1) := by decide +kernel
theorem dX6_copy_12 : decode cX6_copy 12 = .ok (.bipush 7, 2) := by decide +kernel
theorem dX6_copy_14 : decode cX6_copy 14 = .ok (.invokestatic 58, 3) := by decide +kernel
theorem dX6_copy_17 : decode cX6_copy 17 = .ok (.ifCond .ne 6, 3) := by decide +kernel
theorem dX6_copy_20 : decode cX6_copy 20 = .ok (.ldc 62, 2) := by decide +kernel
theorem dX6_copy_22 : decode cX6_copy 22 = .ok (.ireturn, 1) := by decide +kernel
theorem dX6_copy_23 : decode cX6_copy 23 = .ok (.aload_n 0, 1) := by decide +kernel
theorem dX6_copy_24 : decode cX6_copy 24 = .ok (.getfield 11, 3) := by decide +kernel
theorem dX6_copy_27 : decode cX6_copy 27 = .ok (.iload_n 1, 1) := by decide +kernel
theorem dX6_copy_28 : decode cX6_copy 28 = .ok (.aaload, 1) := by decide +kernel
theorem dX6_copy_29 : decode cX6_copy 29 = .ok (.astore 6, 2) := by decide +kernel
theorem dX6_copy_31 : decode cX6_copy 31 = .ok (.aload_n 0, 1) := by decide +kernel
theorem dX6_copy_32 : decode cX6_copy 32 = .ok (.getfield 11, 3) := by decide +kernel
theorem dX6_copy_35 : decode cX6_copy 35 = .ok (.iload_n 3, 1) := by decide +kernel
theorem dX6_copy_36 : decode cX6_copy 36 = .ok (.aaload, 1) := by decide +kernel
theorem dX6_copy_37 : decode cX6_copy 37 = .ok (.astore 7, 2) := by decide +kernel
theorem dX6_copy_39 : decode cX6_copy 39 = .ok (.aload 6, 2) := by decide +kernel
theorem dX6_copy_41 : decode cX6_copy 41 = .ok (.invokevirtual 74, 3) := by decide +kernel
theorem dX6_copy_44 : decode cX6_copy 44 = .ok (.ifCond .ne 11, 3) := by decide +kernel
theorem dX6_copy_47 : decode cX6_copy 47 = .ok (.aload 7, 2) := by decide +kernel
theorem dX6_copy_49 : decode cX6_copy 49 = .ok (.invokevirtual 74, 3) := by decide +kernel
theorem dX6_copy_52 : decode cX6_copy 52 = .ok (.ifCond .eq 9, 3) := by decide +kernel
theorem dX6_copy_55 : decode cX6_copy 55 = .ok (.aload_n 0, 1) := by decide +kernel
theorem dX6_copy_56 : decode cX6_copy 56 = .ok (.iconst 1, 1) := by decide +kernel
theorem dX6_copy_57 : decode cX6_copy 57 = .ok (.invokevirtual 63, 3) := by decide +kernel
theorem dX6_copy_60 : decode cX6_copy 60 = .ok (.ireturn, 1) := by decide +kernel
theorem dX6_copy_61 : decode cX6_copy 61 = .ok (.aload 6, 2) := by decide +kernel
theorem dX6_copy_63 : decode cX6_copy 63 = .ok (.getfield 86, 3) := by decide +kernel
theorem dX6_copy_66 : decode cX6_copy 66 = .ok (.aload 7, 2) := by decide +kernel
theorem dX6_copy_68 : decode cX6_copy 68 = .ok (.getfield 86, 3) := by decide +kernel
theorem dX6_copy_71 : decode cX6_copy 71 = .ok (.if_icmp .eq 9, 3) := by decide +kernel
theorem dX6_copy_74 : decode cX6_copy 74 = .ok (.aload_n 0, 1) := by decide +kernel
theorem dX6_copy_75 : decode cX6_copy 75 = .ok (.iconst 5, 1) := by decide +kernel
theorem dX6_copy_76 : decode cX6_copy 76 = .ok (.invokevirtual 63, 3) := by decide +kernel
theorem dX6_copy_79 : decode cX6_copy 79 = .ok (.ireturn, 1) := by decide +kernel
theorem dX6_copy_80 : decode cX6_copy 80 = .ok (.aload 6, 2) := by decide +kernel
theorem dX6_copy_82 : decode cX6_copy 82 = .ok (.iload_n 2, 1) := by decide +kernel
theorem dX6_copy_83 : decode cX6_copy 83 = .ok (.iload 5, 2) := by decide +kernel
theorem dX6_copy_85 : decode cX6_copy 85 = .ok (.invokevirtual 78, 3) := by decide +kernel
theorem dX6_copy_88 : decode cX6_copy 88 = .ok (.ifCond .eq 15, 3) := by decide +kernel
theorem dX6_copy_91 : decode cX6_copy 91 = .ok (.aload 7, 2) := by decide +kernel
theorem dX6_copy_93 : decode cX6_copy 93 = .ok (.iload 4, 2) := by decide +kernel
theorem dX6_copy_95 : decode cX6_copy 95 = .ok (.iload 5, 2) := by decide +kernel
theorem dX6_copy_97 : decode cX6_copy 97 = .ok (.invokevirtual 78, 3) := by decide +kernel
theorem dX6_copy_100 : decode cX6_copy 100 = .ok (.ifCond .ne 9, 3) := by decide +kernel
theorem dX6_copy_103 : decode cX6_copy 103 = .ok (.aload_n 0, 1) := by decide +kernel
theorem dX6_copy_104 : decode cX6_copy 104 = .ok (.iconst 2, 1) := by decide +kernel
theorem dX6_copy_105 : decode cX6_copy 105 = .ok (.invokevirtual 63, 3) := by decide +kernel
theorem dX6_copy_108 : decode cX6_copy 108 = .ok (.ireturn, 1) := by decide +kernel
theorem dX6_copy_109 : decode cX6_copy 109 = .ok (.aload 6, 2) := by decide +kernel
theorem dX6_copy_111 : decode cX6_copy 111 = .ok (.getfield 90, 3) := by decide +kernel
theorem dX6_copy_114 : decode cX6_copy 114 = .ok (.iload_n 2, 1) := by decide +kernel
theorem dX6_copy_115 : decode cX6_copy 115 = .ok (.aload 7, 2) := by decide +kernel
theorem dX6_copy_117 : decode cX6_copy 117 = .ok (.getfield 90, 3) := by decide +kernel
theorem dX6_copy_120 : decode cX6_copy 120 = .ok (.iload 4, 2) := by decide +kernel
theorem dX6_copy_122 : decode cX6_copy 122 = .ok (.iload 5, 2) := by decide +kernel
theorem dX6_copy_124 : decode cX6_copy 124 = .ok (.invokestatic 94, 3) := by decide +kernel
theorem dX6_copy_127 : decode cX6_copy 127 = .ok (.aload_n 0, 1) := by decide +kernel
theorem dX6_copy_128 : decode cX6_copy 128 = .ok (.iload 5, 2) := by decide +kernel
theorem dX6_copy_130 : decode cX6_copy 130 = .ok (.invokevirtual 71, 3) := by decide +kernel
theorem dX6_copy_133 : decode cX6_copy 133 = .ok (.ireturn, 1) := by decide +kernel
theorem dX6_drop_0 : decode cX6_drop 0 = .ok (.iload_n 1, 1) := by decide +kernel
theorem dX6_drop_1 : decode cX6_drop 1 = .ok (.iconst 0, 1) := by decide +kernel
theorem dX6_drop_2 : decode cX6_drop 2 = .ok (.bipush 7, 2) := by decide +kernel
theorem dX6_drop_4 : decode cX6_drop 4 = .ok (.invokestatic 58, 3) := by decide +kernel
theorem dX6_drop_7 : decode cX6_drop 7 = .ok (.ifCond .ne 6, 3) := by decide +kernel
theorem dX6_drop_10 : decode cX6_drop 10 = .ok (.ldc 62, 2) := by decide +kernel
theorem dX6_drop_12 : decode cX6_drop 12 = .ok (.ireturn, 1) := by decide +kernel
theorem dX6_drop_13 : decode cX6_drop 13 = .ok (.aload_n 0, 1) := by decide +kernel
theorem dX6_drop_14 : decode cX6_drop 14 = .ok (.getfield 11, 3) := by decide +kernel
theorem dX6_drop_17 : decode cX6_drop 17 = .ok (.iload_n 1, 1) := by decide +kernel
theorem dX6_drop_18 : decode cX6_drop 18 = .ok (.aaload, 1) := by decide +kernel
theorem dX6_drop_19 : decode cX6_drop 19 = .ok (.astore_n 2, 1) := by decide +kernel
theorem dX6_drop_20 : decode cX6_drop 20 = .ok (.aload_n 2, 1) := by decide +kernel
theorem dX6_drop_21 : decode cX6_drop 21 = .ok (.invokevirtual 74, 3) := by decide +kernel
theorem dX6_drop_24 : decode cX6_drop 24 = .ok (.ifCond .eq 9, 3) := by decide +kernel
theorem dX6_drop_27 : decode cX6_drop 27 = .ok (.aload_n 0, 1) := by decide +kernel
theorem dX6_drop_28 : decode cX6_drop 28 = .ok (.iconst 1, 1) := by decide +kernel
theorem dX6_drop_29 : decode cX6_drop 29 = .ok (.invokevirtual 63, 3) := by decide +kernel
theorem dX6_drop_32 : decode cX6_drop 32 = .ok (.ireturn, 1) := by decide +kernel
theorem dX6_drop_33 : decode cX6_drop 33 = .ok (.aload_n 0, 1) := by decide +kernel
theorem dX6_drop_34 : decode cX6_drop 34 = .ok (.aload_n 2, 1) := by decide +kernel
theorem dX6_drop_35 : decode cX6_drop 35 = .ok (.invokevirtual 100, 3) := by decide +kernel
theorem dX6_drop_38 : decode cX6_drop 38 = .ok (.invokevirtual 71, 3) := by decide +kernel
theorem dX6_drop_41 : decode cX6_drop 41 = .ok (.ireturn, 1) := by decide +kernel
theorem dX6_feed_0 : decode cX6_feed 0 = .ok (.iload_n 1, 1) := by decide +kernel
theorem dX6_feed_1 : decode cX6_feed 1 = .ok (.iconst 0, 1) := by decide +kernel
theorem dX6_feed_2 : decode cX6_feed 2 = .ok (.sipush 255, 3) := by decide +kernel
theorem dX6_feed_5 : decode cX6_feed 5 = .ok (.invokestatic 58, 3) := by decide +kernel
theorem dX6_feed_8 : decode cX6_feed 8 = .ok (.ifCond .ne 6, 3) := by decide +kernel
theorem dX6_feed_11 : decode cX6_feed 11 = .ok (.ldc 62, 2) := by decide +kernel
theorem dX6_feed_13 : decode cX6_feed 13 = .ok (.ireturn, 1) := by decide +kernel
theorem dX6_feed_14 : decode cX6_feed 14 = .ok (.aload_n 0, 1) := by decide +kernel
theorem dX6_feed_15 : decode cX6_feed 15 = .ok (.getfield 32, 3) := by decide +kernel
theorem dX6_feed_18 : decode cX6_feed 18 = .ok (.iload_n 1, 1) := by decide +kernel
theorem dX6_feed_19 : decode cX6_feed 19 = .ok (.invokevirtual 104, 3) := by decide +kernel
theorem dX6_feed_22 : decode cX6_feed 22 = .ok (.ifCond .eq 13, 3) := by decide +kernel
theorem dX6_feed_25 : decode cX6_feed 25 = .ok (.aload_n 0, 1) := by decide +kernel
theorem dX6_feed_26 : decode cX6_feed 26 = .ok (.getfield 32, 3) := by decide +kernel
theorem dX6_feed_29 : decode cX6_feed 29 = .ok (.getfield 108, 3) := by decide +kernel
theorem dX6_feed_32 : decode cX6_feed 32 = .ok (.goto 5, 3) := by decide +kernel
theorem dX6_feed_35 : decode cX6_feed 35 = .ok (.ldc 111, 2) := by decide +kernel
theorem dX6_feed_37 : decode cX6_feed 37 = .ok (.ireturn, 1) := by decide +kernel
theorem dX6_agency_0 : decode cX6_agency 0 = .ok (.aload_n 0, 1) := by decide +kernel
theorem dX6_agency_1 : decode cX6_agency 1 = .ok (.getfield 32, 3) := by decide +kernel
theorem dX6_agency_4 : decode cX6_agency 4 = .ok (.aload_n 0, 1) := by decide +kernel
theorem dX6_agency_5 : decode cX6_agency 5 = .ok (.getfield 26, 3) := by decide +kernel
theorem dX6_agency_8 : decode cX6_agency 8 = .ok (.invokevirtual 112, 3) := by decide +kernel
theorem dX6_agency_11 : decode cX6_agency 11 = .ok (.aload_n 0, 1) := by decide +kernel
theorem dX6_agency_12 : decode cX6_agency 12 = .ok (.getfield 32, 3) := by decide +kernel
theorem dX6_agency_15 : decode cX6_agency 15 = .ok (.getfield 116, 3) := by decide +kernel
theorem dX6_agency_18 : decode cX6_agency 18 = .ok (.ifCond .eq 25, 3) := by decide +kernel
theorem dX6_agency_21 : decode cX6_agency 21 = .ok (.aload_n 0, 1) := by decide +kernel
theorem dX6_agency_22 : decode cX6_agency 22 = .ok (.aload_n 0, 1) := by decide +kernel
theorem dX6_agency_23 : decode cX6_agency 23 = .ok (.getfield 32, 3) := by decide +kernel
theorem dX6_agency_26 : decode cX6_agency 26 = .ok (.getfield 116, 3) := by decide +kernel
theorem dX6_agency_29 : decode cX6_agency 29 = .ok (.putfield 119, 3) := by decide +kernel
theorem dX6_agency_32 : decode cX6_agency 32 = .ok (.ldc 122, 2) := by decide +kernel
theorem dX6_agency_34 : decode cX6_agency 34 = .ok (.aload_n 0, 1) := by decide +kernel
theorem dX6_agency_35 : decode cX6_agency 35 = .ok (.getfield 32, 3) := by decide +kernel
theorem dX6_agency_38 : decode cX6_agency 38 = .ok (.getfield 123, 3) := by decide +kernel
theorem dX6_agency_41 : decode cX6_agency 41 = .ok (.isub, 1) := by decide +kernel
theorem dX6_agency_42 : decode cX6_agency 42 = .ok (.ireturn, 1) := by decide +kernel
theorem dX6_agency_43 : decode cX6_agency 43 = .ok (.aload_n 0, 1) := by decide +kernel
theorem dX6_agency_44 : decode cX6_agency 44 = .ok (.getfield 22, 3) := by decide +kernel
theorem dX6_agency_47 : decode cX6_agency 47 = .ok (.aload_n 0, 1) := by decide +kernel
theorem dX6_agency_48 : decode cX6_agency 48 = .ok (.getfield 26, 3) := by decide +kernel
theorem dX6_agency_51 : decode cX6_agency 51 = .ok (.invokevirtual 126, 3) := by decide +kernel
theorem dX6_agency_54 : decode cX6_agency 54 = .ok (.aload_n 0, 1) := by decide +kernel
theorem dX6_agency_55 : decode cX6_agency 55 = .ok (.getfield 39, 3) := by decide +kernel
theorem dX6_agency_58 : decode cX6_agency 58 = .ok (.invokevirtual 129, 3) := by decide +kernel
theorem dX6_agency_61 : decode cX6_agency 61 = .ok (.aload_n 0, 1) := by decide +kernel
theorem dX6_agency_62 : decode cX6_agency 62 = .ok (.getfield 22, 3) := by decide +kernel
theorem dX6_agency_65 : decode cX6_agency 65 = .ok (.getfield 132, 3) := by decide +kernel
theorem dX6_agency_68 : decode cX6_agency 68 = .ok (.ireturn, 1) := by decide +kernel
theorem dX6_fault_0 : decode cX6_fault 0 = .ok (.aload_n 0, 1) := by decide +kernel
theorem dX6_fault_1 : decode cX6_fault 1 = .ok (.getfield 119, 3) := by decide +kernel
theorem dX6_fault_4 : decode cX6_fault 4 = .ok (.ireturn, 1) := by decide +kernel
theorem dX6_nights_0 : decode cX6_nights 0 = .ok (.aload_n 0, 1) := by decide +kernel
theorem dX6_nights_1 : decode cX6_nights 1 = .ok (.getfield 22, 3) := by decide +kernel
theorem dX6_nights_4 : decode cX6_nights 4 = .ok (.invokevirtual 135, 3) := by decide +kernel
theorem dX6_nights_7 : decode cX6_nights 7 = .ok (.ifCond .ne 6, 3) := by decide +kernel
theorem dX6_nights_10 : decode cX6_nights 10 = .ok (.ldc 138, 2) := by decide +kernel
theorem dX6_nights_12 : decode cX6_nights 12 = .ok (.ireturn, 1) := by decide +kernel
theorem dX6_nights_13 : decode cX6_nights 13 = .ok (.iload_n 1, 1) := by decide +kernel
theorem dX6_nights_14 : decode cX6_nights 14 = .ok (.iconst 1, 1) := by decide +kernel
theorem dX6_nights_15 : decode cX6_nights 15 = .ok (.bipush 24, 2) := by decide +kernel
theorem dX6_nights_17 : decode cX6_nights 17 = .ok (.invokestatic 58, 3) := by decide +kernel
theorem dX6_nights_20 : decode cX6_nights 20 = .ok (.ifCond .ne 6, 3) := by decide +kernel
theorem dX6_nights_23 : decode cX6_nights 23 = .ok (.ldc 62, 2) := by decide +kernel
theorem dX6_nights_25 : decode cX6_nights 25 = .ok (.ireturn, 1) := by decide +kernel
theorem dX6_nights_26 : decode cX6_nights 26 = .ok (.aload_n 0, 1) := by decide +kernel
theorem dX6_nights_27 : decode cX6_nights 27 = .ok (.getfield 22, 3) := by decide +kernel
theorem dX6_nights_30 : decode cX6_nights 30 = .ok (.getfield 139, 3) := by decide +kernel
theorem dX6_nights_33 : decode cX6_nights 33 = .ok (.iload_n 1, 1) := by decide +kernel
theorem dX6_nights_34 : decode cX6_nights 34 = .ok (.iadd, 1) := by decide +kernel
theorem dX6_nights_35 : decode cX6_nights 35 = .ok (.sipush 999, 3) := by decide +kernel
theorem dX6_nights_38 : decode cX6_nights 38 = .ok (.if_icmp .le 6, 3) := by decide +kernel
theorem dX6_nights_41 : decode cX6_nights 41 = .ok (.ldc 111, 2) := by decide +kernel
theorem dX6_nights_43 : decode cX6_nights 43 = .ok (.ireturn, 1) := by decide +kernel
theorem dX6_nights_44 : decode cX6_nights 44 = .ok (.iconst 0, 1) := by decide +kernel
theorem dX6_nights_45 : decode cX6_nights 45 = .ok (.istore_n 2, 1) := by decide +kernel
theorem dX6_nights_46 : decode cX6_nights 46 = .ok (.iload_n 2, 1) := by decide +kernel
theorem dX6_nights_47 : decode cX6_nights 47 = .ok (.iload_n 1, 1) := by decide +kernel
theorem dX6_nights_48 : decode cX6_nights 48 = .ok (.if_icmp .ge 29, 3) := by decide +kernel
theorem dX6_nights_51 : decode cX6_nights 51 = .ok (.aload_n 0, 1) := by decide +kernel
theorem dX6_nights_52 : decode cX6_nights 52 = .ok (.getfield 39, 3) := by decide +kernel
theorem dX6_nights_55 : decode cX6_nights 55 = .ok (.aload_n 0, 1) := by decide +kernel
theorem dX6_nights_56 : decode cX6_nights 56 = .ok (.getfield 22, 3) := by decide +kernel
theorem dX6_nights_59 : decode cX6_nights 59 = .ok (.invokevirtual 142, 3) := by decide +kernel
theorem dX6_nights_62 : decode cX6_nights 62 = .ok (.aload_n 0, 1) := by decide +kernel
theorem dX6_nights_63 : decode cX6_nights 63 = .ok (.getfield 22, 3) := by decide +kernel
theorem dX6_nights_66 : decode cX6_nights 66 = .ok (.bipush 15, 2) := by decide +kernel
theorem dX6_nights_68 : decode cX6_nights 68 = .ok (.invokevirtual 145, 3) := by decide +kernel
theorem dX6_nights_71 : decode cX6_nights 71 = .ok (.iinc 2 1, 3) := by decide +kernel
theorem dX6_nights_74 : decode cX6_nights 74 = .ok (.goto (-28), 3) := by decide +kernel
theorem dX6_nights_77 : decode cX6_nights 77 = .ok (.aload_n 0, 1) := by decide +kernel
theorem dX6_nights_78 : decode cX6_nights 78 = .ok (.getfield 22, 3) := by decide +kernel
theorem dX6_nights_81 : decode cX6_nights 81 = .ok (.invokevirtual 149, 3) := by decide +kernel
theorem dX6_nights_84 : decode cX6_nights 84 = .ok (.ireturn, 1) := by decide +kernel
theorem dX6_let_0 : decode cX6_let 0 = .ok (.aload_n 0, 1) := by decide +kernel
theorem dX6_let_1 : decode cX6_let 1 = .ok (.getfield 22, 3) := by decide +kernel
theorem dX6_let_4 : decode cX6_let 4 = .ok (.iload_n 1, 1) := by decide +kernel
theorem dX6_let_5 : decode cX6_let 5 = .ok (.invokevirtual 152, 3) := by decide +kernel
theorem dX6_let_8 : decode cX6_let 8 = .ok (.ifCond .eq 19, 3) := by decide +kernel
theorem dX6_let_11 : decode cX6_let 11 = .ok (.aload_n 0, 1) := by decide +kernel
theorem dX6_let_12 : decode cX6_let 12 = .ok (.getfield 22, 3) := by decide +kernel
theorem dX6_let_15 : decode cX6_let 15 = .ok (.iload_n 2, 1) := by decide +kernel
theorem dX6_let_16 : decode cX6_let 16 = .ok (.invokevirtual 155, 3) := by decide +kernel
theorem dX6_let_19 : decode cX6_let 19 = .ok (.ifCond .ne 11, 3) := by decide +kernel
theorem dX6_let_22 : decode cX6_let 22 = .ok (.iload_n 2, 1) := by decide +kernel
theorem dX6_let_23 : decode cX6_let 23 = .ok (.iconst 5, 1) := by decide +kernel
theorem dX6_let_24 : decode cX6_let 24 = .ok (.if_icmp .eq 6, 3) := by decide +kernel
theorem dX6_let_27 : decode cX6_let 27 = .ok (.ldc 62, 2) := by decide +kernel
theorem dX6_let_29 : decode cX6_let 29 = .ok (.ireturn, 1) := by decide +kernel
theorem dX6_let_30 : decode cX6_let 30 = .ok (.aload_n 0, 1) := by decide +kernel
theorem dX6_let_31 : decode cX6_let 31 = .ok (.getfield 22, 3) := by decide +kernel
theorem dX6_let_34 : decode cX6_let 34 = .ok (.getfield 158, 3) := by decide +kernel
theorem dX6_let_37 : decode cX6_let 37 = .ok (.iload_n 1, 1) := by decide +kernel
theorem dX6_let_38 : decode cX6_let 38 = .ok (.iaload, 1) := by decide +kernel
theorem dX6_let_39 : decode cX6_let 39 = .ok (.istore_n 3, 1) := by decide +kernel
theorem dX6_let_40 : decode cX6_let 40 = .ok (.iload_n 3, 1) := by decide +kernel
theorem dX6_let_41 : decode cX6_let 41 = .ok (.iload_n 2, 1) := by decide +kernel
theorem dX6_let_42 : decode cX6_let 42 = .ok (.if_icmp .ne 6, 3) := by decide +kernel
theorem dX6_let_45 : decode cX6_let 45 = .ok (.ldc 138, 2) := by decide +kernel
theorem dX6_let_47 : decode cX6_let 47 = .ok (.ireturn, 1) := by decide +kernel
theorem dX6_let_48 : decode cX6_let 48 = .ok (.aload_n 0, 1) := by decide +kernel
theorem dX6_let_49 : decode cX6_let 49 = .ok (.getfield 39, 3) := by decide +kernel
theorem dX6_let_52 : decode cX6_let 52 = .ok (.aload_n 0, 1) := by decide +kernel
theorem dX6_let_53 : decode cX6_let 53 = .ok (.getfield 22, 3) := by decide +kernel
theorem dX6_let_56 : decode cX6_let 56 = .ok (.invokevirtual 142, 3) := by decide +kernel
theorem dX6_let_59 : decode cX6_let 59 = .ok (.aload_n 0, 1) := by decide +kernel
theorem dX6_let_60 : decode cX6_let 60 = .ok (.getfield 22, 3) := by decide +kernel
theorem dX6_let_63 : decode cX6_let 63 = .ok (.getfield 158, 3) := by decide +kernel
theorem dX6_let_66 : decode cX6_let 66 = .ok (.iload_n 1, 1) := by decide +kernel
theorem dX6_let_67 : decode cX6_let 67 = .ok (.iload_n 2, 1) := by decide +kernel
theorem dX6_let_68 : decode cX6_let 68 = .ok (.iastore, 1) := by decide +kernel
theorem dX6_let_69 : decode cX6_let 69 = .ok (.iload_n 3, 1) := by decide +kernel
theorem dX6_let_70 : decode cX6_let 70 = .ok (.ireturn, 1) := by decide +kernel
theorem dX6_grow_0 : decode cX6_grow 0 = .ok (.aload_n 0, 1) := by decide +kernel
theorem dX6_grow_1 : decode cX6_grow 1 = .ok (.getfield 22, 3) := by decide +kernel
theorem dX6_grow_4 : decode cX6_grow 4 = .ok (.iload_n 1, 1) := by decide +kernel
theorem dX6_grow_5 : decode cX6_grow 5 = .ok (.invokevirtual 155, 3) := by decide +kernel
theorem dX6_grow_8 : decode cX6_grow 8 = .ok (.ifCond .eq 13, 3) := by decide +kernel
theorem dX6_grow_11 : decode cX6_grow 11 = .ok (.iload_n 2, 1) := by decide +kernel
theorem dX6_grow_12 : decode cX6_grow 12 = .ok (.iconst 1, 1) := by decide +kernel
theorem dX6_grow_13 : decode cX6_grow 13 = .ok (.bipush 20, 2) := by decide +kernel
theorem dX6_grow_15 : decode cX6_grow 15 = .ok (.invokestatic 58, 3) := by decide +kernel
theorem dX6_grow_18 : decode cX6_grow 18 = .ok (.ifCond .ne 6, 3) := by decide +kernel
theorem dX6_grow_21 : decode cX6_grow 21 = .ok (.ldc 62, 2) := by decide +kernel
theorem dX6_grow_23 : decode cX6_grow 23 = .ok (.ireturn, 1) := by decide +kernel
theorem dX6_grow_24 : decode cX6_grow 24 = .ok (.aload_n 0, 1) := by decide +kernel
theorem dX6_grow_25 : decode cX6_grow 25 = .ok (.getfield 39, 3) := by decide +kernel
theorem dX6_grow_28 : decode cX6_grow 28 = .ok (.aload_n 0, 1) := by decide +kernel
theorem dX6_grow_29 : decode cX6_grow 29 = .ok (.getfield 22, 3) := by decide +kernel
theorem dX6_grow_32 : decode cX6_grow 32 = .ok (.invokevirtual 142, 3) := by decide +kernel
theorem dX6_grow_35 : decode cX6_grow 35 = .ok (.aload_n 0, 1) := by decide +kernel
theorem dX6_grow_36 : decode cX6_grow 36 = .ok (.getfield 22, 3) := by decide +kernel
theorem dX6_grow_39 : decode cX6_grow 39 = .ok (.iload_n 1, 1) := by decide +kernel
theorem dX6_grow_40 : decode cX6_grow 40 = .ok (.iload_n 2, 1) := by decide +kernel
theorem dX6_grow_41 : decode cX6_grow 41 = .ok (.invokevirtual 161, 3) := by decide +kernel
theorem dX6_grow_44 : decode cX6_grow 44 = .ok (.aload_n 0, 1) := by decide +kernel
theorem dX6_grow_45 : decode cX6_grow 45 = .ok (.getfield 22, 3) := by decide +kernel
theorem dX6_grow_48 : decode cX6_grow 48 = .ok (.getfield 164, 3) := by decide +kernel
theorem dX6_grow_51 : decode cX6_grow 51 = .ok (.iload_n 1, 1) := by decide +kernel
theorem dX6_grow_52 : decode cX6_grow 52 = .ok (.iaload, 1) := by decide +kernel
theorem dX6_grow_53 : decode cX6_grow 53 = .ok (.ireturn, 1) := by decide +kernel
theorem dX6_learn_0 : decode cX6_learn 0 = .ok (.aload_n 0, 1) := by decide +kernel
theorem dX6_learn_1 : decode cX6_learn 1 = .ok (.getfield 22, 3) := by decide +kernel
theorem dX6_learn_4 : decode cX6_learn 4 = .ok (.iload_n 1, 1) := by decide +kernel
theorem dX6_learn_5 : decode cX6_learn 5 = .ok (.invokevirtual 152, 3) := by decide +kernel
theorem dX6_learn_8 : decode cX6_learn 8 = .ok (.ifCond .eq 12, 3) := by decide +kernel
theorem dX6_learn_11 : decode cX6_learn 11 = .ok (.iload_n 2, 1) := by decide +kernel
theorem dX6_learn_12 : decode cX6_learn 12 = .ok (.iconst 0, 1) := by decide +kernel
theorem dX6_learn_13 : decode cX6_learn 13 = .ok (.iconst 5, 1) := by decide +kernel
theorem dX6_learn_14 : decode cX6_learn 14 = .ok (.invokestatic 58, 3) := by decide +kernel
theorem dX6_learn_17 : decode cX6_learn 17 = .ok (.ifCond .ne 6, 3) := by decide +kernel
theorem dX6_learn_20 : decode cX6_learn 20 = .ok (.ldc 62, 2) := by decide +kernel
theorem dX6_learn_22 : decode cX6_learn 22 = .ok (.ireturn, 1) := by decide +kernel
theorem dX6_learn_23 : decode cX6_learn 23 = .ok (.aload_n 0, 1) := by decide +kernel
theorem dX6_learn_24 : decode cX6_learn 24 = .ok (.getfield 22, 3) := by decide +kernel
theorem dX6_learn_27 : decode cX6_learn 27 = .ok (.getfield 167, 3) := by decide +kernel
theorem dX6_learn_30 : decode cX6_learn 30 = .ok (.iload_n 1, 1) := by decide +kernel
theorem dX6_learn_31 : decode cX6_learn 31 = .ok (.iaload, 1) := by decide +kernel
theorem dX6_learn_32 : decode cX6_learn 32 = .ok (.istore_n 3, 1) := by decide +kernel
theorem dX6_learn_33 : decode cX6_learn 33 = .ok (.aload_n 0, 1) := by decide +kernel
theorem dX6_learn_34 : decode cX6_learn 34 = .ok (.getfield 39, 3) := by decide +kernel
theorem dX6_learn_37 : decode cX6_learn 37 = .ok (.aload_n 0, 1) := by decide +kernel
theorem dX6_learn_38 : decode cX6_learn 38 = .ok (.getfield 22, 3) := by decide +kernel
theorem dX6_learn_41 : decode cX6_learn 41 = .ok (.invokevirtual 142, 3) := by decide +kernel
theorem dX6_learn_44 : decode cX6_learn 44 = .ok (.aload_n 0, 1) := by decide +kernel
theorem dX6_learn_45 : decode cX6_learn 45 = .ok (.getfield 22, 3) := by decide +kernel
theorem dX6_learn_48 : decode cX6_learn 48 = .ok (.getfield 167, 3) := by decide +kernel
theorem dX6_learn_51 : decode cX6_learn 51 = .ok (.iload_n 1, 1) := by decide +kernel
theorem dX6_learn_52 : decode cX6_learn 52 = .ok (.iload_n 2, 1) := by decide +kernel
theorem dX6_learn_53 : decode cX6_learn 53 = .ok (.iastore, 1) := by decide +kernel
theorem dX6_learn_54 : decode cX6_learn 54 = .ok (.iload_n 3, 1) := by decide +kernel
theorem dX6_learn_55 : decode cX6_learn 55 = .ok (.ireturn, 1) := by decide +kernel
theorem dX6_undo_0 : decode cX6_undo 0 = .ok (.aload_n 0, 1) := by decide +kernel
theorem dX6_undo_1 : decode cX6_undo 1 = .ok (.getfield 39, 3) := by decide +kernel
theorem dX6_undo_4 : decode cX6_undo 4 = .ok (.aload_n 0, 1) := by decide +kernel
theorem dX6_undo_5 : decode cX6_undo 5 = .ok (.getfield 22, 3) := by decide +kernel
theorem dX6_undo_8 : decode cX6_undo 8 = .ok (.invokevirtual 170, 3) := by decide +kernel
theorem dX6_undo_11 : decode cX6_undo 11 = .ok (.ifCond .eq 13, 3) := by decide +kernel
theorem dX6_undo_14 : decode cX6_undo 14 = .ok (.aload_n 0, 1) := by decide +kernel
theorem dX6_undo_15 : decode cX6_undo 15 = .ok (.getfield 39, 3) := by decide +kernel
theorem dX6_undo_18 : decode cX6_undo 18 = .ok (.getfield 174, 3) := by decide +kernel
theorem dX6_undo_21 : decode cX6_undo 21 = .ok (.goto 5, 3) := by decide +kernel
theorem dX6_undo_24 : decode cX6_undo 24 = .ok (.ldc 138, 2) := by decide +kernel
theorem dX6_undo_26 : decode cX6_undo 26 = .ok (.ireturn, 1) := by decide +kernel
theorem dX6_client_0 : decode cX6_client 0 = .ok (.aload_n 0, 1) := by decide +kernel
theorem dX6_client_1 : decode cX6_client 1 = .ok (.getfield 22, 3) := by decide +kernel
theorem dX6_client_4 : decode cX6_client 4 = .ok (.iload_n 1, 1) := by decide +kernel
theorem dX6_client_5 : decode cX6_client 5 = .ok (.invokevirtual 155, 3) := by decide +kernel
theorem dX6_client_8 : decode cX6_client 8 = .ok (.ifCond .ne 6, 3) := by decide +kernel
theorem dX6_client_11 : decode cX6_client 11 = .ok (.ldc 62, 2) := by decide +kernel
theorem dX6_client_13 : decode cX6_client 13 = .ok (.ireturn, 1) := by decide +kernel
theorem dX6_client_14 : decode cX6_client 14 = .ok (.iload_n 2, 1) := by decide +kernel
theorem dX6_client_15 : decode cX6_client 15 = .ok (.tableswitch 85 0 4 #[33, 43, 53, 65, 74], 33) := by decide +kernel
theorem dX6_client_48 : decode cX6_client 48 = .ok (.aload_n 0, 1) := by decide +kernel
theorem dX6_client_49 : decode cX6_client 49 = .ok (.getfield 22, 3) := by decide +kernel
theorem dX6_client_52 : decode cX6_client 52 = .ok (.getfield 164, 3) := by decide +kernel
theorem dX6_client_55 : decode cX6_client 55 = .ok (.iload_n 1, 1) := by decide +kernel
theorem dX6_client_56 : decode cX6_client 56 = .ok (.iaload, 1) := by decide +kernel
theorem dX6_client_57 : decode cX6_client 57 = .ok (.ireturn, 1) := by decide +kernel
theorem dX6_client_58 : decode cX6_client 58 = .ok (.aload_n 0, 1) := by decide +kernel
theorem dX6_client_59 : decode cX6_client 59 = .ok (.getfield 22, 3) := by decide +kernel
theorem dX6_client_62 : decode cX6_client 62 = .ok (.getfield 177, 3) := by decide +kernel
theorem dX6_client_65 : decode cX6_client 65 = .ok (.iload_n 1, 1) := by decide +kernel
theorem dX6_client_66 : decode cX6_client 66 = .ok (.iaload, 1) := by decide +kernel
theorem dX6_client_67 : decode cX6_client 67 = .ok (.ireturn, 1) := by decide +kernel
theorem dX6_client_68 : decode cX6_client 68 = .ok (.aload_n 0, 1) := by decide +kernel
theorem dX6_client_69 : decode cX6_client 69 = .ok (.getfield 22, 3) := by decide +kernel
theorem dX6_client_72 : decode cX6_client 72 = .ok (.invokevirtual 149, 3) := by decide +kernel
theorem dX6_client_75 : decode cX6_client 75 = .ok (.iload_n 1, 1) := by decide +kernel
theorem dX6_client_76 : decode cX6_client 76 = .ok (.ishr, 1) := by decide +kernel
theorem dX6_client_77 : decode cX6_client 77 = .ok (.iconst 1, 1) := by decide +kernel
theorem dX6_client_78 : decode cX6_client 78 = .ok (.iand, 1) := by decide +kernel
theorem dX6_client_79 : decode cX6_client 79 = .ok (.ireturn, 1) := by decide +kernel
theorem dX6_client_80 : decode cX6_client 80 = .ok (.aload_n 0, 1) := by decide +kernel
theorem dX6_client_81 : decode cX6_client 81 = .ok (.getfield 22, 3) := by decide +kernel
theorem dX6_client_84 : decode cX6_client 84 = .ok (.iload_n 1, 1) := by decide +kernel
theorem dX6_client_85 : decode cX6_client 85 = .ok (.invokevirtual 180, 3) := by decide +kernel
theorem dX6_client_88 : decode cX6_client 88 = .ok (.ireturn, 1) := by decide +kernel
theorem dX6_client_89 : decode cX6_client 89 = .ok (.aload_n 0, 1) := by decide +kernel
theorem dX6_client_90 : decode cX6_client 90 = .ok (.getfield 22, 3) := by decide +kernel
theorem dX6_client_93 : decode cX6_client 93 = .ok (.iload_n 1, 1) := by decide +kernel
theorem dX6_client_94 : decode cX6_client 94 = .ok (.bipush 15, 2) := by decide +kernel
theorem dX6_client_96 : decode cX6_client 96 = .ok (.invokevirtual 183, 3) := by decide +kernel
theorem dX6_client_99 : decode cX6_client 99 = .ok (.ireturn, 1) := by decide +kernel
theorem dX6_client_100 : decode cX6_client 100 = .ok (.ldc 62, 2) := by decide +kernel
theorem dX6_client_102 : decode cX6_client 102 = .ok (.ireturn, 1) := by decide +kernel
theorem dX6_waker_0 : decode cX6_waker 0 = .ok (.aload_n 0, 1) := by decide +kernel
theorem dX6_waker_1 : decode cX6_waker 1 = .ok (.getfield 22, 3) := by decide +kernel
theorem dX6_waker_4 : decode cX6_waker 4 = .ok (.iload_n 1, 1) := by decide +kernel
theorem dX6_waker_5 : decode cX6_waker 5 = .ok (.invokevirtual 152, 3) := by decide +kernel
theorem dX6_waker_8 : decode cX6_waker 8 = .ok (.ifCond .ne 6, 3) := by decide +kernel
theorem dX6_waker_11 : decode cX6_waker 11 = .ok (.ldc 62, 2) := by decide +kernel
theorem dX6_waker_13 : decode cX6_waker 13 = .ok (.ireturn, 1) := by decide +kernel
theorem dX6_waker_14 : decode cX6_waker 14 = .ok (.iload_n 2, 1) := by decide +kernel
theorem dX6_waker_15 : decode cX6_waker 15 = .ok (.tableswitch 98 0 4 #[33, 43, 53, 63, 88], 33) := by decide +kernel
theorem dX6_waker_48 : decode cX6_waker 48 = .ok (.aload_n 0, 1) := by decide +kernel
theorem dX6_waker_49 : decode cX6_waker 49 = .ok (.getfield 22, 3) := by decide +kernel
theorem dX6_waker_52 : decode cX6_waker 52 = .ok (.getfield 186, 3) := by decide +kernel
theorem dX6_waker_55 : decode cX6_waker 55 = .ok (.iload_n 1, 1) := by decide +kernel
theorem dX6_waker_56 : decode cX6_waker 56 = .ok (.iaload, 1) := by decide +kernel
theorem dX6_waker_57 : decode cX6_waker 57 = .ok (.ireturn, 1) := by decide +kernel
theorem dX6_waker_58 : decode cX6_waker 58 = .ok (.aload_n 0, 1) := by decide +kernel
theorem dX6_waker_59 : decode cX6_waker 59 = .ok (.getfield 22, 3) := by decide +kernel
theorem dX6_waker_62 : decode cX6_waker 62 = .ok (.getfield 167, 3) := by decide +kernel
theorem dX6_waker_65 : decode cX6_waker 65 = .ok (.iload_n 1, 1) := by decide +kernel
theorem dX6_waker_66 : decode cX6_waker 66 = .ok (.iaload, 1) := by decide +kernel
theorem dX6_waker_67 : decode cX6_waker 67 = .ok (.ireturn, 1) := by decide +kernel
theorem dX6_waker_68 : decode cX6_waker 68 = .ok (.aload_n 0, 1) := by decide +kernel
theorem dX6_waker_69 : decode cX6_waker 69 = .ok (.getfield 22, 3) := by decide +kernel
theorem dX6_waker_72 : decode cX6_waker 72 = .ok (.getfield 158, 3) := by decide +kernel
theorem dX6_waker_75 : decode cX6_waker 75 = .ok (.iload_n 1, 1) := by decide +kernel
theorem dX6_waker_76 : decode cX6_waker 76 = .ok (.iaload, 1) := by decide +kernel
theorem dX6_waker_77 : decode cX6_waker 77 = .ok (.ireturn, 1) := by decide +kernel
theorem dX6_waker_78 : decode cX6_waker 78 = .ok (.aload_n 0, 1) := by decide +kernel
theorem dX6_waker_79 : decode cX6_waker 79 = .ok (.getfield 22, 3) := by decide +kernel
theorem dX6_waker_82 : decode cX6_waker 82 = .ok (.iload_n 1, 1) := by decide +kernel
theorem dX6_waker_83 : decode cX6_waker 83 = .ok (.aload_n 0, 1) := by decide +kernel
theorem dX6_waker_84 : decode cX6_waker 84 = .ok (.getfield 22, 3) := by decide +kernel
theorem dX6_waker_87 : decode cX6_waker 87 = .ok (.getfield 158, 3) := by decide +kernel
theorem dX6_waker_90 : decode cX6_waker 90 = .ok (.iload_n 1, 1) := by decide +kernel
theorem dX6_waker_91 : decode cX6_waker 91 = .ok (.iaload, 1) := by decide +kernel
theorem dX6_waker_92 : decode cX6_waker 92 = .ok (.aload_n 0, 1) := by decide +kernel
theorem dX6_waker_93 : decode cX6_waker 93 = .ok (.getfield 22, 3) := by decide +kernel
theorem dX6_waker_96 : decode cX6_waker 96 = .ok (.getfield 139, 3) := by decide +kernel
theorem dX6_waker_99 : decode cX6_waker 99 = .ok (.invokevirtual 189, 3) := by decide +kernel
theorem dX6_waker_102 : decode cX6_waker 102 = .ok (.ireturn, 1) := by decide +kernel
theorem dX6_waker_103 : decode cX6_waker 103 = .ok (.aload_n 0, 1) := by decide +kernel
theorem dX6_waker_104 : decode cX6_waker 104 = .ok (.getfield 22, 3) := by decide +kernel
theorem dX6_waker_107 : decode cX6_waker 107 = .ok (.getfield 193, 3) := by decide +kernel
theorem dX6_waker_110 : decode cX6_waker 110 = .ok (.iload_n 1, 1) := by decide +kernel
theorem dX6_waker_111 : decode cX6_waker 111 = .ok (.iaload, 1) := by decide +kernel
theorem dX6_waker_112 : decode cX6_waker 112 = .ok (.ireturn, 1) := by decide +kernel
theorem dX6_waker_113 : decode cX6_waker 113 = .ok (.ldc 62, 2) := by decide +kernel
theorem dX6_waker_115 : decode cX6_waker 115 = .ok (.ireturn, 1) := by decide +kernel
theorem dX6_weight_0 : decode cX6_weight 0 = .ok (.aload_n 0, 1) := by decide +kernel
theorem dX6_weight_1 : decode cX6_weight 1 = .ok (.getfield 22, 3) := by decide +kernel
theorem dX6_weight_4 : decode cX6_weight 4 = .ok (.iload_n 1, 1) := by decide +kernel
theorem dX6_weight_5 : decode cX6_weight 5 = .ok (.invokevirtual 155, 3) := by decide +kernel
theorem dX6_weight_8 : decode cX6_weight 8 = .ok (.ifCond .eq 13, 3) := by decide +kernel
theorem dX6_weight_11 : decode cX6_weight 11 = .ok (.iload_n 2, 1) := by decide +kernel
theorem dX6_weight_12 : decode cX6_weight 12 = .ok (.iconst 0, 1) := by decide +kernel
theorem dX6_weight_13 : decode cX6_weight 13 = .ok (.bipush 60, 2) := by decide +kernel
theorem dX6_weight_15 : decode cX6_weight 15 = .ok (.invokestatic 58, 3) := by decide +kernel
theorem dX6_weight_18 : decode cX6_weight 18 = .ok (.ifCond .ne 6, 3) := by decide +kernel
theorem dX6_weight_21 : decode cX6_weight 21 = .ok (.ldc 62, 2) := by decide +kernel
theorem dX6_weight_23 : decode cX6_weight 23 = .ok (.ireturn, 1) := by decide +kernel
theorem dX6_weight_24 : decode cX6_weight 24 = .ok (.aload_n 0, 1) := by decide +kernel
theorem dX6_weight_25 : decode cX6_weight 25 = .ok (.iload_n 2, 1) := by decide +kernel
theorem dX6_weight_26 : decode cX6_weight 26 = .ok (.invokevirtual 196, 3) := by decide +kernel
theorem dX6_weight_29 : decode cX6_weight 29 = .ok (.aload_n 0, 1) := by decide +kernel
theorem dX6_weight_30 : decode cX6_weight 30 = .ok (.getfield 26, 3) := by decide +kernel
theorem dX6_weight_33 : decode cX6_weight 33 = .ok (.getfield 164, 3) := by decide +kernel
theorem dX6_weight_36 : decode cX6_weight 36 = .ok (.iload_n 1, 1) := by decide +kernel
theorem dX6_weight_37 : decode cX6_weight 37 = .ok (.iaload, 1) := by decide +kernel
theorem dX6_weight_38 : decode cX6_weight 38 = .ok (.ireturn, 1) := by decide +kernel
theorem dX6_earned_0 : decode cX6_earned 0 = .ok (.aload_n 0, 1) := by decide +kernel
theorem dX6_earned_1 : decode cX6_earned 1 = .ok (.getfield 22, 3) := by decide +kernel
theorem dX6_earned_4 : decode cX6_earned 4 = .ok (.iload_n 1, 1) := by decide +kernel
theorem dX6_earned_5 : decode cX6_earned 5 = .ok (.invokevirtual 152, 3) := by decide +kernel
theorem dX6_earned_8 : decode cX6_earned 8 = .ok (.ifCond .eq 13, 3) := by decide +kernel
theorem dX6_earned_11 : decode cX6_earned 11 = .ok (.iload_n 2, 1) := by decide +kernel
theorem dX6_earned_12 : decode cX6_earned 12 = .ok (.iconst 0, 1) := by decide +kernel
theorem dX6_earned_13 : decode cX6_earned 13 = .ok (.bipush 60, 2) := by decide +kernel
theorem dX6_earned_15 : decode cX6_earned 15 = .ok (.invokestatic 58, 3) := by decide +kernel
theorem dX6_earned_18 : decode cX6_earned 18 = .ok (.ifCond .ne 6, 3) := by decide +kernel
theorem dX6_earned_21 : decode cX6_earned 21 = .ok (.ldc 62, 2) := by decide +kernel
theorem dX6_earned_23 : decode cX6_earned 23 = .ok (.ireturn, 1) := by decide +kernel
theorem dX6_earned_24 : decode cX6_earned 24 = .ok (.aload_n 0, 1) := by decide +kernel
theorem dX6_earned_25 : decode cX6_earned 25 = .ok (.iload_n 2, 1) := by decide +kernel
theorem dX6_earned_26 : decode cX6_earned 26 = .ok (.invokevirtual 196, 3) := by decide +kernel
theorem dX6_earned_29 : decode cX6_earned 29 = .ok (.aload_n 0, 1) := by decide +kernel
theorem dX6_earned_30 : decode cX6_earned 30 = .ok (.getfield 26, 3) := by decide +kernel
theorem dX6_earned_33 : decode cX6_earned 33 = .ok (.getfield 193, 3) := by decide +kernel
theorem dX6_earned_36 : decode cX6_earned 36 = .ok (.iload_n 1, 1) := by decide +kernel
theorem dX6_earned_37 : decode cX6_earned 37 = .ok (.iaload, 1) := by decide +kernel
theorem dX6_earned_38 : decode cX6_earned 38 = .ok (.ireturn, 1) := by decide +kernel
theorem dX6_rests_0 : decode cX6_rests 0 = .ok (.aload_n 0, 1) := by decide +kernel
theorem dX6_rests_1 : decode cX6_rests 1 = .ok (.getfield 22, 3) := by decide +kernel
theorem dX6_rests_4 : decode cX6_rests 4 = .ok (.invokevirtual 135, 3) := by decide +kernel
theorem dX6_rests_7 : decode cX6_rests 7 = .ok (.ifCond .ne 6, 3) := by decide +kernel
theorem dX6_rests_10 : decode cX6_rests 10 = .ok (.ldc 138, 2) := by decide +kernel
theorem dX6_rests_12 : decode cX6_rests 12 = .ok (.ireturn, 1) := by decide +kernel
theorem dX6_rests_13 : decode cX6_rests 13 = .ok (.iload_n 1, 1) := by decide +kernel
theorem dX6_rests_14 : decode cX6_rests 14 = .ok (.iconst 0, 1) := by decide +kernel
theorem dX6_rests_15 : decode cX6_rests 15 = .ok (.bipush 60, 2) := by decide +kernel
theorem dX6_rests_17 : decode cX6_rests 17 = .ok (.invokestatic 58, 3) := by decide +kernel
theorem dX6_rests_20 : decode cX6_rests 20 = .ok (.ifCond .ne 6, 3) := by decide +kernel
theorem dX6_rests_23 : decode cX6_rests 23 = .ok (.ldc 62, 2) := by decide +kernel
theorem dX6_rests_25 : decode cX6_rests 25 = .ok (.ireturn, 1) := by decide +kernel
theorem dX6_rests_26 : decode cX6_rests 26 = .ok (.aload_n 0, 1) := by decide +kernel
theorem dX6_rests_27 : decode cX6_rests 27 = .ok (.iload_n 1, 1) := by decide +kernel
theorem dX6_rests_28 : decode cX6_rests 28 = .ok (.invokevirtual 196, 3) := by decide +kernel
theorem dX6_rests_31 : decode cX6_rests 31 = .ok (.aload_n 0, 1) := by decide +kernel
theorem dX6_rests_32 : decode cX6_rests 32 = .ok (.getfield 26, 3) := by decide +kernel
theorem dX6_rests_35 : decode cX6_rests 35 = .ok (.invokevirtual 149, 3) := by decide +kernel
theorem dX6_rests_38 : decode cX6_rests 38 = .ok (.ireturn, 1) := by decide +kernel
theorem dX6_when_0 : decode cX6_when 0 = .ok (.aload_n 0, 1) := by decide +kernel
theorem dX6_when_1 : decode cX6_when 1 = .ok (.getfield 22, 3) := by decide +kernel
theorem dX6_when_4 : decode cX6_when 4 = .ok (.iload_n 1, 1) := by decide +kernel
theorem dX6_when_5 : decode cX6_when 5 = .ok (.invokevirtual 155, 3) := by decide +kernel
theorem dX6_when_8 : decode cX6_when 8 = .ok (.ifCond .ne 6, 3) := by decide +kernel
theorem dX6_when_11 : decode cX6_when 11 = .ok (.ldc 62, 2) := by decide +kernel
theorem dX6_when_13 : decode cX6_when 13 = .ok (.ireturn, 1) := by decide +kernel
theorem dX6_when_14 : decode cX6_when 14 = .ok (.aload_n 0, 1) := by decide +kernel
theorem dX6_when_15 : decode cX6_when 15 = .ok (.iconst 1, 1) := by decide +kernel
theorem dX6_when_16 : decode cX6_when 16 = .ok (.iload_n 1, 1) := by decide +kernel
theorem dX6_when_17 : decode cX6_when 17 = .ok (.ishl, 1) := by decide +kernel
theorem dX6_when_18 : decode cX6_when 18 = .ok (.invokevirtual 199, 3) := by decide +kernel
theorem dX6_when_21 : decode cX6_when 21 = .ok (.ireturn, 1) := by decide +kernel
theorem dX6_all_0 : decode cX6_all 0 = .ok (.aload_n 0, 1) := by decide +kernel
theorem dX6_all_1 : decode cX6_all 1 = .ok (.getfield 22, 3) := by decide +kernel
theorem dX6_all_4 : decode cX6_all 4 = .ok (.invokevirtual 135, 3) := by decide +kernel
theorem dX6_all_7 : decode cX6_all 7 = .ok (.ifCond .ne 6, 3) := by decide +kernel
theorem dX6_all_10 : decode cX6_all 10 = .ok (.ldc 138, 2) := by decide +kernel
theorem dX6_all_12 : decode cX6_all 12 = .ok (.ireturn, 1) := by decide +kernel
theorem dX6_all_13 : decode cX6_all 13 = .ok (.aload_n 0, 1) := by decide +kernel
theorem dX6_all_14 : decode cX6_all 14 = .ok (.getfield 22, 3) := by decide +kernel
theorem dX6_all_17 : decode cX6_all 17 = .ok (.iload_n 1, 1) := by decide +kernel
theorem dX6_all_18 : decode cX6_all 18 = .ok (.invokevirtual 202, 3) := by decide +kernel
theorem dX6_all_21 : decode cX6_all 21 = .ok (.ifCond .ne 6, 3) := by decide +kernel
theorem dX6_all_24 : decode cX6_all 24 = .ok (.ldc 62, 2) := by decide +kernel
theorem dX6_all_26 : decode cX6_all 26 = .ok (.ireturn, 1) := by decide +kernel
theorem dX6_all_27 : decode cX6_all 27 = .ok (.aload_n 0, 1) := by decide +kernel
theorem dX6_all_28 : decode cX6_all 28 = .ok (.iload_n 1, 1) := by decide +kernel
theorem dX6_all_29 : decode cX6_all 29 = .ok (.invokevirtual 199, 3) := by decide +kernel
theorem dX6_all_32 : decode cX6_all 32 = .ok (.ireturn, 1) := by decide +kernel
theorem dX6_never_0 : decode cX6_never 0 = .ok (.aload_n 0, 1) := by decide +kernel
theorem dX6_never_1 : decode cX6_never 1 = .ok (.getfield 22, 3) := by decide +kernel
theorem dX6_never_4 : decode cX6_never 4 = .ok (.invokevirtual 135, 3) := by decide +kernel
theorem dX6_never_7 : decode cX6_never 7 = .ok (.ifCond .ne 6, 3) := by decide +kernel
theorem dX6_never_10 : decode cX6_never 10 = .ok (.ldc 138, 2) := by decide +kernel
theorem dX6_never_12 : decode cX6_never 12 = .ok (.ireturn, 1) := by decide +kernel
theorem dX6_never_13 : decode cX6_never 13 = .ok (.aload_n 0, 1) := by decide +kernel
theorem dX6_never_14 : decode cX6_never 14 = .ok (.getfield 26, 3) := by decide +kernel
theorem dX6_never_17 : decode cX6_never 17 = .ok (.aload_n 0, 1) := by decide +kernel
theorem dX6_never_18 : decode cX6_never 18 = .ok (.getfield 22, 3) := by decide +kernel
theorem dX6_never_21 : decode cX6_never 21 = .ok (.invokevirtual 126, 3) := by decide +kernel
theorem dX6_never_24 : decode cX6_never 24 = .ok (.aload_n 0, 1) := by decide +kernel
theorem dX6_never_25 : decode cX6_never 25 = .ok (.getfield 26, 3) := by decide +kernel
theorem dX6_never_28 : decode cX6_never 28 = .ok (.invokevirtual 149, 3) := by decide +kernel
theorem dX6_never_31 : decode cX6_never 31 = .ok (.istore_n 1, 1) := by decide +kernel
theorem dX6_never_32 : decode cX6_never 32 = .ok (.iconst 1, 1) := by decide +kernel
theorem dX6_never_33 : decode cX6_never 33 = .ok (.istore_n 2, 1) := by decide +kernel
theorem dX6_never_34 : decode cX6_never 34 = .ok (.iload_n 2, 1) := by decide +kernel
theorem dX6_never_35 : decode cX6_never 35 = .ok (.bipush 60, 2) := by decide +kernel
theorem dX6_never_37 : decode cX6_never 37 = .ok (.if_icmp .gt 28, 3) := by decide +kernel
theorem dX6_never_40 : decode cX6_never 40 = .ok (.aload_n 0, 1) := by decide +kernel
theorem dX6_never_41 : decode cX6_never 41 = .ok (.getfield 26, 3) := by decide +kernel
theorem dX6_never_44 : decode cX6_never 44 = .ok (.bipush 15, 2) := by decide +kernel
theorem dX6_never_46 : decode cX6_never 46 = .ok (.invokevirtual 145, 3) := by decide +kernel
theorem dX6_never_49 : decode cX6_never 49 = .ok (.iload_n 1, 1) := by decide +kernel
theorem dX6_never_50 : decode cX6_never 50 = .ok (.aload_n 0, 1) := by decide +kernel
theorem dX6_never_51 : decode cX6_never 51 = .ok (.getfield 26, 3) := by decide +kernel
theorem dX6_never_54 : decode cX6_never 54 = .ok (.invokevirtual 149, 3) := by decide +kernel
theorem dX6_never_57 : decode cX6_never 57 = .ok (.ior, 1) := by decide +kernel
theorem dX6_never_58 : decode cX6_never 58 = .ok (.istore_n 1, 1) := by decide +kernel
theorem dX6_never_59 : decode cX6_never 59 = .ok (.iinc 2 1, 3) := by decide +kernel
theorem dX6_never_62 : decode cX6_never 62 = .ok (.goto (-28), 3) := by decide +kernel
theorem dX6_never_65 : decode cX6_never 65 = .ok (.iconst 1, 1) := by decide +kernel
theorem dX6_never_66 : decode cX6_never 66 = .ok (.aload_n 0, 1) := by decide +kernel
theorem dX6_never_67 : decode cX6_never 67 = .ok (.getfield 22, 3) := by decide +kernel
theorem dX6_never_70 : decode cX6_never 70 = .ok (.getfield 132, 3) := by decide +kernel
theorem dX6_never_73 : decode cX6_never 73 = .ok (.ishl, 1) := by decide +kernel
theorem dX6_never_74 : decode cX6_never 74 = .ok (.iconst 1, 1) := by decide +kernel
theorem dX6_never_75 : decode cX6_never 75 = .ok (.isub, 1) := by decide +kernel
theorem dX6_never_76 : decode cX6_never 76 = .ok (.iload_n 1, 1) := by decide +kernel
theorem dX6_never_77 : decode cX6_never 77 = .ok (.iconst (-1), 1) := by decide +kernel
theorem dX6_never_78 : decode cX6_never 78 = .ok (.ixor, 1) := by decide +kernel
theorem dX6_never_79 : decode cX6_never 79 = .ok (.iand, 1) := by decide +kernel
theorem dX6_never_80 : decode cX6_never 80 = .ok (.ireturn, 1) := by decide +kernel
theorem dX6_best_0 : decode cX6_best 0 = .ok (.aload_n 0, 1) := by decide +kernel
theorem dX6_best_1 : decode cX6_best 1 = .ok (.getfield 22, 3) := by decide +kernel
theorem dX6_best_4 : decode cX6_best 4 = .ok (.invokevirtual 135, 3) := by decide +kernel
theorem dX6_best_7 : decode cX6_best 7 = .ok (.ifCond .ne 6, 3) := by decide +kernel
theorem dX6_best_10 : decode cX6_best 10 = .ok (.ldc 138, 2) := by decide +kernel
theorem dX6_best_12 : decode cX6_best 12 = .ok (.ireturn, 1) := by decide +kernel
theorem dX6_best_13 : decode cX6_best 13 = .ok (.iload_n 1, 1) := by decide +kernel
theorem dX6_best_14 : decode cX6_best 14 = .ok (.iconst 0, 1) := by decide +kernel
theorem dX6_best_15 : decode cX6_best 15 = .ok (.bipush 60, 2) := by decide +kernel
theorem dX6_best_17 : decode cX6_best 17 = .ok (.invokestatic 58, 3) := by decide +kernel
theorem dX6_best_20 : decode cX6_best 20 = .ok (.ifCond .eq 13, 3) := by decide +kernel
theorem dX6_best_23 : decode cX6_best 23 = .ok (.iload_n 2, 1) := by decide +kernel
theorem dX6_best_24 : decode cX6_best 24 = .ok (.bipush (-2), 2) := by decide +kernel
theorem dX6_best_26 : decode cX6_best 26 = .ok (.iconst 3, 1) := by decide +kernel
theorem dX6_best_27 : decode cX6_best 27 = .ok (.invokestatic 58, 3) := by decide +kernel
theorem dX6_best_30 : decode cX6_best 30 = .ok (.ifCond .ne 6, 3) := by decide +kernel
theorem dX6_best_33 : decode cX6_best 33 = .ok (.ldc 62, 2) := by decide +kernel
theorem dX6_best_35 : decode cX6_best 35 = .ok (.ireturn, 1) := by decide +kernel
theorem dX6_best_36 : decode cX6_best 36 = .ok (.aload_n 0, 1) := by decide +kernel
theorem dX6_best_37 : decode cX6_best 37 = .ok (.getfield 46, 3) := by decide +kernel
theorem dX6_best_40 : decode cX6_best 40 = .ok (.aload_n 0, 1) := by decide +kernel
theorem dX6_best_41 : decode cX6_best 41 = .ok (.getfield 22, 3) := by decide +kernel
theorem dX6_best_44 : decode cX6_best 44 = .ok (.iload_n 1, 1) := by decide +kernel
theorem dX6_best_45 : decode cX6_best 45 = .ok (.invokevirtual 205, 3) := by decide +kernel
theorem dX6_best_48 : decode cX6_best 48 = .ok (.iload_n 2, 1) := by decide +kernel
theorem dX6_best_49 : decode cX6_best 49 = .ok (.bipush (-2), 2) := by decide +kernel
theorem dX6_best_51 : decode cX6_best 51 = .ok (.if_icmp .ne 11, 3) := by decide +kernel
theorem dX6_best_54 : decode cX6_best 54 = .ok (.aload_n 0, 1) := by decide +kernel
theorem dX6_best_55 : decode cX6_best 55 = .ok (.getfield 46, 3) := by decide +kernel
theorem dX6_best_58 : decode cX6_best 58 = .ok (.getfield 209, 3) := by decide +kernel
theorem dX6_best_61 : decode cX6_best 61 = .ok (.ireturn, 1) := by decide +kernel
theorem dX6_best_62 : decode cX6_best 62 = .ok (.iload_n 2, 1) := by decide +kernel
theorem dX6_best_63 : decode cX6_best 63 = .ok (.iconst (-1), 1) := by decide +kernel
theorem dX6_best_64 : decode cX6_best 64 = .ok (.if_icmp .ne 13, 3) := by decide +kernel
theorem dX6_best_67 : decode cX6_best 67 = .ok (.aload_n 0, 1) := by decide +kernel
theorem dX6_best_68 : decode cX6_best 68 = .ok (.getfield 46, 3) := by decide +kernel
theorem dX6_best_71 : decode cX6_best 71 = .ok (.getfield 212, 3) := by decide +kernel
theorem dX6_best_74 : decode cX6_best 74 = .ok (.goto 8, 3) := by decide +kernel
theorem dX6_best_77 : decode cX6_best 77 = .ok (.aload_n 0, 1) := by decide +kernel
theorem dX6_best_78 : decode cX6_best 78 = .ok (.iload_n 2, 1) := by decide +kernel
theorem dX6_best_79 : decode cX6_best 79 = .ok (.invokevirtual 214, 3) := by decide +kernel
theorem dX6_best_82 : decode cX6_best 82 = .ok (.ireturn, 1) := by decide +kernel
