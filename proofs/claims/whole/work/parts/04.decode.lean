theorem dX6_fewest_0 : decode cX6_fewest 0 = .ok (.aload_n 0, 1) := by decide +kernel
theorem dX6_fewest_1 : decode cX6_fewest 1 = .ok (.getfield 22, 3) := by decide +kernel
theorem dX6_fewest_4 : decode cX6_fewest 4 = .ok (.invokevirtual 135, 3) := by decide +kernel
theorem dX6_fewest_7 : decode cX6_fewest 7 = .ok (.ifCond .ne 6, 3) := by decide +kernel
theorem dX6_fewest_10 : decode cX6_fewest 10 = .ok (.ldc 138, 2) := by decide +kernel
theorem dX6_fewest_12 : decode cX6_fewest 12 = .ok (.ireturn, 1) := by decide +kernel
theorem dX6_fewest_13 : decode cX6_fewest 13 = .ok (.aload_n 0, 1) := by decide +kernel
theorem dX6_fewest_14 : decode cX6_fewest 14 = .ok (.getfield 22, 3) := by decide +kernel
theorem dX6_fewest_17 : decode cX6_fewest 17 = .ok (.iload_n 1, 1) := by decide +kernel
theorem dX6_fewest_18 : decode cX6_fewest 18 = .ok (.invokevirtual 202, 3) := by decide +kernel
theorem dX6_fewest_21 : decode cX6_fewest 21 = .ok (.ifCond .eq 22, 3) := by decide +kernel
theorem dX6_fewest_24 : decode cX6_fewest 24 = .ok (.iload_n 2, 1) := by decide +kernel
theorem dX6_fewest_25 : decode cX6_fewest 25 = .ok (.iconst 0, 1) := by decide +kernel
theorem dX6_fewest_26 : decode cX6_fewest 26 = .ok (.bipush 60, 2) := by decide +kernel
theorem dX6_fewest_28 : decode cX6_fewest 28 = .ok (.invokestatic 58, 3) := by decide +kernel
theorem dX6_fewest_31 : decode cX6_fewest 31 = .ok (.ifCond .eq 12, 3) := by decide +kernel
theorem dX6_fewest_34 : decode cX6_fewest 34 = .ok (.iload_n 3, 1) := by decide +kernel
theorem dX6_fewest_35 : decode cX6_fewest 35 = .ok (.iconst (-1), 1) := by decide +kernel
theorem dX6_fewest_36 : decode cX6_fewest 36 = .ok (.iconst 3, 1) := by decide +kernel
theorem dX6_fewest_37 : decode cX6_fewest 37 = .ok (.invokestatic 58, 3) := by decide +kernel
theorem dX6_fewest_40 : decode cX6_fewest 40 = .ok (.ifCond .ne 6, 3) := by decide +kernel
theorem dX6_fewest_43 : decode cX6_fewest 43 = .ok (.ldc 62, 2) := by decide +kernel
theorem dX6_fewest_45 : decode cX6_fewest 45 = .ok (.ireturn, 1) := by decide +kernel
theorem dX6_fewest_46 : decode cX6_fewest 46 = .ok (.aload_n 0, 1) := by decide +kernel
theorem dX6_fewest_47 : decode cX6_fewest 47 = .ok (.getfield 46, 3) := by decide +kernel
theorem dX6_fewest_50 : decode cX6_fewest 50 = .ok (.aload_n 0, 1) := by decide +kernel
theorem dX6_fewest_51 : decode cX6_fewest 51 = .ok (.getfield 22, 3) := by decide +kernel
theorem dX6_fewest_54 : decode cX6_fewest 54 = .ok (.iload_n 1, 1) := by decide +kernel
theorem dX6_fewest_55 : decode cX6_fewest 55 = .ok (.iload_n 2, 1) := by decide +kernel
theorem dX6_fewest_56 : decode cX6_fewest 56 = .ok (.invokevirtual 217, 3) := by decide +kernel
theorem dX6_fewest_59 : decode cX6_fewest 59 = .ok (.aload_n 0, 1) := by decide +kernel
theorem dX6_fewest_60 : decode cX6_fewest 60 = .ok (.getfield 46, 3) := by decide +kernel
theorem dX6_fewest_63 : decode cX6_fewest 63 = .ok (.getfield 221, 3) := by decide +kernel
theorem dX6_fewest_66 : decode cX6_fewest 66 = .ok (.ldc 224, 2) := by decide +kernel
theorem dX6_fewest_68 : decode cX6_fewest 68 = .ok (.if_icmp .ne 6, 3) := by decide +kernel
theorem dX6_fewest_71 : decode cX6_fewest 71 = .ok (.ldc 224, 2) := by decide +kernel
theorem dX6_fewest_73 : decode cX6_fewest 73 = .ok (.ireturn, 1) := by decide +kernel
theorem dX6_fewest_74 : decode cX6_fewest 74 = .ok (.iload_n 3, 1) := by decide +kernel
theorem dX6_fewest_75 : decode cX6_fewest 75 = .ok (.iconst (-1), 1) := by decide +kernel
theorem dX6_fewest_76 : decode cX6_fewest 76 = .ok (.if_icmp .ne 13, 3) := by decide +kernel
theorem dX6_fewest_79 : decode cX6_fewest 79 = .ok (.aload_n 0, 1) := by decide +kernel
theorem dX6_fewest_80 : decode cX6_fewest 80 = .ok (.getfield 46, 3) := by decide +kernel
theorem dX6_fewest_83 : decode cX6_fewest 83 = .ok (.getfield 221, 3) := by decide +kernel
theorem dX6_fewest_86 : decode cX6_fewest 86 = .ok (.goto 8, 3) := by decide +kernel
theorem dX6_fewest_89 : decode cX6_fewest 89 = .ok (.aload_n 0, 1) := by decide +kernel
theorem dX6_fewest_90 : decode cX6_fewest 90 = .ok (.iload_n 3, 1) := by decide +kernel
theorem dX6_fewest_91 : decode cX6_fewest 91 = .ok (.invokevirtual 214, 3) := by decide +kernel
theorem dX6_fewest_94 : decode cX6_fewest 94 = .ok (.ireturn, 1) := by decide +kernel
theorem dX6_fits_0 : decode cX6_fits 0 = .ok (.aload_n 0, 1) := by decide +kernel
theorem dX6_fits_1 : decode cX6_fits 1 = .ok (.getfield 22, 3) := by decide +kernel
theorem dX6_fits_4 : decode cX6_fits 4 = .ok (.iload_n 1, 1) := by decide +kernel
theorem dX6_fits_5 : decode cX6_fits 5 = .ok (.invokevirtual 152, 3) := by decide +kernel
theorem dX6_fits_8 : decode cX6_fits 8 = .ok (.ifCond .eq 34, 3) := by decide +kernel
theorem dX6_fits_11 : decode cX6_fits 11 = .ok (.iload_n 2, 1) := by decide +kernel
theorem dX6_fits_12 : decode cX6_fits 12 = .ok (.iconst 0, 1) := by decide +kernel
theorem dX6_fits_13 : decode cX6_fits 13 = .ok (.bipush 7, 2) := by decide +kernel
theorem dX6_fits_15 : decode cX6_fits 15 = .ok (.invokestatic 58, 3) := by decide +kernel
theorem dX6_fits_18 : decode cX6_fits 18 = .ok (.ifCond .eq 24, 3) := by decide +kernel
theorem dX6_fits_21 : decode cX6_fits 21 = .ok (.iload 4, 2) := by decide +kernel
theorem dX6_fits_23 : decode cX6_fits 23 = .ok (.iconst 1, 1) := by decide +kernel
theorem dX6_fits_24 : decode cX6_fits 24 = .ok (.bipush 16, 2) := by decide +kernel
theorem dX6_fits_26 : decode cX6_fits 26 = .ok (.invokestatic 58, 3) := by decide +kernel
theorem dX6_fits_29 : decode cX6_fits 29 = .ok (.ifCond .eq 13, 3) := by decide +kernel
theorem dX6_fits_32 : decode cX6_fits 32 = .ok (.iload 5, 2) := by decide +kernel
theorem dX6_fits_34 : decode cX6_fits 34 = .ok (.iconst 0, 1) := by decide +kernel
theorem dX6_fits_35 : decode cX6_fits 35 = .ok (.iconst 2, 1) := by decide +kernel
theorem dX6_fits_36 : decode cX6_fits 36 = .ok (.invokestatic 58, 3) := by decide +kernel
theorem dX6_fits_39 : decode cX6_fits 39 = .ok (.ifCond .ne 6, 3) := by decide +kernel
theorem dX6_fits_42 : decode cX6_fits 42 = .ok (.ldc 62, 2) := by decide +kernel
theorem dX6_fits_44 : decode cX6_fits 44 = .ok (.ireturn, 1) := by decide +kernel
theorem dX6_fits_45 : decode cX6_fits 45 = .ok (.aload_n 0, 1) := by decide +kernel
theorem dX6_fits_46 : decode cX6_fits 46 = .ok (.getfield 11, 3) := by decide +kernel
theorem dX6_fits_49 : decode cX6_fits 49 = .ok (.iload_n 2, 1) := by decide +kernel
theorem dX6_fits_50 : decode cX6_fits 50 = .ok (.aaload, 1) := by decide +kernel
theorem dX6_fits_51 : decode cX6_fits 51 = .ok (.astore 6, 2) := by decide +kernel
theorem dX6_fits_53 : decode cX6_fits 53 = .ok (.aload 6, 2) := by decide +kernel
theorem dX6_fits_55 : decode cX6_fits 55 = .ok (.invokevirtual 74, 3) := by decide +kernel
theorem dX6_fits_58 : decode cX6_fits 58 = .ok (.ifCond .eq 9, 3) := by decide +kernel
theorem dX6_fits_61 : decode cX6_fits 61 = .ok (.aload_n 0, 1) := by decide +kernel
theorem dX6_fits_62 : decode cX6_fits 62 = .ok (.iconst 1, 1) := by decide +kernel
theorem dX6_fits_63 : decode cX6_fits 63 = .ok (.invokevirtual 63, 3) := by decide +kernel
theorem dX6_fits_66 : decode cX6_fits 66 = .ok (.ireturn, 1) := by decide +kernel
theorem dX6_fits_67 : decode cX6_fits 67 = .ok (.aload 6, 2) := by decide +kernel
theorem dX6_fits_69 : decode cX6_fits 69 = .ok (.iload_n 3, 1) := by decide +kernel
theorem dX6_fits_70 : decode cX6_fits 70 = .ok (.iload 4, 2) := by decide +kernel
theorem dX6_fits_72 : decode cX6_fits 72 = .ok (.invokevirtual 78, 3) := by decide +kernel
theorem dX6_fits_75 : decode cX6_fits 75 = .ok (.ifCond .ne 9, 3) := by decide +kernel
theorem dX6_fits_78 : decode cX6_fits 78 = .ok (.aload_n 0, 1) := by decide +kernel
theorem dX6_fits_79 : decode cX6_fits 79 = .ok (.iconst 2, 1) := by decide +kernel
theorem dX6_fits_80 : decode cX6_fits 80 = .ok (.invokevirtual 63, 3) := by decide +kernel
theorem dX6_fits_83 : decode cX6_fits 83 = .ok (.ireturn, 1) := by decide +kernel
theorem dX6_fits_84 : decode cX6_fits 84 = .ok (.iconst 0, 1) := by decide +kernel
theorem dX6_fits_85 : decode cX6_fits 85 = .ok (.istore 7, 2) := by decide +kernel
theorem dX6_fits_87 : decode cX6_fits 87 = .ok (.iconst 0, 1) := by decide +kernel
theorem dX6_fits_88 : decode cX6_fits 88 = .ok (.istore 8, 2) := by decide +kernel
theorem dX6_fits_90 : decode cX6_fits 90 = .ok (.iload 8, 2) := by decide +kernel
theorem dX6_fits_92 : decode cX6_fits 92 = .ok (.iconst 5, 1) := by decide +kernel
theorem dX6_fits_93 : decode cX6_fits 93 = .ok (.if_icmp .gt 46, 3) := by decide +kernel
theorem dX6_fits_96 : decode cX6_fits 96 = .ok (.aload_n 0, 1) := by decide +kernel
theorem dX6_fits_97 : decode cX6_fits 97 = .ok (.iload 8, 2) := by decide +kernel
theorem dX6_fits_99 : decode cX6_fits 99 = .ok (.iload 5, 2) := by decide +kernel
theorem dX6_fits_101 : decode cX6_fits 101 = .ok (.invokevirtual 225, 3) := by decide +kernel
theorem dX6_fits_104 : decode cX6_fits 104 = .ok (.ifCond .eq 29, 3) := by decide +kernel
theorem dX6_fits_107 : decode cX6_fits 107 = .ok (.aload_n 0, 1) := by decide +kernel
theorem dX6_fits_108 : decode cX6_fits 108 = .ok (.iload_n 1, 1) := by decide +kernel
theorem dX6_fits_109 : decode cX6_fits 109 = .ok (.iload 5, 2) := by decide +kernel
theorem dX6_fits_111 : decode cX6_fits 111 = .ok (.iload 8, 2) := by decide +kernel
theorem dX6_fits_113 : decode cX6_fits 113 = .ok (.aload 6, 2) := by decide +kernel
theorem dX6_fits_115 : decode cX6_fits 115 = .ok (.iload_n 3, 1) := by decide +kernel
theorem dX6_fits_116 : decode cX6_fits 116 = .ok (.iload 4, 2) := by decide +kernel
theorem dX6_fits_118 : decode cX6_fits 118 = .ok (.invokevirtual 228, 3) := by decide +kernel
theorem dX6_fits_121 : decode cX6_fits 121 = .ok (.ifCond .eq 12, 3) := by decide +kernel
theorem dX6_fits_124 : decode cX6_fits 124 = .ok (.iload 7, 2) := by decide +kernel
theorem dX6_fits_126 : decode cX6_fits 126 = .ok (.iconst 1, 1) := by decide +kernel
theorem dX6_fits_127 : decode cX6_fits 127 = .ok (.iload 8, 2) := by decide +kernel
theorem dX6_fits_129 : decode cX6_fits 129 = .ok (.ishl, 1) := by decide +kernel
theorem dX6_fits_130 : decode cX6_fits 130 = .ok (.ior, 1) := by decide +kernel
theorem dX6_fits_131 : decode cX6_fits 131 = .ok (.istore 7, 2) := by decide +kernel
theorem dX6_fits_133 : decode cX6_fits 133 = .ok (.iinc 8 1, 3) := by decide +kernel
theorem dX6_fits_136 : decode cX6_fits 136 = .ok (.goto (-46), 3) := by decide +kernel
theorem dX6_fits_139 : decode cX6_fits 139 = .ok (.aload_n 0, 1) := by decide +kernel
theorem dX6_fits_140 : decode cX6_fits 140 = .ok (.iload 7, 2) := by decide +kernel
theorem dX6_fits_142 : decode cX6_fits 142 = .ok (.invokevirtual 71, 3) := by decide +kernel
theorem dX6_fits_145 : decode cX6_fits 145 = .ok (.ireturn, 1) := by decide +kernel
theorem dX6_nods_0 : decode cX6_nods 0 = .ok (.aload_n 0, 1) := by decide +kernel
theorem dX6_nods_1 : decode cX6_nods 1 = .ok (.getfield 22, 3) := by decide +kernel
theorem dX6_nods_4 : decode cX6_nods 4 = .ok (.invokevirtual 135, 3) := by decide +kernel
theorem dX6_nods_7 : decode cX6_nods 7 = .ok (.ifCond .ne 6, 3) := by decide +kernel
theorem dX6_nods_10 : decode cX6_nods 10 = .ok (.ldc 138, 2) := by decide +kernel
theorem dX6_nods_12 : decode cX6_nods 12 = .ok (.ireturn, 1) := by decide +kernel
theorem dX6_nods_13 : decode cX6_nods 13 = .ok (.iload_n 1, 1) := by decide +kernel
theorem dX6_nods_14 : decode cX6_nods 14 = .ok (.iconst 0, 1) := by decide +kernel
theorem dX6_nods_15 : decode cX6_nods 15 = .ok (.iconst 5, 1) := by decide +kernel
theorem dX6_nods_16 : decode cX6_nods 16 = .ok (.invokestatic 58, 3) := by decide +kernel
theorem dX6_nods_19 : decode cX6_nods 19 = .ok (.ifCond .eq 22, 3) := by decide +kernel
theorem dX6_nods_22 : decode cX6_nods 22 = .ok (.iload_n 2, 1) := by decide +kernel
theorem dX6_nods_23 : decode cX6_nods 23 = .ok (.iconst 0, 1) := by decide +kernel
theorem dX6_nods_24 : decode cX6_nods 24 = .ok (.bipush 10, 2) := by decide +kernel
theorem dX6_nods_26 : decode cX6_nods 26 = .ok (.invokestatic 58, 3) := by decide +kernel
theorem dX6_nods_29 : decode cX6_nods 29 = .ok (.ifCond .eq 12, 3) := by decide +kernel
theorem dX6_nods_32 : decode cX6_nods 32 = .ok (.iload_n 3, 1) := by decide +kernel
theorem dX6_nods_33 : decode cX6_nods 33 = .ok (.iconst 0, 1) := by decide +kernel
theorem dX6_nods_34 : decode cX6_nods 34 = .ok (.iconst 1, 1) := by decide +kernel
theorem dX6_nods_35 : decode cX6_nods 35 = .ok (.invokestatic 58, 3) := by decide +kernel
theorem dX6_nods_38 : decode cX6_nods 38 = .ok (.ifCond .ne 6, 3) := by decide +kernel
theorem dX6_nods_41 : decode cX6_nods 41 = .ok (.ldc 62, 2) := by decide +kernel
theorem dX6_nods_43 : decode cX6_nods 43 = .ok (.ireturn, 1) := by decide +kernel
theorem dX6_nods_44 : decode cX6_nods 44 = .ok (.iconst 0, 1) := by decide +kernel
theorem dX6_nods_45 : decode cX6_nods 45 = .ok (.istore 4, 2) := by decide +kernel
theorem dX6_nods_47 : decode cX6_nods 47 = .ok (.iconst 1, 1) := by decide +kernel
theorem dX6_nods_48 : decode cX6_nods 48 = .ok (.istore 5, 2) := by decide +kernel
theorem dX6_nods_50 : decode cX6_nods 50 = .ok (.iconst 0, 1) := by decide +kernel
theorem dX6_nods_51 : decode cX6_nods 51 = .ok (.istore 6, 2) := by decide +kernel
theorem dX6_nods_53 : decode cX6_nods 53 = .ok (.iload 6, 2) := by decide +kernel
theorem dX6_nods_55 : decode cX6_nods 55 = .ok (.aload_n 0, 1) := by decide +kernel
theorem dX6_nods_56 : decode cX6_nods 56 = .ok (.getfield 22, 3) := by decide +kernel
theorem dX6_nods_59 : decode cX6_nods 59 = .ok (.getfield 232, 3) := by decide +kernel
theorem dX6_nods_62 : decode cX6_nods 62 = .ok (.if_icmp .ge 16, 3) := by decide +kernel
theorem dX6_nods_65 : decode cX6_nods 65 = .ok (.iload 5, 2) := by decide +kernel
theorem dX6_nods_67 : decode cX6_nods 67 = .ok (.bipush 10, 2) := by decide +kernel
theorem dX6_nods_69 : decode cX6_nods 69 = .ok (.imul, 1) := by decide +kernel
theorem dX6_nods_70 : decode cX6_nods 70 = .ok (.istore 5, 2) := by decide +kernel
theorem dX6_nods_72 : decode cX6_nods 72 = .ok (.iinc 6 1, 3) := by decide +kernel
theorem dX6_nods_75 : decode cX6_nods 75 = .ok (.goto (-22), 3) := by decide +kernel
theorem dX6_nods_78 : decode cX6_nods 78 = .ok (.iconst 0, 1) := by decide +kernel
theorem dX6_nods_79 : decode cX6_nods 79 = .ok (.istore 6, 2) := by decide +kernel
theorem dX6_nods_81 : decode cX6_nods 81 = .ok (.iload 6, 2) := by decide +kernel
theorem dX6_nods_83 : decode cX6_nods 83 = .ok (.iconst 1, 1) := by decide +kernel
theorem dX6_nods_84 : decode cX6_nods 84 = .ok (.aload_n 0, 1) := by decide +kernel
theorem dX6_nods_85 : decode cX6_nods 85 = .ok (.getfield 22, 3) := by decide +kernel
theorem dX6_nods_88 : decode cX6_nods 88 = .ok (.getfield 232, 3) := by decide +kernel
theorem dX6_nods_91 : decode cX6_nods 91 = .ok (.ishl, 1) := by decide +kernel
theorem dX6_nods_92 : decode cX6_nods 92 = .ok (.if_icmp .ge 55, 3) := by decide +kernel
theorem dX6_nods_95 : decode cX6_nods 95 = .ok (.aload_n 0, 1) := by decide +kernel
theorem dX6_nods_96 : decode cX6_nods 96 = .ok (.getfield 26, 3) := by decide +kernel
theorem dX6_nods_99 : decode cX6_nods 99 = .ok (.aload_n 0, 1) := by decide +kernel
theorem dX6_nods_100 : decode cX6_nods 100 = .ok (.getfield 22, 3) := by decide +kernel
theorem dX6_nods_103 : decode cX6_nods 103 = .ok (.invokevirtual 126, 3) := by decide +kernel
theorem dX6_nods_106 : decode cX6_nods 106 = .ok (.aload_n 0, 1) := by decide +kernel
theorem dX6_nods_107 : decode cX6_nods 107 = .ok (.getfield 26, 3) := by decide +kernel
theorem dX6_nods_110 : decode cX6_nods 110 = .ok (.iload 6, 2) := by decide +kernel
theorem dX6_nods_112 : decode cX6_nods 112 = .ok (.invokevirtual 145, 3) := by decide +kernel
theorem dX6_nods_115 : decode cX6_nods 115 = .ok (.aload_n 0, 1) := by decide +kernel
theorem dX6_nods_116 : decode cX6_nods 116 = .ok (.getfield 26, 3) := by decide +kernel
theorem dX6_nods_119 : decode cX6_nods 119 = .ok (.invokevirtual 149, 3) := by decide +kernel
theorem dX6_nods_122 : decode cX6_nods 122 = .ok (.invokestatic 235, 3) := by decide +kernel
theorem dX6_nods_125 : decode cX6_nods 125 = .ok (.iload_n 1, 1) := by decide +kernel
theorem dX6_nods_126 : decode cX6_nods 126 = .ok (.if_icmp .lt 15, 3) := by decide +kernel
theorem dX6_nods_129 : decode cX6_nods 129 = .ok (.iload 4, 2) := by decide +kernel
theorem dX6_nods_131 : decode cX6_nods 131 = .ok (.aload_n 0, 1) := by decide +kernel
theorem dX6_nods_132 : decode cX6_nods 132 = .ok (.iload 6, 2) := by decide +kernel
theorem dX6_nods_134 : decode cX6_nods 134 = .ok (.iload_n 2, 1) := by decide +kernel
theorem dX6_nods_135 : decode cX6_nods 135 = .ok (.invokevirtual 240, 3) := by decide +kernel
theorem dX6_nods_138 : decode cX6_nods 138 = .ok (.iadd, 1) := by decide +kernel
theorem dX6_nods_139 : decode cX6_nods 139 = .ok (.istore 4, 2) := by decide +kernel
theorem dX6_nods_141 : decode cX6_nods 141 = .ok (.iinc 6 1, 3) := by decide +kernel
theorem dX6_nods_144 : decode cX6_nods 144 = .ok (.goto (-63), 3) := by decide +kernel
theorem dX6_nods_147 : decode cX6_nods 147 = .ok (.iload 4, 2) := by decide +kernel
theorem dX6_nods_149 : decode cX6_nods 149 = .ok (.iload 5, 2) := by decide +kernel
theorem dX6_nods_151 : decode cX6_nods 151 = .ok (.invokestatic 243, 3) := by decide +kernel
theorem dX6_nods_154 : decode cX6_nods 154 = .ok (.istore 6, 2) := by decide +kernel
theorem dX6_nods_156 : decode cX6_nods 156 = .ok (.iload_n 3, 1) := by decide +kernel
theorem dX6_nods_157 : decode cX6_nods 157 = .ok (.ifCond .ne 8, 3) := by decide +kernel
theorem dX6_nods_160 : decode cX6_nods 160 = .ok (.iload 4, 2) := by decide +kernel
theorem dX6_nods_162 : decode cX6_nods 162 = .ok (.goto 5, 3) := by decide +kernel
theorem dX6_nods_165 : decode cX6_nods 165 = .ok (.iload 5, 2) := by decide +kernel
theorem dX6_nods_167 : decode cX6_nods 167 = .ok (.iconst 1, 1) := by decide +kernel
theorem dX6_nods_168 : decode cX6_nods 168 = .ok (.iload 6, 2) := by decide +kernel
theorem dX6_nods_170 : decode cX6_nods 170 = .ok (.invokestatic 246, 3) := by decide +kernel
theorem dX6_nods_173 : decode cX6_nods 173 = .ok (.idiv, 1) := by decide +kernel
theorem dX6_nods_174 : decode cX6_nods 174 = .ok (.ireturn, 1) := by decide +kernel
theorem dX6_drawn_0 : decode cX6_drawn 0 = .ok (.aload_n 0, 1) := by decide +kernel
theorem dX6_drawn_1 : decode cX6_drawn 1 = .ok (.getfield 22, 3) := by decide +kernel
theorem dX6_drawn_4 : decode cX6_drawn 4 = .ok (.invokevirtual 135, 3) := by decide +kernel
theorem dX6_drawn_7 : decode cX6_drawn 7 = .ok (.ifCond .ne 6, 3) := by decide +kernel
theorem dX6_drawn_10 : decode cX6_drawn 10 = .ok (.ldc 138, 2) := by decide +kernel
theorem dX6_drawn_12 : decode cX6_drawn 12 = .ok (.ireturn, 1) := by decide +kernel
theorem dX6_drawn_13 : decode cX6_drawn 13 = .ok (.iload_n 1, 1) := by decide +kernel
theorem dX6_drawn_14 : decode cX6_drawn 14 = .ok (.iconst 0, 1) := by decide +kernel
theorem dX6_drawn_15 : decode cX6_drawn 15 = .ok (.bipush 60, 2) := by decide +kernel
theorem dX6_drawn_17 : decode cX6_drawn 17 = .ok (.invokestatic 58, 3) := by decide +kernel
theorem dX6_drawn_20 : decode cX6_drawn 20 = .ok (.ifCond .eq 22, 3) := by decide +kernel
theorem dX6_drawn_23 : decode cX6_drawn 23 = .ok (.iload_n 2, 1) := by decide +kernel
theorem dX6_drawn_24 : decode cX6_drawn 24 = .ok (.iconst 1, 1) := by decide +kernel
theorem dX6_drawn_25 : decode cX6_drawn 25 = .ok (.ldc 251, 2) := by decide +kernel
theorem dX6_drawn_27 : decode cX6_drawn 27 = .ok (.invokestatic 58, 3) := by decide +kernel
theorem dX6_drawn_30 : decode cX6_drawn 30 = .ok (.ifCond .eq 12, 3) := by decide +kernel
theorem dX6_drawn_33 : decode cX6_drawn 33 = .ok (.iload_n 3, 1) := by decide +kernel
theorem dX6_drawn_34 : decode cX6_drawn 34 = .ok (.iconst 0, 1) := by decide +kernel
theorem dX6_drawn_35 : decode cX6_drawn 35 = .ok (.iconst 1, 1) := by decide +kernel
theorem dX6_drawn_36 : decode cX6_drawn 36 = .ok (.invokestatic 58, 3) := by decide +kernel
theorem dX6_drawn_39 : decode cX6_drawn 39 = .ok (.ifCond .ne 6, 3) := by decide +kernel
theorem dX6_drawn_42 : decode cX6_drawn 42 = .ok (.ldc 62, 2) := by decide +kernel
theorem dX6_drawn_44 : decode cX6_drawn 44 = .ok (.ireturn, 1) := by decide +kernel
theorem dX6_drawn_45 : decode cX6_drawn 45 = .ok (.aload_n 0, 1) := by decide +kernel
theorem dX6_drawn_46 : decode cX6_drawn 46 = .ok (.getfield 26, 3) := by decide +kernel
theorem dX6_drawn_49 : decode cX6_drawn 49 = .ok (.aload_n 0, 1) := by decide +kernel
theorem dX6_drawn_50 : decode cX6_drawn 50 = .ok (.getfield 22, 3) := by decide +kernel
theorem dX6_drawn_53 : decode cX6_drawn 53 = .ok (.invokevirtual 126, 3) := by decide +kernel
theorem dX6_drawn_56 : decode cX6_drawn 56 = .ok (.iload_n 2, 1) := by decide +kernel
theorem dX6_drawn_57 : decode cX6_drawn 57 = .ok (.i2l, 1) := by decide +kernel
theorem dX6_drawn_58 : decode cX6_drawn 58 = .ok (.lstore 4, 2) := by decide +kernel
theorem dX6_drawn_60 : decode cX6_drawn 60 = .ok (.iconst 0, 1) := by decide +kernel
theorem dX6_drawn_61 : decode cX6_drawn 61 = .ok (.istore 6, 2) := by decide +kernel
theorem dX6_drawn_63 : decode cX6_drawn 63 = .ok (.iconst 0, 1) := by decide +kernel
theorem dX6_drawn_64 : decode cX6_drawn 64 = .ok (.istore 7, 2) := by decide +kernel
theorem dX6_drawn_66 : decode cX6_drawn 66 = .ok (.iload 7, 2) := by decide +kernel
theorem dX6_drawn_68 : decode cX6_drawn 68 = .ok (.iload_n 1, 1) := by decide +kernel
theorem dX6_drawn_69 : decode cX6_drawn 69 = .ok (.if_icmp .ge 75, 3) := by decide +kernel
theorem dX6_drawn_72 : decode cX6_drawn 72 = .ok (.lload 4, 2) := by decide +kernel
theorem dX6_drawn_74 : decode cX6_drawn 74 = .ok (.ldc2_w 252, 3) := by decide +kernel
theorem dX6_drawn_77 : decode cX6_drawn 77 = .ok (.lmul, 1) := by decide +kernel
theorem dX6_drawn_78 : decode cX6_drawn 78 = .ok (.ldc2_w 254, 3) := by decide +kernel
theorem dX6_drawn_81 : decode cX6_drawn 81 = .ok (.lrem, 1) := by decide +kernel
theorem dX6_drawn_82 : decode cX6_drawn 82 = .ok (.lstore 4, 2) := by decide +kernel
theorem dX6_drawn_84 : decode cX6_drawn 84 = .ok (.aload_n 0, 1) := by decide +kernel
theorem dX6_drawn_85 : decode cX6_drawn 85 = .ok (.getfield 26, 3) := by decide +kernel
theorem dX6_drawn_88 : decode cX6_drawn 88 = .ok (.lload 4, 2) := by decide +kernel
theorem dX6_drawn_90 : decode cX6_drawn 90 = .ok (.iconst 1, 1) := by decide +kernel
theorem dX6_drawn_91 : decode cX6_drawn 91 = .ok (.aload_n 0, 1) := by decide +kernel
theorem dX6_drawn_92 : decode cX6_drawn 92 = .ok (.getfield 26, 3) := by decide +kernel
theorem dX6_drawn_95 : decode cX6_drawn 95 = .ok (.getfield 132, 3) := by decide +kernel
theorem dX6_drawn_98 : decode cX6_drawn 98 = .ok (.invokestatic 246, 3) := by decide +kernel
theorem dX6_drawn_101 : decode cX6_drawn 101 = .ok (.i2l, 1) := by decide +kernel
theorem dX6_drawn_102 : decode cX6_drawn 102 = .ok (.lrem, 1) := by decide +kernel
theorem dX6_drawn_103 : decode cX6_drawn 103 = .ok (.l2i, 1) := by decide +kernel
theorem dX6_drawn_104 : decode cX6_drawn 104 = .ok (.lload 4, 2) := by decide +kernel
theorem dX6_drawn_106 : decode cX6_drawn 106 = .ok (.ldc2_w 256, 3) := by decide +kernel
theorem dX6_drawn_109 : decode cX6_drawn 109 = .ok (.lrem, 1) := by decide +kernel
theorem dX6_drawn_110 : decode cX6_drawn 110 = .ok (.l2i, 1) := by decide +kernel
theorem dX6_drawn_111 : decode cX6_drawn 111 = .ok (.invokevirtual 161, 3) := by decide +kernel
theorem dX6_drawn_114 : decode cX6_drawn 114 = .ok (.aload_n 0, 1) := by decide +kernel
theorem dX6_drawn_115 : decode cX6_drawn 115 = .ok (.getfield 26, 3) := by decide +kernel
theorem dX6_drawn_118 : decode cX6_drawn 118 = .ok (.bipush 15, 2) := by decide +kernel
theorem dX6_drawn_120 : decode cX6_drawn 120 = .ok (.invokevirtual 145, 3) := by decide +kernel
theorem dX6_drawn_123 : decode cX6_drawn 123 = .ok (.iload 6, 2) := by decide +kernel
theorem dX6_drawn_125 : decode cX6_drawn 125 = .ok (.aload_n 0, 1) := by decide +kernel
theorem dX6_drawn_126 : decode cX6_drawn 126 = .ok (.getfield 26, 3) := by decide +kernel
theorem dX6_drawn_129 : decode cX6_drawn 129 = .ok (.invokevirtual 149, 3) := by decide +kernel
theorem dX6_drawn_132 : decode cX6_drawn 132 = .ok (.invokestatic 235, 3) := by decide +kernel
theorem dX6_drawn_135 : decode cX6_drawn 135 = .ok (.iadd, 1) := by decide +kernel
theorem dX6_drawn_136 : decode cX6_drawn 136 = .ok (.istore 6, 2) := by decide +kernel
theorem dX6_drawn_138 : decode cX6_drawn 138 = .ok (.iinc 7 1, 3) := by decide +kernel
theorem dX6_drawn_141 : decode cX6_drawn 141 = .ok (.goto (-75), 3) := by decide +kernel
theorem dX6_drawn_144 : decode cX6_drawn 144 = .ok (.iload_n 3, 1) := by decide +kernel
theorem dX6_drawn_145 : decode cX6_drawn 145 = .ok (.ifCond .ne 8, 3) := by decide +kernel
theorem dX6_drawn_148 : decode cX6_drawn 148 = .ok (.iload 6, 2) := by decide +kernel
theorem dX6_drawn_150 : decode cX6_drawn 150 = .ok (.goto 10, 3) := by decide +kernel
theorem dX6_drawn_153 : decode cX6_drawn 153 = .ok (.aload_n 0, 1) := by decide +kernel
theorem dX6_drawn_154 : decode cX6_drawn 154 = .ok (.getfield 26, 3) := by decide +kernel
theorem dX6_drawn_157 : decode cX6_drawn 157 = .ok (.invokevirtual 258, 3) := by decide +kernel
theorem dX6_drawn_160 : decode cX6_drawn 160 = .ok (.ireturn, 1) := by decide +kernel
theorem dX6_image_0 : decode cX6_image 0 = .ok (.iload_n 1, 1) := by decide +kernel
theorem dX6_image_1 : decode cX6_image 1 = .ok (.iconst 0, 1) := by decide +kernel
theorem dX6_image_2 : decode cX6_image 2 = .ok (.iconst 1, 1) := by decide +kernel
theorem dX6_image_3 : decode cX6_image 3 = .ok (.invokestatic 58, 3) := by decide +kernel
theorem dX6_image_6 : decode cX6_image 6 = .ok (.ifCond .ne 6, 3) := by decide +kernel
theorem dX6_image_9 : decode cX6_image 9 = .ok (.ldc 62, 2) := by decide +kernel
theorem dX6_image_11 : decode cX6_image 11 = .ok (.ireturn, 1) := by decide +kernel
theorem dX6_image_12 : decode cX6_image 12 = .ok (.aload_n 0, 1) := by decide +kernel
theorem dX6_image_13 : decode cX6_image 13 = .ok (.getfield 22, 3) := by decide +kernel
theorem dX6_image_16 : decode cX6_image 16 = .ok (.invokevirtual 135, 3) := by decide +kernel
theorem dX6_image_19 : decode cX6_image 19 = .ok (.ifCond .ne 6, 3) := by decide +kernel
theorem dX6_image_22 : decode cX6_image 22 = .ok (.ldc 138, 2) := by decide +kernel
theorem dX6_image_24 : decode cX6_image 24 = .ok (.ireturn, 1) := by decide +kernel
theorem dX6_image_25 : decode cX6_image 25 = .ok (.aload_n 0, 1) := by decide +kernel
theorem dX6_image_26 : decode cX6_image 26 = .ok (.getfield 17, 3) := by decide +kernel
theorem dX6_image_29 : decode cX6_image 29 = .ok (.iload_n 1, 1) := by decide +kernel
theorem dX6_image_30 : decode cX6_image 30 = .ok (.aaload, 1) := by decide +kernel
theorem dX6_image_31 : decode cX6_image 31 = .ok (.aload_n 0, 1) := by decide +kernel
theorem dX6_image_32 : decode cX6_image 32 = .ok (.getfield 22, 3) := by decide +kernel
theorem dX6_image_35 : decode cX6_image 35 = .ok (.invokevirtual 126, 3) := by decide +kernel
theorem dX6_image_38 : decode cX6_image 38 = .ok (.iconst 1, 1) := by decide +kernel
theorem dX6_image_39 : decode cX6_image 39 = .ok (.ireturn, 1) := by decide +kernel
theorem dX6_restore_0 : decode cX6_restore 0 = .ok (.iload_n 1, 1) := by decide +kernel
theorem dX6_restore_1 : decode cX6_restore 1 = .ok (.iconst 0, 1) := by decide +kernel
theorem dX6_restore_2 : decode cX6_restore 2 = .ok (.iconst 1, 1) := by decide +kernel
theorem dX6_restore_3 : decode cX6_restore 3 = .ok (.invokestatic 58, 3) := by decide +kernel
theorem dX6_restore_6 : decode cX6_restore 6 = .ok (.ifCond .ne 6, 3) := by decide +kernel
theorem dX6_restore_9 : decode cX6_restore 9 = .ok (.ldc 62, 2) := by decide +kernel
theorem dX6_restore_11 : decode cX6_restore 11 = .ok (.ireturn, 1) := by decide +kernel
theorem dX6_restore_12 : decode cX6_restore 12 = .ok (.aload_n 0, 1) := by decide +kernel
theorem dX6_restore_13 : decode cX6_restore 13 = .ok (.getfield 17, 3) := by decide +kernel
theorem dX6_restore_16 : decode cX6_restore 16 = .ok (.iload_n 1, 1) := by decide +kernel
theorem dX6_restore_17 : decode cX6_restore 17 = .ok (.aaload, 1) := by decide +kernel
theorem dX6_restore_18 : decode cX6_restore 18 = .ok (.invokevirtual 135, 3) := by decide +kernel
theorem dX6_restore_21 : decode cX6_restore 21 = .ok (.ifCond .ne 6, 3) := by decide +kernel
theorem dX6_restore_24 : decode cX6_restore 24 = .ok (.ldc 138, 2) := by decide +kernel
theorem dX6_restore_26 : decode cX6_restore 26 = .ok (.ireturn, 1) := by decide +kernel
theorem dX6_restore_27 : decode cX6_restore 27 = .ok (.aload_n 0, 1) := by decide +kernel
theorem dX6_restore_28 : decode cX6_restore 28 = .ok (.getfield 22, 3) := by decide +kernel
theorem dX6_restore_31 : decode cX6_restore 31 = .ok (.aload_n 0, 1) := by decide +kernel
theorem dX6_restore_32 : decode cX6_restore 32 = .ok (.getfield 17, 3) := by decide +kernel
theorem dX6_restore_35 : decode cX6_restore 35 = .ok (.iload_n 1, 1) := by decide +kernel
theorem dX6_restore_36 : decode cX6_restore 36 = .ok (.aaload, 1) := by decide +kernel
theorem dX6_restore_37 : decode cX6_restore 37 = .ok (.invokevirtual 126, 3) := by decide +kernel
theorem dX6_restore_40 : decode cX6_restore 40 = .ok (.aload_n 0, 1) := by decide +kernel
theorem dX6_restore_41 : decode cX6_restore 41 = .ok (.getfield 39, 3) := by decide +kernel
theorem dX6_restore_44 : decode cX6_restore 44 = .ok (.invokevirtual 129, 3) := by decide +kernel
theorem dX6_restore_47 : decode cX6_restore 47 = .ok (.iconst 1, 1) := by decide +kernel
theorem dX6_restore_48 : decode cX6_restore 48 = .ok (.ireturn, 1) := by decide +kernel
theorem dX6_kind_0 : decode cX6_kind 0 = .ok (.aload_n 0, 1) := by decide +kernel
theorem dX6_kind_1 : decode cX6_kind 1 = .ok (.getfield 22, 3) := by decide +kernel
theorem dX6_kind_4 : decode cX6_kind 4 = .ok (.iload_n 1, 1) := by decide +kernel
theorem dX6_kind_5 : decode cX6_kind 5 = .ok (.invokevirtual 152, 3) := by decide +kernel
theorem dX6_kind_8 : decode cX6_kind 8 = .ok (.ifCond .eq 15, 3) := by decide +kernel
theorem dX6_kind_11 : decode cX6_kind 11 = .ok (.aload_n 0, 1) := by decide +kernel
theorem dX6_kind_12 : decode cX6_kind 12 = .ok (.getfield 22, 3) := by decide +kernel
theorem dX6_kind_15 : decode cX6_kind 15 = .ok (.getfield 261, 3) := by decide +kernel
theorem dX6_kind_18 : decode cX6_kind 18 = .ok (.iload_n 1, 1) := by decide +kernel
theorem dX6_kind_19 : decode cX6_kind 19 = .ok (.iaload, 1) := by decide +kernel
theorem dX6_kind_20 : decode cX6_kind 20 = .ok (.goto 5, 3) := by decide +kernel
theorem dX6_kind_23 : decode cX6_kind 23 = .ok (.ldc 62, 2) := by decide +kernel
theorem dX6_kind_25 : decode cX6_kind 25 = .ok (.ireturn, 1) := by decide +kernel
theorem dX6_as_0 : decode cX6_as 0 = .ok (.aload_n 0, 1) := by decide +kernel
theorem dX6_as_1 : decode cX6_as 1 = .ok (.getfield 22, 3) := by decide +kernel
theorem dX6_as_4 : decode cX6_as 4 = .ok (.iload_n 1, 1) := by decide +kernel
theorem dX6_as_5 : decode cX6_as 5 = .ok (.invokevirtual 152, 3) := by decide +kernel
theorem dX6_as_8 : decode cX6_as 8 = .ok (.ifCond .eq 12, 3) := by decide +kernel
theorem dX6_as_11 : decode cX6_as 11 = .ok (.iload_n 2, 1) := by decide +kernel
theorem dX6_as_12 : decode cX6_as 12 = .ok (.iconst 0, 1) := by decide +kernel
theorem dX6_as_13 : decode cX6_as 13 = .ok (.iconst 5, 1) := by decide +kernel
theorem dX6_as_14 : decode cX6_as 14 = .ok (.invokestatic 58, 3) := by decide +kernel
theorem dX6_as_17 : decode cX6_as 17 = .ok (.ifCond .ne 6, 3) := by decide +kernel
theorem dX6_as_20 : decode cX6_as 20 = .ok (.ldc 62, 2) := by decide +kernel
theorem dX6_as_22 : decode cX6_as 22 = .ok (.ireturn, 1) := by decide +kernel
theorem dX6_as_23 : decode cX6_as 23 = .ok (.aload_n 0, 1) := by decide +kernel
theorem dX6_as_24 : decode cX6_as 24 = .ok (.getfield 22, 3) := by decide +kernel
theorem dX6_as_27 : decode cX6_as 27 = .ok (.getfield 261, 3) := by decide +kernel
theorem dX6_as_30 : decode cX6_as 30 = .ok (.iload_n 1, 1) := by decide +kernel
theorem dX6_as_31 : decode cX6_as 31 = .ok (.iaload, 1) := by decide +kernel
theorem dX6_as_32 : decode cX6_as 32 = .ok (.iload_n 2, 1) := by decide +kernel
theorem dX6_as_33 : decode cX6_as 33 = .ok (.invokestatic 264, 3) := by decide +kernel
theorem dX6_as_36 : decode cX6_as 36 = .ok (.ifCond .ne 9, 3) := by decide +kernel
theorem dX6_as_39 : decode cX6_as 39 = .ok (.aload_n 0, 1) := by decide +kernel
theorem dX6_as_40 : decode cX6_as 40 = .ok (.iconst 3, 1) := by decide +kernel
theorem dX6_as_41 : decode cX6_as 41 = .ok (.invokevirtual 63, 3) := by decide +kernel
theorem dX6_as_44 : decode cX6_as 44 = .ok (.ireturn, 1) := by decide +kernel
theorem dX6_as_45 : decode cX6_as 45 = .ok (.aload_n 0, 1) := by decide +kernel
theorem dX6_as_46 : decode cX6_as 46 = .ok (.iload_n 1, 1) := by decide +kernel
theorem dX6_as_47 : decode cX6_as 47 = .ok (.invokevirtual 71, 3) := by decide +kernel
theorem dX6_as_50 : decode cX6_as 50 = .ok (.ireturn, 1) := by decide +kernel
theorem dX6_ask_0 : decode cX6_ask 0 = .ok (.aload_n 0, 1) := by decide +kernel
theorem dX6_ask_1 : decode cX6_ask 1 = .ok (.getfield 22, 3) := by decide +kernel
theorem dX6_ask_4 : decode cX6_ask 4 = .ok (.iload_n 1, 1) := by decide +kernel
theorem dX6_ask_5 : decode cX6_ask 5 = .ok (.invokevirtual 152, 3) := by decide +kernel
theorem dX6_ask_8 : decode cX6_ask 8 = .ok (.ifCond .eq 12, 3) := by decide +kernel
theorem dX6_ask_11 : decode cX6_ask 11 = .ok (.iload_n 2, 1) := by decide +kernel
theorem dX6_ask_12 : decode cX6_ask 12 = .ok (.iconst 0, 1) := by decide +kernel
theorem dX6_ask_13 : decode cX6_ask 13 = .ok (.iconst 1, 1) := by decide +kernel
theorem dX6_ask_14 : decode cX6_ask 14 = .ok (.invokestatic 58, 3) := by decide +kernel
theorem dX6_ask_17 : decode cX6_ask 17 = .ok (.ifCond .ne 6, 3) := by decide +kernel
theorem dX6_ask_20 : decode cX6_ask 20 = .ok (.ldc 62, 2) := by decide +kernel
theorem dX6_ask_22 : decode cX6_ask 22 = .ok (.ireturn, 1) := by decide +kernel
theorem dX6_ask_23 : decode cX6_ask 23 = .ok (.aload_n 0, 1) := by decide +kernel
theorem dX6_ask_24 : decode cX6_ask 24 = .ok (.getfield 53, 3) := by decide +kernel
theorem dX6_ask_27 : decode cX6_ask 27 = .ok (.aload_n 0, 1) := by decide +kernel
theorem dX6_ask_28 : decode cX6_ask 28 = .ok (.getfield 22, 3) := by decide +kernel
theorem dX6_ask_31 : decode cX6_ask 31 = .ok (.iload_n 1, 1) := by decide +kernel
theorem dX6_ask_32 : decode cX6_ask 32 = .ok (.iload_n 2, 1) := by decide +kernel
theorem dX6_ask_33 : decode cX6_ask 33 = .ok (.invokevirtual 267, 3) := by decide +kernel
theorem dX6_ask_36 : decode cX6_ask 36 = .ok (.ireturn, 1) := by decide +kernel
theorem dX6_trace_0 : decode cX6_trace 0 = .ok (.iload_n 1, 1) := by decide +kernel
theorem dX6_trace_1 : decode cX6_trace 1 = .ok (.iconst 0, 1) := by decide +kernel
theorem dX6_trace_2 : decode cX6_trace 2 = .ok (.aload_n 0, 1) := by decide +kernel
theorem dX6_trace_3 : decode cX6_trace 3 = .ok (.getfield 53, 3) := by decide +kernel
theorem dX6_trace_6 : decode cX6_trace 6 = .ok (.getfield 271, 3) := by decide +kernel
theorem dX6_trace_9 : decode cX6_trace 9 = .ok (.iconst 1, 1) := by decide +kernel
theorem dX6_trace_10 : decode cX6_trace 10 = .ok (.isub, 1) := by decide +kernel
theorem dX6_trace_11 : decode cX6_trace 11 = .ok (.invokestatic 58, 3) := by decide +kernel
theorem dX6_trace_14 : decode cX6_trace 14 = .ok (.ifCond .eq 15, 3) := by decide +kernel
theorem dX6_trace_17 : decode cX6_trace 17 = .ok (.aload_n 0, 1) := by decide +kernel
theorem dX6_trace_18 : decode cX6_trace 18 = .ok (.getfield 53, 3) := by decide +kernel
theorem dX6_trace_21 : decode cX6_trace 21 = .ok (.getfield 274, 3) := by decide +kernel
theorem dX6_trace_24 : decode cX6_trace 24 = .ok (.iload_n 1, 1) := by decide +kernel
theorem dX6_trace_25 : decode cX6_trace 25 = .ok (.iaload, 1) := by decide +kernel
theorem dX6_trace_26 : decode cX6_trace 26 = .ok (.goto 5, 3) := by decide +kernel
theorem dX6_trace_29 : decode cX6_trace 29 = .ok (.ldc 224, 2) := by decide +kernel
theorem dX6_trace_31 : decode cX6_trace 31 = .ok (.ireturn, 1) := by decide +kernel
theorem dX6_count_0 : decode cX6_count 0 = .ok (.iload_n 1, 1) := by decide +kernel
theorem dX6_count_1 : decode cX6_count 1 = .ok (.tableswitch 108 0 7 #[47, 52, 60, 68, 76, 84, 92, 100], 47) := by decide +kernel
theorem dX6_count_48 : decode cX6_count 48 = .ok (.aload_n 0, 1) := by decide +kernel
theorem dX6_count_49 : decode cX6_count 49 = .ok (.invokevirtual 277, 3) := by decide +kernel
theorem dX6_count_52 : decode cX6_count 52 = .ok (.ireturn, 1) := by decide +kernel
theorem dX6_count_53 : decode cX6_count 53 = .ok (.aload_n 0, 1) := by decide +kernel
theorem dX6_count_54 : decode cX6_count 54 = .ok (.getfield 22, 3) := by decide +kernel
theorem dX6_count_57 : decode cX6_count 57 = .ok (.getfield 132, 3) := by decide +kernel
theorem dX6_count_60 : decode cX6_count 60 = .ok (.ireturn, 1) := by decide +kernel
theorem dX6_count_61 : decode cX6_count 61 = .ok (.aload_n 0, 1) := by decide +kernel
theorem dX6_count_62 : decode cX6_count 62 = .ok (.getfield 22, 3) := by decide +kernel
theorem dX6_count_65 : decode cX6_count 65 = .ok (.getfield 232, 3) := by decide +kernel
theorem dX6_count_68 : decode cX6_count 68 = .ok (.ireturn, 1) := by decide +kernel
theorem dX6_count_69 : decode cX6_count 69 = .ok (.aload_n 0, 1) := by decide +kernel
theorem dX6_count_70 : decode cX6_count 70 = .ok (.getfield 22, 3) := by decide +kernel
theorem dX6_count_73 : decode cX6_count 73 = .ok (.getfield 139, 3) := by decide +kernel
theorem dX6_count_76 : decode cX6_count 76 = .ok (.ireturn, 1) := by decide +kernel
theorem dX6_count_77 : decode cX6_count 77 = .ok (.aload_n 0, 1) := by decide +kernel
theorem dX6_count_78 : decode cX6_count 78 = .ok (.getfield 22, 3) := by decide +kernel
theorem dX6_count_81 : decode cX6_count 81 = .ok (.invokevirtual 149, 3) := by decide +kernel
theorem dX6_count_84 : decode cX6_count 84 = .ok (.ireturn, 1) := by decide +kernel
theorem dX6_count_85 : decode cX6_count 85 = .ok (.aload_n 0, 1) := by decide +kernel
theorem dX6_count_86 : decode cX6_count 86 = .ok (.getfield 22, 3) := by decide +kernel
theorem dX6_count_89 : decode cX6_count 89 = .ok (.invokevirtual 280, 3) := by decide +kernel
theorem dX6_count_92 : decode cX6_count 92 = .ok (.ireturn, 1) := by decide +kernel
theorem dX6_count_93 : decode cX6_count 93 = .ok (.aload_n 0, 1) := by decide +kernel
theorem dX6_count_94 : decode cX6_count 94 = .ok (.getfield 39, 3) := by decide +kernel
theorem dX6_count_97 : decode cX6_count 97 = .ok (.getfield 174, 3) := by decide +kernel
theorem dX6_count_100 : decode cX6_count 100 = .ok (.ireturn, 1) := by decide +kernel
theorem dX6_count_101 : decode cX6_count 101 = .ok (.aload_n 0, 1) := by decide +kernel
theorem dX6_count_102 : decode cX6_count 102 = .ok (.getfield 32, 3) := by decide +kernel
theorem dX6_count_105 : decode cX6_count 105 = .ok (.getfield 108, 3) := by decide +kernel
theorem dX6_count_108 : decode cX6_count 108 = .ok (.ireturn, 1) := by decide +kernel
theorem dX6_count_109 : decode cX6_count 109 = .ok (.ldc 62, 2) := by decide +kernel
theorem dX6_count_111 : decode cX6_count 111 = .ok (.ireturn, 1) := by decide +kernel
theorem dX6_status_0 : decode cX6_status 0 = .ok (.aload_n 0, 1) := by decide +kernel
theorem dX6_status_1 : decode cX6_status 1 = .ok (.getfield 283, 3) := by decide +kernel
theorem dX6_status_4 : decode cX6_status 4 = .ok (.ireturn, 1) := by decide +kernel
theorem dX6_isWithin_0 : decode cX6_isWithin 0 = .ok (.iload_n 0, 1) := by decide +kernel
theorem dX6_isWithin_1 : decode cX6_isWithin 1 = .ok (.iload_n 1, 1) := by decide +kernel
theorem dX6_isWithin_2 : decode cX6_isWithin 2 = .ok (.if_icmp .lt 12, 3) := by decide +kernel
theorem dX6_isWithin_5 : decode cX6_isWithin 5 = .ok (.iload_n 0, 1) := by decide +kernel
theorem dX6_isWithin_6 : decode cX6_isWithin 6 = .ok (.iload_n 2, 1) := by decide +kernel
theorem dX6_isWithin_7 : decode cX6_isWithin 7 = .ok (.if_icmp .gt 7, 3) := by decide +kernel
theorem dX6_isWithin_10 : decode cX6_isWithin 10 = .ok (.iconst 1, 1) := by decide +kernel
theorem dX6_isWithin_11 : decode cX6_isWithin 11 = .ok (.goto 4, 3) := by decide +kernel
theorem dX6_isWithin_14 : decode cX6_isWithin 14 = .ok (.iconst 0, 1) := by decide +kernel
theorem dX6_isWithin_15 : decode cX6_isWithin 15 = .ok (.ireturn, 1) := by decide +kernel
theorem dX6_found_0 : decode cX6_found 0 = .ok (.aload_n 0, 1) := by decide +kernel
theorem dX6_found_1 : decode cX6_found 1 = .ok (.iload_n 1, 1) := by decide +kernel
theorem dX6_found_2 : decode cX6_found 2 = .ok (.putfield 283, 3) := by decide +kernel
theorem dX6_found_5 : decode cX6_found 5 = .ok (.ldc_w 286, 3) := by decide +kernel
theorem dX6_found_8 : decode cX6_found 8 = .ok (.iload_n 1, 1) := by decide +kernel
theorem dX6_found_9 : decode cX6_found 9 = .ok (.isub, 1) := by decide +kernel
theorem dX6_found_10 : decode cX6_found 10 = .ok (.ireturn, 1) := by decide +kernel
theorem dX6_unfound_0 : decode cX6_unfound 0 = .ok (.aload_n 0, 1) := by decide +kernel
theorem dX6_unfound_1 : decode cX6_unfound 1 = .ok (.iconst 0, 1) := by decide +kernel
theorem dX6_unfound_2 : decode cX6_unfound 2 = .ok (.putfield 283, 3) := by decide +kernel
theorem dX6_unfound_5 : decode cX6_unfound 5 = .ok (.iload_n 1, 1) := by decide +kernel
theorem dX6_unfound_6 : decode cX6_unfound 6 = .ok (.ireturn, 1) := by decide +kernel
theorem dX6_rowsThere_0 : decode cX6_rowsThere 0 = .ok (.iconst 0, 1) := by decide +kernel
theorem dX6_rowsThere_1 : decode cX6_rowsThere 1 = .ok (.istore_n 1, 1) := by decide +kernel
theorem dX6_rowsThere_2 : decode cX6_rowsThere 2 = .ok (.iconst 0, 1) := by decide +kernel
theorem dX6_rowsThere_3 : decode cX6_rowsThere 3 = .ok (.istore_n 2, 1) := by decide +kernel
theorem dX6_rowsThere_4 : decode cX6_rowsThere 4 = .ok (.iload_n 2, 1) := by decide +kernel
theorem dX6_rowsThere_5 : decode cX6_rowsThere 5 = .ok (.bipush 8, 2) := by decide +kernel
theorem dX6_rowsThere_7 : decode cX6_rowsThere 7 = .ok (.if_icmp .ge 24, 3) := by decide +kernel
theorem dX6_rowsThere_10 : decode cX6_rowsThere 10 = .ok (.aload_n 0, 1) := by decide +kernel
theorem dX6_rowsThere_11 : decode cX6_rowsThere 11 = .ok (.getfield 11, 3) := by decide +kernel
theorem dX6_rowsThere_14 : decode cX6_rowsThere 14 = .ok (.iload_n 2, 1) := by decide +kernel
theorem dX6_rowsThere_15 : decode cX6_rowsThere 15 = .ok (.aaload, 1) := by decide +kernel
theorem dX6_rowsThere_16 : decode cX6_rowsThere 16 = .ok (.invokevirtual 74, 3) := by decide +kernel
theorem dX6_rowsThere_19 : decode cX6_rowsThere 19 = .ok (.ifCond .ne 6, 3) := by decide +kernel
theorem dX6_rowsThere_22 : decode cX6_rowsThere 22 = .ok (.iinc 1 1, 3) := by decide +kernel
theorem dX6_rowsThere_25 : decode cX6_rowsThere 25 = .ok (.iinc 2 1, 3) := by decide +kernel
theorem dX6_rowsThere_28 : decode cX6_rowsThere 28 = .ok (.goto (-24), 3) := by decide +kernel
theorem dX6_rowsThere_31 : decode cX6_rowsThere 31 = .ok (.iload_n 1, 1) := by decide +kernel
theorem dX6_rowsThere_32 : decode cX6_rowsThere 32 = .ok (.ireturn, 1) := by decide +kernel
theorem dX6_foretell_0 : decode cX6_foretell 0 = .ok (.aload_n 0, 1) := by decide +kernel
theorem dX6_foretell_1 : decode cX6_foretell 1 = .ok (.getfield 26, 3) := by decide +kernel
theorem dX6_foretell_4 : decode cX6_foretell 4 = .ok (.aload_n 0, 1) := by decide +kernel
theorem dX6_foretell_5 : decode cX6_foretell 5 = .ok (.getfield 22, 3) := by decide +kernel
theorem dX6_foretell_8 : decode cX6_foretell 8 = .ok (.invokevirtual 126, 3) := by decide +kernel
theorem dX6_foretell_11 : decode cX6_foretell 11 = .ok (.iconst 0, 1) := by decide +kernel
theorem dX6_foretell_12 : decode cX6_foretell 12 = .ok (.istore_n 2, 1) := by decide +kernel
theorem dX6_foretell_13 : decode cX6_foretell 13 = .ok (.iload_n 2, 1) := by decide +kernel
theorem dX6_foretell_14 : decode cX6_foretell 14 = .ok (.iload_n 1, 1) := by decide +kernel
theorem dX6_foretell_15 : decode cX6_foretell 15 = .ok (.if_icmp .ge 18, 3) := by decide +kernel
theorem dX6_foretell_18 : decode cX6_foretell 18 = .ok (.aload_n 0, 1) := by decide +kernel
theorem dX6_foretell_19 : decode cX6_foretell 19 = .ok (.getfield 26, 3) := by decide +kernel
theorem dX6_foretell_22 : decode cX6_foretell 22 = .ok (.bipush 15, 2) := by decide +kernel
theorem dX6_foretell_24 : decode cX6_foretell 24 = .ok (.invokevirtual 145, 3) := by decide +kernel
theorem dX6_foretell_27 : decode cX6_foretell 27 = .ok (.iinc 2 1, 3) := by decide +kernel
theorem dX6_foretell_30 : decode cX6_foretell 30 = .ok (.goto (-17), 3) := by decide +kernel
theorem dX6_foretell_33 : decode cX6_foretell 33 = .ok (.return_, 1) := by decide +kernel
theorem dX6_firstRest_0 : decode cX6_firstRest 0 = .ok (.aload_n 0, 1) := by decide +kernel
theorem dX6_firstRest_1 : decode cX6_firstRest 1 = .ok (.getfield 26, 3) := by decide +kernel
theorem dX6_firstRest_4 : decode cX6_firstRest 4 = .ok (.aload_n 0, 1) := by decide +kernel
theorem dX6_firstRest_5 : decode cX6_firstRest 5 = .ok (.getfield 22, 3) := by decide +kernel
theorem dX6_firstRest_8 : decode cX6_firstRest 8 = .ok (.invokevirtual 126, 3) := by decide +kernel
theorem dX6_firstRest_11 : decode cX6_firstRest 11 = .ok (.iconst 0, 1) := by decide +kernel
theorem dX6_firstRest_12 : decode cX6_firstRest 12 = .ok (.istore_n 2, 1) := by decide +kernel
theorem dX6_firstRest_13 : decode cX6_firstRest 13 = .ok (.iload_n 2, 1) := by decide +kernel
theorem dX6_firstRest_14 : decode cX6_firstRest 14 = .ok (.bipush 60, 2) := by decide +kernel
theorem dX6_firstRest_16 : decode cX6_firstRest 16 = .ok (.if_icmp .gt 33, 3) := by decide +kernel
theorem dX6_firstRest_19 : decode cX6_firstRest 19 = .ok (.aload_n 0, 1) := by decide +kernel
theorem dX6_firstRest_20 : decode cX6_firstRest 20 = .ok (.getfield 26, 3) := by decide +kernel
theorem dX6_firstRest_23 : decode cX6_firstRest 23 = .ok (.invokevirtual 149, 3) := by decide +kernel
theorem dX6_firstRest_26 : decode cX6_firstRest 26 = .ok (.iload_n 1, 1) := by decide +kernel
theorem dX6_firstRest_27 : decode cX6_firstRest 27 = .ok (.iand, 1) := by decide +kernel
theorem dX6_firstRest_28 : decode cX6_firstRest 28 = .ok (.iload_n 1, 1) := by decide +kernel
theorem dX6_firstRest_29 : decode cX6_firstRest 29 = .ok (.if_icmp .ne 5, 3) := by decide +kernel
theorem dX6_firstRest_32 : decode cX6_firstRest 32 = .ok (.iload_n 2, 1) := by decide +kernel
theorem dX6_firstRest_33 : decode cX6_firstRest 33 = .ok (.ireturn, 1) := by decide +kernel
theorem dX6_firstRest_34 : decode cX6_firstRest 34 = .ok (.aload_n 0, 1) := by decide +kernel
theorem dX6_firstRest_35 : decode cX6_firstRest 35 = .ok (.getfield 26, 3) := by decide +kernel
theorem dX6_firstRest_38 : decode cX6_firstRest 38 = .ok (.bipush 15, 2) := by decide +kernel
theorem dX6_firstRest_40 : decode cX6_firstRest 40 = .ok (.invokevirtual 145, 3) := by decide +kernel
theorem dX6_firstRest_43 : decode cX6_firstRest 43 = .ok (.iinc 2 1, 3) := by decide +kernel
theorem dX6_firstRest_46 : decode cX6_firstRest 46 = .ok (.goto (-33), 3) := by decide +kernel
theorem dX6_firstRest_49 : decode cX6_firstRest 49 = .ok (.ldc 224, 2) := by decide +kernel
theorem dX6_firstRest_51 : decode cX6_firstRest 51 = .ok (.ireturn, 1) := by decide +kernel
theorem dX6_hirerFound_0 : decode cX6_hirerFound 0 = .ok (.iload_n 1, 1) := by decide +kernel
theorem dX6_hirerFound_1 : decode cX6_hirerFound 1 = .ok (.iconst 0, 1) := by decide +kernel
theorem dX6_hirerFound_2 : decode cX6_hirerFound 2 = .ok (.aload_n 0, 1) := by decide +kernel
theorem dX6_hirerFound_3 : decode cX6_hirerFound 3 = .ok (.getfield 22, 3) := by decide +kernel
theorem dX6_hirerFound_6 : decode cX6_hirerFound 6 = .ok (.getfield 232, 3) := by decide +kernel
theorem dX6_hirerFound_9 : decode cX6_hirerFound 9 = .ok (.iconst 1, 1) := by decide +kernel
theorem dX6_hirerFound_10 : decode cX6_hirerFound 10 = .ok (.isub, 1) := by decide +kernel
theorem dX6_hirerFound_11 : decode cX6_hirerFound 11 = .ok (.invokestatic 58, 3) := by decide +kernel
theorem dX6_hirerFound_14 : decode cX6_hirerFound 14 = .ok (.ifCond .eq 15, 3) := by decide +kernel
theorem dX6_hirerFound_17 : decode cX6_hirerFound 17 = .ok (.aload_n 0, 1) := by decide +kernel
theorem dX6_hirerFound_18 : decode cX6_hirerFound 18 = .ok (.getfield 46, 3) := by decide +kernel
theorem dX6_hirerFound_21 : decode cX6_hirerFound 21 = .ok (.getfield 287, 3) := by decide +kernel
theorem dX6_hirerFound_24 : decode cX6_hirerFound 24 = .ok (.iload_n 1, 1) := by decide +kernel
theorem dX6_hirerFound_25 : decode cX6_hirerFound 25 = .ok (.iaload, 1) := by decide +kernel
theorem dX6_hirerFound_26 : decode cX6_hirerFound 26 = .ok (.goto 5, 3) := by decide +kernel
theorem dX6_hirerFound_29 : decode cX6_hirerFound 29 = .ok (.ldc 224, 2) := by decide +kernel
theorem dX6_hirerFound_31 : decode cX6_hirerFound 31 = .ok (.ireturn, 1) := by decide +kernel
theorem dX6_isGuess_0 : decode cX6_isGuess 0 = .ok (.iload_n 2, 1) := by decide +kernel
theorem dX6_isGuess_1 : decode cX6_isGuess 1 = .ok (.ifCond .ne 25, 3) := by decide +kernel
theorem dX6_isGuess_4 : decode cX6_isGuess 4 = .ok (.aload_n 0, 1) := by decide +kernel
theorem dX6_isGuess_5 : decode cX6_isGuess 5 = .ok (.getfield 22, 3) := by decide +kernel
theorem dX6_isGuess_8 : decode cX6_isGuess 8 = .ok (.iload_n 1, 1) := by decide +kernel
theorem dX6_isGuess_9 : decode cX6_isGuess 9 = .ok (.invokevirtual 155, 3) := by decide +kernel
theorem dX6_isGuess_12 : decode cX6_isGuess 12 = .ok (.ifCond .ne 8, 3) := by decide +kernel
theorem dX6_isGuess_15 : decode cX6_isGuess 15 = .ok (.iload_n 1, 1) := by decide +kernel
theorem dX6_isGuess_16 : decode cX6_isGuess 16 = .ok (.iconst 5, 1) := by decide +kernel
theorem dX6_isGuess_17 : decode cX6_isGuess 17 = .ok (.if_icmp .ne 7, 3) := by decide +kernel
theorem dX6_isGuess_20 : decode cX6_isGuess 20 = .ok (.iconst 1, 1) := by decide +kernel
theorem dX6_isGuess_21 : decode cX6_isGuess 21 = .ok (.goto 4, 3) := by decide +kernel
theorem dX6_isGuess_24 : decode cX6_isGuess 24 = .ok (.iconst 0, 1) := by decide +kernel
theorem dX6_isGuess_25 : decode cX6_isGuess 25 = .ok (.ireturn, 1) := by decide +kernel
theorem dX6_isGuess_26 : decode cX6_isGuess 26 = .ok (.iload_n 2, 1) := by decide +kernel
theorem dX6_isGuess_27 : decode cX6_isGuess 27 = .ok (.iconst 2, 1) := by decide +kernel
theorem dX6_isGuess_28 : decode cX6_isGuess 28 = .ok (.if_icmp .eq 8, 3) := by decide +kernel
theorem dX6_isGuess_31 : decode cX6_isGuess 31 = .ok (.iload_n 1, 1) := by decide +kernel
theorem dX6_isGuess_32 : decode cX6_isGuess 32 = .ok (.iconst 1, 1) := by decide +kernel
theorem dX6_isGuess_33 : decode cX6_isGuess 33 = .ok (.if_icmp .lt 7, 3) := by decide +kernel
theorem dX6_isGuess_36 : decode cX6_isGuess 36 = .ok (.iconst 1, 1) := by decide +kernel
theorem dX6_isGuess_37 : decode cX6_isGuess 37 = .ok (.goto 4, 3) := by decide +kernel
theorem dX6_isGuess_40 : decode cX6_isGuess 40 = .ok (.iconst 0, 1) := by decide +kernel
theorem dX6_isGuess_41 : decode cX6_isGuess 41 = .ok (.ireturn, 1) := by decide +kernel
theorem dX6_wouldShow_0 : decode cX6_wouldShow 0 = .ok (.aload_n 0, 1) := by decide +kernel
theorem dX6_wouldShow_1 : decode cX6_wouldShow 1 = .ok (.getfield 26, 3) := by decide +kernel
theorem dX6_wouldShow_4 : decode cX6_wouldShow 4 = .ok (.aload_n 0, 1) := by decide +kernel
theorem dX6_wouldShow_5 : decode cX6_wouldShow 5 = .ok (.getfield 22, 3) := by decide +kernel
theorem dX6_wouldShow_8 : decode cX6_wouldShow 8 = .ok (.invokevirtual 126, 3) := by decide +kernel
theorem dX6_wouldShow_11 : decode cX6_wouldShow 11 = .ok (.iload_n 2, 1) := by decide +kernel
theorem dX6_wouldShow_12 : decode cX6_wouldShow 12 = .ok (.ifCond .ne 16, 3) := by decide +kernel
theorem dX6_wouldShow_15 : decode cX6_wouldShow 15 = .ok (.aload_n 0, 1) := by decide +kernel
theorem dX6_wouldShow_16 : decode cX6_wouldShow 16 = .ok (.getfield 26, 3) := by decide +kernel
theorem dX6_wouldShow_19 : decode cX6_wouldShow 19 = .ok (.getfield 158, 3) := by decide +kernel
theorem dX6_wouldShow_22 : decode cX6_wouldShow 22 = .ok (.iload_n 1, 1) := by decide +kernel
theorem dX6_wouldShow_23 : decode cX6_wouldShow 23 = .ok (.iload_n 3, 1) := by decide +kernel
theorem dX6_wouldShow_24 : decode cX6_wouldShow 24 = .ok (.iastore, 1) := by decide +kernel
theorem dX6_wouldShow_25 : decode cX6_wouldShow 25 = .ok (.goto 31, 3) := by decide +kernel
theorem dX6_wouldShow_28 : decode cX6_wouldShow 28 = .ok (.iload_n 2, 1) := by decide +kernel
theorem dX6_wouldShow_29 : decode cX6_wouldShow 29 = .ok (.iconst 1, 1) := by decide +kernel
theorem dX6_wouldShow_30 : decode cX6_wouldShow 30 = .ok (.if_icmp .ne 16, 3) := by decide +kernel
theorem dX6_wouldShow_33 : decode cX6_wouldShow 33 = .ok (.aload_n 0, 1) := by decide +kernel
theorem dX6_wouldShow_34 : decode cX6_wouldShow 34 = .ok (.getfield 26, 3) := by decide +kernel
theorem dX6_wouldShow_37 : decode cX6_wouldShow 37 = .ok (.getfield 261, 3) := by decide +kernel
theorem dX6_wouldShow_40 : decode cX6_wouldShow 40 = .ok (.iload_n 1, 1) := by decide +kernel
theorem dX6_wouldShow_41 : decode cX6_wouldShow 41 = .ok (.iload_n 3, 1) := by decide +kernel
theorem dX6_wouldShow_42 : decode cX6_wouldShow 42 = .ok (.iastore, 1) := by decide +kernel
theorem dX6_wouldShow_43 : decode cX6_wouldShow 43 = .ok (.goto 13, 3) := by decide +kernel
theorem dX6_wouldShow_46 : decode cX6_wouldShow 46 = .ok (.aload_n 0, 1) := by decide +kernel
theorem dX6_wouldShow_47 : decode cX6_wouldShow 47 = .ok (.getfield 26, 3) := by decide +kernel
theorem dX6_wouldShow_50 : decode cX6_wouldShow 50 = .ok (.getfield 167, 3) := by decide +kernel
theorem dX6_wouldShow_53 : decode cX6_wouldShow 53 = .ok (.iload_n 1, 1) := by decide +kernel
theorem dX6_wouldShow_54 : decode cX6_wouldShow 54 = .ok (.iload_n 3, 1) := by decide +kernel
theorem dX6_wouldShow_55 : decode cX6_wouldShow 55 = .ok (.iastore, 1) := by decide +kernel
theorem dX6_wouldShow_56 : decode cX6_wouldShow 56 = .ok (.iconst 0, 1) := by decide +kernel
theorem dX6_wouldShow_57 : decode cX6_wouldShow 57 = .ok (.istore 7, 2) := by decide +kernel
theorem dX6_wouldShow_59 : decode cX6_wouldShow 59 = .ok (.iload 7, 2) := by decide +kernel
theorem dX6_wouldShow_61 : decode cX6_wouldShow 61 = .ok (.iload 6, 2) := by decide +kernel
theorem dX6_wouldShow_63 : decode cX6_wouldShow 63 = .ok (.if_icmp .ge 41, 3) := by decide +kernel
theorem dX6_wouldShow_66 : decode cX6_wouldShow 66 = .ok (.aload_n 0, 1) := by decide +kernel
theorem dX6_wouldShow_67 : decode cX6_wouldShow 67 = .ok (.getfield 26, 3) := by decide +kernel
theorem dX6_wouldShow_70 : decode cX6_wouldShow 70 = .ok (.bipush 15, 2) := by decide +kernel
theorem dX6_wouldShow_72 : decode cX6_wouldShow 72 = .ok (.invokevirtual 145, 3) := by decide +kernel
theorem dX6_wouldShow_75 : decode cX6_wouldShow 75 = .ok (.aload_n 0, 1) := by decide +kernel
theorem dX6_wouldShow_76 : decode cX6_wouldShow 76 = .ok (.getfield 26, 3) := by decide +kernel
theorem dX6_wouldShow_79 : decode cX6_wouldShow 79 = .ok (.invokevirtual 149, 3) := by decide +kernel
theorem dX6_wouldShow_82 : decode cX6_wouldShow 82 = .ok (.aload 4, 2) := by decide +kernel
theorem dX6_wouldShow_84 : decode cX6_wouldShow 84 = .ok (.getfield 90, 3) := by decide +kernel
theorem dX6_wouldShow_87 : decode cX6_wouldShow 87 = .ok (.iload 5, 2) := by decide +kernel
theorem dX6_wouldShow_89 : decode cX6_wouldShow 89 = .ok (.iload 7, 2) := by decide +kernel
theorem dX6_wouldShow_91 : decode cX6_wouldShow 91 = .ok (.iadd, 1) := by decide +kernel
theorem dX6_wouldShow_92 : decode cX6_wouldShow 92 = .ok (.iaload, 1) := by decide +kernel
theorem dX6_wouldShow_93 : decode cX6_wouldShow 93 = .ok (.if_icmp .eq 5, 3) := by decide +kernel
theorem dX6_wouldShow_96 : decode cX6_wouldShow 96 = .ok (.iconst 0, 1) := by decide +kernel
theorem dX6_wouldShow_97 : decode cX6_wouldShow 97 = .ok (.ireturn, 1) := by decide +kernel
theorem dX6_wouldShow_98 : decode cX6_wouldShow 98 = .ok (.iinc 7 1, 3) := by decide +kernel
theorem dX6_wouldShow_101 : decode cX6_wouldShow 101 = .ok (.goto (-42), 3) := by decide +kernel
theorem dX6_wouldShow_104 : decode cX6_wouldShow 104 = .ok (.iconst 1, 1) := by decide +kernel
theorem dX6_wouldShow_105 : decode cX6_wouldShow 105 = .ok (.ireturn, 1) := by decide +kernel
theorem dX6_waysToBe_0 : decode cX6_waysToBe 0 = .ok (.iconst 1, 1) := by decide +kernel
theorem dX6_waysToBe_1 : decode cX6_waysToBe 1 = .ok (.istore_n 3, 1) := by decide +kernel
theorem dX6_waysToBe_2 : decode cX6_waysToBe 2 = .ok (.iconst 0, 1) := by decide +kernel
theorem dX6_waysToBe_3 : decode cX6_waysToBe 3 = .ok (.istore 4, 2) := by decide +kernel
theorem dX6_waysToBe_5 : decode cX6_waysToBe 5 = .ok (.iload 4, 2) := by decide +kernel
theorem dX6_waysToBe_7 : decode cX6_waysToBe 7 = .ok (.aload_n 0, 1) := by decide +kernel
theorem dX6_waysToBe_8 : decode cX6_waysToBe 8 = .ok (.getfield 22, 3) := by decide +kernel
theorem dX6_waysToBe_11 : decode cX6_waysToBe 11 = .ok (.getfield 232, 3) := by decide +kernel
theorem dX6_waysToBe_14 : decode cX6_waysToBe 14 = .ok (.if_icmp .ge 30, 3) := by decide +kernel
theorem dX6_waysToBe_17 : decode cX6_waysToBe 17 = .ok (.iload_n 3, 1) := by decide +kernel
theorem dX6_waysToBe_18 : decode cX6_waysToBe 18 = .ok (.iload_n 1, 1) := by decide +kernel
theorem dX6_waysToBe_19 : decode cX6_waysToBe 19 = .ok (.iload 4, 2) := by decide +kernel
theorem dX6_waysToBe_21 : decode cX6_waysToBe 21 = .ok (.ishr, 1) := by decide +kernel
theorem dX6_waysToBe_22 : decode cX6_waysToBe 22 = .ok (.iconst 1, 1) := by decide +kernel
theorem dX6_waysToBe_23 : decode cX6_waysToBe 23 = .ok (.iand, 1) := by decide +kernel
theorem dX6_waysToBe_24 : decode cX6_waysToBe 24 = .ok (.iconst 1, 1) := by decide +kernel
theorem dX6_waysToBe_25 : decode cX6_waysToBe 25 = .ok (.if_icmp .ne 10, 3) := by decide +kernel
theorem dX6_waysToBe_28 : decode cX6_waysToBe 28 = .ok (.bipush 10, 2) := by decide +kernel
theorem dX6_waysToBe_30 : decode cX6_waysToBe 30 = .ok (.iload_n 2, 1) := by decide +kernel
theorem dX6_waysToBe_31 : decode cX6_waysToBe 31 = .ok (.isub, 1) := by decide +kernel
theorem dX6_waysToBe_32 : decode cX6_waysToBe 32 = .ok (.goto 4, 3) := by decide +kernel
theorem dX6_waysToBe_35 : decode cX6_waysToBe 35 = .ok (.iload_n 2, 1) := by decide +kernel
theorem dX6_waysToBe_36 : decode cX6_waysToBe 36 = .ok (.imul, 1) := by decide +kernel
theorem dX6_waysToBe_37 : decode cX6_waysToBe 37 = .ok (.istore_n 3, 1) := by decide +kernel
theorem dX6_waysToBe_38 : decode cX6_waysToBe 38 = .ok (.iinc 4 1, 3) := by decide +kernel
theorem dX6_waysToBe_41 : decode cX6_waysToBe 41 = .ok (.goto (-36), 3) := by decide +kernel
theorem dX6_waysToBe_44 : decode cX6_waysToBe 44 = .ok (.iload_n 3, 1) := by decide +kernel
theorem dX6_waysToBe_45 : decode cX6_waysToBe 45 = .ok (.ireturn, 1) := by decide +kernel
theorem dX6_commonDivisor_0 : decode cX6_commonDivisor 0 = .ok (.iload_n 0, 1) := by decide +kernel
theorem dX6_commonDivisor_1 : decode cX6_commonDivisor 1 = .ok (.istore_n 2, 1) := by decide +kernel
theorem dX6_commonDivisor_2 : decode cX6_commonDivisor 2 = .ok (.iload_n 1, 1) := by decide +kernel
theorem dX6_commonDivisor_3 : decode cX6_commonDivisor 3 = .ok (.istore_n 3, 1) := by decide +kernel
theorem dX6_commonDivisor_4 : decode cX6_commonDivisor 4 = .ok (.iconst 0, 1) := by decide +kernel
theorem dX6_commonDivisor_5 : decode cX6_commonDivisor 5 = .ok (.istore 4, 2) := by decide +kernel
theorem dX6_commonDivisor_7 : decode cX6_commonDivisor 7 = .ok (.iload 4, 2) := by decide +kernel
theorem dX6_commonDivisor_9 : decode cX6_commonDivisor 9 = .ok (.bipush 64, 2) := by decide +kernel
theorem dX6_commonDivisor_11 : decode cX6_commonDivisor 11 = .ok (.if_icmp .ge 23, 3) := by decide +kernel
theorem dX6_commonDivisor_14 : decode cX6_commonDivisor 14 = .ok (.iload_n 3, 1) := by decide +kernel
theorem dX6_commonDivisor_15 : decode cX6_commonDivisor 15 = .ok (.ifCond .eq 19, 3) := by decide +kernel
theorem dX6_commonDivisor_18 : decode cX6_commonDivisor 18 = .ok (.iload_n 2, 1) := by decide +kernel
theorem dX6_commonDivisor_19 : decode cX6_commonDivisor 19 = .ok (.iload_n 3, 1) := by decide +kernel
theorem dX6_commonDivisor_20 : decode cX6_commonDivisor 20 = .ok (.irem, 1) := by decide +kernel
theorem dX6_commonDivisor_21 : decode cX6_commonDivisor 21 = .ok (.istore 5, 2) := by decide +kernel
theorem dX6_commonDivisor_23 : decode cX6_commonDivisor 23 = .ok (.iload_n 3, 1) := by decide +kernel
theorem dX6_commonDivisor_24 : decode cX6_commonDivisor 24 = .ok (.istore_n 2, 1) := by decide +kernel
theorem dX6_commonDivisor_25 : decode cX6_commonDivisor 25 = .ok (.iload 5, 2) := by decide +kernel
theorem dX6_commonDivisor_27 : decode cX6_commonDivisor 27 = .ok (.istore_n 3, 1) := by decide +kernel
theorem dX6_commonDivisor_28 : decode cX6_commonDivisor 28 = .ok (.iinc 4 1, 3) := by decide +kernel
theorem dX6_commonDivisor_31 : decode cX6_commonDivisor 31 = .ok (.goto (-24), 3) := by decide +kernel
theorem dX6_commonDivisor_34 : decode cX6_commonDivisor 34 = .ok (.iload_n 2, 1) := by decide +kernel
theorem dX6_commonDivisor_35 : decode cX6_commonDivisor 35 = .ok (.ireturn, 1) := by decide +kernel
theorem dX7_init_0 : decode cX7_init 0 = .ok (.aload_n 0, 1) := by decide +kernel
theorem dX7_init_1 : decode cX7_init 1 = .ok (.invokespecial 1, 3) := by decide +kernel
theorem dX7_init_4 : decode cX7_init 4 = .ok (.aload_n 0, 1) := by decide +kernel
theorem dX7_init_5 : decode cX7_init 5 = .ok (.sipush 144, 3) := by decide +kernel
theorem dX7_init_8 : decode cX7_init 8 = .ok (.newarray .int, 2) := by decide +kernel
theorem dX7_init_10 : decode cX7_init 10 = .ok (.putfield 7, 3) := by decide +kernel
theorem dX7_init_13 : decode cX7_init 13 = .ok (.aload_n 0, 1) := by decide +kernel
theorem dX7_init_14 : decode cX7_init 14 = .ok (.iconst 2, 1) := by decide +kernel
theorem dX7_init_15 : decode cX7_init 15 = .ok (.newarray .boolean, 2) := by decide +kernel
theorem dX7_init_17 : decode cX7_init 17 = .ok (.putfield 13, 3) := by decide +kernel
theorem dX7_init_20 : decode cX7_init 20 = .ok (.aload_n 0, 1) := by decide +kernel
theorem dX7_init_21 : decode cX7_init 21 = .ok (.sipush 432, 3) := by decide +kernel
theorem dX7_init_24 : decode cX7_init 24 = .ok (.newarray .int, 2) := by decide +kernel
theorem dX7_init_26 : decode cX7_init 26 = .ok (.putfield 17, 3) := by decide +kernel
theorem dX7_init_29 : decode cX7_init 29 = .ok (.aload_n 0, 1) := by decide +kernel
theorem dX7_init_30 : decode cX7_init 30 = .ok (.sipush 320, 3) := by decide +kernel
theorem dX7_init_33 : decode cX7_init 33 = .ok (.newarray .int, 2) := by decide +kernel
theorem dX7_init_35 : decode cX7_init 35 = .ok (.putfield 20, 3) := by decide +kernel
theorem dX7_init_38 : decode cX7_init 38 = .ok (.aload_n 0, 1) := by decide +kernel
theorem dX7_init_39 : decode cX7_init 39 = .ok (.bipush 8, 2) := by decide +kernel
theorem dX7_init_41 : decode cX7_init 41 = .ok (.newarray .int, 2) := by decide +kernel
theorem dX7_init_43 : decode cX7_init 43 = .ok (.putfield 23, 3) := by decide +kernel
theorem dX7_init_46 : decode cX7_init 46 = .ok (.aload_n 0, 1) := by decide +kernel
theorem dX7_init_47 : decode cX7_init 47 = .ok (.bipush 8, 2) := by decide +kernel
theorem dX7_init_49 : decode cX7_init 49 = .ok (.newarray .int, 2) := by decide +kernel
theorem dX7_init_51 : decode cX7_init 51 = .ok (.putfield 26, 3) := by decide +kernel
theorem dX7_init_54 : decode cX7_init 54 = .ok (.aload_n 0, 1) := by decide +kernel
theorem dX7_init_55 : decode cX7_init 55 = .ok (.bipush 100, 2) := by decide +kernel
theorem dX7_init_57 : decode cX7_init 57 = .ok (.newarray .int, 2) := by decide +kernel
theorem dX7_init_59 : decode cX7_init 59 = .ok (.putfield 29, 3) := by decide +kernel
theorem dX7_init_62 : decode cX7_init 62 = .ok (.aload_n 0, 1) := by decide +kernel
theorem dX7_init_63 : decode cX7_init 63 = .ok (.bipush 16, 2) := by decide +kernel
theorem dX7_init_65 : decode cX7_init 65 = .ok (.newarray .int, 2) := by decide +kernel
theorem dX7_init_67 : decode cX7_init 67 = .ok (.putfield 32, 3) := by decide +kernel
theorem dX7_init_70 : decode cX7_init 70 = .ok (.aload_n 0, 1) := by decide +kernel
theorem dX7_init_71 : decode cX7_init 71 = .ok (.bipush 40, 2) := by decide +kernel
theorem dX7_init_73 : decode cX7_init 73 = .ok (.newarray .int, 2) := by decide +kernel
theorem dX7_init_75 : decode cX7_init 75 = .ok (.putfield 35, 3) := by decide +kernel
theorem dX7_init_78 : decode cX7_init 78 = .ok (.iconst 0, 1) := by decide +kernel
theorem dX7_init_79 : decode cX7_init 79 = .ok (.istore_n 1, 1) := by decide +kernel
theorem dX7_init_80 : decode cX7_init 80 = .ok (.iload_n 1, 1) := by decide +kernel
theorem dX7_init_81 : decode cX7_init 81 = .ok (.bipush 8, 2) := by decide +kernel
theorem dX7_init_83 : decode cX7_init 83 = .ok (.if_icmp .ge 16, 3) := by decide +kernel
theorem dX7_init_86 : decode cX7_init 86 = .ok (.aload_n 0, 1) := by decide +kernel
theorem dX7_init_87 : decode cX7_init 87 = .ok (.getfield 23, 3) := by decide +kernel
theorem dX7_init_90 : decode cX7_init 90 = .ok (.iload_n 1, 1) := by decide +kernel
theorem dX7_init_91 : decode cX7_init 91 = .ok (.iconst (-1), 1) := by decide +kernel
theorem dX7_init_92 : decode cX7_init 92 = .ok (.iastore, 1) := by decide +kernel
theorem dX7_init_93 : decode cX7_init 93 = .ok (.iinc 1 1, 3) := by decide +kernel
theorem dX7_init_96 : decode cX7_init 96 = .ok (.goto (-16), 3) := by decide +kernel
theorem dX7_init_99 : decode cX7_init 99 = .ok (.return_, 1) := by decide +kernel
theorem dX7_in_0 : decode cX7_in 0 = .ok (.lload_n 0, 1) := by decide +kernel
theorem dX7_in_1 : decode cX7_in 1 = .ok (.lload_n 2, 1) := by decide +kernel
theorem dX7_in_2 : decode cX7_in 2 = .ok (.lcmp, 1) := by decide +kernel
theorem dX7_in_3 : decode cX7_in 3 = .ok (.ifCond .lt 14, 3) := by decide +kernel
theorem dX7_in_6 : decode cX7_in 6 = .ok (.lload_n 0, 1) := by decide +kernel
theorem dX7_in_7 : decode cX7_in 7 = .ok (.lload 4, 2) := by decide +kernel
theorem dX7_in_9 : decode cX7_in 9 = .ok (.lcmp, 1) := by decide +kernel
theorem dX7_in_10 : decode cX7_in 10 = .ok (.ifCond .gt 7, 3) := by decide +kernel
theorem dX7_in_13 : decode cX7_in 13 = .ok (.iconst 1, 1) := by decide +kernel
theorem dX7_in_14 : decode cX7_in 14 = .ok (.goto 4, 3) := by decide +kernel
theorem dX7_in_17 : decode cX7_in 17 = .ok (.iconst 0, 1) := by decide +kernel
theorem dX7_in_18 : decode cX7_in 18 = .ok (.ireturn, 1) := by decide +kernel
theorem dX7_has_0 : decode cX7_has 0 = .ok (.iload_n 0, 1) := by decide +kernel
theorem dX7_has_1 : decode cX7_has 1 = .ok (.iload_n 1, 1) := by decide +kernel
theorem dX7_has_2 : decode cX7_has 2 = .ok (.ishr, 1) := by decide +kernel
theorem dX7_has_3 : decode cX7_has 3 = .ok (.iconst 1, 1) := by decide +kernel
theorem dX7_has_4 : decode cX7_has 4 = .ok (.iand, 1) := by decide +kernel
theorem dX7_has_5 : decode cX7_has 5 = .ok (.iconst 1, 1) := by decide +kernel
theorem dX7_has_6 : decode cX7_has 6 = .ok (.if_icmp .ne 7, 3) := by decide +kernel
theorem dX7_has_9 : decode cX7_has 9 = .ok (.iconst 1, 1) := by decide +kernel
theorem dX7_has_10 : decode cX7_has 10 = .ok (.goto 4, 3) := by decide +kernel
theorem dX7_has_13 : decode cX7_has 13 = .ok (.iconst 0, 1) := by decide +kernel
theorem dX7_has_14 : decode cX7_has 14 = .ok (.ireturn, 1) := by decide +kernel
theorem dX7_ones_0 : decode cX7_ones 0 = .ok (.iconst 0, 1) := by decide +kernel
theorem dX7_ones_1 : decode cX7_ones 1 = .ok (.istore_n 1, 1) := by decide +kernel
theorem dX7_ones_2 : decode cX7_ones 2 = .ok (.iconst 0, 1) := by decide +kernel
theorem dX7_ones_3 : decode cX7_ones 3 = .ok (.istore_n 2, 1) := by decide +kernel
theorem dX7_ones_4 : decode cX7_ones 4 = .ok (.iload_n 2, 1) := by decide +kernel
theorem dX7_ones_5 : decode cX7_ones 5 = .ok (.iconst 5, 1) := by decide +kernel
theorem dX7_ones_6 : decode cX7_ones 6 = .ok (.if_icmp .ge 17, 3) := by decide +kernel
theorem dX7_ones_9 : decode cX7_ones 9 = .ok (.iload_n 1, 1) := by decide +kernel
theorem dX7_ones_10 : decode cX7_ones 10 = .ok (.iload_n 0, 1) := by decide +kernel
theorem dX7_ones_11 : decode cX7_ones 11 = .ok (.iload_n 2, 1) := by decide +kernel
theorem dX7_ones_12 : decode cX7_ones 12 = .ok (.ishr, 1) := by decide +kernel
theorem dX7_ones_13 : decode cX7_ones 13 = .ok (.iconst 1, 1) := by decide +kernel
theorem dX7_ones_14 : decode cX7_ones 14 = .ok (.iand, 1) := by decide +kernel
theorem dX7_ones_15 : decode cX7_ones 15 = .ok (.iadd, 1) := by decide +kernel
theorem dX7_ones_16 : decode cX7_ones 16 = .ok (.istore_n 1, 1) := by decide +kernel
theorem dX7_ones_17 : decode cX7_ones 17 = .ok (.iinc 2 1, 3) := by decide +kernel
theorem dX7_ones_20 : decode cX7_ones 20 = .ok (.goto (-16), 3) := by decide +kernel
theorem dX7_ones_23 : decode cX7_ones 23 = .ok (.iload_n 1, 1) := by decide +kernel
theorem dX7_ones_24 : decode cX7_ones 24 = .ok (.ireturn, 1) := by decide +kernel
theorem dX7_found_0 : decode cX7_found 0 = .ok (.aload_n 0, 1) := by decide +kernel
theorem dX7_found_1 : decode cX7_found 1 = .ok (.iload_n 1, 1) := by decide +kernel
theorem dX7_found_2 : decode cX7_found 2 = .ok (.putfield 38, 3) := by decide +kernel
theorem dX7_found_5 : decode cX7_found 5 = .ok (.ldc 42, 2) := by decide +kernel
theorem dX7_found_7 : decode cX7_found 7 = .ok (.iload_n 1, 1) := by decide +kernel
theorem dX7_found_8 : decode cX7_found 8 = .ok (.isub, 1) := by decide +kernel
theorem dX7_found_9 : decode cX7_found 9 = .ok (.ireturn, 1) := by decide +kernel
theorem dX7_good_0 : decode cX7_good 0 = .ok (.aload_n 0, 1) := by decide +kernel
theorem dX7_good_1 : decode cX7_good 1 = .ok (.iconst 0, 1) := by decide +kernel
theorem dX7_good_2 : decode cX7_good 2 = .ok (.putfield 38, 3) := by decide +kernel
theorem dX7_good_5 : decode cX7_good 5 = .ok (.iload_n 1, 1) := by decide +kernel
theorem dX7_good_6 : decode cX7_good 6 = .ok (.ireturn, 1) := by decide +kernel
theorem dX7_isRow_0 : decode cX7_isRow 0 = .ok (.iload_n 0, 1) := by decide +kernel
theorem dX7_isRow_1 : decode cX7_isRow 1 = .ok (.i2l, 1) := by decide +kernel
theorem dX7_isRow_2 : decode cX7_isRow 2 = .ok (.lconst 0, 1) := by decide +kernel
theorem dX7_isRow_3 : decode cX7_isRow 3 = .ok (.ldc2_w 43, 3) := by decide +kernel
theorem dX7_isRow_6 : decode cX7_isRow 6 = .ok (.invokestatic 45, 3) := by decide +kernel
theorem dX7_isRow_9 : decode cX7_isRow 9 = .ok (.ireturn, 1) := by decide +kernel
theorem dX7_row_0 : decode cX7_row 0 = .ok (.iload_n 1, 1) := by decide +kernel
theorem dX7_row_1 : decode cX7_row 1 = .ok (.invokestatic 49, 3) := by decide +kernel
theorem dX7_row_4 : decode cX7_row 4 = .ok (.ifCond .eq 21, 3) := by decide +kernel
theorem dX7_row_7 : decode cX7_row 7 = .ok (.iload_n 2, 1) := by decide +kernel
theorem dX7_row_8 : decode cX7_row 8 = .ok (.i2l, 1) := by decide +kernel
theorem dX7_row_9 : decode cX7_row 9 = .ok (.lconst 0, 1) := by decide +kernel
theorem dX7_row_10 : decode cX7_row 10 = .ok (.ldc2_w 53, 3) := by decide +kernel
theorem dX7_row_13 : decode cX7_row 13 = .ok (.invokestatic 45, 3) := by decide +kernel
theorem dX7_row_16 : decode cX7_row 16 = .ok (.ifCond .eq 9, 3) := by decide +kernel
theorem dX7_row_19 : decode cX7_row 19 = .ok (.iload_n 3, 1) := by decide +kernel
theorem dX7_row_20 : decode cX7_row 20 = .ok (.bipush 40, 2) := by decide +kernel
theorem dX7_row_22 : decode cX7_row 22 = .ok (.if_icmp .le 6, 3) := by decide +kernel
theorem dX7_row_25 : decode cX7_row 25 = .ok (.ldc 55, 2) := by decide +kernel
theorem dX7_row_27 : decode cX7_row 27 = .ok (.ireturn, 1) := by decide +kernel
theorem dX7_row_28 : decode cX7_row 28 = .ok (.iload_n 3, 1) := by decide +kernel
theorem dX7_row_29 : decode cX7_row 29 = .ok (.ifCond .ge 9, 3) := by decide +kernel
theorem dX7_row_32 : decode cX7_row 32 = .ok (.aload_n 0, 1) := by decide +kernel
theorem dX7_row_33 : decode cX7_row 33 = .ok (.iconst 4, 1) := by decide +kernel
theorem dX7_row_34 : decode cX7_row 34 = .ok (.invokevirtual 56, 3) := by decide +kernel
theorem dX7_row_37 : decode cX7_row 37 = .ok (.ireturn, 1) := by decide +kernel
theorem dX7_row_38 : decode cX7_row 38 = .ok (.aload_n 0, 1) := by decide +kernel
theorem dX7_row_39 : decode cX7_row 39 = .ok (.getfield 23, 3) := by decide +kernel
theorem dX7_row_42 : decode cX7_row 42 = .ok (.iload_n 1, 1) := by decide +kernel
theorem dX7_row_43 : decode cX7_row 43 = .ok (.iload_n 3, 1) := by decide +kernel
theorem dX7_row_44 : decode cX7_row 44 = .ok (.iastore, 1) := by decide +kernel
theorem dX7_row_45 : decode cX7_row 45 = .ok (.aload_n 0, 1) := by decide +kernel
theorem dX7_row_46 : decode cX7_row 46 = .ok (.getfield 26, 3) := by decide +kernel
theorem dX7_row_49 : decode cX7_row 49 = .ok (.iload_n 1, 1) := by decide +kernel
theorem dX7_row_50 : decode cX7_row 50 = .ok (.iload_n 2, 1) := by decide +kernel
theorem dX7_row_51 : decode cX7_row 51 = .ok (.iastore, 1) := by decide +kernel
theorem dX7_row_52 : decode cX7_row 52 = .ok (.iconst 0, 1) := by decide +kernel
theorem dX7_row_53 : decode cX7_row 53 = .ok (.istore 4, 2) := by decide +kernel
theorem dX7_row_55 : decode cX7_row 55 = .ok (.iload 4, 2) := by decide +kernel
theorem dX7_row_57 : decode cX7_row 57 = .ok (.bipush 40, 2) := by decide +kernel
theorem dX7_row_59 : decode cX7_row 59 = .ok (.if_icmp .ge 22, 3) := by decide +kernel
theorem dX7_row_62 : decode cX7_row 62 = .ok (.aload_n 0, 1) := by decide +kernel
theorem dX7_row_63 : decode cX7_row 63 = .ok (.getfield 20, 3) := by decide +kernel
theorem dX7_row_66 : decode cX7_row 66 = .ok (.bipush 40, 2) := by decide +kernel
theorem dX7_row_68 : decode cX7_row 68 = .ok (.iload_n 1, 1) := by decide +kernel
theorem dX7_row_69 : decode cX7_row 69 = .ok (.imul, 1) := by decide +kernel
theorem dX7_row_70 : decode cX7_row 70 = .ok (.iload 4, 2) := by decide +kernel
theorem dX7_row_72 : decode cX7_row 72 = .ok (.iadd, 1) := by decide +kernel
theorem dX7_row_73 : decode cX7_row 73 = .ok (.iconst 0, 1) := by decide +kernel
theorem dX7_row_74 : decode cX7_row 74 = .ok (.iastore, 1) := by decide +kernel
theorem dX7_row_75 : decode cX7_row 75 = .ok (.iinc 4 1, 3) := by decide +kernel
theorem dX7_row_78 : decode cX7_row 78 = .ok (.goto (-23), 3) := by decide +kernel
theorem dX7_row_81 : decode cX7_row 81 = .ok (.aload_n 0, 1) := by decide +kernel
theorem dX7_row_82 : decode cX7_row 82 = .ok (.iload_n 3, 1) := by decide +kernel
theorem dX7_row_83 : decode cX7_row 83 = .ok (.invokevirtual 60, 3) := by decide +kernel
theorem dX7_row_86 : decode cX7_row 86 = .ok (.ireturn, 1) := by decide +kernel
theorem dX7_set_0 : decode cX7_set 0 = .ok (.iload_n 1, 1) := by decide +kernel
theorem dX7_set_1 : decode cX7_set 1 = .ok (.invokestatic 49, 3) := by decide +kernel
theorem dX7_set_4 : decode cX7_set 4 = .ok (.ifCond .ne 6, 3) := by decide +kernel
theorem dX7_set_7 : decode cX7_set 7 = .ok (.ldc 55, 2) := by decide +kernel
theorem dX7_set_9 : decode cX7_set 9 = .ok (.ireturn, 1) := by decide +kernel
theorem dX7_set_10 : decode cX7_set 10 = .ok (.aload_n 0, 1) := by decide +kernel
theorem dX7_set_11 : decode cX7_set 11 = .ok (.getfield 23, 3) := by decide +kernel
theorem dX7_set_14 : decode cX7_set 14 = .ok (.iload_n 1, 1) := by decide +kernel
theorem dX7_set_15 : decode cX7_set 15 = .ok (.iaload, 1) := by decide +kernel
theorem dX7_set_16 : decode cX7_set 16 = .ok (.ifCond .ge 9, 3) := by decide +kernel
theorem dX7_set_19 : decode cX7_set 19 = .ok (.aload_n 0, 1) := by decide +kernel
theorem dX7_set_20 : decode cX7_set 20 = .ok (.iconst 1, 1) := by decide +kernel
theorem dX7_set_21 : decode cX7_set 21 = .ok (.invokevirtual 56, 3) := by decide +kernel
theorem dX7_set_24 : decode cX7_set 24 = .ok (.ireturn, 1) := by decide +kernel
theorem dX7_set_25 : decode cX7_set 25 = .ok (.iload_n 2, 1) := by decide +kernel
theorem dX7_set_26 : decode cX7_set 26 = .ok (.i2l, 1) := by decide +kernel
theorem dX7_set_27 : decode cX7_set 27 = .ok (.lconst 0, 1) := by decide +kernel
theorem dX7_set_28 : decode cX7_set 28 = .ok (.aload_n 0, 1) := by decide +kernel
theorem dX7_set_29 : decode cX7_set 29 = .ok (.getfield 23, 3) := by decide +kernel
theorem dX7_set_32 : decode cX7_set 32 = .ok (.iload_n 1, 1) := by decide +kernel
theorem dX7_set_33 : decode cX7_set 33 = .ok (.iaload, 1) := by decide +kernel
theorem dX7_set_34 : decode cX7_set 34 = .ok (.iconst 1, 1) := by decide +kernel
theorem dX7_set_35 : decode cX7_set 35 = .ok (.isub, 1) := by decide +kernel
theorem dX7_set_36 : decode cX7_set 36 = .ok (.i2l, 1) := by decide +kernel
theorem dX7_set_37 : decode cX7_set 37 = .ok (.invokestatic 45, 3) := by decide +kernel
theorem dX7_set_40 : decode cX7_set 40 = .ok (.ifCond .ne 9, 3) := by decide +kernel
theorem dX7_set_43 : decode cX7_set 43 = .ok (.aload_n 0, 1) := by decide +kernel
theorem dX7_set_44 : decode cX7_set 44 = .ok (.iconst 2, 1) := by decide +kernel
theorem dX7_set_45 : decode cX7_set 45 = .ok (.invokevirtual 56, 3) := by decide +kernel
theorem dX7_set_48 : decode cX7_set 48 = .ok (.ireturn, 1) := by decide +kernel
theorem dX7_set_49 : decode cX7_set 49 = .ok (.aload_n 0, 1) := by decide +kernel
theorem dX7_set_50 : decode cX7_set 50 = .ok (.getfield 20, 3) := by decide +kernel
theorem dX7_set_53 : decode cX7_set 53 = .ok (.bipush 40, 2) := by decide +kernel
theorem dX7_set_55 : decode cX7_set 55 = .ok (.iload_n 1, 1) := by decide +kernel
theorem dX7_set_56 : decode cX7_set 56 = .ok (.imul, 1) := by decide +kernel
theorem dX7_set_57 : decode cX7_set 57 = .ok (.iload_n 2, 1) := by decide +kernel
theorem dX7_set_58 : decode cX7_set 58 = .ok (.iadd, 1) := by decide +kernel
theorem dX7_set_59 : decode cX7_set 59 = .ok (.aload_n 0, 1) := by decide +kernel
theorem dX7_set_60 : decode cX7_set 60 = .ok (.getfield 26, 3) := by decide +kernel
theorem dX7_set_63 : decode cX7_set 63 = .ok (.iload_n 1, 1) := by decide +kernel
theorem dX7_set_64 : decode cX7_set 64 = .ok (.iaload, 1) := by decide +kernel
theorem dX7_set_65 : decode cX7_set 65 = .ok (.ifCond .ne 8, 3) := by decide +kernel
theorem dX7_set_68 : decode cX7_set 68 = .ok (.iload_n 3, 1) := by decide +kernel
theorem dX7_set_69 : decode cX7_set 69 = .ok (.i2b, 1) := by decide +kernel
theorem dX7_set_70 : decode cX7_set 70 = .ok (.goto 19, 3) := by decide +kernel
theorem dX7_set_73 : decode cX7_set 73 = .ok (.aload_n 0, 1) := by decide +kernel
theorem dX7_set_74 : decode cX7_set 74 = .ok (.getfield 26, 3) := by decide +kernel
theorem dX7_set_77 : decode cX7_set 77 = .ok (.iload_n 1, 1) := by decide +kernel
theorem dX7_set_78 : decode cX7_set 78 = .ok (.iaload, 1) := by decide +kernel
theorem dX7_set_79 : decode cX7_set 79 = .ok (.iconst 1, 1) := by decide +kernel
theorem dX7_set_80 : decode cX7_set 80 = .ok (.if_icmp .ne 8, 3) := by decide +kernel
theorem dX7_set_83 : decode cX7_set 83 = .ok (.iload_n 3, 1) := by decide +kernel
theorem dX7_set_84 : decode cX7_set 84 = .ok (.i2s, 1) := by decide +kernel
theorem dX7_set_85 : decode cX7_set 85 = .ok (.goto 4, 3) := by decide +kernel
theorem dX7_set_88 : decode cX7_set 88 = .ok (.iload_n 3, 1) := by decide +kernel
theorem dX7_set_89 : decode cX7_set 89 = .ok (.iastore, 1) := by decide +kernel
theorem dX7_set_90 : decode cX7_set 90 = .ok (.aload_n 0, 1) := by decide +kernel
theorem dX7_set_91 : decode cX7_set 91 = .ok (.aload_n 0, 1) := by decide +kernel
theorem dX7_set_92 : decode cX7_set 92 = .ok (.getfield 20, 3) := by decide +kernel
theorem dX7_set_95 : decode cX7_set 95 = .ok (.bipush 40, 2) := by decide +kernel
theorem dX7_set_97 : decode cX7_set 97 = .ok (.iload_n 1, 1) := by decide +kernel
theorem dX7_set_98 : decode cX7_set 98 = .ok (.imul, 1) := by decide +kernel
theorem dX7_set_99 : decode cX7_set 99 = .ok (.iload_n 2, 1) := by decide +kernel
theorem dX7_set_100 : decode cX7_set 100 = .ok (.iadd, 1) := by decide +kernel
theorem dX7_set_101 : decode cX7_set 101 = .ok (.iaload, 1) := by decide +kernel
theorem dX7_set_102 : decode cX7_set 102 = .ok (.invokevirtual 60, 3) := by decide +kernel
theorem dX7_set_105 : decode cX7_set 105 = .ok (.ireturn, 1) := by decide +kernel
theorem dX7_isWithin_0 : decode cX7_isWithin 0 = .ok (.iload_n 0, 1) := by decide +kernel
theorem dX7_isWithin_1 : decode cX7_isWithin 1 = .ok (.ifCond .lt 18, 3) := by decide +kernel
theorem dX7_isWithin_4 : decode cX7_isWithin 4 = .ok (.iload_n 0, 1) := by decide +kernel
theorem dX7_isWithin_5 : decode cX7_isWithin 5 = .ok (.i2l, 1) := by decide +kernel
theorem dX7_isWithin_6 : decode cX7_isWithin 6 = .ok (.iload_n 1, 1) := by decide +kernel
theorem dX7_isWithin_7 : decode cX7_isWithin 7 = .ok (.i2l, 1) := by decide +kernel
theorem dX7_isWithin_8 : decode cX7_isWithin 8 = .ok (.ladd, 1) := by decide +kernel
theorem dX7_isWithin_9 : decode cX7_isWithin 9 = .ok (.iload_n 2, 1) := by decide +kernel
theorem dX7_isWithin_10 : decode cX7_isWithin 10 = .ok (.i2l, 1) := by decide +kernel
theorem dX7_isWithin_11 : decode cX7_isWithin 11 = .ok (.lcmp, 1) := by decide +kernel
theorem dX7_isWithin_12 : decode cX7_isWithin 12 = .ok (.ifCond .gt 7, 3) := by decide +kernel
theorem dX7_isWithin_15 : decode cX7_isWithin 15 = .ok (.iconst 1, 1) := by decide +kernel
theorem dX7_isWithin_16 : decode cX7_isWithin 16 = .ok (.goto 4, 3) := by decide +kernel
theorem dX7_isWithin_19 : decode cX7_isWithin 19 = .ok (.iconst 0, 1) := by decide +kernel
theorem dX7_isWithin_20 : decode cX7_isWithin 20 = .ok (.ireturn, 1) := by decide +kernel
theorem dX7_copy_0 : decode cX7_copy 0 = .ok (.iload_n 1, 1) := by decide +kernel
theorem dX7_copy_1 : decode cX7_copy 1 = .ok (.invokestatic 49, 3) := by decide +kernel
theorem dX7_copy_4 : decode cX7_copy 4 = .ok (.ifCond .eq 10, 3) := by decide +kernel
theorem dX7_copy_7 : decode cX7_copy 7 = .ok (.iload_n 3, 1) := by decide +kernel
theorem dX7_copy_8 : decode cX7_copy 8 = .ok (.invokestatic 49, 3) := by decide +kernel
theorem dX7_copy_11 : decode cX7_copy 11 = .ok (.ifCond .ne 6, 3) := by decide +kernel
theorem dX7_copy_14 : decode cX7_copy 14 = .ok (.ldc 55, 2) := by decide +kernel
theorem dX7_copy_16 : decode cX7_copy 16 = .ok (.ireturn, 1) := by decide +kernel
theorem dX7_copy_17 : decode cX7_copy 17 = .ok (.aload_n 0, 1) := by decide +kernel
theorem dX7_copy_18 : decode cX7_copy 18 = .ok (.getfield 23, 3) := by decide +kernel
theorem dX7_copy_21 : decode cX7_copy 21 = .ok (.iload_n 1, 1) := by decide +kernel
theorem dX7_copy_22 : decode cX7_copy 22 = .ok (.iaload, 1) := by decide +kernel
theorem dX7_copy_23 : decode cX7_copy 23 = .ok (.ifCond .lt 12, 3) := by decide +kernel
theorem dX7_copy_26 : decode cX7_copy 26 = .ok (.aload_n 0, 1) := by decide +kernel
theorem dX7_copy_27 : decode cX7_copy 27 = .ok (.getfield 23, 3) := by decide +kernel
theorem dX7_copy_30 : decode cX7_copy 30 = .ok (.iload_n 3, 1) := by decide +kernel
theorem dX7_copy_31 : decode cX7_copy 31 = .ok (.iaload, 1) := by decide +kernel
theorem dX7_copy_32 : decode cX7_copy 32 = .ok (.ifCond .ge 9, 3) := by decide +kernel
theorem dX7_copy_35 : decode cX7_copy 35 = .ok (.aload_n 0, 1) := by decide +kernel
theorem dX7_copy_36 : decode cX7_copy 36 = .ok (.iconst 1, 1) := by decide +kernel
theorem dX7_copy_37 : decode cX7_copy 37 = .ok (.invokevirtual 56, 3) := by decide +kernel
theorem dX7_copy_40 : decode cX7_copy 40 = .ok (.ireturn, 1) := by decide +kernel
theorem dX7_copy_41 : decode cX7_copy 41 = .ok (.aload_n 0, 1) := by decide +kernel
theorem dX7_copy_42 : decode cX7_copy 42 = .ok (.getfield 26, 3) := by decide +kernel
theorem dX7_copy_45 : decode cX7_copy 45 = .ok (.iload_n 1, 1) := by decide +kernel
theorem dX7_copy_46 : decode cX7_copy 46 = .ok (.iaload, 1) := by decide +kernel
theorem dX7_copy_47 : decode cX7_copy 47 = .ok (.aload_n 0, 1) := by decide +kernel
theorem dX7_copy_48 : decode cX7_copy 48 = .ok (.getfield 26, 3) := by decide +kernel
theorem dX7_copy_51 : decode cX7_copy 51 = .ok (.iload_n 3, 1) := by decide +kernel
theorem dX7_copy_52 : decode cX7_copy 52 = .ok (.iaload, 1) := by decide +kernel
theorem dX7_copy_53 : decode cX7_copy 53 = .ok (.if_icmp .eq 9, 3) := by decide +kernel
theorem dX7_copy_56 : decode cX7_copy 56 = .ok (.aload_n 0, 1) := by decide +kernel
theorem dX7_copy_57 : decode cX7_copy 57 = .ok (.iconst 5, 1) := by decide +kernel
theorem dX7_copy_58 : decode cX7_copy 58 = .ok (.invokevirtual 56, 3) := by decide +kernel
theorem dX7_copy_61 : decode cX7_copy 61 = .ok (.ireturn, 1) := by decide +kernel
theorem dX7_copy_62 : decode cX7_copy 62 = .ok (.iload 5, 2) := by decide +kernel
theorem dX7_copy_64 : decode cX7_copy 64 = .ok (.ifCond .lt 34, 3) := by decide +kernel
theorem dX7_copy_67 : decode cX7_copy 67 = .ok (.iload_n 2, 1) := by decide +kernel
theorem dX7_copy_68 : decode cX7_copy 68 = .ok (.iload 5, 2) := by decide +kernel
theorem dX7_copy_70 : decode cX7_copy 70 = .ok (.aload_n 0, 1) := by decide +kernel
theorem dX7_copy_71 : decode cX7_copy 71 = .ok (.getfield 23, 3) := by decide +kernel
theorem dX7_copy_74 : decode cX7_copy 74 = .ok (.iload_n 1, 1) := by decide +kernel
theorem dX7_copy_75 : decode cX7_copy 75 = .ok (.iaload, 1) := by decide +kernel
theorem dX7_copy_76 : decode cX7_copy 76 = .ok (.invokestatic 63, 3) := by decide +kernel
theorem dX7_copy_79 : decode cX7_copy 79 = .ok (.ifCond .eq 19, 3) := by decide +kernel
theorem dX7_copy_82 : decode cX7_copy 82 = .ok (.iload 4, 2) := by decide +kernel
theorem dX7_copy_84 : decode cX7_copy 84 = .ok (.iload 5, 2) := by decide +kernel
theorem dX7_copy_86 : decode cX7_copy 86 = .ok (.aload_n 0, 1) := by decide +kernel
theorem dX7_copy_87 : decode cX7_copy 87 = .ok (.getfield 23, 3) := by decide +kernel
theorem dX7_copy_90 : decode cX7_copy 90 = .ok (.iload_n 3, 1) := by decide +kernel
theorem dX7_copy_91 : decode cX7_copy 91 = .ok (.iaload, 1) := by decide +kernel
theorem dX7_copy_92 : decode cX7_copy 92 = .ok (.invokestatic 63, 3) := by decide +kernel
theorem dX7_copy_95 : decode cX7_copy 95 = .ok (.ifCond .ne 9, 3) := by decide +kernel
theorem dX7_copy_98 : decode cX7_copy 98 = .ok (.aload_n 0, 1) := by decide +kernel
theorem dX7_copy_99 : decode cX7_copy 99 = .ok (.iconst 2, 1) := by decide +kernel
theorem dX7_copy_100 : decode cX7_copy 100 = .ok (.invokevirtual 56, 3) := by decide +kernel
theorem dX7_copy_103 : decode cX7_copy 103 = .ok (.ireturn, 1) := by decide +kernel
theorem dX7_copy_104 : decode cX7_copy 104 = .ok (.iconst 0, 1) := by decide +kernel
theorem dX7_copy_105 : decode cX7_copy 105 = .ok (.istore 6, 2) := by decide +kernel
theorem dX7_copy_107 : decode cX7_copy 107 = .ok (.iload 6, 2) := by decide +kernel
theorem dX7_copy_109 : decode cX7_copy 109 = .ok (.iload 5, 2) := by decide +kernel
theorem dX7_copy_111 : decode cX7_copy 111 = .ok (.if_icmp .ge 30, 3) := by decide +kernel
theorem dX7_copy_114 : decode cX7_copy 114 = .ok (.aload_n 0, 1) := by decide +kernel
theorem dX7_copy_115 : decode cX7_copy 115 = .ok (.getfield 35, 3) := by decide +kernel
theorem dX7_copy_118 : decode cX7_copy 118 = .ok (.iload 6, 2) := by decide +kernel
theorem dX7_copy_120 : decode cX7_copy 120 = .ok (.aload_n 0, 1) := by decide +kernel
theorem dX7_copy_121 : decode cX7_copy 121 = .ok (.getfield 20, 3) := by decide +kernel
theorem dX7_copy_124 : decode cX7_copy 124 = .ok (.bipush 40, 2) := by decide +kernel
theorem dX7_copy_126 : decode cX7_copy 126 = .ok (.iload_n 1, 1) := by decide +kernel
theorem dX7_copy_127 : decode cX7_copy 127 = .ok (.imul, 1) := by decide +kernel
theorem dX7_copy_128 : decode cX7_copy 128 = .ok (.iload_n 2, 1) := by decide +kernel
theorem dX7_copy_129 : decode cX7_copy 129 = .ok (.iadd, 1) := by decide +kernel
theorem dX7_copy_130 : decode cX7_copy 130 = .ok (.iload 6, 2) := by decide +kernel
theorem dX7_copy_132 : decode cX7_copy 132 = .ok (.iadd, 1) := by decide +kernel
theorem dX7_copy_133 : decode cX7_copy 133 = .ok (.iaload, 1) := by decide +kernel
theorem dX7_copy_134 : decode cX7_copy 134 = .ok (.iastore, 1) := by decide +kernel
theorem dX7_copy_135 : decode cX7_copy 135 = .ok (.iinc 6 1, 3) := by decide +kernel
theorem dX7_copy_138 : decode cX7_copy 138 = .ok (.goto (-31), 3) := by decide +kernel
theorem dX7_copy_141 : decode cX7_copy 141 = .ok (.iconst 0, 1) := by decide +kernel
theorem dX7_copy_142 : decode cX7_copy 142 = .ok (.istore 6, 2) := by decide +kernel
theorem dX7_copy_144 : decode cX7_copy 144 = .ok (.iload 6, 2) := by decide +kernel
theorem dX7_copy_146 : decode cX7_copy 146 = .ok (.iload 5, 2) := by decide +kernel
theorem dX7_copy_148 : decode cX7_copy 148 = .ok (.if_icmp .ge 31, 3) := by decide +kernel
theorem dX7_copy_151 : decode cX7_copy 151 = .ok (.aload_n 0, 1) := by decide +kernel
theorem dX7_copy_152 : decode cX7_copy 152 = .ok (.getfield 20, 3) := by decide +kernel
theorem dX7_copy_155 : decode cX7_copy 155 = .ok (.bipush 40, 2) := by decide +kernel
theorem dX7_copy_157 : decode cX7_copy 157 = .ok (.iload_n 3, 1) := by decide +kernel
theorem dX7_copy_158 : decode cX7_copy 158 = .ok (.imul, 1) := by decide +kernel
theorem dX7_copy_159 : decode cX7_copy 159 = .ok (.iload 4, 2) := by decide +kernel
theorem dX7_copy_161 : decode cX7_copy 161 = .ok (.iadd, 1) := by decide +kernel
theorem dX7_copy_162 : decode cX7_copy 162 = .ok (.iload 6, 2) := by decide +kernel
theorem dX7_copy_164 : decode cX7_copy 164 = .ok (.iadd, 1) := by decide +kernel
theorem dX7_copy_165 : decode cX7_copy 165 = .ok (.aload_n 0, 1) := by decide +kernel
theorem dX7_copy_166 : decode cX7_copy 166 = .ok (.getfield 35, 3) := by decide +kernel
theorem dX7_copy_169 : decode cX7_copy 169 = .ok (.iload 6, 2) := by decide +kernel
theorem dX7_copy_171 : decode cX7_copy 171 = .ok (.iaload, 1) := by decide +kernel
theorem dX7_copy_172 : decode cX7_copy 172 = .ok (.iastore, 1) := by decide +kernel
theorem dX7_copy_173 : decode cX7_copy 173 = .ok (.iinc 6 1, 3) := by decide +kernel
theorem dX7_copy_176 : decode cX7_copy 176 = .ok (.goto (-32), 3) := by decide +kernel
theorem dX7_copy_179 : decode cX7_copy 179 = .ok (.aload_n 0, 1) := by decide +kernel
theorem dX7_copy_180 : decode cX7_copy 180 = .ok (.iload 5, 2) := by decide +kernel
theorem dX7_copy_182 : decode cX7_copy 182 = .ok (.invokevirtual 60, 3) := by decide +kernel
theorem dX7_copy_185 : decode cX7_copy 185 = .ok (.ireturn, 1) := by decide +kernel
theorem dX7_drop_0 : decode cX7_drop 0 = .ok (.iload_n 1, 1) := by decide +kernel
theorem dX7_drop_1 : decode cX7_drop 1 = .ok (.invokestatic 49, 3) := by decide +kernel
theorem dX7_drop_4 : decode cX7_drop 4 = .ok (.ifCond .ne 6, 3) := by decide +kernel
theorem dX7_drop_7 : decode cX7_drop 7 = .ok (.ldc 55, 2) := by decide +kernel
theorem dX7_drop_9 : decode cX7_drop 9 = .ok (.ireturn, 1) := by decide +kernel
theorem dX7_drop_10 : decode cX7_drop 10 = .ok (.aload_n 0, 1) := by decide +kernel
theorem dX7_drop_11 : decode cX7_drop 11 = .ok (.getfield 23, 3) := by decide +kernel
theorem dX7_drop_14 : decode cX7_drop 14 = .ok (.iload_n 1, 1) := by decide +kernel
theorem dX7_drop_15 : decode cX7_drop 15 = .ok (.iaload, 1) := by decide +kernel
theorem dX7_drop_16 : decode cX7_drop 16 = .ok (.ifCond .ge 9, 3) := by decide +kernel
theorem dX7_drop_19 : decode cX7_drop 19 = .ok (.aload_n 0, 1) := by decide +kernel
theorem dX7_drop_20 : decode cX7_drop 20 = .ok (.iconst 1, 1) := by decide +kernel
theorem dX7_drop_21 : decode cX7_drop 21 = .ok (.invokevirtual 56, 3) := by decide +kernel
theorem dX7_drop_24 : decode cX7_drop 24 = .ok (.ireturn, 1) := by decide +kernel
theorem dX7_drop_25 : decode cX7_drop 25 = .ok (.aload_n 0, 1) := by decide +kernel
theorem dX7_drop_26 : decode cX7_drop 26 = .ok (.getfield 23, 3) := by decide +kernel
theorem dX7_drop_29 : decode cX7_drop 29 = .ok (.iload_n 1, 1) := by decide +kernel
theorem dX7_drop_30 : decode cX7_drop 30 = .ok (.iaload, 1) := by decide +kernel
theorem dX7_drop_31 : decode cX7_drop 31 = .ok (.istore_n 2, 1) := by decide +kernel
theorem dX7_drop_32 : decode cX7_drop 32 = .ok (.aload_n 0, 1) := by decide +kernel
theorem dX7_drop_33 : decode cX7_drop 33 = .ok (.getfield 23, 3) := by decide +kernel
theorem dX7_drop_36 : decode cX7_drop 36 = .ok (.iload_n 1, 1) := by decide +kernel
theorem dX7_drop_37 : decode cX7_drop 37 = .ok (.iconst (-1), 1) := by decide +kernel
theorem dX7_drop_38 : decode cX7_drop 38 = .ok (.iastore, 1) := by decide +kernel
theorem dX7_drop_39 : decode cX7_drop 39 = .ok (.aload_n 0, 1) := by decide +kernel
theorem dX7_drop_40 : decode cX7_drop 40 = .ok (.iload_n 2, 1) := by decide +kernel
theorem dX7_drop_41 : decode cX7_drop 41 = .ok (.invokevirtual 60, 3) := by decide +kernel
theorem dX7_drop_44 : decode cX7_drop 44 = .ok (.ireturn, 1) := by decide +kernel
theorem dX7_against_0 : decode cX7_against 0 = .ok (.aload_n 0, 1) := by decide +kernel
theorem dX7_against_1 : decode cX7_against 1 = .ok (.getfield 23, 3) := by decide +kernel
theorem dX7_against_4 : decode cX7_against 4 = .ok (.iload_n 1, 1) := by decide +kernel
theorem dX7_against_5 : decode cX7_against 5 = .ok (.iaload, 1) := by decide +kernel
theorem dX7_against_6 : decode cX7_against 6 = .ok (.ifCond .ge 9, 3) := by decide +kernel
theorem dX7_against_9 : decode cX7_against 9 = .ok (.aload_n 0, 1) := by decide +kernel
theorem dX7_against_10 : decode cX7_against 10 = .ok (.iconst 1, 1) := by decide +kernel
theorem dX7_against_11 : decode cX7_against 11 = .ok (.invokevirtual 56, 3) := by decide +kernel
theorem dX7_against_14 : decode cX7_against 14 = .ok (.ireturn, 1) := by decide +kernel
theorem dX7_against_15 : decode cX7_against 15 = .ok (.iload_n 2, 1) := by decide +kernel
theorem dX7_against_16 : decode cX7_against 16 = .ok (.iload_n 3, 1) := by decide +kernel
theorem dX7_against_17 : decode cX7_against 17 = .ok (.aload_n 0, 1) := by decide +kernel
theorem dX7_against_18 : decode cX7_against 18 = .ok (.getfield 23, 3) := by decide +kernel
theorem dX7_against_21 : decode cX7_against 21 = .ok (.iload_n 1, 1) := by decide +kernel
theorem dX7_against_22 : decode cX7_against 22 = .ok (.iaload, 1) := by decide +kernel
theorem dX7_against_23 : decode cX7_against 23 = .ok (.invokestatic 63, 3) := by decide +kernel
theorem dX7_against_26 : decode cX7_against 26 = .ok (.ifCond .eq 7, 3) := by decide +kernel
theorem dX7_against_29 : decode cX7_against 29 = .ok (.iconst 0, 1) := by decide +kernel
theorem dX7_against_30 : decode cX7_against 30 = .ok (.goto 8, 3) := by decide +kernel
theorem dX7_against_33 : decode cX7_against 33 = .ok (.aload_n 0, 1) := by decide +kernel
theorem dX7_against_34 : decode cX7_against 34 = .ok (.iconst 2, 1) := by decide +kernel
theorem dX7_against_35 : decode cX7_against 35 = .ok (.invokevirtual 56, 3) := by decide +kernel
theorem dX7_against_38 : decode cX7_against 38 = .ok (.ireturn, 1) := by decide +kernel
theorem dX7_feed_0 : decode cX7_feed 0 = .ok (.iload_n 1, 1) := by decide +kernel
theorem dX7_feed_1 : decode cX7_feed 1 = .ok (.i2l, 1) := by decide +kernel
theorem dX7_feed_2 : decode cX7_feed 2 = .ok (.lconst 0, 1) := by decide +kernel
theorem dX7_feed_3 : decode cX7_feed 3 = .ok (.ldc2_w 67, 3) := by decide +kernel
theorem dX7_feed_6 : decode cX7_feed 6 = .ok (.invokestatic 45, 3) := by decide +kernel
theorem dX7_feed_9 : decode cX7_feed 9 = .ok (.ifCond .ne 6, 3) := by decide +kernel
theorem dX7_feed_12 : decode cX7_feed 12 = .ok (.ldc 55, 2) := by decide +kernel
theorem dX7_feed_14 : decode cX7_feed 14 = .ok (.ireturn, 1) := by decide +kernel
theorem dX7_feed_15 : decode cX7_feed 15 = .ok (.aload_n 0, 1) := by decide +kernel
theorem dX7_feed_16 : decode cX7_feed 16 = .ok (.getfield 69, 3) := by decide +kernel
theorem dX7_feed_19 : decode cX7_feed 19 = .ok (.bipush 100, 2) := by decide +kernel
theorem dX7_feed_21 : decode cX7_feed 21 = .ok (.if_icmp .ne 6, 3) := by decide +kernel
theorem dX7_feed_24 : decode cX7_feed 24 = .ok (.ldc 72, 2) := by decide +kernel
theorem dX7_feed_26 : decode cX7_feed 26 = .ok (.ireturn, 1) := by decide +kernel
theorem dX7_feed_27 : decode cX7_feed 27 = .ok (.aload_n 0, 1) := by decide +kernel
theorem dX7_feed_28 : decode cX7_feed 28 = .ok (.getfield 29, 3) := by decide +kernel
theorem dX7_feed_31 : decode cX7_feed 31 = .ok (.aload_n 0, 1) := by decide +kernel
theorem dX7_feed_32 : decode cX7_feed 32 = .ok (.getfield 69, 3) := by decide +kernel
theorem dX7_feed_35 : decode cX7_feed 35 = .ok (.iload_n 1, 1) := by decide +kernel
theorem dX7_feed_36 : decode cX7_feed 36 = .ok (.iastore, 1) := by decide +kernel
theorem dX7_feed_37 : decode cX7_feed 37 = .ok (.aload_n 0, 1) := by decide +kernel
theorem dX7_feed_38 : decode cX7_feed 38 = .ok (.dup, 1) := by decide +kernel
theorem dX7_feed_39 : decode cX7_feed 39 = .ok (.getfield 69, 3) := by decide +kernel
theorem dX7_feed_42 : decode cX7_feed 42 = .ok (.iconst 1, 1) := by decide +kernel
theorem dX7_feed_43 : decode cX7_feed 43 = .ok (.iadd, 1) := by decide +kernel
theorem dX7_feed_44 : decode cX7_feed 44 = .ok (.putfield 69, 3) := by decide +kernel
theorem dX7_feed_47 : decode cX7_feed 47 = .ok (.aload_n 0, 1) := by decide +kernel
theorem dX7_feed_48 : decode cX7_feed 48 = .ok (.getfield 69, 3) := by decide +kernel
theorem dX7_feed_51 : decode cX7_feed 51 = .ok (.ireturn, 1) := by decide +kernel
theorem dX7_byteAt_0 : decode cX7_byteAt 0 = .ok (.iload_n 1, 1) := by decide +kernel
theorem dX7_byteAt_1 : decode cX7_byteAt 1 = .ok (.aload_n 0, 1) := by decide +kernel
theorem dX7_byteAt_2 : decode cX7_byteAt 2 = .ok (.getfield 69, 3) := by decide +kernel
theorem dX7_byteAt_5 : decode cX7_byteAt 5 = .ok (.if_icmp .ge 12, 3) := by decide +kernel
theorem dX7_byteAt_8 : decode cX7_byteAt 8 = .ok (.aload_n 0, 1) := by decide +kernel
theorem dX7_byteAt_9 : decode cX7_byteAt 9 = .ok (.getfield 29, 3) := by decide +kernel
theorem dX7_byteAt_12 : decode cX7_byteAt 12 = .ok (.iload_n 1, 1) := by decide +kernel
theorem dX7_byteAt_13 : decode cX7_byteAt 13 = .ok (.iaload, 1) := by decide +kernel
theorem dX7_byteAt_14 : decode cX7_byteAt 14 = .ok (.goto 4, 3) := by decide +kernel
theorem dX7_byteAt_17 : decode cX7_byteAt 17 = .ok (.iconst (-1), 1) := by decide +kernel
theorem dX7_byteAt_18 : decode cX7_byteAt 18 = .ok (.ireturn, 1) := by decide +kernel
theorem dX7_fails_0 : decode cX7_fails 0 = .ok (.aload_n 0, 1) := by decide +kernel
theorem dX7_fails_1 : decode cX7_fails 1 = .ok (.iload_n 1, 1) := by decide +kernel
theorem dX7_fails_2 : decode cX7_fails 2 = .ok (.putfield 73, 3) := by decide +kernel
theorem dX7_fails_5 : decode cX7_fails 5 = .ok (.aload_n 0, 1) := by decide +kernel
theorem dX7_fails_6 : decode cX7_fails 6 = .ok (.iload_n 2, 1) := by decide +kernel
theorem dX7_fails_7 : decode cX7_fails 7 = .ok (.putfield 76, 3) := by decide +kernel
theorem dX7_fails_10 : decode cX7_fails 10 = .ok (.iconst 0, 1) := by decide +kernel
theorem dX7_fails_11 : decode cX7_fails 11 = .ok (.ireturn, 1) := by decide +kernel
theorem dX7_takes_0 : decode cX7_takes 0 = .ok (.aload_n 0, 1) := by decide +kernel
theorem dX7_takes_1 : decode cX7_takes 1 = .ok (.aload_n 0, 1) := by decide +kernel
theorem dX7_takes_2 : decode cX7_takes 2 = .ok (.getfield 79, 3) := by decide +kernel
theorem dX7_takes_5 : decode cX7_takes 5 = .ok (.invokevirtual 82, 3) := by decide +kernel
theorem dX7_takes_8 : decode cX7_takes 8 = .ok (.iload_n 1, 1) := by decide +kernel
theorem dX7_takes_9 : decode cX7_takes 9 = .ok (.if_icmp .eq 13, 3) := by decide +kernel
theorem dX7_takes_12 : decode cX7_takes 12 = .ok (.aload_n 0, 1) := by decide +kernel
theorem dX7_takes_13 : decode cX7_takes 13 = .ok (.iconst 1, 1) := by decide +kernel
theorem dX7_takes_14 : decode cX7_takes 14 = .ok (.aload_n 0, 1) := by decide +kernel
theorem dX7_takes_15 : decode cX7_takes 15 = .ok (.getfield 79, 3) := by decide +kernel
theorem dX7_takes_18 : decode cX7_takes 18 = .ok (.invokevirtual 85, 3) := by decide +kernel
theorem dX7_takes_21 : decode cX7_takes 21 = .ok (.ireturn, 1) := by decide +kernel
theorem dX7_takes_22 : decode cX7_takes 22 = .ok (.aload_n 0, 1) := by decide +kernel
theorem dX7_takes_23 : decode cX7_takes 23 = .ok (.dup, 1) := by decide +kernel
theorem dX7_takes_24 : decode cX7_takes 24 = .ok (.getfield 79, 3) := by decide +kernel
theorem dX7_takes_27 : decode cX7_takes 27 = .ok (.iconst 1, 1) := by decide +kernel
theorem dX7_takes_28 : decode cX7_takes 28 = .ok (.iadd, 1) := by decide +kernel
theorem dX7_takes_29 : decode cX7_takes 29 = .ok (.putfield 79, 3) := by decide +kernel
theorem dX7_takes_32 : decode cX7_takes 32 = .ok (.iconst 1, 1) := by decide +kernel
theorem dX7_takes_33 : decode cX7_takes 33 = .ok (.ireturn, 1) := by decide +kernel
theorem dX7_takesNumber_0 : decode cX7_takesNumber 0 = .ok (.aload_n 0, 1) := by decide +kernel
theorem dX7_takesNumber_1 : decode cX7_takesNumber 1 = .ok (.getfield 79, 3) := by decide +kernel
theorem dX7_takesNumber_4 : decode cX7_takesNumber 4 = .ok (.istore 4, 2) := by decide +kernel
theorem dX7_takesNumber_6 : decode cX7_takesNumber 6 = .ok (.aload_n 0, 1) := by decide +kernel
theorem dX7_takesNumber_7 : decode cX7_takesNumber 7 = .ok (.iconst 0, 1) := by decide +kernel
theorem dX7_takesNumber_8 : decode cX7_takesNumber 8 = .ok (.putfield 89, 3) := by decide +kernel
theorem dX7_takesNumber_11 : decode cX7_takesNumber 11 = .ok (.aload_n 0, 1) := by decide +kernel
theorem dX7_takesNumber_12 : decode cX7_takesNumber 12 = .ok (.aload_n 0, 1) := by decide +kernel
theorem dX7_takesNumber_13 : decode cX7_takesNumber 13 = .ok (.getfield 79, 3) := by decide +kernel
theorem dX7_takesNumber_16 : decode cX7_takesNumber 16 = .ok (.invokevirtual 82, 3) := by decide +kernel
theorem dX7_takesNumber_19 : decode cX7_takesNumber 19 = .ok (.i2l, 1) := by decide +kernel
theorem dX7_takesNumber_20 : decode cX7_takesNumber 20 = .ok (.ldc2_w 92, 3) := by decide +kernel
theorem dX7_takesNumber_23 : decode cX7_takesNumber 23 = .ok (.ldc2_w 94, 3) := by decide +kernel
theorem dX7_takesNumber_26 : decode cX7_takesNumber 26 = .ok (.invokestatic 45, 3) := by decide +kernel
theorem dX7_takesNumber_29 : decode cX7_takesNumber 29 = .ok (.ifCond .eq 57, 3) := by decide +kernel
theorem dX7_takesNumber_32 : decode cX7_takesNumber 32 = .ok (.aload_n 0, 1) := by decide +kernel
theorem dX7_takesNumber_33 : decode cX7_takesNumber 33 = .ok (.aload_n 0, 1) := by decide +kernel
theorem dX7_takesNumber_34 : decode cX7_takesNumber 34 = .ok (.getfield 79, 3) := by decide +kernel
theorem dX7_takesNumber_37 : decode cX7_takesNumber 37 = .ok (.iload 4, 2) := by decide +kernel
theorem dX7_takesNumber_39 : decode cX7_takesNumber 39 = .ok (.isub, 1) := by decide +kernel
theorem dX7_takesNumber_40 : decode cX7_takesNumber 40 = .ok (.iconst 2, 1) := by decide +kernel
theorem dX7_takesNumber_41 : decode cX7_takesNumber 41 = .ok (.if_icmp .ge 25, 3) := by decide +kernel
theorem dX7_takesNumber_44 : decode cX7_takesNumber 44 = .ok (.bipush 10, 2) := by decide +kernel
theorem dX7_takesNumber_46 : decode cX7_takesNumber 46 = .ok (.aload_n 0, 1) := by decide +kernel
theorem dX7_takesNumber_47 : decode cX7_takesNumber 47 = .ok (.getfield 89, 3) := by decide +kernel
theorem dX7_takesNumber_50 : decode cX7_takesNumber 50 = .ok (.imul, 1) := by decide +kernel
theorem dX7_takesNumber_51 : decode cX7_takesNumber 51 = .ok (.aload_n 0, 1) := by decide +kernel
theorem dX7_takesNumber_52 : decode cX7_takesNumber 52 = .ok (.aload_n 0, 1) := by decide +kernel
theorem dX7_takesNumber_53 : decode cX7_takesNumber 53 = .ok (.getfield 79, 3) := by decide +kernel
theorem dX7_takesNumber_56 : decode cX7_takesNumber 56 = .ok (.invokevirtual 82, 3) := by decide +kernel
theorem dX7_takesNumber_59 : decode cX7_takesNumber 59 = .ok (.iadd, 1) := by decide +kernel
theorem dX7_takesNumber_60 : decode cX7_takesNumber 60 = .ok (.bipush 48, 2) := by decide +kernel
theorem dX7_takesNumber_62 : decode cX7_takesNumber 62 = .ok (.isub, 1) := by decide +kernel
theorem dX7_takesNumber_63 : decode cX7_takesNumber 63 = .ok (.goto 7, 3) := by decide +kernel
theorem dX7_takesNumber_66 : decode cX7_takesNumber 66 = .ok (.aload_n 0, 1) := by decide +kernel
theorem dX7_takesNumber_67 : decode cX7_takesNumber 67 = .ok (.getfield 89, 3) := by decide +kernel
theorem dX7_takesNumber_70 : decode cX7_takesNumber 70 = .ok (.putfield 89, 3) := by decide +kernel
theorem dX7_takesNumber_73 : decode cX7_takesNumber 73 = .ok (.aload_n 0, 1) := by decide +kernel
theorem dX7_takesNumber_74 : decode cX7_takesNumber 74 = .ok (.dup, 1) := by decide +kernel
theorem dX7_takesNumber_75 : decode cX7_takesNumber 75 = .ok (.getfield 79, 3) := by decide +kernel
theorem dX7_takesNumber_78 : decode cX7_takesNumber 78 = .ok (.iconst 1, 1) := by decide +kernel
theorem dX7_takesNumber_79 : decode cX7_takesNumber 79 = .ok (.iadd, 1) := by decide +kernel
theorem dX7_takesNumber_80 : decode cX7_takesNumber 80 = .ok (.putfield 79, 3) := by decide +kernel
theorem dX7_takesNumber_83 : decode cX7_takesNumber 83 = .ok (.goto (-72), 3) := by decide +kernel
theorem dX7_takesNumber_86 : decode cX7_takesNumber 86 = .ok (.aload_n 0, 1) := by decide +kernel
theorem dX7_takesNumber_87 : decode cX7_takesNumber 87 = .ok (.getfield 79, 3) := by decide +kernel
theorem dX7_takesNumber_90 : decode cX7_takesNumber 90 = .ok (.iload 4, 2) := by decide +kernel
theorem dX7_takesNumber_92 : decode cX7_takesNumber 92 = .ok (.if_icmp .eq 14, 3) := by decide +kernel
theorem dX7_takesNumber_95 : decode cX7_takesNumber 95 = .ok (.aload_n 0, 1) := by decide +kernel
theorem dX7_takesNumber_96 : decode cX7_takesNumber 96 = .ok (.getfield 79, 3) := by decide +kernel
theorem dX7_takesNumber_99 : decode cX7_takesNumber 99 = .ok (.iload 4, 2) := by decide +kernel
theorem dX7_takesNumber_101 : decode cX7_takesNumber 101 = .ok (.isub, 1) := by decide +kernel
theorem dX7_takesNumber_102 : decode cX7_takesNumber 102 = .ok (.iconst 2, 1) := by decide +kernel
theorem dX7_takesNumber_103 : decode cX7_takesNumber 103 = .ok (.if_icmp .le 11, 3) := by decide +kernel
theorem dX7_takesNumber_106 : decode cX7_takesNumber 106 = .ok (.aload_n 0, 1) := by decide +kernel
theorem dX7_takesNumber_107 : decode cX7_takesNumber 107 = .ok (.iconst 1, 1) := by decide +kernel
theorem dX7_takesNumber_108 : decode cX7_takesNumber 108 = .ok (.iload 4, 2) := by decide +kernel
theorem dX7_takesNumber_110 : decode cX7_takesNumber 110 = .ok (.invokevirtual 85, 3) := by decide +kernel
theorem dX7_takesNumber_113 : decode cX7_takesNumber 113 = .ok (.ireturn, 1) := by decide +kernel
theorem dX7_takesNumber_114 : decode cX7_takesNumber 114 = .ok (.aload_n 0, 1) := by decide +kernel
theorem dX7_takesNumber_115 : decode cX7_takesNumber 115 = .ok (.getfield 89, 3) := by decide +kernel
theorem dX7_takesNumber_118 : decode cX7_takesNumber 118 = .ok (.i2l, 1) := by decide +kernel
theorem dX7_takesNumber_119 : decode cX7_takesNumber 119 = .ok (.iload_n 1, 1) := by decide +kernel
theorem dX7_takesNumber_120 : decode cX7_takesNumber 120 = .ok (.i2l, 1) := by decide +kernel
theorem dX7_takesNumber_121 : decode cX7_takesNumber 121 = .ok (.iload_n 2, 1) := by decide +kernel
theorem dX7_takesNumber_122 : decode cX7_takesNumber 122 = .ok (.i2l, 1) := by decide +kernel
theorem dX7_takesNumber_123 : decode cX7_takesNumber 123 = .ok (.invokestatic 45, 3) := by decide +kernel
theorem dX7_takesNumber_126 : decode cX7_takesNumber 126 = .ok (.ifCond .eq 11, 3) := by decide +kernel
theorem dX7_takesNumber_129 : decode cX7_takesNumber 129 = .ok (.aload_n 0, 1) := by decide +kernel
theorem dX7_takesNumber_130 : decode cX7_takesNumber 130 = .ok (.iload_n 3, 1) := by decide +kernel
theorem dX7_takesNumber_131 : decode cX7_takesNumber 131 = .ok (.invokevirtual 96, 3) := by decide +kernel
theorem dX7_takesNumber_134 : decode cX7_takesNumber 134 = .ok (.goto 10, 3) := by decide +kernel
theorem dX7_takesNumber_137 : decode cX7_takesNumber 137 = .ok (.aload_n 0, 1) := by decide +kernel
theorem dX7_takesNumber_138 : decode cX7_takesNumber 138 = .ok (.iconst 2, 1) := by decide +kernel
theorem dX7_takesNumber_139 : decode cX7_takesNumber 139 = .ok (.iload 4, 2) := by decide +kernel
theorem dX7_takesNumber_141 : decode cX7_takesNumber 141 = .ok (.invokevirtual 85, 3) := by decide +kernel
theorem dX7_takesNumber_144 : decode cX7_takesNumber 144 = .ok (.ireturn, 1) := by decide +kernel
theorem dX7_takesLaw_0 : decode cX7_takesLaw 0 = .ok (.iconst 0, 1) := by decide +kernel
theorem dX7_takesLaw_1 : decode cX7_takesLaw 1 = .ok (.istore_n 1, 1) := by decide +kernel
theorem dX7_takesLaw_2 : decode cX7_takesLaw 2 = .ok (.iload_n 1, 1) := by decide +kernel
theorem dX7_takesLaw_3 : decode cX7_takesLaw 3 = .ok (.bipush 36, 2) := by decide +kernel
theorem dX7_takesLaw_5 : decode cX7_takesLaw 5 = .ok (.if_icmp .ge 19, 3) := by decide +kernel
theorem dX7_takesLaw_8 : decode cX7_takesLaw 8 = .ok (.aload_n 0, 1) := by decide +kernel
theorem dX7_takesLaw_9 : decode cX7_takesLaw 9 = .ok (.getfield 7, 3) := by decide +kernel
theorem dX7_takesLaw_12 : decode cX7_takesLaw 12 = .ok (.bipush 108, 2) := by decide +kernel
theorem dX7_takesLaw_14 : decode cX7_takesLaw 14 = .ok (.iload_n 1, 1) := by decide +kernel
theorem dX7_takesLaw_15 : decode cX7_takesLaw 15 = .ok (.iadd, 1) := by decide +kernel
theorem dX7_takesLaw_16 : decode cX7_takesLaw 16 = .ok (.iconst 0, 1) := by decide +kernel
theorem dX7_takesLaw_17 : decode cX7_takesLaw 17 = .ok (.iastore, 1) := by decide +kernel
theorem dX7_takesLaw_18 : decode cX7_takesLaw 18 = .ok (.iinc 1 1, 3) := by decide +kernel
theorem dX7_takesLaw_21 : decode cX7_takesLaw 21 = .ok (.goto (-19), 3) := by decide +kernel
theorem dX7_takesLaw_24 : decode cX7_takesLaw 24 = .ok (.aload_n 0, 1) := by decide +kernel
theorem dX7_takesLaw_25 : decode cX7_takesLaw 25 = .ok (.getfield 7, 3) := by decide +kernel
theorem dX7_takesLaw_28 : decode cX7_takesLaw 28 = .ok (.bipush 126, 2) := by decide +kernel
theorem dX7_takesLaw_30 : decode cX7_takesLaw 30 = .ok (.iconst 1, 1) := by decide +kernel
theorem dX7_takesLaw_31 : decode cX7_takesLaw 31 = .ok (.iastore, 1) := by decide +kernel
theorem dX7_takesLaw_32 : decode cX7_takesLaw 32 = .ok (.aload_n 0, 1) := by decide +kernel
theorem dX7_takesLaw_33 : decode cX7_takesLaw 33 = .ok (.bipush 108, 2) := by decide +kernel
theorem dX7_takesLaw_35 : decode cX7_takesLaw 35 = .ok (.invokevirtual 96, 3) := by decide +kernel
theorem dX7_takesLaw_38 : decode cX7_takesLaw 38 = .ok (.ifCond .eq 15, 3) := by decide +kernel
theorem dX7_takesLaw_41 : decode cX7_takesLaw 41 = .ok (.aload_n 0, 1) := by decide +kernel
theorem dX7_takesLaw_42 : decode cX7_takesLaw 42 = .ok (.iconst 0, 1) := by decide +kernel
theorem dX7_takesLaw_43 : decode cX7_takesLaw 43 = .ok (.bipush 20, 2) := by decide +kernel
theorem dX7_takesLaw_45 : decode cX7_takesLaw 45 = .ok (.bipush 44, 2) := by decide +kernel
theorem dX7_takesLaw_47 : decode cX7_takesLaw 47 = .ok (.invokevirtual 99, 3) := by decide +kernel
theorem dX7_takesLaw_50 : decode cX7_takesLaw 50 = .ok (.ifCond .ne 5, 3) := by decide +kernel
theorem dX7_takesLaw_53 : decode cX7_takesLaw 53 = .ok (.iconst 0, 1) := by decide +kernel
theorem dX7_takesLaw_54 : decode cX7_takesLaw 54 = .ok (.ireturn, 1) := by decide +kernel
theorem dX7_takesLaw_55 : decode cX7_takesLaw 55 = .ok (.aload_n 0, 1) := by decide +kernel
theorem dX7_takesLaw_56 : decode cX7_takesLaw 56 = .ok (.getfield 7, 3) := by decide +kernel
theorem dX7_takesLaw_59 : decode cX7_takesLaw 59 = .ok (.bipush 127, 2) := by decide +kernel
theorem dX7_takesLaw_61 : decode cX7_takesLaw 61 = .ok (.aload_n 0, 1) := by decide +kernel
theorem dX7_takesLaw_62 : decode cX7_takesLaw 62 = .ok (.getfield 89, 3) := by decide +kernel
theorem dX7_takesLaw_65 : decode cX7_takesLaw 65 = .ok (.iastore, 1) := by decide +kernel
theorem dX7_takesLaw_66 : decode cX7_takesLaw 66 = .ok (.aload_n 0, 1) := by decide +kernel
theorem dX7_takesLaw_67 : decode cX7_takesLaw 67 = .ok (.iconst 0, 1) := by decide +kernel
theorem dX7_takesLaw_68 : decode cX7_takesLaw 68 = .ok (.bipush 6, 2) := by decide +kernel
theorem dX7_takesLaw_70 : decode cX7_takesLaw 70 = .ok (.bipush 59, 2) := by decide +kernel
theorem dX7_takesLaw_72 : decode cX7_takesLaw 72 = .ok (.invokevirtual 99, 3) := by decide +kernel
theorem dX7_takesLaw_75 : decode cX7_takesLaw 75 = .ok (.ifCond .ne 5, 3) := by decide +kernel
theorem dX7_takesLaw_78 : decode cX7_takesLaw 78 = .ok (.iconst 0, 1) := by decide +kernel
theorem dX7_takesLaw_79 : decode cX7_takesLaw 79 = .ok (.ireturn, 1) := by decide +kernel
theorem dX7_takesLaw_80 : decode cX7_takesLaw 80 = .ok (.aload_n 0, 1) := by decide +kernel
theorem dX7_takesLaw_81 : decode cX7_takesLaw 81 = .ok (.getfield 7, 3) := by decide +kernel
theorem dX7_takesLaw_84 : decode cX7_takesLaw 84 = .ok (.sipush 128, 3) := by decide +kernel
theorem dX7_takesLaw_87 : decode cX7_takesLaw 87 = .ok (.aload_n 0, 1) := by decide +kernel
theorem dX7_takesLaw_88 : decode cX7_takesLaw 88 = .ok (.getfield 89, 3) := by decide +kernel
theorem dX7_takesLaw_91 : decode cX7_takesLaw 91 = .ok (.iastore, 1) := by decide +kernel
theorem dX7_takesLaw_92 : decode cX7_takesLaw 92 = .ok (.iconst 1, 1) := by decide +kernel
theorem dX7_takesLaw_93 : decode cX7_takesLaw 93 = .ok (.ireturn, 1) := by decide +kernel
theorem dX7_takesClient_0 : decode cX7_takesClient 0 = .ok (.aload_n 0, 1) := by decide +kernel
theorem dX7_takesClient_1 : decode cX7_takesClient 1 = .ok (.getfield 7, 3) := by decide +kernel
theorem dX7_takesClient_4 : decode cX7_takesClient 4 = .ok (.sipush 129, 3) := by decide +kernel
theorem dX7_takesClient_7 : decode cX7_takesClient 7 = .ok (.iaload, 1) := by decide +kernel
theorem dX7_takesClient_8 : decode cX7_takesClient 8 = .ok (.istore_n 1, 1) := by decide +kernel
theorem dX7_takesClient_9 : decode cX7_takesClient 9 = .ok (.iload_n 1, 1) := by decide +kernel
theorem dX7_takesClient_10 : decode cX7_takesClient 10 = .ok (.iconst 5, 1) := by decide +kernel
theorem dX7_takesClient_11 : decode cX7_takesClient 11 = .ok (.if_icmp .ne 13, 3) := by decide +kernel
theorem dX7_takesClient_14 : decode cX7_takesClient 14 = .ok (.aload_n 0, 1) := by decide +kernel
theorem dX7_takesClient_15 : decode cX7_takesClient 15 = .ok (.iconst 3, 1) := by decide +kernel
theorem dX7_takesClient_16 : decode cX7_takesClient 16 = .ok (.aload_n 0, 1) := by decide +kernel
theorem dX7_takesClient_17 : decode cX7_takesClient 17 = .ok (.getfield 79, 3) := by decide +kernel
theorem dX7_takesClient_20 : decode cX7_takesClient 20 = .ok (.invokevirtual 85, 3) := by decide +kernel
theorem dX7_takesClient_23 : decode cX7_takesClient 23 = .ok (.ireturn, 1) := by decide +kernel
theorem dX7_takesClient_24 : decode cX7_takesClient 24 = .ok (.aload_n 0, 1) := by decide +kernel
theorem dX7_takesClient_25 : decode cX7_takesClient 25 = .ok (.dup, 1) := by decide +kernel
theorem dX7_takesClient_26 : decode cX7_takesClient 26 = .ok (.getfield 79, 3) := by decide +kernel
theorem dX7_takesClient_29 : decode cX7_takesClient 29 = .ok (.iconst 1, 1) := by decide +kernel
theorem dX7_takesClient_30 : decode cX7_takesClient 30 = .ok (.iadd, 1) := by decide +kernel
theorem dX7_takesClient_31 : decode cX7_takesClient 31 = .ok (.putfield 79, 3) := by decide +kernel
theorem dX7_takesClient_34 : decode cX7_takesClient 34 = .ok (.aload_n 0, 1) := by decide +kernel
theorem dX7_takesClient_35 : decode cX7_takesClient 35 = .ok (.iconst 0, 1) := by decide +kernel
theorem dX7_takesClient_36 : decode cX7_takesClient 36 = .ok (.bipush 40, 2) := by decide +kernel
theorem dX7_takesClient_38 : decode cX7_takesClient 38 = .ok (.bipush 44, 2) := by decide +kernel
theorem dX7_takesClient_40 : decode cX7_takesClient 40 = .ok (.invokevirtual 99, 3) := by decide +kernel
theorem dX7_takesClient_43 : decode cX7_takesClient 43 = .ok (.ifCond .ne 5, 3) := by decide +kernel
theorem dX7_takesClient_46 : decode cX7_takesClient 46 = .ok (.iconst 0, 1) := by decide +kernel
theorem dX7_takesClient_47 : decode cX7_takesClient 47 = .ok (.ireturn, 1) := by decide +kernel
theorem dX7_takesClient_48 : decode cX7_takesClient 48 = .ok (.aload_n 0, 1) := by decide +kernel
theorem dX7_takesClient_49 : decode cX7_takesClient 49 = .ok (.getfield 7, 3) := by decide +kernel
theorem dX7_takesClient_52 : decode cX7_takesClient 52 = .ok (.bipush 109, 2) := by decide +kernel
theorem dX7_takesClient_54 : decode cX7_takesClient 54 = .ok (.iload_n 1, 1) := by decide +kernel
theorem dX7_takesClient_55 : decode cX7_takesClient 55 = .ok (.iadd, 1) := by decide +kernel
theorem dX7_takesClient_56 : decode cX7_takesClient 56 = .ok (.aload_n 0, 1) := by decide +kernel
theorem dX7_takesClient_57 : decode cX7_takesClient 57 = .ok (.getfield 89, 3) := by decide +kernel
theorem dX7_takesClient_60 : decode cX7_takesClient 60 = .ok (.iastore, 1) := by decide +kernel
theorem dX7_takesClient_61 : decode cX7_takesClient 61 = .ok (.aload_n 0, 1) := by decide +kernel
theorem dX7_takesClient_62 : decode cX7_takesClient 62 = .ok (.iconst 0, 1) := by decide +kernel
theorem dX7_takesClient_63 : decode cX7_takesClient 63 = .ok (.iconst 5, 1) := by decide +kernel
theorem dX7_takesClient_64 : decode cX7_takesClient 64 = .ok (.bipush 59, 2) := by decide +kernel
theorem dX7_takesClient_66 : decode cX7_takesClient 66 = .ok (.invokevirtual 99, 3) := by decide +kernel
theorem dX7_takesClient_69 : decode cX7_takesClient 69 = .ok (.ifCond .ne 5, 3) := by decide +kernel
theorem dX7_takesClient_72 : decode cX7_takesClient 72 = .ok (.iconst 0, 1) := by decide +kernel
theorem dX7_takesClient_73 : decode cX7_takesClient 73 = .ok (.ireturn, 1) := by decide +kernel
theorem dX7_takesClient_74 : decode cX7_takesClient 74 = .ok (.aload_n 0, 1) := by decide +kernel
theorem dX7_takesClient_75 : decode cX7_takesClient 75 = .ok (.getfield 7, 3) := by decide +kernel
theorem dX7_takesClient_78 : decode cX7_takesClient 78 = .ok (.sipush 131, 3) := by decide +kernel
theorem dX7_takesClient_81 : decode cX7_takesClient 81 = .ok (.iload_n 1, 1) := by decide +kernel
theorem dX7_takesClient_82 : decode cX7_takesClient 82 = .ok (.iadd, 1) := by decide +kernel
theorem dX7_takesClient_83 : decode cX7_takesClient 83 = .ok (.aload_n 0, 1) := by decide +kernel
theorem dX7_takesClient_84 : decode cX7_takesClient 84 = .ok (.getfield 89, 3) := by decide +kernel
theorem dX7_takesClient_87 : decode cX7_takesClient 87 = .ok (.iastore, 1) := by decide +kernel
theorem dX7_takesClient_88 : decode cX7_takesClient 88 = .ok (.aload_n 0, 1) := by decide +kernel
theorem dX7_takesClient_89 : decode cX7_takesClient 89 = .ok (.getfield 7, 3) := by decide +kernel
theorem dX7_takesClient_92 : decode cX7_takesClient 92 = .ok (.sipush 129, 3) := by decide +kernel
theorem dX7_takesClient_95 : decode cX7_takesClient 95 = .ok (.dup2, 1) := by decide +kernel
theorem dX7_takesClient_96 : decode cX7_takesClient 96 = .ok (.iaload, 1) := by decide +kernel
theorem dX7_takesClient_97 : decode cX7_takesClient 97 = .ok (.iconst 1, 1) := by decide +kernel
theorem dX7_takesClient_98 : decode cX7_takesClient 98 = .ok (.iadd, 1) := by decide +kernel
theorem dX7_takesClient_99 : decode cX7_takesClient 99 = .ok (.iastore, 1) := by decide +kernel
theorem dX7_takesClient_100 : decode cX7_takesClient 100 = .ok (.iconst 1, 1) := by decide +kernel
theorem dX7_takesClient_101 : decode cX7_takesClient 101 = .ok (.ireturn, 1) := by decide +kernel
theorem dX7_kindOf_0 : decode cX7_kindOf 0 = .ok (.iload_n 0, 1) := by decide +kernel
theorem dX7_kindOf_1 : decode cX7_kindOf 1 = .ok (.bipush 111, 2) := by decide +kernel
theorem dX7_kindOf_3 : decode cX7_kindOf 3 = .ok (.if_icmp .ne 7, 3) := by decide +kernel
theorem dX7_kindOf_6 : decode cX7_kindOf 6 = .ok (.iconst 1, 1) := by decide +kernel
theorem dX7_kindOf_7 : decode cX7_kindOf 7 = .ok (.goto 44, 3) := by decide +kernel
theorem dX7_kindOf_10 : decode cX7_kindOf 10 = .ok (.iload_n 0, 1) := by decide +kernel
theorem dX7_kindOf_11 : decode cX7_kindOf 11 = .ok (.bipush 99, 2) := by decide +kernel
theorem dX7_kindOf_13 : decode cX7_kindOf 13 = .ok (.if_icmp .ne 7, 3) := by decide +kernel
theorem dX7_kindOf_16 : decode cX7_kindOf 16 = .ok (.iconst 2, 1) := by decide +kernel
theorem dX7_kindOf_17 : decode cX7_kindOf 17 = .ok (.goto 34, 3) := by decide +kernel
theorem dX7_kindOf_20 : decode cX7_kindOf 20 = .ok (.iload_n 0, 1) := by decide +kernel
theorem dX7_kindOf_21 : decode cX7_kindOf 21 = .ok (.bipush 109, 2) := by decide +kernel
theorem dX7_kindOf_23 : decode cX7_kindOf 23 = .ok (.if_icmp .ne 7, 3) := by decide +kernel
theorem dX7_kindOf_26 : decode cX7_kindOf 26 = .ok (.iconst 3, 1) := by decide +kernel
theorem dX7_kindOf_27 : decode cX7_kindOf 27 = .ok (.goto 24, 3) := by decide +kernel
theorem dX7_kindOf_30 : decode cX7_kindOf 30 = .ok (.iload_n 0, 1) := by decide +kernel
theorem dX7_kindOf_31 : decode cX7_kindOf 31 = .ok (.bipush 103, 2) := by decide +kernel
theorem dX7_kindOf_33 : decode cX7_kindOf 33 = .ok (.if_icmp .ne 7, 3) := by decide +kernel
theorem dX7_kindOf_36 : decode cX7_kindOf 36 = .ok (.iconst 4, 1) := by decide +kernel
theorem dX7_kindOf_37 : decode cX7_kindOf 37 = .ok (.goto 14, 3) := by decide +kernel
theorem dX7_kindOf_40 : decode cX7_kindOf 40 = .ok (.iload_n 0, 1) := by decide +kernel
theorem dX7_kindOf_41 : decode cX7_kindOf 41 = .ok (.bipush 110, 2) := by decide +kernel
theorem dX7_kindOf_43 : decode cX7_kindOf 43 = .ok (.if_icmp .ne 7, 3) := by decide +kernel
theorem dX7_kindOf_46 : decode cX7_kindOf 46 = .ok (.iconst 5, 1) := by decide +kernel
theorem dX7_kindOf_47 : decode cX7_kindOf 47 = .ok (.goto 4, 3) := by decide +kernel
theorem dX7_kindOf_50 : decode cX7_kindOf 50 = .ok (.iconst 0, 1) := by decide +kernel
theorem dX7_kindOf_51 : decode cX7_kindOf 51 = .ok (.ireturn, 1) := by decide +kernel
theorem dX7_takesWaker_0 : decode cX7_takesWaker 0 = .ok (.aload_n 0, 1) := by decide +kernel
theorem dX7_takesWaker_1 : decode cX7_takesWaker 1 = .ok (.getfield 7, 3) := by decide +kernel
theorem dX7_takesWaker_4 : decode cX7_takesWaker 4 = .ok (.sipush 130, 3) := by decide +kernel
theorem dX7_takesWaker_7 : decode cX7_takesWaker 7 = .ok (.iaload, 1) := by decide +kernel
theorem dX7_takesWaker_8 : decode cX7_takesWaker 8 = .ok (.istore_n 2, 1) := by decide +kernel
theorem dX7_takesWaker_9 : decode cX7_takesWaker 9 = .ok (.iload_n 2, 1) := by decide +kernel
theorem dX7_takesWaker_10 : decode cX7_takesWaker 10 = .ok (.iconst 4, 1) := by decide +kernel
theorem dX7_takesWaker_11 : decode cX7_takesWaker 11 = .ok (.if_icmp .ne 13, 3) := by decide +kernel
theorem dX7_takesWaker_14 : decode cX7_takesWaker 14 = .ok (.aload_n 0, 1) := by decide +kernel
theorem dX7_takesWaker_15 : decode cX7_takesWaker 15 = .ok (.iconst 3, 1) := by decide +kernel
theorem dX7_takesWaker_16 : decode cX7_takesWaker 16 = .ok (.aload_n 0, 1) := by decide +kernel
theorem dX7_takesWaker_17 : decode cX7_takesWaker 17 = .ok (.getfield 79, 3) := by decide +kernel
theorem dX7_takesWaker_20 : decode cX7_takesWaker 20 = .ok (.invokevirtual 85, 3) := by decide +kernel
theorem dX7_takesWaker_23 : decode cX7_takesWaker 23 = .ok (.ireturn, 1) := by decide +kernel
theorem dX7_takesWaker_24 : decode cX7_takesWaker 24 = .ok (.aload_n 0, 1) := by decide +kernel
theorem dX7_takesWaker_25 : decode cX7_takesWaker 25 = .ok (.dup, 1) := by decide +kernel
theorem dX7_takesWaker_26 : decode cX7_takesWaker 26 = .ok (.getfield 79, 3) := by decide +kernel
theorem dX7_takesWaker_29 : decode cX7_takesWaker 29 = .ok (.iconst 1, 1) := by decide +kernel
theorem dX7_takesWaker_30 : decode cX7_takesWaker 30 = .ok (.iadd, 1) := by decide +kernel
theorem dX7_takesWaker_31 : decode cX7_takesWaker 31 = .ok (.putfield 79, 3) := by decide +kernel
theorem dX7_takesWaker_34 : decode cX7_takesWaker 34 = .ok (.aload_n 0, 1) := by decide +kernel
theorem dX7_takesWaker_35 : decode cX7_takesWaker 35 = .ok (.getfield 7, 3) := by decide +kernel
theorem dX7_takesWaker_38 : decode cX7_takesWaker 38 = .ok (.sipush 136, 3) := by decide +kernel
theorem dX7_takesWaker_41 : decode cX7_takesWaker 41 = .ok (.iload_n 2, 1) := by decide +kernel
theorem dX7_takesWaker_42 : decode cX7_takesWaker 42 = .ok (.iadd, 1) := by decide +kernel
theorem dX7_takesWaker_43 : decode cX7_takesWaker 43 = .ok (.iload_n 1, 1) := by decide +kernel
theorem dX7_takesWaker_44 : decode cX7_takesWaker 44 = .ok (.iastore, 1) := by decide +kernel
theorem dX7_takesWaker_45 : decode cX7_takesWaker 45 = .ok (.aload_n 0, 1) := by decide +kernel
theorem dX7_takesWaker_46 : decode cX7_takesWaker 46 = .ok (.iconst 0, 1) := by decide +kernel
theorem dX7_takesWaker_47 : decode cX7_takesWaker 47 = .ok (.bipush 9, 2) := by decide +kernel
theorem dX7_takesWaker_49 : decode cX7_takesWaker 49 = .ok (.bipush 44, 2) := by decide +kernel
theorem dX7_takesWaker_51 : decode cX7_takesWaker 51 = .ok (.invokevirtual 99, 3) := by decide +kernel
theorem dX7_takesWaker_54 : decode cX7_takesWaker 54 = .ok (.ifCond .ne 5, 3) := by decide +kernel
theorem dX7_takesWaker_57 : decode cX7_takesWaker 57 = .ok (.iconst 0, 1) := by decide +kernel
theorem dX7_takesWaker_58 : decode cX7_takesWaker 58 = .ok (.ireturn, 1) := by decide +kernel
theorem dX7_takesWaker_59 : decode cX7_takesWaker 59 = .ok (.aload_n 0, 1) := by decide +kernel
theorem dX7_takesWaker_60 : decode cX7_takesWaker 60 = .ok (.getfield 7, 3) := by decide +kernel
theorem dX7_takesWaker_63 : decode cX7_takesWaker 63 = .ok (.sipush 140, 3) := by decide +kernel
theorem dX7_takesWaker_66 : decode cX7_takesWaker 66 = .ok (.iload_n 2, 1) := by decide +kernel
theorem dX7_takesWaker_67 : decode cX7_takesWaker 67 = .ok (.iadd, 1) := by decide +kernel
theorem dX7_takesWaker_68 : decode cX7_takesWaker 68 = .ok (.aload_n 0, 1) := by decide +kernel
theorem dX7_takesWaker_69 : decode cX7_takesWaker 69 = .ok (.getfield 89, 3) := by decide +kernel
theorem dX7_takesWaker_72 : decode cX7_takesWaker 72 = .ok (.iastore, 1) := by decide +kernel
theorem dX7_takesWaker_73 : decode cX7_takesWaker 73 = .ok (.aload_n 0, 1) := by decide +kernel
theorem dX7_takesWaker_74 : decode cX7_takesWaker 74 = .ok (.iconst 0, 1) := by decide +kernel
theorem dX7_takesWaker_75 : decode cX7_takesWaker 75 = .ok (.iconst 5, 1) := by decide +kernel
theorem dX7_takesWaker_76 : decode cX7_takesWaker 76 = .ok (.bipush 44, 2) := by decide +kernel
theorem dX7_takesWaker_78 : decode cX7_takesWaker 78 = .ok (.invokevirtual 99, 3) := by decide +kernel
theorem dX7_takesWaker_81 : decode cX7_takesWaker 81 = .ok (.ifCond .ne 5, 3) := by decide +kernel
theorem dX7_takesWaker_84 : decode cX7_takesWaker 84 = .ok (.iconst 0, 1) := by decide +kernel
theorem dX7_takesWaker_85 : decode cX7_takesWaker 85 = .ok (.ireturn, 1) := by decide +kernel
theorem dX7_takesWaker_86 : decode cX7_takesWaker 86 = .ok (.aload_n 0, 1) := by decide +kernel
theorem dX7_takesWaker_87 : decode cX7_takesWaker 87 = .ok (.getfield 7, 3) := by decide +kernel
theorem dX7_takesWaker_90 : decode cX7_takesWaker 90 = .ok (.bipush 114, 2) := by decide +kernel
theorem dX7_takesWaker_92 : decode cX7_takesWaker 92 = .ok (.iload_n 2, 1) := by decide +kernel
theorem dX7_takesWaker_93 : decode cX7_takesWaker 93 = .ok (.iadd, 1) := by decide +kernel
theorem dX7_takesWaker_94 : decode cX7_takesWaker 94 = .ok (.aload_n 0, 1) := by decide +kernel
theorem dX7_takesWaker_95 : decode cX7_takesWaker 95 = .ok (.getfield 89, 3) := by decide +kernel
theorem dX7_takesWaker_98 : decode cX7_takesWaker 98 = .ok (.iastore, 1) := by decide +kernel
theorem dX7_takesWaker_99 : decode cX7_takesWaker 99 = .ok (.aload_n 0, 1) := by decide +kernel
theorem dX7_takesWaker_100 : decode cX7_takesWaker 100 = .ok (.getfield 79, 3) := by decide +kernel
theorem dX7_takesWaker_103 : decode cX7_takesWaker 103 = .ok (.istore_n 3, 1) := by decide +kernel
theorem dX7_takesWaker_104 : decode cX7_takesWaker 104 = .ok (.iconst 0, 1) := by decide +kernel
theorem dX7_takesWaker_105 : decode cX7_takesWaker 105 = .ok (.istore 4, 2) := by decide +kernel
theorem dX7_takesWaker_107 : decode cX7_takesWaker 107 = .ok (.iconst 0, 1) := by decide +kernel
theorem dX7_takesWaker_108 : decode cX7_takesWaker 108 = .ok (.istore 5, 2) := by decide +kernel
theorem dX7_takesWaker_110 : decode cX7_takesWaker 110 = .ok (.aload_n 0, 1) := by decide +kernel
theorem dX7_takesWaker_111 : decode cX7_takesWaker 111 = .ok (.iload_n 3, 1) := by decide +kernel
theorem dX7_takesWaker_112 : decode cX7_takesWaker 112 = .ok (.iload 4, 2) := by decide +kernel
theorem dX7_takesWaker_114 : decode cX7_takesWaker 114 = .ok (.iadd, 1) := by decide +kernel
theorem dX7_takesWaker_115 : decode cX7_takesWaker 115 = .ok (.invokevirtual 82, 3) := by decide +kernel
theorem dX7_takesWaker_118 : decode cX7_takesWaker 118 = .ok (.i2l, 1) := by decide +kernel
theorem dX7_takesWaker_119 : decode cX7_takesWaker 119 = .ok (.ldc2_w 92, 3) := by decide +kernel
theorem dX7_takesWaker_122 : decode cX7_takesWaker 122 = .ok (.ldc2_w 94, 3) := by decide +kernel
theorem dX7_takesWaker_125 : decode cX7_takesWaker 125 = .ok (.invokestatic 45, 3) := by decide +kernel
theorem dX7_takesWaker_128 : decode cX7_takesWaker 128 = .ok (.ifCond .eq 34, 3) := by decide +kernel
theorem dX7_takesWaker_131 : decode cX7_takesWaker 131 = .ok (.iload 4, 2) := by decide +kernel
theorem dX7_takesWaker_133 : decode cX7_takesWaker 133 = .ok (.iconst 3, 1) := by decide +kernel
theorem dX7_takesWaker_134 : decode cX7_takesWaker 134 = .ok (.if_icmp .ge 28, 3) := by decide +kernel
theorem dX7_takesWaker_137 : decode cX7_takesWaker 137 = .ok (.bipush 10, 2) := by decide +kernel
theorem dX7_takesWaker_139 : decode cX7_takesWaker 139 = .ok (.iload 5, 2) := by decide +kernel
theorem dX7_takesWaker_141 : decode cX7_takesWaker 141 = .ok (.imul, 1) := by decide +kernel
theorem dX7_takesWaker_142 : decode cX7_takesWaker 142 = .ok (.aload_n 0, 1) := by decide +kernel
theorem dX7_takesWaker_143 : decode cX7_takesWaker 143 = .ok (.iload_n 3, 1) := by decide +kernel
theorem dX7_takesWaker_144 : decode cX7_takesWaker 144 = .ok (.iload 4, 2) := by decide +kernel
theorem dX7_takesWaker_146 : decode cX7_takesWaker 146 = .ok (.iadd, 1) := by decide +kernel
theorem dX7_takesWaker_147 : decode cX7_takesWaker 147 = .ok (.invokevirtual 82, 3) := by decide +kernel
theorem dX7_takesWaker_150 : decode cX7_takesWaker 150 = .ok (.iadd, 1) := by decide +kernel
theorem dX7_takesWaker_151 : decode cX7_takesWaker 151 = .ok (.bipush 48, 2) := by decide +kernel
theorem dX7_takesWaker_153 : decode cX7_takesWaker 153 = .ok (.isub, 1) := by decide +kernel
theorem dX7_takesWaker_154 : decode cX7_takesWaker 154 = .ok (.istore 5, 2) := by decide +kernel
theorem dX7_takesWaker_156 : decode cX7_takesWaker 156 = .ok (.iinc 4 1, 3) := by decide +kernel
theorem dX7_takesWaker_159 : decode cX7_takesWaker 159 = .ok (.goto (-49), 3) := by decide +kernel
theorem dX7_takesWaker_162 : decode cX7_takesWaker 162 = .ok (.iload 4, 2) := by decide +kernel
theorem dX7_takesWaker_164 : decode cX7_takesWaker 164 = .ok (.ifCond .le 35, 3) := by decide +kernel
theorem dX7_takesWaker_167 : decode cX7_takesWaker 167 = .ok (.iload 4, 2) := by decide +kernel
theorem dX7_takesWaker_169 : decode cX7_takesWaker 169 = .ok (.iconst 3, 1) := by decide +kernel
theorem dX7_takesWaker_170 : decode cX7_takesWaker 170 = .ok (.if_icmp .ge 29, 3) := by decide +kernel
theorem dX7_takesWaker_173 : decode cX7_takesWaker 173 = .ok (.iload 5, 2) := by decide +kernel
theorem dX7_takesWaker_175 : decode cX7_takesWaker 175 = .ok (.iconst 5, 1) := by decide +kernel
theorem dX7_takesWaker_176 : decode cX7_takesWaker 176 = .ok (.if_icmp .eq 23, 3) := by decide +kernel
theorem dX7_takesWaker_179 : decode cX7_takesWaker 179 = .ok (.iload 5, 2) := by decide +kernel
theorem dX7_takesWaker_181 : decode cX7_takesWaker 181 = .ok (.aload_n 0, 1) := by decide +kernel
theorem dX7_takesWaker_182 : decode cX7_takesWaker 182 = .ok (.getfield 7, 3) := by decide +kernel
theorem dX7_takesWaker_185 : decode cX7_takesWaker 185 = .ok (.sipush 129, 3) := by decide +kernel
theorem dX7_takesWaker_188 : decode cX7_takesWaker 188 = .ok (.iaload, 1) := by decide +kernel
theorem dX7_takesWaker_189 : decode cX7_takesWaker 189 = .ok (.if_icmp .lt 10, 3) := by decide +kernel
theorem dX7_takesWaker_192 : decode cX7_takesWaker 192 = .ok (.aload_n 0, 1) := by decide +kernel
theorem dX7_takesWaker_193 : decode cX7_takesWaker 193 = .ok (.iconst 2, 1) := by decide +kernel
theorem dX7_takesWaker_194 : decode cX7_takesWaker 194 = .ok (.iload_n 3, 1) := by decide +kernel
theorem dX7_takesWaker_195 : decode cX7_takesWaker 195 = .ok (.invokevirtual 85, 3) := by decide +kernel
theorem dX7_takesWaker_198 : decode cX7_takesWaker 198 = .ok (.ireturn, 1) := by decide +kernel
theorem dX7_takesWaker_199 : decode cX7_takesWaker 199 = .ok (.aload_n 0, 1) := by decide +kernel
theorem dX7_takesWaker_200 : decode cX7_takesWaker 200 = .ok (.iconst 0, 1) := by decide +kernel
theorem dX7_takesWaker_201 : decode cX7_takesWaker 201 = .ok (.iconst 5, 1) := by decide +kernel
theorem dX7_takesWaker_202 : decode cX7_takesWaker 202 = .ok (.bipush 59, 2) := by decide +kernel
theorem dX7_takesWaker_204 : decode cX7_takesWaker 204 = .ok (.invokevirtual 99, 3) := by decide +kernel
theorem dX7_takesWaker_207 : decode cX7_takesWaker 207 = .ok (.ifCond .ne 5, 3) := by decide +kernel
theorem dX7_takesWaker_210 : decode cX7_takesWaker 210 = .ok (.iconst 0, 1) := by decide +kernel
theorem dX7_takesWaker_211 : decode cX7_takesWaker 211 = .ok (.ireturn, 1) := by decide +kernel
theorem dX7_takesWaker_212 : decode cX7_takesWaker 212 = .ok (.aload_n 0, 1) := by decide +kernel
theorem dX7_takesWaker_213 : decode cX7_takesWaker 213 = .ok (.getfield 7, 3) := by decide +kernel
theorem dX7_takesWaker_216 : decode cX7_takesWaker 216 = .ok (.bipush 118, 2) := by decide +kernel
theorem dX7_takesWaker_218 : decode cX7_takesWaker 218 = .ok (.iload_n 2, 1) := by decide +kernel
theorem dX7_takesWaker_219 : decode cX7_takesWaker 219 = .ok (.iadd, 1) := by decide +kernel
theorem dX7_takesWaker_220 : decode cX7_takesWaker 220 = .ok (.aload_n 0, 1) := by decide +kernel
theorem dX7_takesWaker_221 : decode cX7_takesWaker 221 = .ok (.getfield 89, 3) := by decide +kernel
theorem dX7_takesWaker_224 : decode cX7_takesWaker 224 = .ok (.iastore, 1) := by decide +kernel
theorem dX7_takesWaker_225 : decode cX7_takesWaker 225 = .ok (.aload_n 0, 1) := by decide +kernel
theorem dX7_takesWaker_226 : decode cX7_takesWaker 226 = .ok (.getfield 7, 3) := by decide +kernel
theorem dX7_takesWaker_229 : decode cX7_takesWaker 229 = .ok (.sipush 130, 3) := by decide +kernel
theorem dX7_takesWaker_232 : decode cX7_takesWaker 232 = .ok (.dup2, 1) := by decide +kernel
theorem dX7_takesWaker_233 : decode cX7_takesWaker 233 = .ok (.iaload, 1) := by decide +kernel
theorem dX7_takesWaker_234 : decode cX7_takesWaker 234 = .ok (.iconst 1, 1) := by decide +kernel
theorem dX7_takesWaker_235 : decode cX7_takesWaker 235 = .ok (.iadd, 1) := by decide +kernel
theorem dX7_takesWaker_236 : decode cX7_takesWaker 236 = .ok (.iastore, 1) := by decide +kernel
theorem dX7_takesWaker_237 : decode cX7_takesWaker 237 = .ok (.iconst 1, 1) := by decide +kernel
theorem dX7_takesWaker_238 : decode cX7_takesWaker 238 = .ok (.ireturn, 1) := by decide +kernel
theorem dX7_takesMore_0 : decode cX7_takesMore 0 = .ok (.aload_n 0, 1) := by decide +kernel
theorem dX7_takesMore_1 : decode cX7_takesMore 1 = .ok (.aload_n 0, 1) := by decide +kernel
theorem dX7_takesMore_2 : decode cX7_takesMore 2 = .ok (.getfield 79, 3) := by decide +kernel
theorem dX7_takesMore_5 : decode cX7_takesMore 5 = .ok (.invokevirtual 82, 3) := by decide +kernel
theorem dX7_takesMore_8 : decode cX7_takesMore 8 = .ok (.istore_n 1, 1) := by decide +kernel
theorem dX7_takesMore_9 : decode cX7_takesMore 9 = .ok (.iload_n 1, 1) := by decide +kernel
theorem dX7_takesMore_10 : decode cX7_takesMore 10 = .ok (.bipush 119, 2) := by decide +kernel
theorem dX7_takesMore_12 : decode cX7_takesMore 12 = .ok (.if_icmp .ne 18, 3) := by decide +kernel
theorem dX7_takesMore_15 : decode cX7_takesMore 15 = .ok (.aload_n 0, 1) := by decide +kernel
theorem dX7_takesMore_16 : decode cX7_takesMore 16 = .ok (.getfield 7, 3) := by decide +kernel
theorem dX7_takesMore_19 : decode cX7_takesMore 19 = .ok (.sipush 130, 3) := by decide +kernel
theorem dX7_takesMore_22 : decode cX7_takesMore 22 = .ok (.iaload, 1) := by decide +kernel
theorem dX7_takesMore_23 : decode cX7_takesMore 23 = .ok (.ifCond .ne 7, 3) := by decide +kernel
theorem dX7_takesMore_26 : decode cX7_takesMore 26 = .ok (.iconst 1, 1) := by decide +kernel
theorem dX7_takesMore_27 : decode cX7_takesMore 27 = .ok (.goto 4, 3) := by decide +kernel
theorem dX7_takesMore_30 : decode cX7_takesMore 30 = .ok (.iconst 0, 1) := by decide +kernel
theorem dX7_takesMore_31 : decode cX7_takesMore 31 = .ok (.istore_n 2, 1) := by decide +kernel
theorem dX7_takesMore_32 : decode cX7_takesMore 32 = .ok (.iload_n 2, 1) := by decide +kernel
theorem dX7_takesMore_33 : decode cX7_takesMore 33 = .ok (.ifCond .ne 31, 3) := by decide +kernel
theorem dX7_takesMore_36 : decode cX7_takesMore 36 = .ok (.iload_n 1, 1) := by decide +kernel
theorem dX7_takesMore_37 : decode cX7_takesMore 37 = .ok (.invokestatic 102, 3) := by decide +kernel
theorem dX7_takesMore_40 : decode cX7_takesMore 40 = .ok (.ifCond .eq 14, 3) := by decide +kernel
theorem dX7_takesMore_43 : decode cX7_takesMore 43 = .ok (.aload_n 0, 1) := by decide +kernel
theorem dX7_takesMore_44 : decode cX7_takesMore 44 = .ok (.getfield 7, 3) := by decide +kernel
theorem dX7_takesMore_47 : decode cX7_takesMore 47 = .ok (.sipush 129, 3) := by decide +kernel
theorem dX7_takesMore_50 : decode cX7_takesMore 50 = .ok (.iaload, 1) := by decide +kernel
theorem dX7_takesMore_51 : decode cX7_takesMore 51 = .ok (.ifCond .ne 13, 3) := by decide +kernel
theorem dX7_takesMore_54 : decode cX7_takesMore 54 = .ok (.aload_n 0, 1) := by decide +kernel
theorem dX7_takesMore_55 : decode cX7_takesMore 55 = .ok (.iconst 1, 1) := by decide +kernel
theorem dX7_takesMore_56 : decode cX7_takesMore 56 = .ok (.aload_n 0, 1) := by decide +kernel
theorem dX7_takesMore_57 : decode cX7_takesMore 57 = .ok (.getfield 79, 3) := by decide +kernel
theorem dX7_takesMore_60 : decode cX7_takesMore 60 = .ok (.invokevirtual 85, 3) := by decide +kernel
theorem dX7_takesMore_63 : decode cX7_takesMore 63 = .ok (.ireturn, 1) := by decide +kernel
theorem dX7_takesMore_64 : decode cX7_takesMore 64 = .ok (.iload_n 2, 1) := by decide +kernel
theorem dX7_takesMore_65 : decode cX7_takesMore 65 = .ok (.ifCond .eq 10, 3) := by decide +kernel
theorem dX7_takesMore_68 : decode cX7_takesMore 68 = .ok (.aload_n 0, 1) := by decide +kernel
theorem dX7_takesMore_69 : decode cX7_takesMore 69 = .ok (.invokevirtual 105, 3) := by decide +kernel
theorem dX7_takesMore_72 : decode cX7_takesMore 72 = .ok (.goto 11, 3) := by decide +kernel
theorem dX7_takesMore_75 : decode cX7_takesMore 75 = .ok (.aload_n 0, 1) := by decide +kernel
theorem dX7_takesMore_76 : decode cX7_takesMore 76 = .ok (.iload_n 1, 1) := by decide +kernel
theorem dX7_takesMore_77 : decode cX7_takesMore 77 = .ok (.invokestatic 102, 3) := by decide +kernel
theorem dX7_takesMore_80 : decode cX7_takesMore 80 = .ok (.invokevirtual 109, 3) := by decide +kernel
theorem dX7_takesMore_83 : decode cX7_takesMore 83 = .ok (.ireturn, 1) := by decide +kernel
theorem dX7_copyAll_0 : decode cX7_copyAll 0 = .ok (.iconst 0, 1) := by decide +kernel
theorem dX7_copyAll_1 : decode cX7_copyAll 1 = .ok (.istore_n 3, 1) := by decide +kernel
theorem dX7_copyAll_2 : decode cX7_copyAll 2 = .ok (.iload_n 3, 1) := by decide +kernel
theorem dX7_copyAll_3 : decode cX7_copyAll 3 = .ok (.bipush 36, 2) := by decide +kernel
theorem dX7_copyAll_5 : decode cX7_copyAll 5 = .ok (.if_icmp .ge 25, 3) := by decide +kernel
theorem dX7_copyAll_8 : decode cX7_copyAll 8 = .ok (.aload_n 0, 1) := by decide +kernel
theorem dX7_copyAll_9 : decode cX7_copyAll 9 = .ok (.getfield 7, 3) := by decide +kernel
theorem dX7_copyAll_12 : decode cX7_copyAll 12 = .ok (.iload_n 2, 1) := by decide +kernel
theorem dX7_copyAll_13 : decode cX7_copyAll 13 = .ok (.iload_n 3, 1) := by decide +kernel
theorem dX7_copyAll_14 : decode cX7_copyAll 14 = .ok (.iadd, 1) := by decide +kernel
theorem dX7_copyAll_15 : decode cX7_copyAll 15 = .ok (.aload_n 0, 1) := by decide +kernel
theorem dX7_copyAll_16 : decode cX7_copyAll 16 = .ok (.getfield 7, 3) := by decide +kernel
theorem dX7_copyAll_19 : decode cX7_copyAll 19 = .ok (.iload_n 1, 1) := by decide +kernel
theorem dX7_copyAll_20 : decode cX7_copyAll 20 = .ok (.iload_n 3, 1) := by decide +kernel
theorem dX7_copyAll_21 : decode cX7_copyAll 21 = .ok (.iadd, 1) := by decide +kernel
theorem dX7_copyAll_22 : decode cX7_copyAll 22 = .ok (.iaload, 1) := by decide +kernel
theorem dX7_copyAll_23 : decode cX7_copyAll 23 = .ok (.iastore, 1) := by decide +kernel
theorem dX7_copyAll_24 : decode cX7_copyAll 24 = .ok (.iinc 3 1, 3) := by decide +kernel
theorem dX7_copyAll_27 : decode cX7_copyAll 27 = .ok (.goto (-25), 3) := by decide +kernel
theorem dX7_copyAll_30 : decode cX7_copyAll 30 = .ok (.return_, 1) := by decide +kernel
theorem dX7_agency_0 : decode cX7_agency 0 = .ok (.aload_n 0, 1) := by decide +kernel
theorem dX7_agency_1 : decode cX7_agency 1 = .ok (.iconst 0, 1) := by decide +kernel
theorem dX7_agency_2 : decode cX7_agency 2 = .ok (.putfield 79, 3) := by decide +kernel
theorem dX7_agency_5 : decode cX7_agency 5 = .ok (.aload_n 0, 1) := by decide +kernel
theorem dX7_agency_6 : decode cX7_agency 6 = .ok (.invokevirtual 112, 3) := by decide +kernel
theorem dX7_agency_9 : decode cX7_agency 9 = .ok (.istore_n 1, 1) := by decide +kernel
theorem dX7_agency_10 : decode cX7_agency 10 = .ok (.iload_n 1, 1) := by decide +kernel
theorem dX7_agency_11 : decode cX7_agency 11 = .ok (.ifCond .eq 33, 3) := by decide +kernel
theorem dX7_agency_14 : decode cX7_agency 14 = .ok (.aload_n 0, 1) := by decide +kernel
theorem dX7_agency_15 : decode cX7_agency 15 = .ok (.getfield 79, 3) := by decide +kernel
theorem dX7_agency_18 : decode cX7_agency 18 = .ok (.aload_n 0, 1) := by decide +kernel
theorem dX7_agency_19 : decode cX7_agency 19 = .ok (.getfield 69, 3) := by decide +kernel
theorem dX7_agency_22 : decode cX7_agency 22 = .ok (.if_icmp .lt 14, 3) := by decide +kernel
theorem dX7_agency_25 : decode cX7_agency 25 = .ok (.aload_n 0, 1) := by decide +kernel
theorem dX7_agency_26 : decode cX7_agency 26 = .ok (.getfield 7, 3) := by decide +kernel
theorem dX7_agency_29 : decode cX7_agency 29 = .ok (.sipush 129, 3) := by decide +kernel
theorem dX7_agency_32 : decode cX7_agency 32 = .ok (.iaload, 1) := by decide +kernel
theorem dX7_agency_33 : decode cX7_agency 33 = .ok (.ifCond .ne 11, 3) := by decide +kernel
theorem dX7_agency_36 : decode cX7_agency 36 = .ok (.aload_n 0, 1) := by decide +kernel
theorem dX7_agency_37 : decode cX7_agency 37 = .ok (.invokevirtual 115, 3) := by decide +kernel
theorem dX7_agency_40 : decode cX7_agency 40 = .ok (.istore_n 1, 1) := by decide +kernel
theorem dX7_agency_41 : decode cX7_agency 41 = .ok (.goto (-31), 3) := by decide +kernel
theorem dX7_agency_44 : decode cX7_agency 44 = .ok (.aload_n 0, 1) := by decide +kernel
theorem dX7_agency_45 : decode cX7_agency 45 = .ok (.iconst 0, 1) := by decide +kernel
theorem dX7_agency_46 : decode cX7_agency 46 = .ok (.putfield 69, 3) := by decide +kernel
theorem dX7_agency_49 : decode cX7_agency 49 = .ok (.iload_n 1, 1) := by decide +kernel
theorem dX7_agency_50 : decode cX7_agency 50 = .ok (.ifCond .ne 11, 3) := by decide +kernel
theorem dX7_agency_53 : decode cX7_agency 53 = .ok (.ldc 118, 2) := by decide +kernel
theorem dX7_agency_55 : decode cX7_agency 55 = .ok (.aload_n 0, 1) := by decide +kernel
theorem dX7_agency_56 : decode cX7_agency 56 = .ok (.getfield 76, 3) := by decide +kernel
theorem dX7_agency_59 : decode cX7_agency 59 = .ok (.isub, 1) := by decide +kernel
theorem dX7_agency_60 : decode cX7_agency 60 = .ok (.ireturn, 1) := by decide +kernel
theorem dX7_agency_61 : decode cX7_agency 61 = .ok (.aload_n 0, 1) := by decide +kernel
theorem dX7_agency_62 : decode cX7_agency 62 = .ok (.bipush 108, 2) := by decide +kernel
theorem dX7_agency_64 : decode cX7_agency 64 = .ok (.iconst 0, 1) := by decide +kernel
theorem dX7_agency_65 : decode cX7_agency 65 = .ok (.invokevirtual 119, 3) := by decide +kernel
theorem dX7_agency_68 : decode cX7_agency 68 = .ok (.aload_n 0, 1) := by decide +kernel
theorem dX7_agency_69 : decode cX7_agency 69 = .ok (.iconst 0, 1) := by decide +kernel
theorem dX7_agency_70 : decode cX7_agency 70 = .ok (.putfield 123, 3) := by decide +kernel
theorem dX7_agency_73 : decode cX7_agency 73 = .ok (.aload_n 0, 1) := by decide +kernel
theorem dX7_agency_74 : decode cX7_agency 74 = .ok (.getfield 7, 3) := by decide +kernel
theorem dX7_agency_77 : decode cX7_agency 77 = .ok (.bipush 21, 2) := by decide +kernel
theorem dX7_agency_79 : decode cX7_agency 79 = .ok (.iaload, 1) := by decide +kernel
theorem dX7_agency_80 : decode cX7_agency 80 = .ok (.ireturn, 1) := by decide +kernel
theorem dX7_fault_0 : decode cX7_fault 0 = .ok (.aload_n 0, 1) := by decide +kernel
theorem dX7_fault_1 : decode cX7_fault 1 = .ok (.getfield 73, 3) := by decide +kernel
theorem dX7_fault_4 : decode cX7_fault 4 = .ok (.ireturn, 1) := by decide +kernel
theorem dX7_isAgency_0 : decode cX7_isAgency 0 = .ok (.aload_n 0, 1) := by decide +kernel
theorem dX7_isAgency_1 : decode cX7_isAgency 1 = .ok (.getfield 7, 3) := by decide +kernel
theorem dX7_isAgency_4 : decode cX7_isAgency 4 = .ok (.bipush 18, 2) := by decide +kernel
theorem dX7_isAgency_6 : decode cX7_isAgency 6 = .ok (.iaload, 1) := by decide +kernel
theorem dX7_isAgency_7 : decode cX7_isAgency 7 = .ok (.iconst 1, 1) := by decide +kernel
theorem dX7_isAgency_8 : decode cX7_isAgency 8 = .ok (.if_icmp .ne 7, 3) := by decide +kernel
theorem dX7_isAgency_11 : decode cX7_isAgency 11 = .ok (.iconst 1, 1) := by decide +kernel
theorem dX7_isAgency_12 : decode cX7_isAgency 12 = .ok (.goto 4, 3) := by decide +kernel
theorem dX7_isAgency_15 : decode cX7_isAgency 15 = .ok (.iconst 0, 1) := by decide +kernel
theorem dX7_isAgency_16 : decode cX7_isAgency 16 = .ok (.ireturn, 1) := by decide +kernel
theorem dX7_isClient_0 : decode cX7_isClient 0 = .ok (.iload_n 1, 1) := by decide +kernel
theorem dX7_isClient_1 : decode cX7_isClient 1 = .ok (.i2l, 1) := by decide +kernel
theorem dX7_isClient_2 : decode cX7_isClient 2 = .ok (.lconst 0, 1) := by decide +kernel
theorem dX7_isClient_3 : decode cX7_isClient 3 = .ok (.aload_n 0, 1) := by decide +kernel
theorem dX7_isClient_4 : decode cX7_isClient 4 = .ok (.getfield 7, 3) := by decide +kernel
theorem dX7_isClient_7 : decode cX7_isClient 7 = .ok (.bipush 21, 2) := by decide +kernel
theorem dX7_isClient_9 : decode cX7_isClient 9 = .ok (.iaload, 1) := by decide +kernel
theorem dX7_isClient_10 : decode cX7_isClient 10 = .ok (.iconst 1, 1) := by decide +kernel
theorem dX7_isClient_11 : decode cX7_isClient 11 = .ok (.isub, 1) := by decide +kernel
theorem dX7_isClient_12 : decode cX7_isClient 12 = .ok (.i2l, 1) := by decide +kernel
theorem dX7_isClient_13 : decode cX7_isClient 13 = .ok (.invokestatic 45, 3) := by decide +kernel
theorem dX7_isClient_16 : decode cX7_isClient 16 = .ok (.ireturn, 1) := by decide +kernel
theorem dX7_isWaker_0 : decode cX7_isWaker 0 = .ok (.iload_n 1, 1) := by decide +kernel
theorem dX7_isWaker_1 : decode cX7_isWaker 1 = .ok (.i2l, 1) := by decide +kernel
theorem dX7_isWaker_2 : decode cX7_isWaker 2 = .ok (.lconst 0, 1) := by decide +kernel
theorem dX7_isWaker_3 : decode cX7_isWaker 3 = .ok (.aload_n 0, 1) := by decide +kernel
theorem dX7_isWaker_4 : decode cX7_isWaker 4 = .ok (.getfield 7, 3) := by decide +kernel
theorem dX7_isWaker_7 : decode cX7_isWaker 7 = .ok (.bipush 22, 2) := by decide +kernel
theorem dX7_isWaker_9 : decode cX7_isWaker 9 = .ok (.iaload, 1) := by decide +kernel
theorem dX7_isWaker_10 : decode cX7_isWaker 10 = .ok (.iconst 1, 1) := by decide +kernel
theorem dX7_isWaker_11 : decode cX7_isWaker 11 = .ok (.isub, 1) := by decide +kernel
theorem dX7_isWaker_12 : decode cX7_isWaker 12 = .ok (.i2l, 1) := by decide +kernel
theorem dX7_isWaker_13 : decode cX7_isWaker 13 = .ok (.invokestatic 45, 3) := by decide +kernel
theorem dX7_isWaker_16 : decode cX7_isWaker 16 = .ok (.ireturn, 1) := by decide +kernel
theorem dX7_isFit_0 : decode cX7_isFit 0 = .ok (.aload_n 0, 1) := by decide +kernel
theorem dX7_isFit_1 : decode cX7_isFit 1 = .ok (.getfield 7, 3) := by decide +kernel
theorem dX7_isFit_4 : decode cX7_isFit 4 = .ok (.iload_n 1, 1) := by decide +kernel
theorem dX7_isFit_5 : decode cX7_isFit 5 = .ok (.bipush 6, 2) := by decide +kernel
theorem dX7_isFit_7 : decode cX7_isFit 7 = .ok (.iadd, 1) := by decide +kernel
theorem dX7_isFit_8 : decode cX7_isFit 8 = .ok (.iload_n 2, 1) := by decide +kernel
theorem dX7_isFit_9 : decode cX7_isFit 9 = .ok (.iadd, 1) := by decide +kernel
theorem dX7_isFit_10 : decode cX7_isFit 10 = .ok (.iaload, 1) := by decide +kernel
theorem dX7_isFit_11 : decode cX7_isFit 11 = .ok (.aload_n 0, 1) := by decide +kernel
theorem dX7_isFit_12 : decode cX7_isFit 12 = .ok (.getfield 7, 3) := by decide +kernel
theorem dX7_isFit_15 : decode cX7_isFit 15 = .ok (.iload_n 1, 1) := by decide +kernel
theorem dX7_isFit_16 : decode cX7_isFit 16 = .ok (.bipush 23, 2) := by decide +kernel
theorem dX7_isFit_18 : decode cX7_isFit 18 = .ok (.iadd, 1) := by decide +kernel
theorem dX7_isFit_19 : decode cX7_isFit 19 = .ok (.aload_n 0, 1) := by decide +kernel
theorem dX7_isFit_20 : decode cX7_isFit 20 = .ok (.getfield 7, 3) := by decide +kernel
theorem dX7_isFit_23 : decode cX7_isFit 23 = .ok (.iload_n 1, 1) := by decide +kernel
theorem dX7_isFit_24 : decode cX7_isFit 24 = .ok (.bipush 10, 2) := by decide +kernel
theorem dX7_isFit_26 : decode cX7_isFit 26 = .ok (.iadd, 1) := by decide +kernel
theorem dX7_isFit_27 : decode cX7_isFit 27 = .ok (.iload_n 2, 1) := by decide +kernel
theorem dX7_isFit_28 : decode cX7_isFit 28 = .ok (.iadd, 1) := by decide +kernel
theorem dX7_isFit_29 : decode cX7_isFit 29 = .ok (.iaload, 1) := by decide +kernel
theorem dX7_isFit_30 : decode cX7_isFit 30 = .ok (.iadd, 1) := by decide +kernel
theorem dX7_isFit_31 : decode cX7_isFit 31 = .ok (.iaload, 1) := by decide +kernel
theorem dX7_isFit_32 : decode cX7_isFit 32 = .ok (.if_icmp .ne 7, 3) := by decide +kernel
theorem dX7_isFit_35 : decode cX7_isFit 35 = .ok (.iconst 1, 1) := by decide +kernel
theorem dX7_isFit_36 : decode cX7_isFit 36 = .ok (.goto 4, 3) := by decide +kernel
theorem dX7_isFit_39 : decode cX7_isFit 39 = .ok (.iconst 0, 1) := by decide +kernel
theorem dX7_isFit_40 : decode cX7_isFit 40 = .ok (.ireturn, 1) := by decide +kernel
theorem dX7_guards_0 : decode cX7_guards 0 = .ok (.iload_n 1, 1) := by decide +kernel
theorem dX7_guards_1 : decode cX7_guards 1 = .ok (.iconst 3, 1) := by decide +kernel
theorem dX7_guards_2 : decode cX7_guards 2 = .ok (.irem, 1) := by decide +kernel
theorem dX7_guards_3 : decode cX7_guards 3 = .ok (.iconst 2, 1) := by decide +kernel
theorem dX7_guards_4 : decode cX7_guards 4 = .ok (.if_icmp .ne 7, 3) := by decide +kernel
theorem dX7_guards_7 : decode cX7_guards 7 = .ok (.iconst 0, 1) := by decide +kernel
theorem dX7_guards_8 : decode cX7_guards 8 = .ok (.goto 4, 3) := by decide +kernel
theorem dX7_guards_11 : decode cX7_guards 11 = .ok (.iload_n 0, 1) := by decide +kernel
theorem dX7_guards_12 : decode cX7_guards 12 = .ok (.ireturn, 1) := by decide +kernel
theorem dX7_lies_0 : decode cX7_lies 0 = .ok (.aload_n 0, 1) := by decide +kernel
theorem dX7_lies_1 : decode cX7_lies 1 = .ok (.getfield 7, 3) := by decide +kernel
theorem dX7_lies_4 : decode cX7_lies 4 = .ok (.iload_n 1, 1) := by decide +kernel
theorem dX7_lies_5 : decode cX7_lies 5 = .ok (.bipush 32, 2) := by decide +kernel
theorem dX7_lies_7 : decode cX7_lies 7 = .ok (.iadd, 1) := by decide +kernel
theorem dX7_lies_8 : decode cX7_lies 8 = .ok (.iload_n 2, 1) := by decide +kernel
theorem dX7_lies_9 : decode cX7_lies 9 = .ok (.iadd, 1) := by decide +kernel
theorem dX7_lies_10 : decode cX7_lies 10 = .ok (.iaload, 1) := by decide +kernel
theorem dX7_lies_11 : decode cX7_lies 11 = .ok (.istore_n 3, 1) := by decide +kernel
theorem dX7_lies_12 : decode cX7_lies 12 = .ok (.aload_n 0, 1) := by decide +kernel
theorem dX7_lies_13 : decode cX7_lies 13 = .ok (.getfield 7, 3) := by decide +kernel
theorem dX7_lies_16 : decode cX7_lies 16 = .ok (.iload_n 1, 1) := by decide +kernel
theorem dX7_lies_17 : decode cX7_lies 17 = .ok (.iconst 0, 1) := by decide +kernel
theorem dX7_lies_18 : decode cX7_lies 18 = .ok (.iadd, 1) := by decide +kernel
theorem dX7_lies_19 : decode cX7_lies 19 = .ok (.iaload, 1) := by decide +kernel
theorem dX7_lies_20 : decode cX7_lies 20 = .ok (.istore 4, 2) := by decide +kernel
theorem dX7_lies_22 : decode cX7_lies 22 = .ok (.aload_n 0, 1) := by decide +kernel
theorem dX7_lies_23 : decode cX7_lies 23 = .ok (.getfield 7, 3) := by decide +kernel
theorem dX7_lies_26 : decode cX7_lies 26 = .ok (.iload_n 1, 1) := by decide +kernel
theorem dX7_lies_27 : decode cX7_lies 27 = .ok (.bipush 10, 2) := by decide +kernel
theorem dX7_lies_29 : decode cX7_lies 29 = .ok (.iadd, 1) := by decide +kernel
theorem dX7_lies_30 : decode cX7_lies 30 = .ok (.iload_n 2, 1) := by decide +kernel
theorem dX7_lies_31 : decode cX7_lies 31 = .ok (.iadd, 1) := by decide +kernel
theorem dX7_lies_32 : decode cX7_lies 32 = .ok (.iaload, 1) := by decide +kernel
theorem dX7_lies_33 : decode cX7_lies 33 = .ok (.iconst 5, 1) := by decide +kernel
theorem dX7_lies_34 : decode cX7_lies 34 = .ok (.if_icmp .ne 5, 3) := by decide +kernel
theorem dX7_lies_37 : decode cX7_lies 37 = .ok (.iconst 0, 1) := by decide +kernel
theorem dX7_lies_38 : decode cX7_lies 38 = .ok (.ireturn, 1) := by decide +kernel
theorem dX7_lies_39 : decode cX7_lies 39 = .ok (.aload_n 0, 1) := by decide +kernel
theorem dX7_lies_40 : decode cX7_lies 40 = .ok (.getfield 7, 3) := by decide +kernel
theorem dX7_lies_43 : decode cX7_lies 43 = .ok (.iload_n 1, 1) := by decide +kernel
theorem dX7_lies_44 : decode cX7_lies 44 = .ok (.bipush 28, 2) := by decide +kernel
theorem dX7_lies_46 : decode cX7_lies 46 = .ok (.iadd, 1) := by decide +kernel
theorem dX7_lies_47 : decode cX7_lies 47 = .ok (.iload_n 2, 1) := by decide +kernel
theorem dX7_lies_48 : decode cX7_lies 48 = .ok (.iadd, 1) := by decide +kernel
theorem dX7_lies_49 : decode cX7_lies 49 = .ok (.iaload, 1) := by decide +kernel
theorem dX7_lies_50 : decode cX7_lies 50 = .ok (.tableswitch 105 2 5 #[30, 53, 70, 77], 30) := by decide +kernel
theorem dX7_lies_80 : decode cX7_lies 80 = .ok (.iload 4, 2) := by decide +kernel
theorem dX7_lies_82 : decode cX7_lies 82 = .ok (.bipush 7, 2) := by decide +kernel
theorem dX7_lies_84 : decode cX7_lies 84 = .ok (.irem, 1) := by decide +kernel
theorem dX7_lies_85 : decode cX7_lies 85 = .ok (.aload_n 0, 1) := by decide +kernel
theorem dX7_lies_86 : decode cX7_lies 86 = .ok (.getfield 7, 3) := by decide +kernel
theorem dX7_lies_89 : decode cX7_lies 89 = .ok (.iload_n 1, 1) := by decide +kernel
theorem dX7_lies_90 : decode cX7_lies 90 = .ok (.bipush 20, 2) := by decide +kernel
theorem dX7_lies_92 : decode cX7_lies 92 = .ok (.iadd, 1) := by decide +kernel
theorem dX7_lies_93 : decode cX7_lies 93 = .ok (.iaload, 1) := by decide +kernel
theorem dX7_lies_94 : decode cX7_lies 94 = .ok (.if_icmp .ne 7, 3) := by decide +kernel
theorem dX7_lies_97 : decode cX7_lies 97 = .ok (.iconst 0, 1) := by decide +kernel
theorem dX7_lies_98 : decode cX7_lies 98 = .ok (.goto 4, 3) := by decide +kernel
theorem dX7_lies_101 : decode cX7_lies 101 = .ok (.iload_n 3, 1) := by decide +kernel
theorem dX7_lies_102 : decode cX7_lies 102 = .ok (.ireturn, 1) := by decide +kernel
theorem dX7_lies_103 : decode cX7_lies 103 = .ok (.aload_n 0, 1) := by decide +kernel
theorem dX7_lies_104 : decode cX7_lies 104 = .ok (.iload_n 1, 1) := by decide +kernel
theorem dX7_lies_105 : decode cX7_lies 105 = .ok (.iload_n 2, 1) := by decide +kernel
theorem dX7_lies_106 : decode cX7_lies 106 = .ok (.invokevirtual 126, 3) := by decide +kernel
theorem dX7_lies_109 : decode cX7_lies 109 = .ok (.ifCond .eq 9, 3) := by decide +kernel
theorem dX7_lies_112 : decode cX7_lies 112 = .ok (.iconst 2, 1) := by decide +kernel
theorem dX7_lies_113 : decode cX7_lies 113 = .ok (.iload_n 3, 1) := by decide +kernel
theorem dX7_lies_114 : decode cX7_lies 114 = .ok (.imul, 1) := by decide +kernel
theorem dX7_lies_115 : decode cX7_lies 115 = .ok (.goto 4, 3) := by decide +kernel
theorem dX7_lies_118 : decode cX7_lies 118 = .ok (.iload_n 3, 1) := by decide +kernel
theorem dX7_lies_119 : decode cX7_lies 119 = .ok (.ireturn, 1) := by decide +kernel
theorem dX7_lies_120 : decode cX7_lies 120 = .ok (.iload_n 3, 1) := by decide +kernel
theorem dX7_lies_121 : decode cX7_lies 121 = .ok (.iload 4, 2) := by decide +kernel
theorem dX7_lies_123 : decode cX7_lies 123 = .ok (.invokestatic 129, 3) := by decide +kernel
theorem dX7_lies_126 : decode cX7_lies 126 = .ok (.ireturn, 1) := by decide +kernel
theorem dX7_lies_127 : decode cX7_lies 127 = .ok (.iload_n 3, 1) := by decide +kernel
theorem dX7_lies_128 : decode cX7_lies 128 = .ok (.iload 4, 2) := by decide +kernel
theorem dX7_lies_130 : decode cX7_lies 130 = .ok (.invokestatic 129, 3) := by decide +kernel
theorem dX7_lies_133 : decode cX7_lies 133 = .ok (.iload 4, 2) := by decide +kernel
theorem dX7_lies_135 : decode cX7_lies 135 = .ok (.iconst 2, 1) := by decide +kernel
theorem dX7_lies_136 : decode cX7_lies 136 = .ok (.idiv, 1) := by decide +kernel
theorem dX7_lies_137 : decode cX7_lies 137 = .ok (.iadd, 1) := by decide +kernel
theorem dX7_lies_138 : decode cX7_lies 138 = .ok (.istore 5, 2) := by decide +kernel
theorem dX7_lies_140 : decode cX7_lies 140 = .ok (.iload 5, 2) := by decide +kernel
theorem dX7_lies_142 : decode cX7_lies 142 = .ok (.bipush 9, 2) := by decide +kernel
theorem dX7_lies_144 : decode cX7_lies 144 = .ok (.if_icmp .le 8, 3) := by decide +kernel
theorem dX7_lies_147 : decode cX7_lies 147 = .ok (.bipush 9, 2) := by decide +kernel
theorem dX7_lies_149 : decode cX7_lies 149 = .ok (.goto 5, 3) := by decide +kernel
theorem dX7_lies_152 : decode cX7_lies 152 = .ok (.iload 5, 2) := by decide +kernel
theorem dX7_lies_154 : decode cX7_lies 154 = .ok (.ireturn, 1) := by decide +kernel
theorem dX7_lies_155 : decode cX7_lies 155 = .ok (.iload_n 3, 1) := by decide +kernel
theorem dX7_lies_156 : decode cX7_lies 156 = .ok (.ireturn, 1) := by decide +kernel
theorem dX7_lighter_0 : decode cX7_lighter 0 = .ok (.iconst 0, 1) := by decide +kernel
theorem dX7_lighter_1 : decode cX7_lighter 1 = .ok (.istore 4, 2) := by decide +kernel
theorem dX7_lighter_3 : decode cX7_lighter 3 = .ok (.iconst 0, 1) := by decide +kernel
theorem dX7_lighter_4 : decode cX7_lighter 4 = .ok (.istore 5, 2) := by decide +kernel
theorem dX7_lighter_6 : decode cX7_lighter 6 = .ok (.iload 5, 2) := by decide +kernel
theorem dX7_lighter_8 : decode cX7_lighter 8 = .ok (.aload_n 0, 1) := by decide +kernel
theorem dX7_lighter_9 : decode cX7_lighter 9 = .ok (.getfield 7, 3) := by decide +kernel
theorem dX7_lighter_12 : decode cX7_lighter 12 = .ok (.iload_n 1, 1) := by decide +kernel
theorem dX7_lighter_13 : decode cX7_lighter 13 = .ok (.bipush 22, 2) := by decide +kernel
theorem dX7_lighter_15 : decode cX7_lighter 15 = .ok (.iadd, 1) := by decide +kernel
theorem dX7_lighter_16 : decode cX7_lighter 16 = .ok (.iaload, 1) := by decide +kernel
theorem dX7_lighter_17 : decode cX7_lighter 17 = .ok (.if_icmp .ge 81, 3) := by decide +kernel
theorem dX7_lighter_20 : decode cX7_lighter 20 = .ok (.aload_n 0, 1) := by decide +kernel
theorem dX7_lighter_21 : decode cX7_lighter 21 = .ok (.getfield 7, 3) := by decide +kernel
theorem dX7_lighter_24 : decode cX7_lighter 24 = .ok (.iload_n 1, 1) := by decide +kernel
theorem dX7_lighter_25 : decode cX7_lighter 25 = .ok (.bipush 10, 2) := by decide +kernel
theorem dX7_lighter_27 : decode cX7_lighter 27 = .ok (.iadd, 1) := by decide +kernel
theorem dX7_lighter_28 : decode cX7_lighter 28 = .ok (.iload 5, 2) := by decide +kernel
theorem dX7_lighter_30 : decode cX7_lighter 30 = .ok (.iadd, 1) := by decide +kernel
theorem dX7_lighter_31 : decode cX7_lighter 31 = .ok (.iaload, 1) := by decide +kernel
theorem dX7_lighter_32 : decode cX7_lighter 32 = .ok (.iload_n 2, 1) := by decide +kernel
theorem dX7_lighter_33 : decode cX7_lighter 33 = .ok (.if_icmp .ne 59, 3) := by decide +kernel
theorem dX7_lighter_36 : decode cX7_lighter 36 = .ok (.iload_n 3, 1) := by decide +kernel
theorem dX7_lighter_37 : decode cX7_lighter 37 = .ok (.iload 5, 2) := by decide +kernel
theorem dX7_lighter_39 : decode cX7_lighter 39 = .ok (.invokestatic 133, 3) := by decide +kernel
theorem dX7_lighter_42 : decode cX7_lighter 42 = .ok (.ifCond .ne 50, 3) := by decide +kernel
theorem dX7_lighter_45 : decode cX7_lighter 45 = .ok (.aload_n 0, 1) := by decide +kernel
theorem dX7_lighter_46 : decode cX7_lighter 46 = .ok (.iload_n 1, 1) := by decide +kernel
theorem dX7_lighter_47 : decode cX7_lighter 47 = .ok (.iload 5, 2) := by decide +kernel
theorem dX7_lighter_49 : decode cX7_lighter 49 = .ok (.invokevirtual 126, 3) := by decide +kernel
theorem dX7_lighter_52 : decode cX7_lighter 52 = .ok (.ifCond .eq 13, 3) := by decide +kernel
theorem dX7_lighter_55 : decode cX7_lighter 55 = .ok (.aload_n 0, 1) := by decide +kernel
theorem dX7_lighter_56 : decode cX7_lighter 56 = .ok (.iload_n 1, 1) := by decide +kernel
theorem dX7_lighter_57 : decode cX7_lighter 57 = .ok (.iload 5, 2) := by decide +kernel
theorem dX7_lighter_59 : decode cX7_lighter 59 = .ok (.invokevirtual 136, 3) := by decide +kernel
theorem dX7_lighter_62 : decode cX7_lighter 62 = .ok (.goto 12, 3) := by decide +kernel
theorem dX7_lighter_65 : decode cX7_lighter 65 = .ok (.aload_n 0, 1) := by decide +kernel
theorem dX7_lighter_66 : decode cX7_lighter 66 = .ok (.iload_n 1, 1) := by decide +kernel
theorem dX7_lighter_67 : decode cX7_lighter 67 = .ok (.iload 5, 2) := by decide +kernel
theorem dX7_lighter_69 : decode cX7_lighter 69 = .ok (.invokevirtual 136, 3) := by decide +kernel
theorem dX7_lighter_72 : decode cX7_lighter 72 = .ok (.iconst 2, 1) := by decide +kernel
theorem dX7_lighter_73 : decode cX7_lighter 73 = .ok (.idiv, 1) := by decide +kernel
theorem dX7_lighter_74 : decode cX7_lighter 74 = .ok (.istore 6, 2) := by decide +kernel
theorem dX7_lighter_76 : decode cX7_lighter 76 = .ok (.iload 6, 2) := by decide +kernel
theorem dX7_lighter_78 : decode cX7_lighter 78 = .ok (.iload 4, 2) := by decide +kernel
theorem dX7_lighter_80 : decode cX7_lighter 80 = .ok (.if_icmp .le 8, 3) := by decide +kernel
theorem dX7_lighter_83 : decode cX7_lighter 83 = .ok (.iload 6, 2) := by decide +kernel
theorem dX7_lighter_85 : decode cX7_lighter 85 = .ok (.goto 5, 3) := by decide +kernel
theorem dX7_lighter_88 : decode cX7_lighter 88 = .ok (.iload 4, 2) := by decide +kernel
theorem dX7_lighter_90 : decode cX7_lighter 90 = .ok (.istore 4, 2) := by decide +kernel
theorem dX7_lighter_92 : decode cX7_lighter 92 = .ok (.iinc 5 1, 3) := by decide +kernel
theorem dX7_lighter_95 : decode cX7_lighter 95 = .ok (.goto (-89), 3) := by decide +kernel
theorem dX7_lighter_98 : decode cX7_lighter 98 = .ok (.iload 4, 2) := by decide +kernel
theorem dX7_lighter_100 : decode cX7_lighter 100 = .ok (.ireturn, 1) := by decide +kernel
theorem dX7_passes_0 : decode cX7_passes 0 = .ok (.iconst 0, 1) := by decide +kernel
theorem dX7_passes_1 : decode cX7_passes 1 = .ok (.istore_n 3, 1) := by decide +kernel
theorem dX7_passes_2 : decode cX7_passes 2 = .ok (.iload_n 3, 1) := by decide +kernel
theorem dX7_passes_3 : decode cX7_passes 3 = .ok (.aload_n 0, 1) := by decide +kernel
theorem dX7_passes_4 : decode cX7_passes 4 = .ok (.getfield 7, 3) := by decide +kernel
theorem dX7_passes_7 : decode cX7_passes 7 = .ok (.iload_n 1, 1) := by decide +kernel
theorem dX7_passes_8 : decode cX7_passes 8 = .ok (.bipush 21, 2) := by decide +kernel
theorem dX7_passes_10 : decode cX7_passes 10 = .ok (.iadd, 1) := by decide +kernel
theorem dX7_passes_11 : decode cX7_passes 11 = .ok (.iaload, 1) := by decide +kernel
theorem dX7_passes_12 : decode cX7_passes 12 = .ok (.if_icmp .ge 91, 3) := by decide +kernel
theorem dX7_passes_15 : decode cX7_passes 15 = .ok (.aload_n 0, 1) := by decide +kernel
theorem dX7_passes_16 : decode cX7_passes 16 = .ok (.iload_n 1, 1) := by decide +kernel
theorem dX7_passes_17 : decode cX7_passes 17 = .ok (.iload_n 3, 1) := by decide +kernel
theorem dX7_passes_18 : decode cX7_passes 18 = .ok (.iload_n 2, 1) := by decide +kernel
theorem dX7_passes_19 : decode cX7_passes 19 = .ok (.invokevirtual 139, 3) := by decide +kernel
theorem dX7_passes_22 : decode cX7_passes 22 = .ok (.istore 4, 2) := by decide +kernel
theorem dX7_passes_24 : decode cX7_passes 24 = .ok (.aload_n 0, 1) := by decide +kernel
theorem dX7_passes_25 : decode cX7_passes 25 = .ok (.getfield 7, 3) := by decide +kernel
theorem dX7_passes_28 : decode cX7_passes 28 = .ok (.iload_n 1, 1) := by decide +kernel
theorem dX7_passes_29 : decode cX7_passes 29 = .ok (.iconst 1, 1) := by decide +kernel
theorem dX7_passes_30 : decode cX7_passes 30 = .ok (.iadd, 1) := by decide +kernel
theorem dX7_passes_31 : decode cX7_passes 31 = .ok (.iload_n 3, 1) := by decide +kernel
theorem dX7_passes_32 : decode cX7_passes 32 = .ok (.iadd, 1) := by decide +kernel
theorem dX7_passes_33 : decode cX7_passes 33 = .ok (.iaload, 1) := by decide +kernel
theorem dX7_passes_34 : decode cX7_passes 34 = .ok (.istore 5, 2) := by decide +kernel
theorem dX7_passes_36 : decode cX7_passes 36 = .ok (.iload 4, 2) := by decide +kernel
theorem dX7_passes_38 : decode cX7_passes 38 = .ok (.ifCond .le 11, 3) := by decide +kernel
theorem dX7_passes_41 : decode cX7_passes 41 = .ok (.iload 5, 2) := by decide +kernel
theorem dX7_passes_43 : decode cX7_passes 43 = .ok (.iload 4, 2) := by decide +kernel
theorem dX7_passes_45 : decode cX7_passes 45 = .ok (.isub, 1) := by decide +kernel
theorem dX7_passes_46 : decode cX7_passes 46 = .ok (.goto 16, 3) := by decide +kernel
theorem dX7_passes_49 : decode cX7_passes 49 = .ok (.iload 5, 2) := by decide +kernel
theorem dX7_passes_51 : decode cX7_passes 51 = .ok (.ifCond .le 10, 3) := by decide +kernel
theorem dX7_passes_54 : decode cX7_passes 54 = .ok (.iload 5, 2) := by decide +kernel
theorem dX7_passes_56 : decode cX7_passes 56 = .ok (.iconst 1, 1) := by decide +kernel
theorem dX7_passes_57 : decode cX7_passes 57 = .ok (.iadd, 1) := by decide +kernel
theorem dX7_passes_58 : decode cX7_passes 58 = .ok (.goto 4, 3) := by decide +kernel
theorem dX7_passes_61 : decode cX7_passes 61 = .ok (.iconst 0, 1) := by decide +kernel
theorem dX7_passes_62 : decode cX7_passes 62 = .ok (.istore 6, 2) := by decide +kernel
theorem dX7_passes_64 : decode cX7_passes 64 = .ok (.aload_n 0, 1) := by decide +kernel
theorem dX7_passes_65 : decode cX7_passes 65 = .ok (.getfield 7, 3) := by decide +kernel
theorem dX7_passes_68 : decode cX7_passes 68 = .ok (.iload_n 1, 1) := by decide +kernel
theorem dX7_passes_69 : decode cX7_passes 69 = .ok (.iconst 1, 1) := by decide +kernel
theorem dX7_passes_70 : decode cX7_passes 70 = .ok (.iadd, 1) := by decide +kernel
theorem dX7_passes_71 : decode cX7_passes 71 = .ok (.iload_n 3, 1) := by decide +kernel
theorem dX7_passes_72 : decode cX7_passes 72 = .ok (.iadd, 1) := by decide +kernel
theorem dX7_passes_73 : decode cX7_passes 73 = .ok (.iload 6, 2) := by decide +kernel
theorem dX7_passes_75 : decode cX7_passes 75 = .ok (.ifCond .ge 7, 3) := by decide +kernel
theorem dX7_passes_78 : decode cX7_passes 78 = .ok (.iconst 0, 1) := by decide +kernel
theorem dX7_passes_79 : decode cX7_passes 79 = .ok (.goto 17, 3) := by decide +kernel
theorem dX7_passes_82 : decode cX7_passes 82 = .ok (.iload 6, 2) := by decide +kernel
theorem dX7_passes_84 : decode cX7_passes 84 = .ok (.bipush 99, 2) := by decide +kernel
theorem dX7_passes_86 : decode cX7_passes 86 = .ok (.if_icmp .le 8, 3) := by decide +kernel
theorem dX7_passes_89 : decode cX7_passes 89 = .ok (.bipush 99, 2) := by decide +kernel
theorem dX7_passes_91 : decode cX7_passes 91 = .ok (.goto 5, 3) := by decide +kernel
theorem dX7_passes_94 : decode cX7_passes 94 = .ok (.iload 6, 2) := by decide +kernel
theorem dX7_passes_96 : decode cX7_passes 96 = .ok (.iastore, 1) := by decide +kernel
theorem dX7_passes_97 : decode cX7_passes 97 = .ok (.iinc 3 1, 3) := by decide +kernel
theorem dX7_passes_100 : decode cX7_passes 100 = .ok (.goto (-98), 3) := by decide +kernel
theorem dX7_passes_103 : decode cX7_passes 103 = .ok (.iconst 0, 1) := by decide +kernel
theorem dX7_passes_104 : decode cX7_passes 104 = .ok (.istore_n 3, 1) := by decide +kernel
theorem dX7_passes_105 : decode cX7_passes 105 = .ok (.iload_n 3, 1) := by decide +kernel
theorem dX7_passes_106 : decode cX7_passes 106 = .ok (.aload_n 0, 1) := by decide +kernel
theorem dX7_passes_107 : decode cX7_passes 107 = .ok (.getfield 7, 3) := by decide +kernel
theorem dX7_passes_110 : decode cX7_passes 110 = .ok (.iload_n 1, 1) := by decide +kernel
theorem dX7_passes_111 : decode cX7_passes 111 = .ok (.bipush 22, 2) := by decide +kernel
theorem dX7_passes_113 : decode cX7_passes 113 = .ok (.iadd, 1) := by decide +kernel
theorem dX7_passes_114 : decode cX7_passes 114 = .ok (.iaload, 1) := by decide +kernel
theorem dX7_passes_115 : decode cX7_passes 115 = .ok (.if_icmp .ge 41, 3) := by decide +kernel
theorem dX7_passes_118 : decode cX7_passes 118 = .ok (.aload_n 0, 1) := by decide +kernel
theorem dX7_passes_119 : decode cX7_passes 119 = .ok (.getfield 7, 3) := by decide +kernel
theorem dX7_passes_122 : decode cX7_passes 122 = .ok (.iload_n 1, 1) := by decide +kernel
theorem dX7_passes_123 : decode cX7_passes 123 = .ok (.bipush 14, 2) := by decide +kernel
theorem dX7_passes_125 : decode cX7_passes 125 = .ok (.iadd, 1) := by decide +kernel
theorem dX7_passes_126 : decode cX7_passes 126 = .ok (.iload_n 3, 1) := by decide +kernel
theorem dX7_passes_127 : decode cX7_passes 127 = .ok (.iadd, 1) := by decide +kernel
theorem dX7_passes_128 : decode cX7_passes 128 = .ok (.dup2, 1) := by decide +kernel
theorem dX7_passes_129 : decode cX7_passes 129 = .ok (.iaload, 1) := by decide +kernel
theorem dX7_passes_130 : decode cX7_passes 130 = .ok (.iload_n 2, 1) := by decide +kernel
theorem dX7_passes_131 : decode cX7_passes 131 = .ok (.iload_n 3, 1) := by decide +kernel
theorem dX7_passes_132 : decode cX7_passes 132 = .ok (.invokestatic 133, 3) := by decide +kernel
theorem dX7_passes_135 : decode cX7_passes 135 = .ok (.ifCond .eq 7, 3) := by decide +kernel
theorem dX7_passes_138 : decode cX7_passes 138 = .ok (.iconst 0, 1) := by decide +kernel
theorem dX7_passes_139 : decode cX7_passes 139 = .ok (.goto 9, 3) := by decide +kernel
theorem dX7_passes_142 : decode cX7_passes 142 = .ok (.aload_n 0, 1) := by decide +kernel
theorem dX7_passes_143 : decode cX7_passes 143 = .ok (.iload_n 1, 1) := by decide +kernel
theorem dX7_passes_144 : decode cX7_passes 144 = .ok (.iload_n 3, 1) := by decide +kernel
theorem dX7_passes_145 : decode cX7_passes 145 = .ok (.invokevirtual 136, 3) := by decide +kernel
theorem dX7_passes_148 : decode cX7_passes 148 = .ok (.iadd, 1) := by decide +kernel
theorem dX7_passes_149 : decode cX7_passes 149 = .ok (.iastore, 1) := by decide +kernel
theorem dX7_passes_150 : decode cX7_passes 150 = .ok (.iinc 3 1, 3) := by decide +kernel
theorem dX7_passes_153 : decode cX7_passes 153 = .ok (.goto (-48), 3) := by decide +kernel
theorem dX7_passes_156 : decode cX7_passes 156 = .ok (.aload_n 0, 1) := by decide +kernel
theorem dX7_passes_157 : decode cX7_passes 157 = .ok (.getfield 7, 3) := by decide +kernel
theorem dX7_passes_160 : decode cX7_passes 160 = .ok (.iload_n 1, 1) := by decide +kernel
theorem dX7_passes_161 : decode cX7_passes 161 = .ok (.iconst 0, 1) := by decide +kernel
theorem dX7_passes_162 : decode cX7_passes 162 = .ok (.iadd, 1) := by decide +kernel
theorem dX7_passes_163 : decode cX7_passes 163 = .ok (.dup2, 1) := by decide +kernel
theorem dX7_passes_164 : decode cX7_passes 164 = .ok (.iaload, 1) := by decide +kernel
theorem dX7_passes_165 : decode cX7_passes 165 = .ok (.iconst 1, 1) := by decide +kernel
theorem dX7_passes_166 : decode cX7_passes 166 = .ok (.iadd, 1) := by decide +kernel
theorem dX7_passes_167 : decode cX7_passes 167 = .ok (.iastore, 1) := by decide +kernel
theorem dX7_passes_168 : decode cX7_passes 168 = .ok (.return_, 1) := by decide +kernel
theorem dX7_restsIn_0 : decode cX7_restsIn 0 = .ok (.iconst 0, 1) := by decide +kernel
theorem dX7_restsIn_1 : decode cX7_restsIn 1 = .ok (.istore_n 2, 1) := by decide +kernel
theorem dX7_restsIn_2 : decode cX7_restsIn 2 = .ok (.iconst 0, 1) := by decide +kernel
theorem dX7_restsIn_3 : decode cX7_restsIn 3 = .ok (.istore_n 3, 1) := by decide +kernel
theorem dX7_restsIn_4 : decode cX7_restsIn 4 = .ok (.iload_n 3, 1) := by decide +kernel
theorem dX7_restsIn_5 : decode cX7_restsIn 5 = .ok (.aload_n 0, 1) := by decide +kernel
theorem dX7_restsIn_6 : decode cX7_restsIn 6 = .ok (.getfield 7, 3) := by decide +kernel
theorem dX7_restsIn_9 : decode cX7_restsIn 9 = .ok (.iload_n 1, 1) := by decide +kernel
theorem dX7_restsIn_10 : decode cX7_restsIn 10 = .ok (.bipush 21, 2) := by decide +kernel
theorem dX7_restsIn_12 : decode cX7_restsIn 12 = .ok (.iadd, 1) := by decide +kernel
theorem dX7_restsIn_13 : decode cX7_restsIn 13 = .ok (.iaload, 1) := by decide +kernel
theorem dX7_restsIn_14 : decode cX7_restsIn 14 = .ok (.if_icmp .ge 41, 3) := by decide +kernel
theorem dX7_restsIn_17 : decode cX7_restsIn 17 = .ok (.iload_n 2, 1) := by decide +kernel
theorem dX7_restsIn_18 : decode cX7_restsIn 18 = .ok (.aload_n 0, 1) := by decide +kernel
theorem dX7_restsIn_19 : decode cX7_restsIn 19 = .ok (.getfield 7, 3) := by decide +kernel
theorem dX7_restsIn_22 : decode cX7_restsIn 22 = .ok (.iload_n 1, 1) := by decide +kernel
theorem dX7_restsIn_23 : decode cX7_restsIn 23 = .ok (.iconst 1, 1) := by decide +kernel
theorem dX7_restsIn_24 : decode cX7_restsIn 24 = .ok (.iadd, 1) := by decide +kernel
theorem dX7_restsIn_25 : decode cX7_restsIn 25 = .ok (.iload_n 3, 1) := by decide +kernel
theorem dX7_restsIn_26 : decode cX7_restsIn 26 = .ok (.iadd, 1) := by decide +kernel
theorem dX7_restsIn_27 : decode cX7_restsIn 27 = .ok (.iaload, 1) := by decide +kernel
theorem dX7_restsIn_28 : decode cX7_restsIn 28 = .ok (.aload_n 0, 1) := by decide +kernel
theorem dX7_restsIn_29 : decode cX7_restsIn 29 = .ok (.getfield 7, 3) := by decide +kernel
theorem dX7_restsIn_32 : decode cX7_restsIn 32 = .ok (.iload_n 1, 1) := by decide +kernel
theorem dX7_restsIn_33 : decode cX7_restsIn 33 = .ok (.bipush 19, 2) := by decide +kernel
theorem dX7_restsIn_35 : decode cX7_restsIn 35 = .ok (.iadd, 1) := by decide +kernel
theorem dX7_restsIn_36 : decode cX7_restsIn 36 = .ok (.iaload, 1) := by decide +kernel
theorem dX7_restsIn_37 : decode cX7_restsIn 37 = .ok (.if_icmp .gt 9, 3) := by decide +kernel
theorem dX7_restsIn_40 : decode cX7_restsIn 40 = .ok (.iconst 1, 1) := by decide +kernel
theorem dX7_restsIn_41 : decode cX7_restsIn 41 = .ok (.iload_n 3, 1) := by decide +kernel
theorem dX7_restsIn_42 : decode cX7_restsIn 42 = .ok (.ishl, 1) := by decide +kernel
theorem dX7_restsIn_43 : decode cX7_restsIn 43 = .ok (.goto 4, 3) := by decide +kernel
theorem dX7_restsIn_46 : decode cX7_restsIn 46 = .ok (.iconst 0, 1) := by decide +kernel
theorem dX7_restsIn_47 : decode cX7_restsIn 47 = .ok (.ior, 1) := by decide +kernel
theorem dX7_restsIn_48 : decode cX7_restsIn 48 = .ok (.istore_n 2, 1) := by decide +kernel
theorem dX7_restsIn_49 : decode cX7_restsIn 49 = .ok (.iinc 3 1, 3) := by decide +kernel
theorem dX7_restsIn_52 : decode cX7_restsIn 52 = .ok (.goto (-48), 3) := by decide +kernel
theorem dX7_restsIn_55 : decode cX7_restsIn 55 = .ok (.iload_n 2, 1) := by decide +kernel
theorem dX7_restsIn_56 : decode cX7_restsIn 56 = .ok (.ireturn, 1) := by decide +kernel
theorem dX7_minds_0 : decode cX7_minds 0 = .ok (.aload_n 0, 1) := by decide +kernel
theorem dX7_minds_1 : decode cX7_minds 1 = .ok (.getfield 123, 3) := by decide +kernel
theorem dX7_minds_4 : decode cX7_minds 4 = .ok (.bipush 24, 2) := by decide +kernel
theorem dX7_minds_6 : decode cX7_minds 6 = .ok (.if_icmp .ne 43, 3) := by decide +kernel
theorem dX7_minds_9 : decode cX7_minds 9 = .ok (.iconst 0, 1) := by decide +kernel
theorem dX7_minds_10 : decode cX7_minds 10 = .ok (.istore_n 1, 1) := by decide +kernel
theorem dX7_minds_11 : decode cX7_minds 11 = .ok (.iload_n 1, 1) := by decide +kernel
theorem dX7_minds_12 : decode cX7_minds 12 = .ok (.sipush 414, 3) := by decide +kernel
theorem dX7_minds_15 : decode cX7_minds 15 = .ok (.if_icmp .ge 24, 3) := by decide +kernel
theorem dX7_minds_18 : decode cX7_minds 18 = .ok (.aload_n 0, 1) := by decide +kernel
theorem dX7_minds_19 : decode cX7_minds 19 = .ok (.getfield 17, 3) := by decide +kernel
theorem dX7_minds_22 : decode cX7_minds 22 = .ok (.iload_n 1, 1) := by decide +kernel
theorem dX7_minds_23 : decode cX7_minds 23 = .ok (.aload_n 0, 1) := by decide +kernel
theorem dX7_minds_24 : decode cX7_minds 24 = .ok (.getfield 17, 3) := by decide +kernel
theorem dX7_minds_27 : decode cX7_minds 27 = .ok (.iload_n 1, 1) := by decide +kernel
theorem dX7_minds_28 : decode cX7_minds 28 = .ok (.bipush 18, 2) := by decide +kernel
theorem dX7_minds_30 : decode cX7_minds 30 = .ok (.iadd, 1) := by decide +kernel
theorem dX7_minds_31 : decode cX7_minds 31 = .ok (.iaload, 1) := by decide +kernel
theorem dX7_minds_32 : decode cX7_minds 32 = .ok (.iastore, 1) := by decide +kernel
theorem dX7_minds_33 : decode cX7_minds 33 = .ok (.iinc 1 1, 3) := by decide +kernel
theorem dX7_minds_36 : decode cX7_minds 36 = .ok (.goto (-25), 3) := by decide +kernel
theorem dX7_minds_39 : decode cX7_minds 39 = .ok (.aload_n 0, 1) := by decide +kernel
theorem dX7_minds_40 : decode cX7_minds 40 = .ok (.dup, 1) := by decide +kernel
theorem dX7_minds_41 : decode cX7_minds 41 = .ok (.getfield 123, 3) := by decide +kernel
theorem dX7_minds_44 : decode cX7_minds 44 = .ok (.iconst 1, 1) := by decide +kernel
theorem dX7_minds_45 : decode cX7_minds 45 = .ok (.isub, 1) := by decide +kernel
theorem dX7_minds_46 : decode cX7_minds 46 = .ok (.putfield 123, 3) := by decide +kernel
theorem dX7_minds_49 : decode cX7_minds 49 = .ok (.iconst 0, 1) := by decide +kernel
theorem dX7_minds_50 : decode cX7_minds 50 = .ok (.istore_n 1, 1) := by decide +kernel
theorem dX7_minds_51 : decode cX7_minds 51 = .ok (.iload_n 1, 1) := by decide +kernel
theorem dX7_minds_52 : decode cX7_minds 52 = .ok (.bipush 18, 2) := by decide +kernel
theorem dX7_minds_54 : decode cX7_minds 54 = .ok (.if_icmp .ge 29, 3) := by decide +kernel
theorem dX7_minds_57 : decode cX7_minds 57 = .ok (.aload_n 0, 1) := by decide +kernel
theorem dX7_minds_58 : decode cX7_minds 58 = .ok (.getfield 17, 3) := by decide +kernel
theorem dX7_minds_61 : decode cX7_minds 61 = .ok (.bipush 18, 2) := by decide +kernel
theorem dX7_minds_63 : decode cX7_minds 63 = .ok (.aload_n 0, 1) := by decide +kernel
theorem dX7_minds_64 : decode cX7_minds 64 = .ok (.getfield 123, 3) := by decide +kernel
theorem dX7_minds_67 : decode cX7_minds 67 = .ok (.imul, 1) := by decide +kernel
theorem dX7_minds_68 : decode cX7_minds 68 = .ok (.iload_n 1, 1) := by decide +kernel
theorem dX7_minds_69 : decode cX7_minds 69 = .ok (.iadd, 1) := by decide +kernel
theorem dX7_minds_70 : decode cX7_minds 70 = .ok (.aload_n 0, 1) := by decide +kernel
theorem dX7_minds_71 : decode cX7_minds 71 = .ok (.getfield 7, 3) := by decide +kernel
theorem dX7_minds_74 : decode cX7_minds 74 = .ok (.iload_n 1, 1) := by decide +kernel
theorem dX7_minds_75 : decode cX7_minds 75 = .ok (.iaload, 1) := by decide +kernel
theorem dX7_minds_76 : decode cX7_minds 76 = .ok (.iastore, 1) := by decide +kernel
theorem dX7_minds_77 : decode cX7_minds 77 = .ok (.iinc 1 1, 3) := by decide +kernel
theorem dX7_minds_80 : decode cX7_minds 80 = .ok (.goto (-29), 3) := by decide +kernel
theorem dX7_minds_83 : decode cX7_minds 83 = .ok (.aload_n 0, 1) := by decide +kernel
theorem dX7_minds_84 : decode cX7_minds 84 = .ok (.dup, 1) := by decide +kernel
theorem dX7_minds_85 : decode cX7_minds 85 = .ok (.getfield 123, 3) := by decide +kernel
theorem dX7_minds_88 : decode cX7_minds 88 = .ok (.iconst 1, 1) := by decide +kernel
theorem dX7_minds_89 : decode cX7_minds 89 = .ok (.iadd, 1) := by decide +kernel
theorem dX7_minds_90 : decode cX7_minds 90 = .ok (.putfield 123, 3) := by decide +kernel
theorem dX7_minds_93 : decode cX7_minds 93 = .ok (.return_, 1) := by decide +kernel
theorem dX7_nights_0 : decode cX7_nights 0 = .ok (.aload_n 0, 1) := by decide +kernel
theorem dX7_nights_1 : decode cX7_nights 1 = .ok (.invokevirtual 143, 3) := by decide +kernel
theorem dX7_nights_4 : decode cX7_nights 4 = .ok (.ifCond .ne 6, 3) := by decide +kernel
theorem dX7_nights_7 : decode cX7_nights 7 = .ok (.ldc 146, 2) := by decide +kernel
theorem dX7_nights_9 : decode cX7_nights 9 = .ok (.ireturn, 1) := by decide +kernel
theorem dX7_nights_10 : decode cX7_nights 10 = .ok (.iload_n 1, 1) := by decide +kernel
theorem dX7_nights_11 : decode cX7_nights 11 = .ok (.i2l, 1) := by decide +kernel
theorem dX7_nights_12 : decode cX7_nights 12 = .ok (.lconst 1, 1) := by decide +kernel
theorem dX7_nights_13 : decode cX7_nights 13 = .ok (.ldc2_w 147, 3) := by decide +kernel
theorem dX7_nights_16 : decode cX7_nights 16 = .ok (.invokestatic 45, 3) := by decide +kernel
theorem dX7_nights_19 : decode cX7_nights 19 = .ok (.ifCond .ne 6, 3) := by decide +kernel
theorem dX7_nights_22 : decode cX7_nights 22 = .ok (.ldc 55, 2) := by decide +kernel
theorem dX7_nights_24 : decode cX7_nights 24 = .ok (.ireturn, 1) := by decide +kernel
theorem dX7_nights_25 : decode cX7_nights 25 = .ok (.aload_n 0, 1) := by decide +kernel
theorem dX7_nights_26 : decode cX7_nights 26 = .ok (.getfield 7, 3) := by decide +kernel
theorem dX7_nights_29 : decode cX7_nights 29 = .ok (.iconst 0, 1) := by decide +kernel
theorem dX7_nights_30 : decode cX7_nights 30 = .ok (.iaload, 1) := by decide +kernel
theorem dX7_nights_31 : decode cX7_nights 31 = .ok (.iload_n 1, 1) := by decide +kernel
theorem dX7_nights_32 : decode cX7_nights 32 = .ok (.iadd, 1) := by decide +kernel
theorem dX7_nights_33 : decode cX7_nights 33 = .ok (.sipush 999, 3) := by decide +kernel
theorem dX7_nights_36 : decode cX7_nights 36 = .ok (.if_icmp .le 6, 3) := by decide +kernel
theorem dX7_nights_39 : decode cX7_nights 39 = .ok (.ldc 72, 2) := by decide +kernel
theorem dX7_nights_41 : decode cX7_nights 41 = .ok (.ireturn, 1) := by decide +kernel
theorem dX7_nights_42 : decode cX7_nights 42 = .ok (.iconst 0, 1) := by decide +kernel
theorem dX7_nights_43 : decode cX7_nights 43 = .ok (.istore_n 2, 1) := by decide +kernel
theorem dX7_nights_44 : decode cX7_nights 44 = .ok (.iload_n 2, 1) := by decide +kernel
theorem dX7_nights_45 : decode cX7_nights 45 = .ok (.iload_n 1, 1) := by decide +kernel
theorem dX7_nights_46 : decode cX7_nights 46 = .ok (.if_icmp .ge 19, 3) := by decide +kernel
theorem dX7_nights_49 : decode cX7_nights 49 = .ok (.aload_n 0, 1) := by decide +kernel
theorem dX7_nights_50 : decode cX7_nights 50 = .ok (.invokevirtual 149, 3) := by decide +kernel
theorem dX7_nights_53 : decode cX7_nights 53 = .ok (.aload_n 0, 1) := by decide +kernel
theorem dX7_nights_54 : decode cX7_nights 54 = .ok (.iconst 0, 1) := by decide +kernel
theorem dX7_nights_55 : decode cX7_nights 55 = .ok (.iconst 0, 1) := by decide +kernel
theorem dX7_nights_56 : decode cX7_nights 56 = .ok (.invokevirtual 152, 3) := by decide +kernel
theorem dX7_nights_59 : decode cX7_nights 59 = .ok (.iinc 2 1, 3) := by decide +kernel
theorem dX7_nights_62 : decode cX7_nights 62 = .ok (.goto (-18), 3) := by decide +kernel
theorem dX7_nights_65 : decode cX7_nights 65 = .ok (.aload_n 0, 1) := by decide +kernel
theorem dX7_nights_66 : decode cX7_nights 66 = .ok (.iconst 0, 1) := by decide +kernel
theorem dX7_nights_67 : decode cX7_nights 67 = .ok (.invokevirtual 155, 3) := by decide +kernel
theorem dX7_nights_70 : decode cX7_nights 70 = .ok (.ireturn, 1) := by decide +kernel
theorem dX7_let_0 : decode cX7_let 0 = .ok (.aload_n 0, 1) := by decide +kernel
theorem dX7_let_1 : decode cX7_let 1 = .ok (.iload_n 1, 1) := by decide +kernel
theorem dX7_let_2 : decode cX7_let 2 = .ok (.invokevirtual 158, 3) := by decide +kernel
theorem dX7_let_5 : decode cX7_let 5 = .ok (.ifCond .eq 16, 3) := by decide +kernel
theorem dX7_let_8 : decode cX7_let 8 = .ok (.iload_n 2, 1) := by decide +kernel
theorem dX7_let_9 : decode cX7_let 9 = .ok (.iconst 5, 1) := by decide +kernel
theorem dX7_let_10 : decode cX7_let 10 = .ok (.if_icmp .eq 14, 3) := by decide +kernel
theorem dX7_let_13 : decode cX7_let 13 = .ok (.aload_n 0, 1) := by decide +kernel
theorem dX7_let_14 : decode cX7_let 14 = .ok (.iload_n 2, 1) := by decide +kernel
theorem dX7_let_15 : decode cX7_let 15 = .ok (.invokevirtual 161, 3) := by decide +kernel
theorem dX7_let_18 : decode cX7_let 18 = .ok (.ifCond .ne 6, 3) := by decide +kernel
theorem dX7_let_21 : decode cX7_let 21 = .ok (.ldc 55, 2) := by decide +kernel
theorem dX7_let_23 : decode cX7_let 23 = .ok (.ireturn, 1) := by decide +kernel
theorem dX7_let_24 : decode cX7_let 24 = .ok (.aload_n 0, 1) := by decide +kernel
theorem dX7_let_25 : decode cX7_let 25 = .ok (.getfield 7, 3) := by decide +kernel
theorem dX7_let_28 : decode cX7_let 28 = .ok (.bipush 10, 2) := by decide +kernel
theorem dX7_let_30 : decode cX7_let 30 = .ok (.iload_n 1, 1) := by decide +kernel
theorem dX7_let_31 : decode cX7_let 31 = .ok (.iadd, 1) := by decide +kernel
theorem dX7_let_32 : decode cX7_let 32 = .ok (.iaload, 1) := by decide +kernel
theorem dX7_let_33 : decode cX7_let 33 = .ok (.istore_n 3, 1) := by decide +kernel
theorem dX7_let_34 : decode cX7_let 34 = .ok (.iload_n 3, 1) := by decide +kernel
theorem dX7_let_35 : decode cX7_let 35 = .ok (.iload_n 2, 1) := by decide +kernel
theorem dX7_let_36 : decode cX7_let 36 = .ok (.if_icmp .ne 6, 3) := by decide +kernel
theorem dX7_let_39 : decode cX7_let 39 = .ok (.ldc 146, 2) := by decide +kernel
theorem dX7_let_41 : decode cX7_let 41 = .ok (.ireturn, 1) := by decide +kernel
theorem dX7_let_42 : decode cX7_let 42 = .ok (.aload_n 0, 1) := by decide +kernel
theorem dX7_let_43 : decode cX7_let 43 = .ok (.invokevirtual 149, 3) := by decide +kernel
theorem dX7_let_46 : decode cX7_let 46 = .ok (.aload_n 0, 1) := by decide +kernel
theorem dX7_let_47 : decode cX7_let 47 = .ok (.getfield 7, 3) := by decide +kernel
theorem dX7_let_50 : decode cX7_let 50 = .ok (.bipush 10, 2) := by decide +kernel
theorem dX7_let_52 : decode cX7_let 52 = .ok (.iload_n 1, 1) := by decide +kernel
theorem dX7_let_53 : decode cX7_let 53 = .ok (.iadd, 1) := by decide +kernel
theorem dX7_let_54 : decode cX7_let 54 = .ok (.iload_n 2, 1) := by decide +kernel
theorem dX7_let_55 : decode cX7_let 55 = .ok (.iastore, 1) := by decide +kernel
theorem dX7_let_56 : decode cX7_let 56 = .ok (.iload_n 3, 1) := by decide +kernel
theorem dX7_let_57 : decode cX7_let 57 = .ok (.ireturn, 1) := by decide +kernel
theorem dX7_grow_0 : decode cX7_grow 0 = .ok (.aload_n 0, 1) := by decide +kernel
theorem dX7_grow_1 : decode cX7_grow 1 = .ok (.iload_n 1, 1) := by decide +kernel
theorem dX7_grow_2 : decode cX7_grow 2 = .ok (.invokevirtual 161, 3) := by decide +kernel
theorem dX7_grow_5 : decode cX7_grow 5 = .ok (.ifCond .eq 15, 3) := by decide +kernel
theorem dX7_grow_8 : decode cX7_grow 8 = .ok (.iload_n 2, 1) := by decide +kernel
theorem dX7_grow_9 : decode cX7_grow 9 = .ok (.i2l, 1) := by decide +kernel
theorem dX7_grow_10 : decode cX7_grow 10 = .ok (.lconst 1, 1) := by decide +kernel
theorem dX7_grow_11 : decode cX7_grow 11 = .ok (.ldc2_w 164, 3) := by decide +kernel
theorem dX7_grow_14 : decode cX7_grow 14 = .ok (.invokestatic 45, 3) := by decide +kernel
theorem dX7_grow_17 : decode cX7_grow 17 = .ok (.ifCond .ne 6, 3) := by decide +kernel
theorem dX7_grow_20 : decode cX7_grow 20 = .ok (.ldc 55, 2) := by decide +kernel
theorem dX7_grow_22 : decode cX7_grow 22 = .ok (.ireturn, 1) := by decide +kernel
theorem dX7_grow_23 : decode cX7_grow 23 = .ok (.aload_n 0, 1) := by decide +kernel
theorem dX7_grow_24 : decode cX7_grow 24 = .ok (.invokevirtual 149, 3) := by decide +kernel
theorem dX7_grow_27 : decode cX7_grow 27 = .ok (.aload_n 0, 1) := by decide +kernel
theorem dX7_grow_28 : decode cX7_grow 28 = .ok (.getfield 7, 3) := by decide +kernel
theorem dX7_grow_31 : decode cX7_grow 31 = .ok (.iconst 1, 1) := by decide +kernel
theorem dX7_grow_32 : decode cX7_grow 32 = .ok (.iload_n 1, 1) := by decide +kernel
theorem dX7_grow_33 : decode cX7_grow 33 = .ok (.iadd, 1) := by decide +kernel
theorem dX7_grow_34 : decode cX7_grow 34 = .ok (.aload_n 0, 1) := by decide +kernel
theorem dX7_grow_35 : decode cX7_grow 35 = .ok (.getfield 7, 3) := by decide +kernel
theorem dX7_grow_38 : decode cX7_grow 38 = .ok (.iconst 1, 1) := by decide +kernel
theorem dX7_grow_39 : decode cX7_grow 39 = .ok (.iload_n 1, 1) := by decide +kernel
theorem dX7_grow_40 : decode cX7_grow 40 = .ok (.iadd, 1) := by decide +kernel
theorem dX7_grow_41 : decode cX7_grow 41 = .ok (.iaload, 1) := by decide +kernel
theorem dX7_grow_42 : decode cX7_grow 42 = .ok (.iload_n 2, 1) := by decide +kernel
theorem dX7_grow_43 : decode cX7_grow 43 = .ok (.iadd, 1) := by decide +kernel
theorem dX7_grow_44 : decode cX7_grow 44 = .ok (.bipush 99, 2) := by decide +kernel
theorem dX7_grow_46 : decode cX7_grow 46 = .ok (.if_icmp .le 8, 3) := by decide +kernel
theorem dX7_grow_49 : decode cX7_grow 49 = .ok (.bipush 99, 2) := by decide +kernel
theorem dX7_grow_51 : decode cX7_grow 51 = .ok (.goto 13, 3) := by decide +kernel
theorem dX7_grow_54 : decode cX7_grow 54 = .ok (.aload_n 0, 1) := by decide +kernel
theorem dX7_grow_55 : decode cX7_grow 55 = .ok (.getfield 7, 3) := by decide +kernel
theorem dX7_grow_58 : decode cX7_grow 58 = .ok (.iconst 1, 1) := by decide +kernel
theorem dX7_grow_59 : decode cX7_grow 59 = .ok (.iload_n 1, 1) := by decide +kernel
theorem dX7_grow_60 : decode cX7_grow 60 = .ok (.iadd, 1) := by decide +kernel
theorem dX7_grow_61 : decode cX7_grow 61 = .ok (.iaload, 1) := by decide +kernel
theorem dX7_grow_62 : decode cX7_grow 62 = .ok (.iload_n 2, 1) := by decide +kernel
theorem dX7_grow_63 : decode cX7_grow 63 = .ok (.iadd, 1) := by decide +kernel
theorem dX7_grow_64 : decode cX7_grow 64 = .ok (.iastore, 1) := by decide +kernel
theorem dX7_grow_65 : decode cX7_grow 65 = .ok (.aload_n 0, 1) := by decide +kernel
theorem dX7_grow_66 : decode cX7_grow 66 = .ok (.getfield 7, 3) := by decide +kernel
theorem dX7_grow_69 : decode cX7_grow 69 = .ok (.iconst 1, 1) := by decide +kernel
theorem dX7_grow_70 : decode cX7_grow 70 = .ok (.iload_n 1, 1) := by decide +kernel
theorem dX7_grow_71 : decode cX7_grow 71 = .ok (.iadd, 1) := by decide +kernel
theorem dX7_grow_72 : decode cX7_grow 72 = .ok (.iaload, 1) := by decide +kernel
theorem dX7_grow_73 : decode cX7_grow 73 = .ok (.ireturn, 1) := by decide +kernel
theorem dX7_learn_0 : decode cX7_learn 0 = .ok (.aload_n 0, 1) := by decide +kernel
theorem dX7_learn_1 : decode cX7_learn 1 = .ok (.iload_n 1, 1) := by decide +kernel
theorem dX7_learn_2 : decode cX7_learn 2 = .ok (.invokevirtual 158, 3) := by decide +kernel
theorem dX7_learn_5 : decode cX7_learn 5 = .ok (.ifCond .eq 15, 3) := by decide +kernel
theorem dX7_learn_8 : decode cX7_learn 8 = .ok (.iload_n 2, 1) := by decide +kernel
theorem dX7_learn_9 : decode cX7_learn 9 = .ok (.i2l, 1) := by decide +kernel
theorem dX7_learn_10 : decode cX7_learn 10 = .ok (.lconst 0, 1) := by decide +kernel
theorem dX7_learn_11 : decode cX7_learn 11 = .ok (.ldc2_w 166, 3) := by decide +kernel
theorem dX7_learn_14 : decode cX7_learn 14 = .ok (.invokestatic 45, 3) := by decide +kernel
theorem dX7_learn_17 : decode cX7_learn 17 = .ok (.ifCond .ne 6, 3) := by decide +kernel
theorem dX7_learn_20 : decode cX7_learn 20 = .ok (.ldc 55, 2) := by decide +kernel
theorem dX7_learn_22 : decode cX7_learn 22 = .ok (.ireturn, 1) := by decide +kernel
theorem dX7_learn_23 : decode cX7_learn 23 = .ok (.aload_n 0, 1) := by decide +kernel
theorem dX7_learn_24 : decode cX7_learn 24 = .ok (.invokevirtual 149, 3) := by decide +kernel
theorem dX7_learn_27 : decode cX7_learn 27 = .ok (.aload_n 0, 1) := by decide +kernel
theorem dX7_learn_28 : decode cX7_learn 28 = .ok (.getfield 7, 3) := by decide +kernel
theorem dX7_learn_31 : decode cX7_learn 31 = .ok (.bipush 6, 2) := by decide +kernel
theorem dX7_learn_33 : decode cX7_learn 33 = .ok (.iload_n 1, 1) := by decide +kernel
theorem dX7_learn_34 : decode cX7_learn 34 = .ok (.iadd, 1) := by decide +kernel
theorem dX7_learn_35 : decode cX7_learn 35 = .ok (.iaload, 1) := by decide +kernel
theorem dX7_learn_36 : decode cX7_learn 36 = .ok (.istore_n 3, 1) := by decide +kernel
theorem dX7_learn_37 : decode cX7_learn 37 = .ok (.aload_n 0, 1) := by decide +kernel
theorem dX7_learn_38 : decode cX7_learn 38 = .ok (.getfield 7, 3) := by decide +kernel
theorem dX7_learn_41 : decode cX7_learn 41 = .ok (.bipush 6, 2) := by decide +kernel
theorem dX7_learn_43 : decode cX7_learn 43 = .ok (.iload_n 1, 1) := by decide +kernel
theorem dX7_learn_44 : decode cX7_learn 44 = .ok (.iadd, 1) := by decide +kernel
theorem dX7_learn_45 : decode cX7_learn 45 = .ok (.iload_n 2, 1) := by decide +kernel
theorem dX7_learn_46 : decode cX7_learn 46 = .ok (.iastore, 1) := by decide +kernel
theorem dX7_learn_47 : decode cX7_learn 47 = .ok (.iload_n 3, 1) := by decide +kernel
theorem dX7_learn_48 : decode cX7_learn 48 = .ok (.ireturn, 1) := by decide +kernel
theorem dX7_undo_0 : decode cX7_undo 0 = .ok (.aload_n 0, 1) := by decide +kernel
theorem dX7_undo_1 : decode cX7_undo 1 = .ok (.getfield 123, 3) := by decide +kernel
theorem dX7_undo_4 : decode cX7_undo 4 = .ok (.ifCond .ne 6, 3) := by decide +kernel
theorem dX7_undo_7 : decode cX7_undo 7 = .ok (.ldc 146, 2) := by decide +kernel
theorem dX7_undo_9 : decode cX7_undo 9 = .ok (.ireturn, 1) := by decide +kernel
theorem dX7_undo_10 : decode cX7_undo 10 = .ok (.aload_n 0, 1) := by decide +kernel
theorem dX7_undo_11 : decode cX7_undo 11 = .ok (.dup, 1) := by decide +kernel
theorem dX7_undo_12 : decode cX7_undo 12 = .ok (.getfield 123, 3) := by decide +kernel
theorem dX7_undo_15 : decode cX7_undo 15 = .ok (.iconst 1, 1) := by decide +kernel
theorem dX7_undo_16 : decode cX7_undo 16 = .ok (.isub, 1) := by decide +kernel
theorem dX7_undo_17 : decode cX7_undo 17 = .ok (.putfield 123, 3) := by decide +kernel
theorem dX7_undo_20 : decode cX7_undo 20 = .ok (.iconst 0, 1) := by decide +kernel
theorem dX7_undo_21 : decode cX7_undo 21 = .ok (.istore_n 1, 1) := by decide +kernel
theorem dX7_undo_22 : decode cX7_undo 22 = .ok (.iload_n 1, 1) := by decide +kernel
theorem dX7_undo_23 : decode cX7_undo 23 = .ok (.bipush 18, 2) := by decide +kernel
theorem dX7_undo_25 : decode cX7_undo 25 = .ok (.if_icmp .ge 29, 3) := by decide +kernel
theorem dX7_undo_28 : decode cX7_undo 28 = .ok (.aload_n 0, 1) := by decide +kernel
theorem dX7_undo_29 : decode cX7_undo 29 = .ok (.getfield 7, 3) := by decide +kernel
theorem dX7_undo_32 : decode cX7_undo 32 = .ok (.iload_n 1, 1) := by decide +kernel
theorem dX7_undo_33 : decode cX7_undo 33 = .ok (.aload_n 0, 1) := by decide +kernel
theorem dX7_undo_34 : decode cX7_undo 34 = .ok (.getfield 17, 3) := by decide +kernel
theorem dX7_undo_37 : decode cX7_undo 37 = .ok (.bipush 18, 2) := by decide +kernel
theorem dX7_undo_39 : decode cX7_undo 39 = .ok (.aload_n 0, 1) := by decide +kernel
theorem dX7_undo_40 : decode cX7_undo 40 = .ok (.getfield 123, 3) := by decide +kernel
theorem dX7_undo_43 : decode cX7_undo 43 = .ok (.imul, 1) := by decide +kernel
theorem dX7_undo_44 : decode cX7_undo 44 = .ok (.iload_n 1, 1) := by decide +kernel
theorem dX7_undo_45 : decode cX7_undo 45 = .ok (.iadd, 1) := by decide +kernel
theorem dX7_undo_46 : decode cX7_undo 46 = .ok (.iaload, 1) := by decide +kernel
theorem dX7_undo_47 : decode cX7_undo 47 = .ok (.iastore, 1) := by decide +kernel
theorem dX7_undo_48 : decode cX7_undo 48 = .ok (.iinc 1 1, 3) := by decide +kernel
theorem dX7_undo_51 : decode cX7_undo 51 = .ok (.goto (-29), 3) := by decide +kernel
theorem dX7_undo_54 : decode cX7_undo 54 = .ok (.aload_n 0, 1) := by decide +kernel
theorem dX7_undo_55 : decode cX7_undo 55 = .ok (.getfield 123, 3) := by decide +kernel
theorem dX7_undo_58 : decode cX7_undo 58 = .ok (.ireturn, 1) := by decide +kernel
theorem dX7_client_0 : decode cX7_client 0 = .ok (.aload_n 0, 1) := by decide +kernel
theorem dX7_client_1 : decode cX7_client 1 = .ok (.iload_n 1, 1) := by decide +kernel
theorem dX7_client_2 : decode cX7_client 2 = .ok (.invokevirtual 161, 3) := by decide +kernel
theorem dX7_client_5 : decode cX7_client 5 = .ok (.ifCond .ne 6, 3) := by decide +kernel
theorem dX7_client_8 : decode cX7_client 8 = .ok (.ldc 55, 2) := by decide +kernel
theorem dX7_client_10 : decode cX7_client 10 = .ok (.ireturn, 1) := by decide +kernel
theorem dX7_client_11 : decode cX7_client 11 = .ok (.iload_n 2, 1) := by decide +kernel
theorem dX7_client_12 : decode cX7_client 12 = .ok (.tableswitch 131 0 4 #[36, 45, 55, 73, 123], 36) := by decide +kernel
theorem dX7_client_48 : decode cX7_client 48 = .ok (.aload_n 0, 1) := by decide +kernel
theorem dX7_client_49 : decode cX7_client 49 = .ok (.getfield 7, 3) := by decide +kernel
theorem dX7_client_52 : decode cX7_client 52 = .ok (.iconst 1, 1) := by decide +kernel
theorem dX7_client_53 : decode cX7_client 53 = .ok (.iload_n 1, 1) := by decide +kernel
theorem dX7_client_54 : decode cX7_client 54 = .ok (.iadd, 1) := by decide +kernel
theorem dX7_client_55 : decode cX7_client 55 = .ok (.iaload, 1) := by decide +kernel
theorem dX7_client_56 : decode cX7_client 56 = .ok (.ireturn, 1) := by decide +kernel
theorem dX7_client_57 : decode cX7_client 57 = .ok (.aload_n 0, 1) := by decide +kernel
theorem dX7_client_58 : decode cX7_client 58 = .ok (.getfield 7, 3) := by decide +kernel
theorem dX7_client_61 : decode cX7_client 61 = .ok (.bipush 23, 2) := by decide +kernel
theorem dX7_client_63 : decode cX7_client 63 = .ok (.iload_n 1, 1) := by decide +kernel
theorem dX7_client_64 : decode cX7_client 64 = .ok (.iadd, 1) := by decide +kernel
theorem dX7_client_65 : decode cX7_client 65 = .ok (.iaload, 1) := by decide +kernel
theorem dX7_client_66 : decode cX7_client 66 = .ok (.ireturn, 1) := by decide +kernel
theorem dX7_client_67 : decode cX7_client 67 = .ok (.aload_n 0, 1) := by decide +kernel
theorem dX7_client_68 : decode cX7_client 68 = .ok (.iconst 0, 1) := by decide +kernel
theorem dX7_client_69 : decode cX7_client 69 = .ok (.invokevirtual 155, 3) := by decide +kernel
theorem dX7_client_72 : decode cX7_client 72 = .ok (.iload_n 1, 1) := by decide +kernel
theorem dX7_client_73 : decode cX7_client 73 = .ok (.invokestatic 133, 3) := by decide +kernel
theorem dX7_client_76 : decode cX7_client 76 = .ok (.ifCond .eq 7, 3) := by decide +kernel
theorem dX7_client_79 : decode cX7_client 79 = .ok (.iconst 1, 1) := by decide +kernel
theorem dX7_client_80 : decode cX7_client 80 = .ok (.goto 4, 3) := by decide +kernel
theorem dX7_client_83 : decode cX7_client 83 = .ok (.iconst 0, 1) := by decide +kernel
theorem dX7_client_84 : decode cX7_client 84 = .ok (.ireturn, 1) := by decide +kernel
theorem dX7_client_85 : decode cX7_client 85 = .ok (.iconst 0, 1) := by decide +kernel
theorem dX7_client_86 : decode cX7_client 86 = .ok (.istore_n 3, 1) := by decide +kernel
theorem dX7_client_87 : decode cX7_client 87 = .ok (.iconst 0, 1) := by decide +kernel
theorem dX7_client_88 : decode cX7_client 88 = .ok (.istore 4, 2) := by decide +kernel
theorem dX7_client_90 : decode cX7_client 90 = .ok (.iload 4, 2) := by decide +kernel
theorem dX7_client_92 : decode cX7_client 92 = .ok (.aload_n 0, 1) := by decide +kernel
theorem dX7_client_93 : decode cX7_client 93 = .ok (.getfield 7, 3) := by decide +kernel
theorem dX7_client_96 : decode cX7_client 96 = .ok (.bipush 22, 2) := by decide +kernel
theorem dX7_client_98 : decode cX7_client 98 = .ok (.iaload, 1) := by decide +kernel
theorem dX7_client_99 : decode cX7_client 99 = .ok (.if_icmp .ge 34, 3) := by decide +kernel
theorem dX7_client_102 : decode cX7_client 102 = .ok (.iload_n 3, 1) := by decide +kernel
theorem dX7_client_103 : decode cX7_client 103 = .ok (.aload_n 0, 1) := by decide +kernel
theorem dX7_client_104 : decode cX7_client 104 = .ok (.getfield 7, 3) := by decide +kernel
theorem dX7_client_107 : decode cX7_client 107 = .ok (.bipush 10, 2) := by decide +kernel
theorem dX7_client_109 : decode cX7_client 109 = .ok (.iload 4, 2) := by decide +kernel
theorem dX7_client_111 : decode cX7_client 111 = .ok (.iadd, 1) := by decide +kernel
theorem dX7_client_112 : decode cX7_client 112 = .ok (.iaload, 1) := by decide +kernel
theorem dX7_client_113 : decode cX7_client 113 = .ok (.iload_n 1, 1) := by decide +kernel
theorem dX7_client_114 : decode cX7_client 114 = .ok (.if_icmp .ne 10, 3) := by decide +kernel
theorem dX7_client_117 : decode cX7_client 117 = .ok (.iconst 1, 1) := by decide +kernel
theorem dX7_client_118 : decode cX7_client 118 = .ok (.iload 4, 2) := by decide +kernel
theorem dX7_client_120 : decode cX7_client 120 = .ok (.ishl, 1) := by decide +kernel
theorem dX7_client_121 : decode cX7_client 121 = .ok (.goto 4, 3) := by decide +kernel
theorem dX7_client_124 : decode cX7_client 124 = .ok (.iconst 0, 1) := by decide +kernel
theorem dX7_client_125 : decode cX7_client 125 = .ok (.ior, 1) := by decide +kernel
theorem dX7_client_126 : decode cX7_client 126 = .ok (.istore_n 3, 1) := by decide +kernel
theorem dX7_client_127 : decode cX7_client 127 = .ok (.iinc 4 1, 3) := by decide +kernel
theorem dX7_client_130 : decode cX7_client 130 = .ok (.goto (-40), 3) := by decide +kernel
theorem dX7_client_133 : decode cX7_client 133 = .ok (.iload_n 3, 1) := by decide +kernel
theorem dX7_client_134 : decode cX7_client 134 = .ok (.ireturn, 1) := by decide +kernel
theorem dX7_client_135 : decode cX7_client 135 = .ok (.aload_n 0, 1) := by decide +kernel
theorem dX7_client_136 : decode cX7_client 136 = .ok (.iconst 0, 1) := by decide +kernel
theorem dX7_client_137 : decode cX7_client 137 = .ok (.iload_n 1, 1) := by decide +kernel
theorem dX7_client_138 : decode cX7_client 138 = .ok (.iconst 0, 1) := by decide +kernel
theorem dX7_client_139 : decode cX7_client 139 = .ok (.invokevirtual 139, 3) := by decide +kernel
theorem dX7_client_142 : decode cX7_client 142 = .ok (.ireturn, 1) := by decide +kernel
theorem dX7_client_143 : decode cX7_client 143 = .ok (.ldc 55, 2) := by decide +kernel
theorem dX7_client_145 : decode cX7_client 145 = .ok (.ireturn, 1) := by decide +kernel
theorem dX7_waker_0 : decode cX7_waker 0 = .ok (.aload_n 0, 1) := by decide +kernel
theorem dX7_waker_1 : decode cX7_waker 1 = .ok (.iload_n 1, 1) := by decide +kernel
theorem dX7_waker_2 : decode cX7_waker 2 = .ok (.invokevirtual 158, 3) := by decide +kernel
theorem dX7_waker_5 : decode cX7_waker 5 = .ok (.ifCond .ne 6, 3) := by decide +kernel
theorem dX7_waker_8 : decode cX7_waker 8 = .ok (.ldc 55, 2) := by decide +kernel
theorem dX7_waker_10 : decode cX7_waker 10 = .ok (.ireturn, 1) := by decide +kernel
theorem dX7_waker_11 : decode cX7_waker 11 = .ok (.iload_n 2, 1) := by decide +kernel
theorem dX7_waker_12 : decode cX7_waker 12 = .ok (.tableswitch 83 0 4 #[36, 46, 56, 66, 73], 36) := by decide +kernel
theorem dX7_waker_48 : decode cX7_waker 48 = .ok (.aload_n 0, 1) := by decide +kernel
theorem dX7_waker_49 : decode cX7_waker 49 = .ok (.getfield 7, 3) := by decide +kernel
theorem dX7_waker_52 : decode cX7_waker 52 = .ok (.bipush 32, 2) := by decide +kernel
theorem dX7_waker_54 : decode cX7_waker 54 = .ok (.iload_n 1, 1) := by decide +kernel
theorem dX7_waker_55 : decode cX7_waker 55 = .ok (.iadd, 1) := by decide +kernel
theorem dX7_waker_56 : decode cX7_waker 56 = .ok (.iaload, 1) := by decide +kernel
theorem dX7_waker_57 : decode cX7_waker 57 = .ok (.ireturn, 1) := by decide +kernel
theorem dX7_waker_58 : decode cX7_waker 58 = .ok (.aload_n 0, 1) := by decide +kernel
theorem dX7_waker_59 : decode cX7_waker 59 = .ok (.getfield 7, 3) := by decide +kernel
theorem dX7_waker_62 : decode cX7_waker 62 = .ok (.bipush 6, 2) := by decide +kernel
theorem dX7_waker_64 : decode cX7_waker 64 = .ok (.iload_n 1, 1) := by decide +kernel
theorem dX7_waker_65 : decode cX7_waker 65 = .ok (.iadd, 1) := by decide +kernel
theorem dX7_waker_66 : decode cX7_waker 66 = .ok (.iaload, 1) := by decide +kernel
theorem dX7_waker_67 : decode cX7_waker 67 = .ok (.ireturn, 1) := by decide +kernel
theorem dX7_waker_68 : decode cX7_waker 68 = .ok (.aload_n 0, 1) := by decide +kernel
theorem dX7_waker_69 : decode cX7_waker 69 = .ok (.getfield 7, 3) := by decide +kernel
theorem dX7_waker_72 : decode cX7_waker 72 = .ok (.bipush 10, 2) := by decide +kernel
theorem dX7_waker_74 : decode cX7_waker 74 = .ok (.iload_n 1, 1) := by decide +kernel
theorem dX7_waker_75 : decode cX7_waker 75 = .ok (.iadd, 1) := by decide +kernel
theorem dX7_waker_76 : decode cX7_waker 76 = .ok (.iaload, 1) := by decide +kernel
theorem dX7_waker_77 : decode cX7_waker 77 = .ok (.ireturn, 1) := by decide +kernel
theorem dX7_waker_78 : decode cX7_waker 78 = .ok (.aload_n 0, 1) := by decide +kernel
theorem dX7_waker_79 : decode cX7_waker 79 = .ok (.iconst 0, 1) := by decide +kernel
theorem dX7_waker_80 : decode cX7_waker 80 = .ok (.iload_n 1, 1) := by decide +kernel
theorem dX7_waker_81 : decode cX7_waker 81 = .ok (.invokevirtual 136, 3) := by decide +kernel
theorem dX7_waker_84 : decode cX7_waker 84 = .ok (.ireturn, 1) := by decide +kernel
theorem dX7_waker_85 : decode cX7_waker 85 = .ok (.aload_n 0, 1) := by decide +kernel
theorem dX7_waker_86 : decode cX7_waker 86 = .ok (.getfield 7, 3) := by decide +kernel
theorem dX7_waker_89 : decode cX7_waker 89 = .ok (.bipush 14, 2) := by decide +kernel
theorem dX7_waker_91 : decode cX7_waker 91 = .ok (.iload_n 1, 1) := by decide +kernel
theorem dX7_waker_92 : decode cX7_waker 92 = .ok (.iadd, 1) := by decide +kernel
theorem dX7_waker_93 : decode cX7_waker 93 = .ok (.iaload, 1) := by decide +kernel
theorem dX7_waker_94 : decode cX7_waker 94 = .ok (.ireturn, 1) := by decide +kernel
theorem dX7_waker_95 : decode cX7_waker 95 = .ok (.ldc 55, 2) := by decide +kernel
theorem dX7_waker_97 : decode cX7_waker 97 = .ok (.ireturn, 1) := by decide +kernel
theorem dX7_isSpan_0 : decode cX7_isSpan 0 = .ok (.iload_n 0, 1) := by decide +kernel
theorem dX7_isSpan_1 : decode cX7_isSpan 1 = .ok (.i2l, 1) := by decide +kernel
theorem dX7_isSpan_2 : decode cX7_isSpan 2 = .ok (.lconst 0, 1) := by decide +kernel
theorem dX7_isSpan_3 : decode cX7_isSpan 3 = .ok (.ldc2_w 168, 3) := by decide +kernel
theorem dX7_isSpan_6 : decode cX7_isSpan 6 = .ok (.invokestatic 45, 3) := by decide +kernel
theorem dX7_isSpan_9 : decode cX7_isSpan 9 = .ok (.ireturn, 1) := by decide +kernel
theorem dX7_tries_0 : decode cX7_tries 0 = .ok (.iconst 0, 1) := by decide +kernel
theorem dX7_tries_1 : decode cX7_tries 1 = .ok (.istore_n 2, 1) := by decide +kernel
theorem dX7_tries_2 : decode cX7_tries 2 = .ok (.iload_n 2, 1) := by decide +kernel
theorem dX7_tries_3 : decode cX7_tries 3 = .ok (.iload_n 1, 1) := by decide +kernel
theorem dX7_tries_4 : decode cX7_tries 4 = .ok (.if_icmp .ge 16, 3) := by decide +kernel
theorem dX7_tries_7 : decode cX7_tries 7 = .ok (.aload_n 0, 1) := by decide +kernel
theorem dX7_tries_8 : decode cX7_tries 8 = .ok (.bipush 108, 2) := by decide +kernel
theorem dX7_tries_10 : decode cX7_tries 10 = .ok (.iconst 0, 1) := by decide +kernel
theorem dX7_tries_11 : decode cX7_tries 11 = .ok (.invokevirtual 152, 3) := by decide +kernel
theorem dX7_tries_14 : decode cX7_tries 14 = .ok (.iinc 2 1, 3) := by decide +kernel
theorem dX7_tries_17 : decode cX7_tries 17 = .ok (.goto (-15), 3) := by decide +kernel
theorem dX7_tries_20 : decode cX7_tries 20 = .ok (.return_, 1) := by decide +kernel
theorem dX7_triesFrom_0 : decode cX7_triesFrom 0 = .ok (.aload_n 0, 1) := by decide +kernel
theorem dX7_triesFrom_1 : decode cX7_triesFrom 1 = .ok (.iconst 0, 1) := by decide +kernel
theorem dX7_triesFrom_2 : decode cX7_triesFrom 2 = .ok (.bipush 108, 2) := by decide +kernel
theorem dX7_triesFrom_4 : decode cX7_triesFrom 4 = .ok (.invokevirtual 119, 3) := by decide +kernel
theorem dX7_triesFrom_7 : decode cX7_triesFrom 7 = .ok (.aload_n 0, 1) := by decide +kernel
theorem dX7_triesFrom_8 : decode cX7_triesFrom 8 = .ok (.iload_n 1, 1) := by decide +kernel
theorem dX7_triesFrom_9 : decode cX7_triesFrom 9 = .ok (.invokevirtual 170, 3) := by decide +kernel
theorem dX7_triesFrom_12 : decode cX7_triesFrom 12 = .ok (.return_, 1) := by decide +kernel
theorem dX7_weight_0 : decode cX7_weight 0 = .ok (.aload_n 0, 1) := by decide +kernel
theorem dX7_weight_1 : decode cX7_weight 1 = .ok (.iload_n 1, 1) := by decide +kernel
theorem dX7_weight_2 : decode cX7_weight 2 = .ok (.invokevirtual 161, 3) := by decide +kernel
theorem dX7_weight_5 : decode cX7_weight 5 = .ok (.ifCond .eq 10, 3) := by decide +kernel
theorem dX7_weight_8 : decode cX7_weight 8 = .ok (.iload_n 2, 1) := by decide +kernel
theorem dX7_weight_9 : decode cX7_weight 9 = .ok (.invokestatic 174, 3) := by decide +kernel
theorem dX7_weight_12 : decode cX7_weight 12 = .ok (.ifCond .ne 6, 3) := by decide +kernel
theorem dX7_weight_15 : decode cX7_weight 15 = .ok (.ldc 55, 2) := by decide +kernel
theorem dX7_weight_17 : decode cX7_weight 17 = .ok (.ireturn, 1) := by decide +kernel
theorem dX7_weight_18 : decode cX7_weight 18 = .ok (.aload_n 0, 1) := by decide +kernel
theorem dX7_weight_19 : decode cX7_weight 19 = .ok (.iload_n 2, 1) := by decide +kernel
theorem dX7_weight_20 : decode cX7_weight 20 = .ok (.invokevirtual 177, 3) := by decide +kernel
theorem dX7_weight_23 : decode cX7_weight 23 = .ok (.aload_n 0, 1) := by decide +kernel
theorem dX7_weight_24 : decode cX7_weight 24 = .ok (.getfield 7, 3) := by decide +kernel
theorem dX7_weight_27 : decode cX7_weight 27 = .ok (.bipush 109, 2) := by decide +kernel
theorem dX7_weight_29 : decode cX7_weight 29 = .ok (.iload_n 1, 1) := by decide +kernel
theorem dX7_weight_30 : decode cX7_weight 30 = .ok (.iadd, 1) := by decide +kernel
theorem dX7_weight_31 : decode cX7_weight 31 = .ok (.iaload, 1) := by decide +kernel
theorem dX7_weight_32 : decode cX7_weight 32 = .ok (.ireturn, 1) := by decide +kernel
theorem dX7_earned_0 : decode cX7_earned 0 = .ok (.aload_n 0, 1) := by decide +kernel
theorem dX7_earned_1 : decode cX7_earned 1 = .ok (.iload_n 1, 1) := by decide +kernel
theorem dX7_earned_2 : decode cX7_earned 2 = .ok (.invokevirtual 158, 3) := by decide +kernel
theorem dX7_earned_5 : decode cX7_earned 5 = .ok (.ifCond .eq 10, 3) := by decide +kernel
theorem dX7_earned_8 : decode cX7_earned 8 = .ok (.iload_n 2, 1) := by decide +kernel
theorem dX7_earned_9 : decode cX7_earned 9 = .ok (.invokestatic 174, 3) := by decide +kernel
theorem dX7_earned_12 : decode cX7_earned 12 = .ok (.ifCond .ne 6, 3) := by decide +kernel
theorem dX7_earned_15 : decode cX7_earned 15 = .ok (.ldc 55, 2) := by decide +kernel
theorem dX7_earned_17 : decode cX7_earned 17 = .ok (.ireturn, 1) := by decide +kernel
theorem dX7_earned_18 : decode cX7_earned 18 = .ok (.aload_n 0, 1) := by decide +kernel
theorem dX7_earned_19 : decode cX7_earned 19 = .ok (.iload_n 2, 1) := by decide +kernel
theorem dX7_earned_20 : decode cX7_earned 20 = .ok (.invokevirtual 177, 3) := by decide +kernel
theorem dX7_earned_23 : decode cX7_earned 23 = .ok (.aload_n 0, 1) := by decide +kernel
theorem dX7_earned_24 : decode cX7_earned 24 = .ok (.getfield 7, 3) := by decide +kernel
theorem dX7_earned_27 : decode cX7_earned 27 = .ok (.bipush 122, 2) := by decide +kernel
theorem dX7_earned_29 : decode cX7_earned 29 = .ok (.iload_n 1, 1) := by decide +kernel
theorem dX7_earned_30 : decode cX7_earned 30 = .ok (.iadd, 1) := by decide +kernel
theorem dX7_earned_31 : decode cX7_earned 31 = .ok (.iaload, 1) := by decide +kernel
theorem dX7_earned_32 : decode cX7_earned 32 = .ok (.ireturn, 1) := by decide +kernel
theorem dX7_rests_0 : decode cX7_rests 0 = .ok (.aload_n 0, 1) := by decide +kernel
theorem dX7_rests_1 : decode cX7_rests 1 = .ok (.invokevirtual 143, 3) := by decide +kernel
theorem dX7_rests_4 : decode cX7_rests 4 = .ok (.ifCond .ne 6, 3) := by decide +kernel
theorem dX7_rests_7 : decode cX7_rests 7 = .ok (.ldc 146, 2) := by decide +kernel
theorem dX7_rests_9 : decode cX7_rests 9 = .ok (.ireturn, 1) := by decide +kernel
theorem dX7_rests_10 : decode cX7_rests 10 = .ok (.iload_n 1, 1) := by decide +kernel
theorem dX7_rests_11 : decode cX7_rests 11 = .ok (.invokestatic 174, 3) := by decide +kernel
theorem dX7_rests_14 : decode cX7_rests 14 = .ok (.ifCond .ne 6, 3) := by decide +kernel
theorem dX7_rests_17 : decode cX7_rests 17 = .ok (.ldc 55, 2) := by decide +kernel
theorem dX7_rests_19 : decode cX7_rests 19 = .ok (.ireturn, 1) := by decide +kernel
theorem dX7_rests_20 : decode cX7_rests 20 = .ok (.aload_n 0, 1) := by decide +kernel
theorem dX7_rests_21 : decode cX7_rests 21 = .ok (.iload_n 1, 1) := by decide +kernel
