theorem dc_Model_lays_32 : decode cd_Model_lays 32 = .ok (.invokestatic 398, 3) := by decide +kernel
theorem dc_Model_lays_35 : decode cd_Model_lays 35 = .ok (.aload_n 0, 1) := by decide +kernel
theorem dc_Model_lays_36 : decode cd_Model_lays 36 = .ok (.getfield 26, 3) := by decide +kernel
theorem dc_Model_lays_39 : decode cd_Model_lays 39 = .ok (.bipush 36, 2) := by decide +kernel
theorem dc_Model_lays_41 : decode cd_Model_lays 41 = .ok (.invokestatic 394, 3) := by decide +kernel
theorem dc_Model_lays_44 : decode cd_Model_lays 44 = .ok (.aload_n 0, 1) := by decide +kernel
theorem dc_Model_lays_45 : decode cd_Model_lays 45 = .ok (.getfield 29, 3) := by decide +kernel
theorem dc_Model_lays_48 : decode cd_Model_lays 48 = .ok (.bipush 6, 2) := by decide +kernel
theorem dc_Model_lays_50 : decode cd_Model_lays 50 = .ok (.invokestatic 394, 3) := by decide +kernel
theorem dc_Model_lays_53 : decode cd_Model_lays 53 = .ok (.aload_n 0, 1) := by decide +kernel
theorem dc_Model_lays_54 : decode cd_Model_lays 54 = .ok (.getfield 32, 3) := by decide +kernel
theorem dc_Model_lays_57 : decode cd_Model_lays 57 = .ok (.bipush 6, 2) := by decide +kernel
theorem dc_Model_lays_59 : decode cd_Model_lays 59 = .ok (.invokestatic 394, 3) := by decide +kernel
theorem dc_Model_lays_62 : decode cd_Model_lays 62 = .ok (.aload_n 0, 1) := by decide +kernel
theorem dc_Model_lays_63 : decode cd_Model_lays 63 = .ok (.getfield 35, 3) := by decide +kernel
theorem dc_Model_lays_66 : decode cd_Model_lays 66 = .ok (.bipush 6, 2) := by decide +kernel
theorem dc_Model_lays_68 : decode cd_Model_lays 68 = .ok (.invokestatic 394, 3) := by decide +kernel
theorem dc_Model_lays_71 : decode cd_Model_lays 71 = .ok (.aload_n 0, 1) := by decide +kernel
theorem dc_Model_lays_72 : decode cd_Model_lays 72 = .ok (.getfield 38, 3) := by decide +kernel
theorem dc_Model_lays_75 : decode cd_Model_lays 75 = .ok (.bipush 6, 2) := by decide +kernel
theorem dc_Model_lays_77 : decode cd_Model_lays 77 = .ok (.invokestatic 394, 3) := by decide +kernel
theorem dc_Model_lays_80 : decode cd_Model_lays 80 = .ok (.aload_n 0, 1) := by decide +kernel
theorem dc_Model_lays_81 : decode cd_Model_lays 81 = .ok (.getfield 41, 3) := by decide +kernel
theorem dc_Model_lays_84 : decode cd_Model_lays 84 = .ok (.bipush 24, 2) := by decide +kernel
theorem dc_Model_lays_86 : decode cd_Model_lays 86 = .ok (.invokestatic 394, 3) := by decide +kernel
theorem dc_Model_lays_89 : decode cd_Model_lays 89 = .ok (.aload_n 0, 1) := by decide +kernel
theorem dc_Model_lays_90 : decode cd_Model_lays 90 = .ok (.getfield 44, 3) := by decide +kernel
theorem dc_Model_lays_93 : decode cd_Model_lays 93 = .ok (.bipush 6, 2) := by decide +kernel
theorem dc_Model_lays_95 : decode cd_Model_lays 95 = .ok (.invokestatic 394, 3) := by decide +kernel
theorem dc_Model_lays_98 : decode cd_Model_lays 98 = .ok (.aload_n 0, 1) := by decide +kernel
theorem dc_Model_lays_99 : decode cd_Model_lays 99 = .ok (.getfield 47, 3) := by decide +kernel
theorem dc_Model_lays_102 : decode cd_Model_lays 102 = .ok (.bipush 36, 2) := by decide +kernel
theorem dc_Model_lays_104 : decode cd_Model_lays 104 = .ok (.invokestatic 394, 3) := by decide +kernel
theorem dc_Model_lays_107 : decode cd_Model_lays 107 = .ok (.aload_n 0, 1) := by decide +kernel
theorem dc_Model_lays_108 : decode cd_Model_lays 108 = .ok (.getfield 50, 3) := by decide +kernel
theorem dc_Model_lays_111 : decode cd_Model_lays 111 = .ok (.bipush 36, 2) := by decide +kernel
theorem dc_Model_lays_113 : decode cd_Model_lays 113 = .ok (.invokestatic 394, 3) := by decide +kernel
theorem dc_Model_lays_116 : decode cd_Model_lays 116 = .ok (.aload_n 0, 1) := by decide +kernel
theorem dc_Model_lays_117 : decode cd_Model_lays 117 = .ok (.getfield 53, 3) := by decide +kernel
theorem dc_Model_lays_120 : decode cd_Model_lays 120 = .ok (.bipush 6, 2) := by decide +kernel
theorem dc_Model_lays_122 : decode cd_Model_lays 122 = .ok (.invokestatic 394, 3) := by decide +kernel
theorem dc_Model_lays_125 : decode cd_Model_lays 125 = .ok (.aload_n 0, 1) := by decide +kernel
theorem dc_Model_lays_126 : decode cd_Model_lays 126 = .ok (.getfield 56, 3) := by decide +kernel
theorem dc_Model_lays_129 : decode cd_Model_lays 129 = .ok (.bipush 6, 2) := by decide +kernel
theorem dc_Model_lays_131 : decode cd_Model_lays 131 = .ok (.invokestatic 394, 3) := by decide +kernel
theorem dc_Model_lays_134 : decode cd_Model_lays 134 = .ok (.aload_n 0, 1) := by decide +kernel
theorem dc_Model_lays_135 : decode cd_Model_lays 135 = .ok (.getfield 59, 3) := by decide +kernel
theorem dc_Model_lays_138 : decode cd_Model_lays 138 = .ok (.bipush 6, 2) := by decide +kernel
theorem dc_Model_lays_140 : decode cd_Model_lays 140 = .ok (.invokestatic 394, 3) := by decide +kernel
theorem dc_Model_lays_143 : decode cd_Model_lays 143 = .ok (.aload_n 0, 1) := by decide +kernel
theorem dc_Model_lays_144 : decode cd_Model_lays 144 = .ok (.getfield 68, 3) := by decide +kernel
theorem dc_Model_lays_147 : decode cd_Model_lays 147 = .ok (.sipush 1000, 3) := by decide +kernel
theorem dc_Model_lays_150 : decode cd_Model_lays 150 = .ok (.invokestatic 394, 3) := by decide +kernel
theorem dc_Model_lays_153 : decode cd_Model_lays 153 = .ok (.aload_n 0, 1) := by decide +kernel
theorem dc_Model_lays_154 : decode cd_Model_lays 154 = .ok (.getfield 62, 3) := by decide +kernel
theorem dc_Model_lays_157 : decode cd_Model_lays 157 = .ok (.iconst 0, 1) := by decide +kernel
theorem dc_Model_lays_158 : decode cd_Model_lays 158 = .ok (.aload_n 0, 1) := by decide +kernel
theorem dc_Model_lays_159 : decode cd_Model_lays 159 = .ok (.getfield 62, 3) := by decide +kernel
theorem dc_Model_lays_162 : decode cd_Model_lays 162 = .ok (.iconst 1, 1) := by decide +kernel
theorem dc_Model_lays_163 : decode cd_Model_lays 163 = .ok (.iaload, 1) := by decide +kernel
theorem dc_Model_lays_164 : decode cd_Model_lays 164 = .ok (.sipush 1000, 3) := by decide +kernel
theorem dc_Model_lays_167 : decode cd_Model_lays 167 = .ok (.isub, 1) := by decide +kernel
theorem dc_Model_lays_168 : decode cd_Model_lays 168 = .ok (.iastore, 1) := by decide +kernel
theorem dc_Model_lays_169 : decode cd_Model_lays 169 = .ok (.aload_n 0, 1) := by decide +kernel
theorem dc_Model_lays_170 : decode cd_Model_lays 170 = .ok (.getfield 65, 3) := by decide +kernel
theorem dc_Model_lays_173 : decode cd_Model_lays 173 = .ok (.iconst 0, 1) := by decide +kernel
theorem dc_Model_lays_174 : decode cd_Model_lays 174 = .ok (.aload_n 0, 1) := by decide +kernel
theorem dc_Model_lays_175 : decode cd_Model_lays 175 = .ok (.getfield 65, 3) := by decide +kernel
theorem dc_Model_lays_178 : decode cd_Model_lays 178 = .ok (.iconst 1, 1) := by decide +kernel
theorem dc_Model_lays_179 : decode cd_Model_lays 179 = .ok (.iaload, 1) := by decide +kernel
theorem dc_Model_lays_180 : decode cd_Model_lays 180 = .ok (.sipush 1000, 3) := by decide +kernel
theorem dc_Model_lays_183 : decode cd_Model_lays 183 = .ok (.isub, 1) := by decide +kernel
theorem dc_Model_lays_184 : decode cd_Model_lays 184 = .ok (.iastore, 1) := by decide +kernel
theorem dc_Model_lays_185 : decode cd_Model_lays 185 = .ok (.return_, 1) := by decide +kernel
theorem dc_Model_fresh_0 : decode cd_Model_fresh 0 = .ok (.iconst 0, 1) := by decide +kernel
theorem dc_Model_fresh_1 : decode cd_Model_fresh 1 = .ok (.istore_n 1, 1) := by decide +kernel
theorem dc_Model_fresh_2 : decode cd_Model_fresh 2 = .ok (.iload_n 1, 1) := by decide +kernel
theorem dc_Model_fresh_3 : decode cd_Model_fresh 3 = .ok (.bipush 16, 2) := by decide +kernel
theorem dc_Model_fresh_5 : decode cd_Model_fresh 5 = .ok (.if_icmp .ge 16, 3) := by decide +kernel
theorem dc_Model_fresh_8 : decode cd_Model_fresh 8 = .ok (.aload_n 0, 1) := by decide +kernel
theorem dc_Model_fresh_9 : decode cd_Model_fresh 9 = .ok (.getfield 135, 3) := by decide +kernel
theorem dc_Model_fresh_12 : decode cd_Model_fresh 12 = .ok (.iload_n 1, 1) := by decide +kernel
theorem dc_Model_fresh_13 : decode cd_Model_fresh 13 = .ok (.iconst 0, 1) := by decide +kernel
theorem dc_Model_fresh_14 : decode cd_Model_fresh 14 = .ok (.iastore, 1) := by decide +kernel
theorem dc_Model_fresh_15 : decode cd_Model_fresh 15 = .ok (.iinc 1 1, 3) := by decide +kernel
theorem dc_Model_fresh_18 : decode cd_Model_fresh 18 = .ok (.goto (-16), 3) := by decide +kernel
theorem dc_Model_fresh_21 : decode cd_Model_fresh 21 = .ok (.aload_n 0, 1) := by decide +kernel
theorem dc_Model_fresh_22 : decode cd_Model_fresh 22 = .ok (.getfield 135, 3) := by decide +kernel
theorem dc_Model_fresh_25 : decode cd_Model_fresh 25 = .ok (.iconst 2, 1) := by decide +kernel
theorem dc_Model_fresh_26 : decode cd_Model_fresh 26 = .ok (.aload_n 0, 1) := by decide +kernel
theorem dc_Model_fresh_27 : decode cd_Model_fresh 27 = .ok (.invokevirtual 402, 3) := by decide +kernel
theorem dc_Model_fresh_30 : decode cd_Model_fresh 30 = .ok (.iastore, 1) := by decide +kernel
theorem dc_Model_fresh_31 : decode cd_Model_fresh 31 = .ok (.iconst 0, 1) := by decide +kernel
theorem dc_Model_fresh_32 : decode cd_Model_fresh 32 = .ok (.istore_n 1, 1) := by decide +kernel
theorem dc_Model_fresh_33 : decode cd_Model_fresh 33 = .ok (.iload_n 1, 1) := by decide +kernel
theorem dc_Model_fresh_34 : decode cd_Model_fresh 34 = .ok (.aload_n 0, 1) := by decide +kernel
theorem dc_Model_fresh_35 : decode cd_Model_fresh 35 = .ok (.getfield 13, 3) := by decide +kernel
theorem dc_Model_fresh_38 : decode cd_Model_fresh 38 = .ok (.iconst 2, 1) := by decide +kernel
theorem dc_Model_fresh_39 : decode cd_Model_fresh 39 = .ok (.iaload, 1) := by decide +kernel
theorem dc_Model_fresh_40 : decode cd_Model_fresh 40 = .ok (.if_icmp .ge 24, 3) := by decide +kernel
theorem dc_Model_fresh_43 : decode cd_Model_fresh 43 = .ok (.aload_n 0, 1) := by decide +kernel
theorem dc_Model_fresh_44 : decode cd_Model_fresh 44 = .ok (.getfield 135, 3) := by decide +kernel
theorem dc_Model_fresh_47 : decode cd_Model_fresh 47 = .ok (.bipush 10, 2) := by decide +kernel
theorem dc_Model_fresh_49 : decode cd_Model_fresh 49 = .ok (.iload_n 1, 1) := by decide +kernel
theorem dc_Model_fresh_50 : decode cd_Model_fresh 50 = .ok (.iadd, 1) := by decide +kernel
theorem dc_Model_fresh_51 : decode cd_Model_fresh 51 = .ok (.aload_n 0, 1) := by decide +kernel
theorem dc_Model_fresh_52 : decode cd_Model_fresh 52 = .ok (.getfield 53, 3) := by decide +kernel
theorem dc_Model_fresh_55 : decode cd_Model_fresh 55 = .ok (.iload_n 1, 1) := by decide +kernel
theorem dc_Model_fresh_56 : decode cd_Model_fresh 56 = .ok (.iaload, 1) := by decide +kernel
theorem dc_Model_fresh_57 : decode cd_Model_fresh 57 = .ok (.iastore, 1) := by decide +kernel
theorem dc_Model_fresh_58 : decode cd_Model_fresh 58 = .ok (.iinc 1 1, 3) := by decide +kernel
theorem dc_Model_fresh_61 : decode cd_Model_fresh 61 = .ok (.goto (-28), 3) := by decide +kernel
theorem dc_Model_fresh_64 : decode cd_Model_fresh 64 = .ok (.return_, 1) := by decide +kernel
theorem dc_Model_way_0 : decode cd_Model_way 0 = .ok (.aload_n 0, 1) := by decide +kernel
theorem dc_Model_way_1 : decode cd_Model_way 1 = .ok (.iconst 0, 1) := by decide +kernel
theorem dc_Model_way_2 : decode cd_Model_way 2 = .ok (.putfield 183, 3) := by decide +kernel
theorem dc_Model_way_5 : decode cd_Model_way 5 = .ok (.aload_n 0, 1) := by decide +kernel
theorem dc_Model_way_6 : decode cd_Model_way 6 = .ok (.iload_n 1, 1) := by decide +kernel
theorem dc_Model_way_7 : decode cd_Model_way 7 = .ok (.invokevirtual 433, 3) := by decide +kernel
theorem dc_Model_way_10 : decode cd_Model_way 10 = .ok (.ifCond .eq 42, 3) := by decide +kernel
theorem dc_Model_way_13 : decode cd_Model_way 13 = .ok (.aload_n 0, 1) := by decide +kernel
theorem dc_Model_way_14 : decode cd_Model_way 14 = .ok (.iload_n 2, 1) := by decide +kernel
theorem dc_Model_way_15 : decode cd_Model_way 15 = .ok (.invokevirtual 433, 3) := by decide +kernel
theorem dc_Model_way_18 : decode cd_Model_way 18 = .ok (.ifCond .eq 34, 3) := by decide +kernel
theorem dc_Model_way_21 : decode cd_Model_way 21 = .ok (.aload_n 0, 1) := by decide +kernel
theorem dc_Model_way_22 : decode cd_Model_way 22 = .ok (.getfield 150, 3) := by decide +kernel
theorem dc_Model_way_25 : decode cd_Model_way 25 = .ok (.bipush 6, 2) := by decide +kernel
theorem dc_Model_way_27 : decode cd_Model_way 27 = .ok (.iload_n 1, 1) := by decide +kernel
theorem dc_Model_way_28 : decode cd_Model_way 28 = .ok (.imul, 1) := by decide +kernel
theorem dc_Model_way_29 : decode cd_Model_way 29 = .ok (.iload_n 2, 1) := by decide +kernel
theorem dc_Model_way_30 : decode cd_Model_way 30 = .ok (.iadd, 1) := by decide +kernel
theorem dc_Model_way_31 : decode cd_Model_way 31 = .ok (.iaload, 1) := by decide +kernel
theorem dc_Model_way_32 : decode cd_Model_way 32 = .ok (.ldc_w 426, 3) := by decide +kernel
theorem dc_Model_way_35 : decode cd_Model_way 35 = .ok (.if_icmp .ge 17, 3) := by decide +kernel
theorem dc_Model_way_38 : decode cd_Model_way 38 = .ok (.aload_n 0, 1) := by decide +kernel
theorem dc_Model_way_39 : decode cd_Model_way 39 = .ok (.getfield 150, 3) := by decide +kernel
theorem dc_Model_way_42 : decode cd_Model_way 42 = .ok (.bipush 6, 2) := by decide +kernel
theorem dc_Model_way_44 : decode cd_Model_way 44 = .ok (.iload_n 1, 1) := by decide +kernel
theorem dc_Model_way_45 : decode cd_Model_way 45 = .ok (.imul, 1) := by decide +kernel
theorem dc_Model_way_46 : decode cd_Model_way 46 = .ok (.iload_n 2, 1) := by decide +kernel
theorem dc_Model_way_47 : decode cd_Model_way 47 = .ok (.iadd, 1) := by decide +kernel
theorem dc_Model_way_48 : decode cd_Model_way 48 = .ok (.iaload, 1) := by decide +kernel
theorem dc_Model_way_49 : decode cd_Model_way 49 = .ok (.goto 4, 3) := by decide +kernel
theorem dc_Model_way_52 : decode cd_Model_way 52 = .ok (.iconst (-1), 1) := by decide +kernel
theorem dc_Model_way_53 : decode cd_Model_way 53 = .ok (.ireturn, 1) := by decide +kernel
theorem dc_Model_minutesTo_0 : decode cd_Model_minutesTo 0 = .ok (.aload_n 0, 1) := by decide +kernel
theorem dc_Model_minutesTo_1 : decode cd_Model_minutesTo 1 = .ok (.getfield 150, 3) := by decide +kernel
theorem dc_Model_minutesTo_4 : decode cd_Model_minutesTo 4 = .ok (.bipush 6, 2) := by decide +kernel
theorem dc_Model_minutesTo_6 : decode cd_Model_minutesTo 6 = .ok (.aload_n 0, 1) := by decide +kernel
theorem dc_Model_minutesTo_7 : decode cd_Model_minutesTo 7 = .ok (.iload_n 1, 1) := by decide +kernel
theorem dc_Model_minutesTo_8 : decode cd_Model_minutesTo 8 = .ok (.invokevirtual 436, 3) := by decide +kernel
theorem dc_Model_minutesTo_11 : decode cd_Model_minutesTo 11 = .ok (.imul, 1) := by decide +kernel
theorem dc_Model_minutesTo_12 : decode cd_Model_minutesTo 12 = .ok (.iload_n 2, 1) := by decide +kernel
theorem dc_Model_minutesTo_13 : decode cd_Model_minutesTo 13 = .ok (.iadd, 1) := by decide +kernel
theorem dc_Model_minutesTo_14 : decode cd_Model_minutesTo 14 = .ok (.iaload, 1) := by decide +kernel
theorem dc_Model_minutesTo_15 : decode cd_Model_minutesTo 15 = .ok (.aload_n 0, 1) := by decide +kernel
theorem dc_Model_minutesTo_16 : decode cd_Model_minutesTo 16 = .ok (.getfield 29, 3) := by decide +kernel
theorem dc_Model_minutesTo_19 : decode cd_Model_minutesTo 19 = .ok (.iload_n 1, 1) := by decide +kernel
theorem dc_Model_minutesTo_20 : decode cd_Model_minutesTo 20 = .ok (.iaload, 1) := by decide +kernel
theorem dc_Model_minutesTo_21 : decode cd_Model_minutesTo 21 = .ok (.iconst 1, 1) := by decide +kernel
theorem dc_Model_minutesTo_22 : decode cd_Model_minutesTo 22 = .ok (.if_icmp .ne 14, 3) := by decide +kernel
theorem dc_Model_minutesTo_25 : decode cd_Model_minutesTo 25 = .ok (.aload_n 0, 1) := by decide +kernel
theorem dc_Model_minutesTo_26 : decode cd_Model_minutesTo 26 = .ok (.getfield 35, 3) := by decide +kernel
theorem dc_Model_minutesTo_29 : decode cd_Model_minutesTo 29 = .ok (.iload_n 1, 1) := by decide +kernel
theorem dc_Model_minutesTo_30 : decode cd_Model_minutesTo 30 = .ok (.iaload, 1) := by decide +kernel
theorem dc_Model_minutesTo_31 : decode cd_Model_minutesTo 31 = .ok (.iconst 1, 1) := by decide +kernel
theorem dc_Model_minutesTo_32 : decode cd_Model_minutesTo 32 = .ok (.iadd, 1) := by decide +kernel
theorem dc_Model_minutesTo_33 : decode cd_Model_minutesTo 33 = .ok (.goto 9, 3) := by decide +kernel
theorem dc_Model_minutesTo_36 : decode cd_Model_minutesTo 36 = .ok (.aload_n 0, 1) := by decide +kernel
theorem dc_Model_minutesTo_37 : decode cd_Model_minutesTo 37 = .ok (.getfield 35, 3) := by decide +kernel
theorem dc_Model_minutesTo_40 : decode cd_Model_minutesTo 40 = .ok (.iload_n 1, 1) := by decide +kernel
theorem dc_Model_minutesTo_41 : decode cd_Model_minutesTo 41 = .ok (.iaload, 1) := by decide +kernel
theorem dc_Model_minutesTo_42 : decode cd_Model_minutesTo 42 = .ok (.imul, 1) := by decide +kernel
theorem dc_Model_minutesTo_43 : decode cd_Model_minutesTo 43 = .ok (.istore_n 3, 1) := by decide +kernel
theorem dc_Model_minutesTo_44 : decode cd_Model_minutesTo 44 = .ok (.aload_n 0, 1) := by decide +kernel
theorem dc_Model_minutesTo_45 : decode cd_Model_minutesTo 45 = .ok (.getfield 135, 3) := by decide +kernel
theorem dc_Model_minutesTo_48 : decode cd_Model_minutesTo 48 = .ok (.iconst 3, 1) := by decide +kernel
theorem dc_Model_minutesTo_49 : decode cd_Model_minutesTo 49 = .ok (.iaload, 1) := by decide +kernel
theorem dc_Model_minutesTo_50 : decode cd_Model_minutesTo 50 = .ok (.iconst 1, 1) := by decide +kernel
theorem dc_Model_minutesTo_51 : decode cd_Model_minutesTo 51 = .ok (.if_icmp .ne 19, 3) := by decide +kernel
theorem dc_Model_minutesTo_54 : decode cd_Model_minutesTo 54 = .ok (.aload_n 0, 1) := by decide +kernel
theorem dc_Model_minutesTo_55 : decode cd_Model_minutesTo 55 = .ok (.getfield 29, 3) := by decide +kernel
theorem dc_Model_minutesTo_58 : decode cd_Model_minutesTo 58 = .ok (.iload_n 1, 1) := by decide +kernel
theorem dc_Model_minutesTo_59 : decode cd_Model_minutesTo 59 = .ok (.iaload, 1) := by decide +kernel
theorem dc_Model_minutesTo_60 : decode cd_Model_minutesTo 60 = .ok (.iconst 3, 1) := by decide +kernel
theorem dc_Model_minutesTo_61 : decode cd_Model_minutesTo 61 = .ok (.if_icmp .eq 9, 3) := by decide +kernel
theorem dc_Model_minutesTo_64 : decode cd_Model_minutesTo 64 = .ok (.iconst 2, 1) := by decide +kernel
theorem dc_Model_minutesTo_65 : decode cd_Model_minutesTo 65 = .ok (.iload_n 3, 1) := by decide +kernel
theorem dc_Model_minutesTo_66 : decode cd_Model_minutesTo 66 = .ok (.imul, 1) := by decide +kernel
theorem dc_Model_minutesTo_67 : decode cd_Model_minutesTo 67 = .ok (.goto 4, 3) := by decide +kernel
theorem dc_Model_minutesTo_70 : decode cd_Model_minutesTo 70 = .ok (.iload_n 3, 1) := by decide +kernel
theorem dc_Model_minutesTo_71 : decode cd_Model_minutesTo 71 = .ok (.ireturn, 1) := by decide +kernel
theorem dc_Model_isFree_0 : decode cd_Model_isFree 0 = .ok (.iload_n 2, 1) := by decide +kernel
theorem dc_Model_isFree_1 : decode cd_Model_isFree 1 = .ok (.aload_n 0, 1) := by decide +kernel
theorem dc_Model_isFree_2 : decode cd_Model_isFree 2 = .ok (.getfield 159, 3) := by decide +kernel
theorem dc_Model_isFree_5 : decode cd_Model_isFree 5 = .ok (.iload_n 1, 1) := by decide +kernel
theorem dc_Model_isFree_6 : decode cd_Model_isFree 6 = .ok (.iaload, 1) := by decide +kernel
theorem dc_Model_isFree_7 : decode cd_Model_isFree 7 = .ok (.isub, 1) := by decide +kernel
theorem dc_Model_isFree_8 : decode cd_Model_isFree 8 = .ok (.istore_n 3, 1) := by decide +kernel
theorem dc_Model_isFree_9 : decode cd_Model_isFree 9 = .ok (.iload_n 3, 1) := by decide +kernel
theorem dc_Model_isFree_10 : decode cd_Model_isFree 10 = .ok (.aload_n 0, 1) := by decide +kernel
theorem dc_Model_isFree_11 : decode cd_Model_isFree 11 = .ok (.getfield 29, 3) := by decide +kernel
theorem dc_Model_isFree_14 : decode cd_Model_isFree 14 = .ok (.iload_n 1, 1) := by decide +kernel
theorem dc_Model_isFree_15 : decode cd_Model_isFree 15 = .ok (.iaload, 1) := by decide +kernel
theorem dc_Model_isFree_16 : decode cd_Model_isFree 16 = .ok (.iconst 2, 1) := by decide +kernel
theorem dc_Model_isFree_17 : decode cd_Model_isFree 17 = .ok (.if_icmp .ne 14, 3) := by decide +kernel
theorem dc_Model_isFree_20 : decode cd_Model_isFree 20 = .ok (.iconst 2, 1) := by decide +kernel
theorem dc_Model_isFree_21 : decode cd_Model_isFree 21 = .ok (.aload_n 0, 1) := by decide +kernel
theorem dc_Model_isFree_22 : decode cd_Model_isFree 22 = .ok (.getfield 38, 3) := by decide +kernel
theorem dc_Model_isFree_25 : decode cd_Model_isFree 25 = .ok (.iload_n 1, 1) := by decide +kernel
theorem dc_Model_isFree_26 : decode cd_Model_isFree 26 = .ok (.iaload, 1) := by decide +kernel
theorem dc_Model_isFree_27 : decode cd_Model_isFree 27 = .ok (.imul, 1) := by decide +kernel
theorem dc_Model_isFree_28 : decode cd_Model_isFree 28 = .ok (.goto 9, 3) := by decide +kernel
theorem dc_Model_isFree_31 : decode cd_Model_isFree 31 = .ok (.aload_n 0, 1) := by decide +kernel
theorem dc_Model_isFree_32 : decode cd_Model_isFree 32 = .ok (.getfield 38, 3) := by decide +kernel
theorem dc_Model_isFree_35 : decode cd_Model_isFree 35 = .ok (.iload_n 1, 1) := by decide +kernel
theorem dc_Model_isFree_36 : decode cd_Model_isFree 36 = .ok (.iaload, 1) := by decide +kernel
theorem dc_Model_isFree_37 : decode cd_Model_isFree 37 = .ok (.if_icmp .ge 5, 3) := by decide +kernel
theorem dc_Model_isFree_40 : decode cd_Model_isFree 40 = .ok (.iconst 0, 1) := by decide +kernel
theorem dc_Model_isFree_41 : decode cd_Model_isFree 41 = .ok (.ireturn, 1) := by decide +kernel
theorem dc_Model_isFree_42 : decode cd_Model_isFree 42 = .ok (.bipush 6, 2) := by decide +kernel
theorem dc_Model_isFree_44 : decode cd_Model_isFree 44 = .ok (.iload_n 1, 1) := by decide +kernel
theorem dc_Model_isFree_45 : decode cd_Model_isFree 45 = .ok (.imul, 1) := by decide +kernel
theorem dc_Model_isFree_46 : decode cd_Model_isFree 46 = .ok (.aload_n 0, 1) := by decide +kernel
theorem dc_Model_isFree_47 : decode cd_Model_isFree 47 = .ok (.iload_n 1, 1) := by decide +kernel
theorem dc_Model_isFree_48 : decode cd_Model_isFree 48 = .ok (.invokevirtual 436, 3) := by decide +kernel
theorem dc_Model_isFree_51 : decode cd_Model_isFree 51 = .ok (.iadd, 1) := by decide +kernel
theorem dc_Model_isFree_52 : decode cd_Model_isFree 52 = .ok (.istore 4, 2) := by decide +kernel
theorem dc_Model_isFree_54 : decode cd_Model_isFree 54 = .ok (.aload_n 0, 1) := by decide +kernel
theorem dc_Model_isFree_55 : decode cd_Model_isFree 55 = .ok (.getfield 47, 3) := by decide +kernel
theorem dc_Model_isFree_58 : decode cd_Model_isFree 58 = .ok (.iload 4, 2) := by decide +kernel
theorem dc_Model_isFree_60 : decode cd_Model_isFree 60 = .ok (.iaload, 1) := by decide +kernel
theorem dc_Model_isFree_61 : decode cd_Model_isFree 61 = .ok (.ifCond .eq 23, 3) := by decide +kernel
theorem dc_Model_isFree_64 : decode cd_Model_isFree 64 = .ok (.aload_n 0, 1) := by decide +kernel
theorem dc_Model_isFree_65 : decode cd_Model_isFree 65 = .ok (.getfield 162, 3) := by decide +kernel
theorem dc_Model_isFree_68 : decode cd_Model_isFree 68 = .ok (.iload_n 1, 1) := by decide +kernel
theorem dc_Model_isFree_69 : decode cd_Model_isFree 69 = .ok (.baload, 1) := by decide +kernel
theorem dc_Model_isFree_70 : decode cd_Model_isFree 70 = .ok (.ifCond .ne 14, 3) := by decide +kernel
theorem dc_Model_isFree_73 : decode cd_Model_isFree 73 = .ok (.iload_n 3, 1) := by decide +kernel
theorem dc_Model_isFree_74 : decode cd_Model_isFree 74 = .ok (.aload_n 0, 1) := by decide +kernel
theorem dc_Model_isFree_75 : decode cd_Model_isFree 75 = .ok (.getfield 50, 3) := by decide +kernel
theorem dc_Model_isFree_78 : decode cd_Model_isFree 78 = .ok (.iload 4, 2) := by decide +kernel
theorem dc_Model_isFree_80 : decode cd_Model_isFree 80 = .ok (.iaload, 1) := by decide +kernel
theorem dc_Model_isFree_81 : decode cd_Model_isFree 81 = .ok (.if_icmp .lt 7, 3) := by decide +kernel
theorem dc_Model_isFree_84 : decode cd_Model_isFree 84 = .ok (.iconst 1, 1) := by decide +kernel
theorem dc_Model_isFree_85 : decode cd_Model_isFree 85 = .ok (.goto 4, 3) := by decide +kernel
theorem dc_Model_isFree_88 : decode cd_Model_isFree 88 = .ok (.iconst 0, 1) := by decide +kernel
theorem dc_Model_isFree_89 : decode cd_Model_isFree 89 = .ok (.ireturn, 1) := by decide +kernel
theorem dc_Model_isWhen_0 : decode cd_Model_isWhen 0 = .ok (.aload_n 0, 1) := by decide +kernel
theorem dc_Model_isWhen_1 : decode cd_Model_isWhen 1 = .ok (.aload_n 0, 1) := by decide +kernel
theorem dc_Model_isWhen_2 : decode cd_Model_isWhen 2 = .ok (.getfield 135, 3) := by decide +kernel
theorem dc_Model_isWhen_5 : decode cd_Model_isWhen 5 = .ok (.bipush 10, 2) := by decide +kernel
theorem dc_Model_isWhen_7 : decode cd_Model_isWhen 7 = .ok (.iload_n 1, 1) := by decide +kernel
theorem dc_Model_isWhen_8 : decode cd_Model_isWhen 8 = .ok (.iadd, 1) := by decide +kernel
theorem dc_Model_isWhen_9 : decode cd_Model_isWhen 9 = .ok (.iaload, 1) := by decide +kernel
theorem dc_Model_isWhen_10 : decode cd_Model_isWhen 10 = .ok (.aload_n 0, 1) := by decide +kernel
theorem dc_Model_isWhen_11 : decode cd_Model_isWhen 11 = .ok (.getfield 56, 3) := by decide +kernel
theorem dc_Model_isWhen_14 : decode cd_Model_isWhen 14 = .ok (.iload_n 1, 1) := by decide +kernel
theorem dc_Model_isWhen_15 : decode cd_Model_isWhen 15 = .ok (.iaload, 1) := by decide +kernel
theorem dc_Model_isWhen_16 : decode cd_Model_isWhen 16 = .ok (.invokevirtual 448, 3) := by decide +kernel
theorem dc_Model_isWhen_19 : decode cd_Model_isWhen 19 = .ok (.ireturn, 1) := by decide +kernel
theorem dc_Model_offBy_0 : decode cd_Model_offBy 0 = .ok (.iload_n 2, 1) := by decide +kernel
theorem dc_Model_offBy_1 : decode cd_Model_offBy 1 = .ok (.ifCond .ge 9, 3) := by decide +kernel
theorem dc_Model_offBy_4 : decode cd_Model_offBy 4 = .ok (.sipush 240, 3) := by decide +kernel
theorem dc_Model_offBy_7 : decode cd_Model_offBy 7 = .ok (.goto 13, 3) := by decide +kernel
theorem dc_Model_offBy_10 : decode cd_Model_offBy 10 = .ok (.iload_n 2, 1) := by decide +kernel
theorem dc_Model_offBy_11 : decode cd_Model_offBy 11 = .ok (.aload_n 0, 1) := by decide +kernel
theorem dc_Model_offBy_12 : decode cd_Model_offBy 12 = .ok (.getfield 59, 3) := by decide +kernel
theorem dc_Model_offBy_15 : decode cd_Model_offBy 15 = .ok (.iload_n 1, 1) := by decide +kernel
theorem dc_Model_offBy_16 : decode cd_Model_offBy 16 = .ok (.iaload, 1) := by decide +kernel
theorem dc_Model_offBy_17 : decode cd_Model_offBy 17 = .ok (.invokestatic 451, 3) := by decide +kernel
theorem dc_Model_offBy_20 : decode cd_Model_offBy 20 = .ok (.ireturn, 1) := by decide +kernel
theorem dc_Model_walker_0 : decode cd_Model_walker 0 = .ok (.aload_n 0, 1) := by decide +kernel
theorem dc_Model_walker_1 : decode cd_Model_walker 1 = .ok (.iconst 0, 1) := by decide +kernel
theorem dc_Model_walker_2 : decode cd_Model_walker 2 = .ok (.putfield 183, 3) := by decide +kernel
theorem dc_Model_walker_5 : decode cd_Model_walker 5 = .ok (.aload_n 0, 1) := by decide +kernel
theorem dc_Model_walker_6 : decode cd_Model_walker 6 = .ok (.iload_n 1, 1) := by decide +kernel
theorem dc_Model_walker_7 : decode cd_Model_walker 7 = .ok (.invokevirtual 467, 3) := by decide +kernel
theorem dc_Model_walker_10 : decode cd_Model_walker 10 = .ok (.ifCond .eq 7, 3) := by decide +kernel
theorem dc_Model_walker_13 : decode cd_Model_walker 13 = .ok (.iload_n 2, 1) := by decide +kernel
theorem dc_Model_walker_14 : decode cd_Model_walker 14 = .ok (.ifCond .ge 5, 3) := by decide +kernel
theorem dc_Model_walker_17 : decode cd_Model_walker 17 = .ok (.iconst (-1), 1) := by decide +kernel
theorem dc_Model_walker_18 : decode cd_Model_walker 18 = .ok (.ireturn, 1) := by decide +kernel
theorem dc_Model_walker_19 : decode cd_Model_walker 19 = .ok (.iload_n 2, 1) := by decide +kernel
theorem dc_Model_walker_20 : decode cd_Model_walker 20 = .ok (.iconst 3, 1) := by decide +kernel
theorem dc_Model_walker_21 : decode cd_Model_walker 21 = .ok (.if_icmp .ge 43, 3) := by decide +kernel
theorem dc_Model_walker_24 : decode cd_Model_walker 24 = .ok (.iload_n 2, 1) := by decide +kernel
theorem dc_Model_walker_25 : decode cd_Model_walker 25 = .ok (.ifCond .ne 12, 3) := by decide +kernel
theorem dc_Model_walker_28 : decode cd_Model_walker 28 = .ok (.aload_n 0, 1) := by decide +kernel
theorem dc_Model_walker_29 : decode cd_Model_walker 29 = .ok (.getfield 29, 3) := by decide +kernel
theorem dc_Model_walker_32 : decode cd_Model_walker 32 = .ok (.iload_n 1, 1) := by decide +kernel
theorem dc_Model_walker_33 : decode cd_Model_walker 33 = .ok (.iaload, 1) := by decide +kernel
theorem dc_Model_walker_34 : decode cd_Model_walker 34 = .ok (.goto 29, 3) := by decide +kernel
theorem dc_Model_walker_37 : decode cd_Model_walker 37 = .ok (.iload_n 2, 1) := by decide +kernel
theorem dc_Model_walker_38 : decode cd_Model_walker 38 = .ok (.iconst 1, 1) := by decide +kernel
theorem dc_Model_walker_39 : decode cd_Model_walker 39 = .ok (.if_icmp .ne 16, 3) := by decide +kernel
theorem dc_Model_walker_42 : decode cd_Model_walker 42 = .ok (.aload_n 0, 1) := by decide +kernel
theorem dc_Model_walker_43 : decode cd_Model_walker 43 = .ok (.getfield 135, 3) := by decide +kernel
theorem dc_Model_walker_46 : decode cd_Model_walker 46 = .ok (.iconst 2, 1) := by decide +kernel
theorem dc_Model_walker_47 : decode cd_Model_walker 47 = .ok (.iaload, 1) := by decide +kernel
theorem dc_Model_walker_48 : decode cd_Model_walker 48 = .ok (.iload_n 1, 1) := by decide +kernel
theorem dc_Model_walker_49 : decode cd_Model_walker 49 = .ok (.ishr, 1) := by decide +kernel
theorem dc_Model_walker_50 : decode cd_Model_walker 50 = .ok (.iconst 1, 1) := by decide +kernel
theorem dc_Model_walker_51 : decode cd_Model_walker 51 = .ok (.iand, 1) := by decide +kernel
theorem dc_Model_walker_52 : decode cd_Model_walker 52 = .ok (.goto 11, 3) := by decide +kernel
theorem dc_Model_walker_55 : decode cd_Model_walker 55 = .ok (.aload_n 0, 1) := by decide +kernel
theorem dc_Model_walker_56 : decode cd_Model_walker 56 = .ok (.getfield 135, 3) := by decide +kernel
theorem dc_Model_walker_59 : decode cd_Model_walker 59 = .ok (.iconst 4, 1) := by decide +kernel
theorem dc_Model_walker_60 : decode cd_Model_walker 60 = .ok (.iload_n 1, 1) := by decide +kernel
theorem dc_Model_walker_61 : decode cd_Model_walker 61 = .ok (.iadd, 1) := by decide +kernel
theorem dc_Model_walker_62 : decode cd_Model_walker 62 = .ok (.iaload, 1) := by decide +kernel
theorem dc_Model_walker_63 : decode cd_Model_walker 63 = .ok (.ireturn, 1) := by decide +kernel
theorem dc_Model_walker_64 : decode cd_Model_walker 64 = .ok (.iload_n 2, 1) := by decide +kernel
theorem dc_Model_walker_65 : decode cd_Model_walker 65 = .ok (.iconst 3, 1) := by decide +kernel
theorem dc_Model_walker_66 : decode cd_Model_walker 66 = .ok (.isub, 1) := by decide +kernel
theorem dc_Model_walker_67 : decode cd_Model_walker 67 = .ok (.aload_n 0, 1) := by decide +kernel
theorem dc_Model_walker_68 : decode cd_Model_walker 68 = .ok (.getfield 44, 3) := by decide +kernel
theorem dc_Model_walker_71 : decode cd_Model_walker 71 = .ok (.iload_n 1, 1) := by decide +kernel
theorem dc_Model_walker_72 : decode cd_Model_walker 72 = .ok (.iaload, 1) := by decide +kernel
theorem dc_Model_walker_73 : decode cd_Model_walker 73 = .ok (.if_icmp .ge 18, 3) := by decide +kernel
theorem dc_Model_walker_76 : decode cd_Model_walker 76 = .ok (.aload_n 0, 1) := by decide +kernel
theorem dc_Model_walker_77 : decode cd_Model_walker 77 = .ok (.getfield 41, 3) := by decide +kernel
theorem dc_Model_walker_80 : decode cd_Model_walker 80 = .ok (.iconst 4, 1) := by decide +kernel
theorem dc_Model_walker_81 : decode cd_Model_walker 81 = .ok (.iload_n 1, 1) := by decide +kernel
theorem dc_Model_walker_82 : decode cd_Model_walker 82 = .ok (.imul, 1) := by decide +kernel
theorem dc_Model_walker_83 : decode cd_Model_walker 83 = .ok (.iload_n 2, 1) := by decide +kernel
theorem dc_Model_walker_84 : decode cd_Model_walker 84 = .ok (.iadd, 1) := by decide +kernel
theorem dc_Model_walker_85 : decode cd_Model_walker 85 = .ok (.iconst 3, 1) := by decide +kernel
theorem dc_Model_walker_86 : decode cd_Model_walker 86 = .ok (.isub, 1) := by decide +kernel
theorem dc_Model_walker_87 : decode cd_Model_walker 87 = .ok (.iaload, 1) := by decide +kernel
theorem dc_Model_walker_88 : decode cd_Model_walker 88 = .ok (.goto 4, 3) := by decide +kernel
theorem dc_Model_walker_91 : decode cd_Model_walker 91 = .ok (.iconst (-1), 1) := by decide +kernel
theorem dc_Model_walker_92 : decode cd_Model_walker 92 = .ok (.ireturn, 1) := by decide +kernel
theorem dc_Model_keeps_0 : decode cd_Model_keeps 0 = .ok (.aload_n 0, 1) := by decide +kernel
theorem dc_Model_keeps_1 : decode cd_Model_keeps 1 = .ok (.getfield 416, 3) := by decide +kernel
theorem dc_Model_keeps_4 : decode cd_Model_keeps 4 = .ok (.bipush 16, 2) := by decide +kernel
theorem dc_Model_keeps_6 : decode cd_Model_keeps 6 = .ok (.if_icmp .ne 43, 3) := by decide +kernel
theorem dc_Model_keeps_9 : decode cd_Model_keeps 9 = .ok (.iconst 0, 1) := by decide +kernel
theorem dc_Model_keeps_10 : decode cd_Model_keeps 10 = .ok (.istore_n 1, 1) := by decide +kernel
theorem dc_Model_keeps_11 : decode cd_Model_keeps 11 = .ok (.iload_n 1, 1) := by decide +kernel
theorem dc_Model_keeps_12 : decode cd_Model_keeps 12 = .ok (.sipush 240, 3) := by decide +kernel
theorem dc_Model_keeps_15 : decode cd_Model_keeps 15 = .ok (.if_icmp .ge 24, 3) := by decide +kernel
theorem dc_Model_keeps_18 : decode cd_Model_keeps 18 = .ok (.aload_n 0, 1) := by decide +kernel
theorem dc_Model_keeps_19 : decode cd_Model_keeps 19 = .ok (.getfield 144, 3) := by decide +kernel
theorem dc_Model_keeps_22 : decode cd_Model_keeps 22 = .ok (.iload_n 1, 1) := by decide +kernel
theorem dc_Model_keeps_23 : decode cd_Model_keeps 23 = .ok (.aload_n 0, 1) := by decide +kernel
theorem dc_Model_keeps_24 : decode cd_Model_keeps 24 = .ok (.getfield 144, 3) := by decide +kernel
theorem dc_Model_keeps_27 : decode cd_Model_keeps 27 = .ok (.iload_n 1, 1) := by decide +kernel
theorem dc_Model_keeps_28 : decode cd_Model_keeps 28 = .ok (.bipush 16, 2) := by decide +kernel
theorem dc_Model_keeps_30 : decode cd_Model_keeps 30 = .ok (.iadd, 1) := by decide +kernel
theorem dc_Model_keeps_31 : decode cd_Model_keeps 31 = .ok (.iaload, 1) := by decide +kernel
theorem dc_Model_keeps_32 : decode cd_Model_keeps 32 = .ok (.iastore, 1) := by decide +kernel
theorem dc_Model_keeps_33 : decode cd_Model_keeps 33 = .ok (.iinc 1 1, 3) := by decide +kernel
theorem dc_Model_keeps_36 : decode cd_Model_keeps 36 = .ok (.goto (-25), 3) := by decide +kernel
theorem dc_Model_keeps_39 : decode cd_Model_keeps 39 = .ok (.aload_n 0, 1) := by decide +kernel
theorem dc_Model_keeps_40 : decode cd_Model_keeps 40 = .ok (.dup, 1) := by decide +kernel
theorem dc_Model_keeps_41 : decode cd_Model_keeps 41 = .ok (.getfield 416, 3) := by decide +kernel
theorem dc_Model_keeps_44 : decode cd_Model_keeps 44 = .ok (.iconst 1, 1) := by decide +kernel
theorem dc_Model_keeps_45 : decode cd_Model_keeps 45 = .ok (.isub, 1) := by decide +kernel
theorem dc_Model_keeps_46 : decode cd_Model_keeps 46 = .ok (.putfield 416, 3) := by decide +kernel
theorem dc_Model_keeps_49 : decode cd_Model_keeps 49 = .ok (.aload_n 0, 1) := by decide +kernel
theorem dc_Model_keeps_50 : decode cd_Model_keeps 50 = .ok (.getfield 135, 3) := by decide +kernel
theorem dc_Model_keeps_53 : decode cd_Model_keeps 53 = .ok (.iconst 0, 1) := by decide +kernel
theorem dc_Model_keeps_54 : decode cd_Model_keeps 54 = .ok (.aload_n 0, 1) := by decide +kernel
theorem dc_Model_keeps_55 : decode cd_Model_keeps 55 = .ok (.getfield 144, 3) := by decide +kernel
theorem dc_Model_keeps_58 : decode cd_Model_keeps 58 = .ok (.bipush 16, 2) := by decide +kernel
theorem dc_Model_keeps_60 : decode cd_Model_keeps 60 = .ok (.aload_n 0, 1) := by decide +kernel
theorem dc_Model_keeps_61 : decode cd_Model_keeps 61 = .ok (.getfield 416, 3) := by decide +kernel
theorem dc_Model_keeps_64 : decode cd_Model_keeps 64 = .ok (.imul, 1) := by decide +kernel
theorem dc_Model_keeps_65 : decode cd_Model_keeps 65 = .ok (.invokestatic 482, 3) := by decide +kernel
theorem dc_Model_keeps_68 : decode cd_Model_keeps 68 = .ok (.aload_n 0, 1) := by decide +kernel
theorem dc_Model_keeps_69 : decode cd_Model_keeps 69 = .ok (.dup, 1) := by decide +kernel
theorem dc_Model_keeps_70 : decode cd_Model_keeps 70 = .ok (.getfield 416, 3) := by decide +kernel
theorem dc_Model_keeps_73 : decode cd_Model_keeps 73 = .ok (.iconst 1, 1) := by decide +kernel
theorem dc_Model_keeps_74 : decode cd_Model_keeps 74 = .ok (.iadd, 1) := by decide +kernel
theorem dc_Model_keeps_75 : decode cd_Model_keeps 75 = .ok (.putfield 416, 3) := by decide +kernel
theorem dc_Model_keeps_78 : decode cd_Model_keeps 78 = .ok (.return_, 1) := by decide +kernel
theorem dc_Model_canStand_0 : decode cd_Model_canStand 0 = .ok (.aload_n 0, 1) := by decide +kernel
theorem dc_Model_canStand_1 : decode cd_Model_canStand 1 = .ok (.iload_n 2, 1) := by decide +kernel
theorem dc_Model_canStand_2 : decode cd_Model_canStand 2 = .ok (.invokevirtual 489, 3) := by decide +kernel
theorem dc_Model_canStand_5 : decode cd_Model_canStand 5 = .ok (.ifCond .eq 22, 3) := by decide +kernel
theorem dc_Model_canStand_8 : decode cd_Model_canStand 8 = .ok (.aload_n 0, 1) := by decide +kernel
theorem dc_Model_canStand_9 : decode cd_Model_canStand 9 = .ok (.iconst 0, 1) := by decide +kernel
theorem dc_Model_canStand_10 : decode cd_Model_canStand 10 = .ok (.iload_n 2, 1) := by decide +kernel
theorem dc_Model_canStand_11 : decode cd_Model_canStand 11 = .ok (.aload_n 0, 1) := by decide +kernel
theorem dc_Model_canStand_12 : decode cd_Model_canStand 12 = .ok (.getfield 56, 3) := by decide +kernel
theorem dc_Model_canStand_15 : decode cd_Model_canStand 15 = .ok (.iload_n 1, 1) := by decide +kernel
theorem dc_Model_canStand_16 : decode cd_Model_canStand 16 = .ok (.iaload, 1) := by decide +kernel
theorem dc_Model_canStand_17 : decode cd_Model_canStand 17 = .ok (.invokevirtual 367, 3) := by decide +kernel
theorem dc_Model_canStand_20 : decode cd_Model_canStand 20 = .ok (.ifCond .eq 7, 3) := by decide +kernel
theorem dc_Model_canStand_23 : decode cd_Model_canStand 23 = .ok (.iconst 1, 1) := by decide +kernel
theorem dc_Model_canStand_24 : decode cd_Model_canStand 24 = .ok (.goto 4, 3) := by decide +kernel
theorem dc_Model_canStand_27 : decode cd_Model_canStand 27 = .ok (.iconst 0, 1) := by decide +kernel
theorem dc_Model_canStand_28 : decode cd_Model_canStand 28 = .ok (.ireturn, 1) := by decide +kernel
theorem dc_Model_undo_0 : decode cd_Model_undo 0 = .ok (.aload_n 0, 1) := by decide +kernel
theorem dc_Model_undo_1 : decode cd_Model_undo 1 = .ok (.iconst 0, 1) := by decide +kernel
theorem dc_Model_undo_2 : decode cd_Model_undo 2 = .ok (.putfield 183, 3) := by decide +kernel
theorem dc_Model_undo_5 : decode cd_Model_undo 5 = .ok (.aload_n 0, 1) := by decide +kernel
theorem dc_Model_undo_6 : decode cd_Model_undo 6 = .ok (.getfield 416, 3) := by decide +kernel
theorem dc_Model_undo_9 : decode cd_Model_undo 9 = .ok (.ifCond .ne 5, 3) := by decide +kernel
theorem dc_Model_undo_12 : decode cd_Model_undo 12 = .ok (.iconst 0, 1) := by decide +kernel
theorem dc_Model_undo_13 : decode cd_Model_undo 13 = .ok (.ireturn, 1) := by decide +kernel
theorem dc_Model_undo_14 : decode cd_Model_undo 14 = .ok (.aload_n 0, 1) := by decide +kernel
theorem dc_Model_undo_15 : decode cd_Model_undo 15 = .ok (.dup, 1) := by decide +kernel
theorem dc_Model_undo_16 : decode cd_Model_undo 16 = .ok (.getfield 416, 3) := by decide +kernel
theorem dc_Model_undo_19 : decode cd_Model_undo 19 = .ok (.iconst 1, 1) := by decide +kernel
theorem dc_Model_undo_20 : decode cd_Model_undo 20 = .ok (.isub, 1) := by decide +kernel
theorem dc_Model_undo_21 : decode cd_Model_undo 21 = .ok (.putfield 416, 3) := by decide +kernel
theorem dc_Model_undo_24 : decode cd_Model_undo 24 = .ok (.aload_n 0, 1) := by decide +kernel
theorem dc_Model_undo_25 : decode cd_Model_undo 25 = .ok (.getfield 144, 3) := by decide +kernel
theorem dc_Model_undo_28 : decode cd_Model_undo 28 = .ok (.bipush 16, 2) := by decide +kernel
theorem dc_Model_undo_30 : decode cd_Model_undo 30 = .ok (.aload_n 0, 1) := by decide +kernel
theorem dc_Model_undo_31 : decode cd_Model_undo 31 = .ok (.getfield 416, 3) := by decide +kernel
theorem dc_Model_undo_34 : decode cd_Model_undo 34 = .ok (.imul, 1) := by decide +kernel
theorem dc_Model_undo_35 : decode cd_Model_undo 35 = .ok (.aload_n 0, 1) := by decide +kernel
theorem dc_Model_undo_36 : decode cd_Model_undo 36 = .ok (.getfield 135, 3) := by decide +kernel
theorem dc_Model_undo_39 : decode cd_Model_undo 39 = .ok (.iconst 0, 1) := by decide +kernel
theorem dc_Model_undo_40 : decode cd_Model_undo 40 = .ok (.invokestatic 482, 3) := by decide +kernel
theorem dc_Model_undo_43 : decode cd_Model_undo 43 = .ok (.iconst 1, 1) := by decide +kernel
theorem dc_Model_undo_44 : decode cd_Model_undo 44 = .ok (.ireturn, 1) := by decide +kernel
theorem dc_Model_see_0 : decode cd_Model_see 0 = .ok (.aload_n 0, 1) := by decide +kernel
theorem dc_Model_see_1 : decode cd_Model_see 1 = .ok (.iconst 0, 1) := by decide +kernel
theorem dc_Model_see_2 : decode cd_Model_see 2 = .ok (.putfield 183, 3) := by decide +kernel
theorem dc_Model_see_5 : decode cd_Model_see 5 = .ok (.aload_n 0, 1) := by decide +kernel
theorem dc_Model_see_6 : decode cd_Model_see 6 = .ok (.iload_n 1, 1) := by decide +kernel
theorem dc_Model_see_7 : decode cd_Model_see 7 = .ok (.invokevirtual 467, 3) := by decide +kernel
theorem dc_Model_see_10 : decode cd_Model_see 10 = .ok (.ifCond .eq 22, 3) := by decide +kernel
theorem dc_Model_see_13 : decode cd_Model_see 13 = .ok (.aload_n 0, 1) := by decide +kernel
theorem dc_Model_see_14 : decode cd_Model_see 14 = .ok (.iload_n 2, 1) := by decide +kernel
theorem dc_Model_see_15 : decode cd_Model_see 15 = .ok (.invokevirtual 433, 3) := by decide +kernel
theorem dc_Model_see_18 : decode cd_Model_see 18 = .ok (.ifCond .eq 14, 3) := by decide +kernel
theorem dc_Model_see_21 : decode cd_Model_see 21 = .ok (.aload_n 0, 1) := by decide +kernel
theorem dc_Model_see_22 : decode cd_Model_see 22 = .ok (.getfield 120, 3) := by decide +kernel
theorem dc_Model_see_25 : decode cd_Model_see 25 = .ok (.iconst 0, 1) := by decide +kernel
theorem dc_Model_see_26 : decode cd_Model_see 26 = .ok (.iaload, 1) := by decide +kernel
theorem dc_Model_see_27 : decode cd_Model_see 27 = .ok (.bipush 8, 2) := by decide +kernel
theorem dc_Model_see_29 : decode cd_Model_see 29 = .ok (.if_icmp .ne 5, 3) := by decide +kernel
theorem dc_Model_see_32 : decode cd_Model_see 32 = .ok (.iconst 0, 1) := by decide +kernel
theorem dc_Model_see_33 : decode cd_Model_see 33 = .ok (.ireturn, 1) := by decide +kernel
theorem dc_Model_see_34 : decode cd_Model_see 34 = .ok (.aload_n 0, 1) := by decide +kernel
theorem dc_Model_see_35 : decode cd_Model_see 35 = .ok (.getfield 123, 3) := by decide +kernel
theorem dc_Model_see_38 : decode cd_Model_see 38 = .ok (.aload_n 0, 1) := by decide +kernel
theorem dc_Model_see_39 : decode cd_Model_see 39 = .ok (.getfield 120, 3) := by decide +kernel
theorem dc_Model_see_42 : decode cd_Model_see 42 = .ok (.iconst 0, 1) := by decide +kernel
theorem dc_Model_see_43 : decode cd_Model_see 43 = .ok (.iaload, 1) := by decide +kernel
theorem dc_Model_see_44 : decode cd_Model_see 44 = .ok (.iload_n 1, 1) := by decide +kernel
theorem dc_Model_see_45 : decode cd_Model_see 45 = .ok (.iastore, 1) := by decide +kernel
theorem dc_Model_see_46 : decode cd_Model_see 46 = .ok (.aload_n 0, 1) := by decide +kernel
theorem dc_Model_see_47 : decode cd_Model_see 47 = .ok (.getfield 126, 3) := by decide +kernel
theorem dc_Model_see_50 : decode cd_Model_see 50 = .ok (.aload_n 0, 1) := by decide +kernel
theorem dc_Model_see_51 : decode cd_Model_see 51 = .ok (.getfield 120, 3) := by decide +kernel
theorem dc_Model_see_54 : decode cd_Model_see 54 = .ok (.iconst 0, 1) := by decide +kernel
theorem dc_Model_see_55 : decode cd_Model_see 55 = .ok (.iaload, 1) := by decide +kernel
theorem dc_Model_see_56 : decode cd_Model_see 56 = .ok (.iload_n 2, 1) := by decide +kernel
theorem dc_Model_see_57 : decode cd_Model_see 57 = .ok (.iastore, 1) := by decide +kernel
theorem dc_Model_see_58 : decode cd_Model_see 58 = .ok (.aload_n 0, 1) := by decide +kernel
theorem dc_Model_see_59 : decode cd_Model_see 59 = .ok (.getfield 129, 3) := by decide +kernel
theorem dc_Model_see_62 : decode cd_Model_see 62 = .ok (.aload_n 0, 1) := by decide +kernel
theorem dc_Model_see_63 : decode cd_Model_see 63 = .ok (.getfield 120, 3) := by decide +kernel
theorem dc_Model_see_66 : decode cd_Model_see 66 = .ok (.iconst 0, 1) := by decide +kernel
theorem dc_Model_see_67 : decode cd_Model_see 67 = .ok (.iaload, 1) := by decide +kernel
theorem dc_Model_see_68 : decode cd_Model_see 68 = .ok (.iload_n 3, 1) := by decide +kernel
theorem dc_Model_see_69 : decode cd_Model_see 69 = .ok (.bastore, 1) := by decide +kernel
theorem dc_Model_see_70 : decode cd_Model_see 70 = .ok (.aload_n 0, 1) := by decide +kernel
theorem dc_Model_see_71 : decode cd_Model_see 71 = .ok (.getfield 120, 3) := by decide +kernel
theorem dc_Model_see_74 : decode cd_Model_see 74 = .ok (.iconst 0, 1) := by decide +kernel
theorem dc_Model_see_75 : decode cd_Model_see 75 = .ok (.dup2, 1) := by decide +kernel
theorem dc_Model_see_76 : decode cd_Model_see 76 = .ok (.iaload, 1) := by decide +kernel
theorem dc_Model_see_77 : decode cd_Model_see 77 = .ok (.iconst 1, 1) := by decide +kernel
theorem dc_Model_see_78 : decode cd_Model_see 78 = .ok (.iadd, 1) := by decide +kernel
theorem dc_Model_see_79 : decode cd_Model_see 79 = .ok (.iastore, 1) := by decide +kernel
theorem dc_Model_see_80 : decode cd_Model_see 80 = .ok (.iconst 1, 1) := by decide +kernel
theorem dc_Model_see_81 : decode cd_Model_see 81 = .ok (.ireturn, 1) := by decide +kernel
theorem dc_Model_mostAlike_0 : decode cd_Model_mostAlike 0 = .ok (.iconst 0, 1) := by decide +kernel
theorem dc_Model_mostAlike_1 : decode cd_Model_mostAlike 1 = .ok (.istore_n 2, 1) := by decide +kernel
theorem dc_Model_mostAlike_2 : decode cd_Model_mostAlike 2 = .ok (.iload_n 2, 1) := by decide +kernel
theorem dc_Model_mostAlike_3 : decode cd_Model_mostAlike 3 = .ok (.bipush 64, 2) := by decide +kernel
theorem dc_Model_mostAlike_5 : decode cd_Model_mostAlike 5 = .ok (.if_icmp .ge 16, 3) := by decide +kernel
theorem dc_Model_mostAlike_8 : decode cd_Model_mostAlike 8 = .ok (.aload_n 0, 1) := by decide +kernel
theorem dc_Model_mostAlike_9 : decode cd_Model_mostAlike 9 = .ok (.getfield 165, 3) := by decide +kernel
theorem dc_Model_mostAlike_12 : decode cd_Model_mostAlike 12 = .ok (.iload_n 2, 1) := by decide +kernel
theorem dc_Model_mostAlike_13 : decode cd_Model_mostAlike 13 = .ok (.iconst 0, 1) := by decide +kernel
theorem dc_Model_mostAlike_14 : decode cd_Model_mostAlike 14 = .ok (.iastore, 1) := by decide +kernel
theorem dc_Model_mostAlike_15 : decode cd_Model_mostAlike 15 = .ok (.iinc 2 1, 3) := by decide +kernel
theorem dc_Model_mostAlike_18 : decode cd_Model_mostAlike 18 = .ok (.goto (-16), 3) := by decide +kernel
theorem dc_Model_mostAlike_21 : decode cd_Model_mostAlike 21 = .ok (.iconst 0, 1) := by decide +kernel
theorem dc_Model_mostAlike_22 : decode cd_Model_mostAlike 22 = .ok (.istore_n 2, 1) := by decide +kernel
theorem dc_Model_mostAlike_23 : decode cd_Model_mostAlike 23 = .ok (.iconst 0, 1) := by decide +kernel
theorem dc_Model_mostAlike_24 : decode cd_Model_mostAlike 24 = .ok (.istore_n 3, 1) := by decide +kernel
theorem dc_Model_mostAlike_25 : decode cd_Model_mostAlike 25 = .ok (.iload_n 3, 1) := by decide +kernel
theorem dc_Model_mostAlike_26 : decode cd_Model_mostAlike 26 = .ok (.sipush 240, 3) := by decide +kernel
theorem dc_Model_mostAlike_29 : decode cd_Model_mostAlike 29 = .ok (.if_icmp .ge 51, 3) := by decide +kernel
theorem dc_Model_mostAlike_32 : decode cd_Model_mostAlike 32 = .ok (.aload_n 0, 1) := by decide +kernel
theorem dc_Model_mostAlike_33 : decode cd_Model_mostAlike 33 = .ok (.iload_n 3, 1) := by decide +kernel
theorem dc_Model_mostAlike_34 : decode cd_Model_mostAlike 34 = .ok (.invokevirtual 507, 3) := by decide +kernel
theorem dc_Model_mostAlike_37 : decode cd_Model_mostAlike 37 = .ok (.ifCond .ne 6, 3) := by decide +kernel
theorem dc_Model_mostAlike_40 : decode cd_Model_mostAlike 40 = .ok (.goto 34, 3) := by decide +kernel
theorem dc_Model_mostAlike_43 : decode cd_Model_mostAlike 43 = .ok (.aload_n 0, 1) := by decide +kernel
theorem dc_Model_mostAlike_44 : decode cd_Model_mostAlike 44 = .ok (.iload_n 1, 1) := by decide +kernel
theorem dc_Model_mostAlike_45 : decode cd_Model_mostAlike 45 = .ok (.iload_n 3, 1) := by decide +kernel
theorem dc_Model_mostAlike_46 : decode cd_Model_mostAlike 46 = .ok (.invokevirtual 510, 3) := by decide +kernel
theorem dc_Model_mostAlike_49 : decode cd_Model_mostAlike 49 = .ok (.istore 4, 2) := by decide +kernel
theorem dc_Model_mostAlike_51 : decode cd_Model_mostAlike 51 = .ok (.aload_n 0, 1) := by decide +kernel
theorem dc_Model_mostAlike_52 : decode cd_Model_mostAlike 52 = .ok (.getfield 165, 3) := by decide +kernel
theorem dc_Model_mostAlike_55 : decode cd_Model_mostAlike 55 = .ok (.iload 4, 2) := by decide +kernel
theorem dc_Model_mostAlike_57 : decode cd_Model_mostAlike 57 = .ok (.dup2, 1) := by decide +kernel
theorem dc_Model_mostAlike_58 : decode cd_Model_mostAlike 58 = .ok (.iaload, 1) := by decide +kernel
theorem dc_Model_mostAlike_59 : decode cd_Model_mostAlike 59 = .ok (.iconst 1, 1) := by decide +kernel
theorem dc_Model_mostAlike_60 : decode cd_Model_mostAlike 60 = .ok (.iadd, 1) := by decide +kernel
theorem dc_Model_mostAlike_61 : decode cd_Model_mostAlike 61 = .ok (.iastore, 1) := by decide +kernel
theorem dc_Model_mostAlike_62 : decode cd_Model_mostAlike 62 = .ok (.iload_n 2, 1) := by decide +kernel
theorem dc_Model_mostAlike_63 : decode cd_Model_mostAlike 63 = .ok (.aload_n 0, 1) := by decide +kernel
theorem dc_Model_mostAlike_64 : decode cd_Model_mostAlike 64 = .ok (.getfield 165, 3) := by decide +kernel
theorem dc_Model_mostAlike_67 : decode cd_Model_mostAlike 67 = .ok (.iload 4, 2) := by decide +kernel
theorem dc_Model_mostAlike_69 : decode cd_Model_mostAlike 69 = .ok (.iaload, 1) := by decide +kernel
theorem dc_Model_mostAlike_70 : decode cd_Model_mostAlike 70 = .ok (.invokestatic 513, 3) := by decide +kernel
theorem dc_Model_mostAlike_73 : decode cd_Model_mostAlike 73 = .ok (.istore_n 2, 1) := by decide +kernel
theorem dc_Model_mostAlike_74 : decode cd_Model_mostAlike 74 = .ok (.iinc 3 1, 3) := by decide +kernel
theorem dc_Model_mostAlike_77 : decode cd_Model_mostAlike 77 = .ok (.goto (-52), 3) := by decide +kernel
theorem dc_Model_mostAlike_80 : decode cd_Model_mostAlike 80 = .ok (.iload_n 2, 1) := by decide +kernel
theorem dc_Model_mostAlike_81 : decode cd_Model_mostAlike 81 = .ok (.ireturn, 1) := by decide +kernel
theorem dc_Model_tell_0 : decode cd_Model_tell 0 = .ok (.aload_n 0, 1) := by decide +kernel
theorem dc_Model_tell_1 : decode cd_Model_tell 1 = .ok (.iconst 0, 1) := by decide +kernel
theorem dc_Model_tell_2 : decode cd_Model_tell 2 = .ok (.putfield 183, 3) := by decide +kernel
theorem dc_Model_tell_5 : decode cd_Model_tell 5 = .ok (.aload_n 0, 1) := by decide +kernel
theorem dc_Model_tell_6 : decode cd_Model_tell 6 = .ok (.iload_n 1, 1) := by decide +kernel
theorem dc_Model_tell_7 : decode cd_Model_tell 7 = .ok (.invokevirtual 473, 3) := by decide +kernel
theorem dc_Model_tell_10 : decode cd_Model_tell 10 = .ok (.ifCond .eq 14, 3) := by decide +kernel
theorem dc_Model_tell_13 : decode cd_Model_tell 13 = .ok (.iload_n 2, 1) := by decide +kernel
theorem dc_Model_tell_14 : decode cd_Model_tell 14 = .ok (.iconst (-1), 1) := by decide +kernel
theorem dc_Model_tell_15 : decode cd_Model_tell 15 = .ok (.sipush 239, 3) := by decide +kernel
theorem dc_Model_tell_18 : decode cd_Model_tell 18 = .ok (.invokestatic 318, 3) := by decide +kernel
theorem dc_Model_tell_21 : decode cd_Model_tell 21 = .ok (.ifCond .ne 5, 3) := by decide +kernel
theorem dc_Model_tell_24 : decode cd_Model_tell 24 = .ok (.iconst 0, 1) := by decide +kernel
theorem dc_Model_tell_25 : decode cd_Model_tell 25 = .ok (.ireturn, 1) := by decide +kernel
theorem dc_Model_tell_26 : decode cd_Model_tell 26 = .ok (.aload_n 0, 1) := by decide +kernel
theorem dc_Model_tell_27 : decode cd_Model_tell 27 = .ok (.getfield 132, 3) := by decide +kernel
theorem dc_Model_tell_30 : decode cd_Model_tell 30 = .ok (.iload_n 1, 1) := by decide +kernel
theorem dc_Model_tell_31 : decode cd_Model_tell 31 = .ok (.iload_n 2, 1) := by decide +kernel
theorem dc_Model_tell_32 : decode cd_Model_tell 32 = .ok (.iastore, 1) := by decide +kernel
theorem dc_Model_tell_33 : decode cd_Model_tell 33 = .ok (.iconst 1, 1) := by decide +kernel
theorem dc_Model_tell_34 : decode cd_Model_tell 34 = .ok (.ireturn, 1) := by decide +kernel
theorem dc_Model_isRest_0 : decode cd_Model_isRest 0 = .ok (.iconst 0, 1) := by decide +kernel
theorem dc_Model_isRest_1 : decode cd_Model_isRest 1 = .ok (.istore 5, 2) := by decide +kernel
theorem dc_Model_isRest_3 : decode cd_Model_isRest 3 = .ok (.iload 5, 2) := by decide +kernel
theorem dc_Model_isRest_5 : decode cd_Model_isRest 5 = .ok (.bipush 10, 2) := by decide +kernel
theorem dc_Model_isRest_7 : decode cd_Model_isRest 7 = .ok (.if_icmp .ge 54, 3) := by decide +kernel
theorem dc_Model_isRest_10 : decode cd_Model_isRest 10 = .ok (.iload_n 0, 1) := by decide +kernel
theorem dc_Model_isRest_11 : decode cd_Model_isRest 11 = .ok (.iload_n 1, 1) := by decide +kernel
theorem dc_Model_isRest_12 : decode cd_Model_isRest 12 = .ok (.iload_n 2, 1) := by decide +kernel
theorem dc_Model_isRest_13 : decode cd_Model_isRest 13 = .ok (.iload 5, 2) := by decide +kernel
theorem dc_Model_isRest_15 : decode cd_Model_isRest 15 = .ok (.iload 4, 2) := by decide +kernel
theorem dc_Model_isRest_17 : decode cd_Model_isRest 17 = .ok (.invokestatic 545, 3) := by decide +kernel
theorem dc_Model_isRest_20 : decode cd_Model_isRest 20 = .ok (.iload_n 0, 1) := by decide +kernel
theorem dc_Model_isRest_21 : decode cd_Model_isRest 21 = .ok (.iload_n 1, 1) := by decide +kernel
theorem dc_Model_isRest_22 : decode cd_Model_isRest 22 = .ok (.iload_n 2, 1) := by decide +kernel
theorem dc_Model_isRest_23 : decode cd_Model_isRest 23 = .ok (.iload_n 3, 1) := by decide +kernel
theorem dc_Model_isRest_24 : decode cd_Model_isRest 24 = .ok (.iload 4, 2) := by decide +kernel
theorem dc_Model_isRest_26 : decode cd_Model_isRest 26 = .ok (.invokestatic 545, 3) := by decide +kernel
theorem dc_Model_isRest_29 : decode cd_Model_isRest 29 = .ok (.if_icmp .gt 24, 3) := by decide +kernel
theorem dc_Model_isRest_32 : decode cd_Model_isRest 32 = .ok (.iload_n 1, 1) := by decide +kernel
theorem dc_Model_isRest_33 : decode cd_Model_isRest 33 = .ok (.iload_n 0, 1) := by decide +kernel
theorem dc_Model_isRest_34 : decode cd_Model_isRest 34 = .ok (.iload_n 2, 1) := by decide +kernel
theorem dc_Model_isRest_35 : decode cd_Model_isRest 35 = .ok (.iload 5, 2) := by decide +kernel
theorem dc_Model_isRest_37 : decode cd_Model_isRest 37 = .ok (.iload_n 3, 1) := by decide +kernel
theorem dc_Model_isRest_38 : decode cd_Model_isRest 38 = .ok (.invokestatic 545, 3) := by decide +kernel
theorem dc_Model_isRest_41 : decode cd_Model_isRest 41 = .ok (.iload_n 1, 1) := by decide +kernel
theorem dc_Model_isRest_42 : decode cd_Model_isRest 42 = .ok (.iload_n 0, 1) := by decide +kernel
theorem dc_Model_isRest_43 : decode cd_Model_isRest 43 = .ok (.iload_n 2, 1) := by decide +kernel
theorem dc_Model_isRest_44 : decode cd_Model_isRest 44 = .ok (.iload 4, 2) := by decide +kernel
theorem dc_Model_isRest_46 : decode cd_Model_isRest 46 = .ok (.iload_n 3, 1) := by decide +kernel
theorem dc_Model_isRest_47 : decode cd_Model_isRest 47 = .ok (.invokestatic 545, 3) := by decide +kernel
theorem dc_Model_isRest_50 : decode cd_Model_isRest 50 = .ok (.if_icmp .le 5, 3) := by decide +kernel
theorem dc_Model_isRest_53 : decode cd_Model_isRest 53 = .ok (.iconst 0, 1) := by decide +kernel
theorem dc_Model_isRest_54 : decode cd_Model_isRest 54 = .ok (.ireturn, 1) := by decide +kernel
theorem dc_Model_isRest_55 : decode cd_Model_isRest 55 = .ok (.iinc 5 1, 3) := by decide +kernel
theorem dc_Model_isRest_58 : decode cd_Model_isRest 58 = .ok (.goto (-55), 3) := by decide +kernel
theorem dc_Model_isRest_61 : decode cd_Model_isRest 61 = .ok (.iconst 1, 1) := by decide +kernel
theorem dc_Model_isRest_62 : decode cd_Model_isRest 62 = .ok (.ireturn, 1) := by decide +kernel
theorem dc_Model_meetings_0 : decode cd_Model_meetings 0 = .ok (.iconst 0, 1) := by decide +kernel
theorem dc_Model_meetings_1 : decode cd_Model_meetings 1 = .ok (.istore_n 1, 1) := by decide +kernel
theorem dc_Model_meetings_2 : decode cd_Model_meetings 2 = .ok (.iconst 0, 1) := by decide +kernel
theorem dc_Model_meetings_3 : decode cd_Model_meetings 3 = .ok (.istore_n 2, 1) := by decide +kernel
theorem dc_Model_meetings_4 : decode cd_Model_meetings 4 = .ok (.iload_n 2, 1) := by decide +kernel
theorem dc_Model_meetings_5 : decode cd_Model_meetings 5 = .ok (.aload_n 0, 1) := by decide +kernel
theorem dc_Model_meetings_6 : decode cd_Model_meetings 6 = .ok (.getfield 13, 3) := by decide +kernel
theorem dc_Model_meetings_9 : decode cd_Model_meetings 9 = .ok (.iconst 1, 1) := by decide +kernel
theorem dc_Model_meetings_10 : decode cd_Model_meetings 10 = .ok (.iaload, 1) := by decide +kernel
theorem dc_Model_meetings_11 : decode cd_Model_meetings 11 = .ok (.if_icmp .ge 39, 3) := by decide +kernel
theorem dc_Model_meetings_14 : decode cd_Model_meetings 14 = .ok (.iconst 0, 1) := by decide +kernel
theorem dc_Model_meetings_15 : decode cd_Model_meetings 15 = .ok (.istore_n 3, 1) := by decide +kernel
theorem dc_Model_meetings_16 : decode cd_Model_meetings 16 = .ok (.iload_n 3, 1) := by decide +kernel
theorem dc_Model_meetings_17 : decode cd_Model_meetings 17 = .ok (.iload_n 2, 1) := by decide +kernel
theorem dc_Model_meetings_18 : decode cd_Model_meetings 18 = .ok (.if_icmp .ge 26, 3) := by decide +kernel
theorem dc_Model_meetings_21 : decode cd_Model_meetings 21 = .ok (.iload_n 1, 1) := by decide +kernel
theorem dc_Model_meetings_22 : decode cd_Model_meetings 22 = .ok (.aload_n 0, 1) := by decide +kernel
theorem dc_Model_meetings_23 : decode cd_Model_meetings 23 = .ok (.iload_n 2, 1) := by decide +kernel
theorem dc_Model_meetings_24 : decode cd_Model_meetings 24 = .ok (.iload_n 3, 1) := by decide +kernel
theorem dc_Model_meetings_25 : decode cd_Model_meetings 25 = .ok (.invokevirtual 479, 3) := by decide +kernel
theorem dc_Model_meetings_28 : decode cd_Model_meetings 28 = .ok (.ifCond .lt 7, 3) := by decide +kernel
theorem dc_Model_meetings_31 : decode cd_Model_meetings 31 = .ok (.iconst 1, 1) := by decide +kernel
theorem dc_Model_meetings_32 : decode cd_Model_meetings 32 = .ok (.goto 4, 3) := by decide +kernel
theorem dc_Model_meetings_35 : decode cd_Model_meetings 35 = .ok (.iconst 0, 1) := by decide +kernel
theorem dc_Model_meetings_36 : decode cd_Model_meetings 36 = .ok (.iadd, 1) := by decide +kernel
theorem dc_Model_meetings_37 : decode cd_Model_meetings 37 = .ok (.istore_n 1, 1) := by decide +kernel
theorem dc_Model_meetings_38 : decode cd_Model_meetings 38 = .ok (.iinc 3 1, 3) := by decide +kernel
theorem dc_Model_meetings_41 : decode cd_Model_meetings 41 = .ok (.goto (-25), 3) := by decide +kernel
theorem dc_Model_meetings_44 : decode cd_Model_meetings 44 = .ok (.iinc 2 1, 3) := by decide +kernel
theorem dc_Model_meetings_47 : decode cd_Model_meetings 47 = .ok (.goto (-43), 3) := by decide +kernel
theorem dc_Model_meetings_50 : decode cd_Model_meetings 50 = .ok (.iload_n 1, 1) := by decide +kernel
theorem dc_Model_meetings_51 : decode cd_Model_meetings 51 = .ok (.ireturn, 1) := by decide +kernel
theorem dc_Model_mark_0 : decode cd_Model_mark 0 = .ok (.aload_n 0, 1) := by decide +kernel
theorem dc_Model_mark_1 : decode cd_Model_mark 1 = .ok (.iconst 0, 1) := by decide +kernel
theorem dc_Model_mark_2 : decode cd_Model_mark 2 = .ok (.putfield 183, 3) := by decide +kernel
theorem dc_Model_mark_5 : decode cd_Model_mark 5 = .ok (.iload_n 1, 1) := by decide +kernel
theorem dc_Model_mark_6 : decode cd_Model_mark 6 = .ok (.iconst 0, 1) := by decide +kernel
theorem dc_Model_mark_7 : decode cd_Model_mark 7 = .ok (.iconst 3, 1) := by decide +kernel
theorem dc_Model_mark_8 : decode cd_Model_mark 8 = .ok (.invokestatic 318, 3) := by decide +kernel
theorem dc_Model_mark_11 : decode cd_Model_mark 11 = .ok (.ifCond .eq 16, 3) := by decide +kernel
theorem dc_Model_mark_14 : decode cd_Model_mark 14 = .ok (.iload_n 2, 1) := by decide +kernel
theorem dc_Model_mark_15 : decode cd_Model_mark 15 = .ok (.ifCond .eq 14, 3) := by decide +kernel
theorem dc_Model_mark_18 : decode cd_Model_mark 18 = .ok (.aload_n 0, 1) := by decide +kernel
theorem dc_Model_mark_19 : decode cd_Model_mark 19 = .ok (.getfield 147, 3) := by decide +kernel
theorem dc_Model_mark_22 : decode cd_Model_mark 22 = .ok (.iload_n 1, 1) := by decide +kernel
theorem dc_Model_mark_23 : decode cd_Model_mark 23 = .ok (.baload, 1) := by decide +kernel
theorem dc_Model_mark_24 : decode cd_Model_mark 24 = .ok (.ifCond .ne 5, 3) := by decide +kernel
theorem dc_Model_mark_27 : decode cd_Model_mark 27 = .ok (.iconst 0, 1) := by decide +kernel
theorem dc_Model_mark_28 : decode cd_Model_mark 28 = .ok (.ireturn, 1) := by decide +kernel
theorem dc_Model_mark_29 : decode cd_Model_mark 29 = .ok (.aload_n 0, 1) := by decide +kernel
theorem dc_Model_mark_30 : decode cd_Model_mark 30 = .ok (.getfield 147, 3) := by decide +kernel
theorem dc_Model_mark_33 : decode cd_Model_mark 33 = .ok (.iload_n 1, 1) := by decide +kernel
theorem dc_Model_mark_34 : decode cd_Model_mark 34 = .ok (.iconst 1, 1) := by decide +kernel
theorem dc_Model_mark_35 : decode cd_Model_mark 35 = .ok (.bastore, 1) := by decide +kernel
theorem dc_Model_mark_36 : decode cd_Model_mark 36 = .ok (.iload_n 2, 1) := by decide +kernel
theorem dc_Model_mark_37 : decode cd_Model_mark 37 = .ok (.ifCond .eq 9, 3) := by decide +kernel
theorem dc_Model_mark_40 : decode cd_Model_mark 40 = .ok (.iconst 1, 1) := by decide +kernel
theorem dc_Model_mark_41 : decode cd_Model_mark 41 = .ok (.iload_n 1, 1) := by decide +kernel
theorem dc_Model_mark_42 : decode cd_Model_mark 42 = .ok (.iadd, 1) := by decide +kernel
theorem dc_Model_mark_43 : decode cd_Model_mark 43 = .ok (.goto 4, 3) := by decide +kernel
theorem dc_Model_mark_46 : decode cd_Model_mark 46 = .ok (.iconst 0, 1) := by decide +kernel
theorem dc_Model_mark_47 : decode cd_Model_mark 47 = .ok (.istore_n 3, 1) := by decide +kernel
theorem dc_Model_mark_48 : decode cd_Model_mark 48 = .ok (.iload_n 2, 1) := by decide +kernel
theorem dc_Model_mark_49 : decode cd_Model_mark 49 = .ok (.ifCond .eq 7, 3) := by decide +kernel
theorem dc_Model_mark_52 : decode cd_Model_mark 52 = .ok (.iconst 0, 1) := by decide +kernel
theorem dc_Model_mark_53 : decode cd_Model_mark 53 = .ok (.goto 6, 3) := by decide +kernel
theorem dc_Model_mark_56 : decode cd_Model_mark 56 = .ok (.iconst 1, 1) := by decide +kernel
theorem dc_Model_mark_57 : decode cd_Model_mark 57 = .ok (.iload_n 1, 1) := by decide +kernel
theorem dc_Model_mark_58 : decode cd_Model_mark 58 = .ok (.iadd, 1) := by decide +kernel
theorem dc_Model_mark_59 : decode cd_Model_mark 59 = .ok (.istore 4, 2) := by decide +kernel
theorem dc_Model_mark_61 : decode cd_Model_mark 61 = .ok (.aload_n 0, 1) := by decide +kernel
theorem dc_Model_mark_62 : decode cd_Model_mark 62 = .ok (.iload_n 3, 1) := by decide +kernel
theorem dc_Model_mark_63 : decode cd_Model_mark 63 = .ok (.iload 4, 2) := by decide +kernel
theorem dc_Model_mark_65 : decode cd_Model_mark 65 = .ok (.invokevirtual 422, 3) := by decide +kernel
theorem dc_Model_mark_68 : decode cd_Model_mark 68 = .ok (.aload_n 0, 1) := by decide +kernel
theorem dc_Model_mark_69 : decode cd_Model_mark 69 = .ok (.iload_n 3, 1) := by decide +kernel
theorem dc_Model_mark_70 : decode cd_Model_mark 70 = .ok (.iload 4, 2) := by decide +kernel
theorem dc_Model_mark_72 : decode cd_Model_mark 72 = .ok (.invokevirtual 570, 3) := by decide +kernel
theorem dc_Model_mark_75 : decode cd_Model_mark 75 = .ok (.iload_n 2, 1) := by decide +kernel
theorem dc_Model_mark_76 : decode cd_Model_mark 76 = .ok (.ifCond .eq 27, 3) := by decide +kernel
theorem dc_Model_mark_79 : decode cd_Model_mark 79 = .ok (.aload_n 0, 1) := by decide +kernel
theorem dc_Model_mark_80 : decode cd_Model_mark 80 = .ok (.getfield 141, 3) := by decide +kernel
theorem dc_Model_mark_83 : decode cd_Model_mark 83 = .ok (.bipush 16, 2) := by decide +kernel
theorem dc_Model_mark_85 : decode cd_Model_mark 85 = .ok (.iload_n 1, 1) := by decide +kernel
theorem dc_Model_mark_86 : decode cd_Model_mark 86 = .ok (.imul, 1) := by decide +kernel
theorem dc_Model_mark_87 : decode cd_Model_mark 87 = .ok (.aload_n 0, 1) := by decide +kernel
theorem dc_Model_mark_88 : decode cd_Model_mark 88 = .ok (.getfield 135, 3) := by decide +kernel
theorem dc_Model_mark_91 : decode cd_Model_mark 91 = .ok (.iconst 0, 1) := by decide +kernel
theorem dc_Model_mark_92 : decode cd_Model_mark 92 = .ok (.invokestatic 482, 3) := by decide +kernel
theorem dc_Model_mark_95 : decode cd_Model_mark 95 = .ok (.aload_n 0, 1) := by decide +kernel
theorem dc_Model_mark_96 : decode cd_Model_mark 96 = .ok (.iconst 0, 1) := by decide +kernel
theorem dc_Model_mark_97 : decode cd_Model_mark 97 = .ok (.putfield 416, 3) := by decide +kernel
theorem dc_Model_mark_100 : decode cd_Model_mark 100 = .ok (.goto 19, 3) := by decide +kernel
theorem dc_Model_mark_103 : decode cd_Model_mark 103 = .ok (.aload_n 0, 1) := by decide +kernel
theorem dc_Model_mark_104 : decode cd_Model_mark 104 = .ok (.getfield 135, 3) := by decide +kernel
theorem dc_Model_mark_107 : decode cd_Model_mark 107 = .ok (.iconst 0, 1) := by decide +kernel
theorem dc_Model_mark_108 : decode cd_Model_mark 108 = .ok (.aload_n 0, 1) := by decide +kernel
theorem dc_Model_mark_109 : decode cd_Model_mark 109 = .ok (.getfield 141, 3) := by decide +kernel
theorem dc_Model_mark_112 : decode cd_Model_mark 112 = .ok (.bipush 16, 2) := by decide +kernel
theorem dc_Model_mark_114 : decode cd_Model_mark 114 = .ok (.iload_n 1, 1) := by decide +kernel
theorem dc_Model_mark_115 : decode cd_Model_mark 115 = .ok (.imul, 1) := by decide +kernel
theorem dc_Model_mark_116 : decode cd_Model_mark 116 = .ok (.invokestatic 482, 3) := by decide +kernel
theorem dc_Model_mark_119 : decode cd_Model_mark 119 = .ok (.iconst 1, 1) := by decide +kernel
theorem dc_Model_mark_120 : decode cd_Model_mark 120 = .ok (.ireturn, 1) := by decide +kernel
theorem dc_Model_count_0 : decode cd_Model_count 0 = .ok (.aload_n 0, 1) := by decide +kernel
theorem dc_Model_count_1 : decode cd_Model_count 1 = .ok (.iconst 0, 1) := by decide +kernel
theorem dc_Model_count_2 : decode cd_Model_count 2 = .ok (.putfield 183, 3) := by decide +kernel
theorem dc_Model_count_5 : decode cd_Model_count 5 = .ok (.iload_n 1, 1) := by decide +kernel
theorem dc_Model_count_6 : decode cd_Model_count 6 = .ok (.iconst 0, 1) := by decide +kernel
theorem dc_Model_count_7 : decode cd_Model_count 7 = .ok (.bipush 13, 2) := by decide +kernel
theorem dc_Model_count_9 : decode cd_Model_count 9 = .ok (.invokestatic 318, 3) := by decide +kernel
theorem dc_Model_count_12 : decode cd_Model_count 12 = .ok (.ifCond .ne 5, 3) := by decide +kernel
theorem dc_Model_count_15 : decode cd_Model_count 15 = .ok (.iconst (-1), 1) := by decide +kernel
theorem dc_Model_count_16 : decode cd_Model_count 16 = .ok (.ireturn, 1) := by decide +kernel
theorem dc_Model_count_17 : decode cd_Model_count 17 = .ok (.iload_n 1, 1) := by decide +kernel
theorem dc_Model_count_18 : decode cd_Model_count 18 = .ok (.iconst 5, 1) := by decide +kernel
theorem dc_Model_count_19 : decode cd_Model_count 19 = .ok (.if_icmp .ge 10, 3) := by decide +kernel
theorem dc_Model_count_22 : decode cd_Model_count 22 = .ok (.aload_n 0, 1) := by decide +kernel
theorem dc_Model_count_23 : decode cd_Model_count 23 = .ok (.getfield 13, 3) := by decide +kernel
theorem dc_Model_count_26 : decode cd_Model_count 26 = .ok (.iload_n 1, 1) := by decide +kernel
theorem dc_Model_count_27 : decode cd_Model_count 27 = .ok (.iaload, 1) := by decide +kernel
theorem dc_Model_count_28 : decode cd_Model_count 28 = .ok (.ireturn, 1) := by decide +kernel
theorem dc_Model_count_29 : decode cd_Model_count 29 = .ok (.iload_n 1, 1) := by decide +kernel
theorem dc_Model_count_30 : decode cd_Model_count 30 = .ok (.bipush 9, 2) := by decide +kernel
theorem dc_Model_count_32 : decode cd_Model_count 32 = .ok (.if_icmp .ge 39, 3) := by decide +kernel
theorem dc_Model_count_35 : decode cd_Model_count 35 = .ok (.aload_n 0, 1) := by decide +kernel
theorem dc_Model_count_36 : decode cd_Model_count 36 = .ok (.getfield 135, 3) := by decide +kernel
theorem dc_Model_count_39 : decode cd_Model_count 39 = .ok (.iload_n 1, 1) := by decide +kernel
theorem dc_Model_count_40 : decode cd_Model_count 40 = .ok (.iconst 5, 1) := by decide +kernel
theorem dc_Model_count_41 : decode cd_Model_count 41 = .ok (.if_icmp .ne 7, 3) := by decide +kernel
theorem dc_Model_count_44 : decode cd_Model_count 44 = .ok (.iconst 0, 1) := by decide +kernel
theorem dc_Model_count_45 : decode cd_Model_count 45 = .ok (.goto 24, 3) := by decide +kernel
theorem dc_Model_count_48 : decode cd_Model_count 48 = .ok (.iload_n 1, 1) := by decide +kernel
theorem dc_Model_count_49 : decode cd_Model_count 49 = .ok (.bipush 6, 2) := by decide +kernel
theorem dc_Model_count_51 : decode cd_Model_count 51 = .ok (.if_icmp .ne 7, 3) := by decide +kernel
theorem dc_Model_count_54 : decode cd_Model_count 54 = .ok (.iconst 1, 1) := by decide +kernel
theorem dc_Model_count_55 : decode cd_Model_count 55 = .ok (.goto 14, 3) := by decide +kernel
theorem dc_Model_count_58 : decode cd_Model_count 58 = .ok (.iload_n 1, 1) := by decide +kernel
theorem dc_Model_count_59 : decode cd_Model_count 59 = .ok (.bipush 7, 2) := by decide +kernel
theorem dc_Model_count_61 : decode cd_Model_count 61 = .ok (.if_icmp .ne 7, 3) := by decide +kernel
theorem dc_Model_count_64 : decode cd_Model_count 64 = .ok (.iconst 2, 1) := by decide +kernel
theorem dc_Model_count_65 : decode cd_Model_count 65 = .ok (.goto 4, 3) := by decide +kernel
theorem dc_Model_count_68 : decode cd_Model_count 68 = .ok (.iconst 3, 1) := by decide +kernel
theorem dc_Model_count_69 : decode cd_Model_count 69 = .ok (.iaload, 1) := by decide +kernel
theorem dc_Model_count_70 : decode cd_Model_count 70 = .ok (.ireturn, 1) := by decide +kernel
theorem dc_Model_count_71 : decode cd_Model_count 71 = .ok (.iload_n 1, 1) := by decide +kernel
theorem dc_Model_count_72 : decode cd_Model_count 72 = .ok (.bipush 11, 2) := by decide +kernel
theorem dc_Model_count_74 : decode cd_Model_count 74 = .ok (.if_icmp .ge 25, 3) := by decide +kernel
theorem dc_Model_count_77 : decode cd_Model_count 77 = .ok (.iload_n 1, 1) := by decide +kernel
theorem dc_Model_count_78 : decode cd_Model_count 78 = .ok (.bipush 9, 2) := by decide +kernel
theorem dc_Model_count_80 : decode cd_Model_count 80 = .ok (.if_icmp .ne 12, 3) := by decide +kernel
theorem dc_Model_count_83 : decode cd_Model_count 83 = .ok (.aload_n 0, 1) := by decide +kernel
theorem dc_Model_count_84 : decode cd_Model_count 84 = .ok (.getfield 108, 3) := by decide +kernel
theorem dc_Model_count_87 : decode cd_Model_count 87 = .ok (.iconst 0, 1) := by decide +kernel
theorem dc_Model_count_88 : decode cd_Model_count 88 = .ok (.iaload, 1) := by decide +kernel
theorem dc_Model_count_89 : decode cd_Model_count 89 = .ok (.goto 9, 3) := by decide +kernel
theorem dc_Model_count_92 : decode cd_Model_count 92 = .ok (.aload_n 0, 1) := by decide +kernel
theorem dc_Model_count_93 : decode cd_Model_count 93 = .ok (.getfield 120, 3) := by decide +kernel
theorem dc_Model_count_96 : decode cd_Model_count 96 = .ok (.iconst 0, 1) := by decide +kernel
theorem dc_Model_count_97 : decode cd_Model_count 97 = .ok (.iaload, 1) := by decide +kernel
theorem dc_Model_count_98 : decode cd_Model_count 98 = .ok (.ireturn, 1) := by decide +kernel
theorem dc_Model_count_99 : decode cd_Model_count 99 = .ok (.iload_n 1, 1) := by decide +kernel
theorem dc_Model_count_100 : decode cd_Model_count 100 = .ok (.bipush 11, 2) := by decide +kernel
theorem dc_Model_count_102 : decode cd_Model_count 102 = .ok (.if_icmp .ne 10, 3) := by decide +kernel
theorem dc_Model_count_105 : decode cd_Model_count 105 = .ok (.aload_n 0, 1) := by decide +kernel
theorem dc_Model_count_106 : decode cd_Model_count 106 = .ok (.invokevirtual 573, 3) := by decide +kernel
theorem dc_Model_count_109 : decode cd_Model_count 109 = .ok (.goto 20, 3) := by decide +kernel
theorem dc_Model_count_112 : decode cd_Model_count 112 = .ok (.iload_n 1, 1) := by decide +kernel
theorem dc_Model_count_113 : decode cd_Model_count 113 = .ok (.bipush 12, 2) := by decide +kernel
theorem dc_Model_count_115 : decode cd_Model_count 115 = .ok (.if_icmp .ne 10, 3) := by decide +kernel
theorem dc_Model_count_118 : decode cd_Model_count 118 = .ok (.aload_n 0, 1) := by decide +kernel
theorem dc_Model_count_119 : decode cd_Model_count 119 = .ok (.getfield 416, 3) := by decide +kernel
theorem dc_Model_count_122 : decode cd_Model_count 122 = .ok (.goto 7, 3) := by decide +kernel
theorem dc_Model_count_125 : decode cd_Model_count 125 = .ok (.aload_n 0, 1) := by decide +kernel
theorem dc_Model_count_126 : decode cd_Model_count 126 = .ok (.getfield 189, 3) := by decide +kernel
theorem dc_Model_count_129 : decode cd_Model_count 129 = .ok (.ireturn, 1) := by decide +kernel
theorem dc_Model_reads_0 : decode cd_Model_reads 0 = .ok (.iconst 0, 1) := by decide +kernel
theorem dc_Model_reads_1 : decode cd_Model_reads 1 = .ok (.istore_n 1, 1) := by decide +kernel
theorem dc_Model_reads_2 : decode cd_Model_reads 2 = .ok (.iconst 1, 1) := by decide +kernel
theorem dc_Model_reads_3 : decode cd_Model_reads 3 = .ok (.istore_n 2, 1) := by decide +kernel
theorem dc_Model_reads_4 : decode cd_Model_reads 4 = .ok (.aload_n 0, 1) := by decide +kernel
theorem dc_Model_reads_5 : decode cd_Model_reads 5 = .ok (.getfield 74, 3) := by decide +kernel
theorem dc_Model_reads_8 : decode cd_Model_reads 8 = .ok (.iconst 0, 1) := by decide +kernel
theorem dc_Model_reads_9 : decode cd_Model_reads 9 = .ok (.iconst 0, 1) := by decide +kernel
theorem dc_Model_reads_10 : decode cd_Model_reads 10 = .ok (.bastore, 1) := by decide +kernel
theorem dc_Model_reads_11 : decode cd_Model_reads 11 = .ok (.iload_n 2, 1) := by decide +kernel
theorem dc_Model_reads_12 : decode cd_Model_reads 12 = .ok (.ifCond .eq 167, 3) := by decide +kernel
theorem dc_Model_reads_15 : decode cd_Model_reads 15 = .ok (.aload_n 0, 1) := by decide +kernel
theorem dc_Model_reads_16 : decode cd_Model_reads 16 = .ok (.invokevirtual 231, 3) := by decide +kernel
theorem dc_Model_reads_19 : decode cd_Model_reads 19 = .ok (.istore_n 3, 1) := by decide +kernel
theorem dc_Model_reads_20 : decode cd_Model_reads 20 = .ok (.aload_n 0, 1) := by decide +kernel
theorem dc_Model_reads_21 : decode cd_Model_reads 21 = .ok (.ldc2_w 235, 3) := by decide +kernel
theorem dc_Model_reads_24 : decode cd_Model_reads 24 = .ok (.invokevirtual 237, 3) := by decide +kernel
theorem dc_Model_reads_27 : decode cd_Model_reads 27 = .ok (.istore 4, 2) := by decide +kernel
theorem dc_Model_reads_29 : decode cd_Model_reads 29 = .ok (.aload_n 0, 1) := by decide +kernel
theorem dc_Model_reads_30 : decode cd_Model_reads 30 = .ok (.bipush 40, 2) := by decide +kernel
theorem dc_Model_reads_32 : decode cd_Model_reads 32 = .ok (.invokevirtual 241, 3) := by decide +kernel
theorem dc_Model_reads_35 : decode cd_Model_reads 35 = .ok (.istore 5, 2) := by decide +kernel
theorem dc_Model_reads_37 : decode cd_Model_reads 37 = .ok (.iload_n 3, 1) := by decide +kernel
theorem dc_Model_reads_38 : decode cd_Model_reads 38 = .ok (.ifCond .ne 27, 3) := by decide +kernel
theorem dc_Model_reads_41 : decode cd_Model_reads 41 = .ok (.iload 4, 2) := by decide +kernel
theorem dc_Model_reads_43 : decode cd_Model_reads 43 = .ok (.ifCond .ne 22, 3) := by decide +kernel
theorem dc_Model_reads_46 : decode cd_Model_reads 46 = .ok (.iload 5, 2) := by decide +kernel
theorem dc_Model_reads_48 : decode cd_Model_reads 48 = .ok (.ifCond .ne 17, 3) := by decide +kernel
theorem dc_Model_reads_51 : decode cd_Model_reads 51 = .ok (.aload_n 0, 1) := by decide +kernel
theorem dc_Model_reads_52 : decode cd_Model_reads 52 = .ok (.getfield 208, 3) := by decide +kernel
theorem dc_Model_reads_55 : decode cd_Model_reads 55 = .ok (.iconst 2, 1) := by decide +kernel
theorem dc_Model_reads_56 : decode cd_Model_reads 56 = .ok (.if_icmp .eq 9, 3) := by decide +kernel
theorem dc_Model_reads_59 : decode cd_Model_reads 59 = .ok (.aload_n 0, 1) := by decide +kernel
theorem dc_Model_reads_60 : decode cd_Model_reads 60 = .ok (.iconst 1, 1) := by decide +kernel
theorem dc_Model_reads_61 : decode cd_Model_reads 61 = .ok (.invokevirtual 245, 3) := by decide +kernel
theorem dc_Model_reads_64 : decode cd_Model_reads 64 = .ok (.ireturn, 1) := by decide +kernel
theorem dc_Model_reads_65 : decode cd_Model_reads 65 = .ok (.iload_n 1, 1) := by decide +kernel
theorem dc_Model_reads_66 : decode cd_Model_reads 66 = .ok (.iconst 5, 1) := by decide +kernel
theorem dc_Model_reads_67 : decode cd_Model_reads 67 = .ok (.if_icmp .ne 9, 3) := by decide +kernel
theorem dc_Model_reads_70 : decode cd_Model_reads 70 = .ok (.aload_n 0, 1) := by decide +kernel
theorem dc_Model_reads_71 : decode cd_Model_reads 71 = .ok (.iconst 5, 1) := by decide +kernel
theorem dc_Model_reads_72 : decode cd_Model_reads 72 = .ok (.invokevirtual 245, 3) := by decide +kernel
theorem dc_Model_reads_75 : decode cd_Model_reads 75 = .ok (.ireturn, 1) := by decide +kernel
theorem dc_Model_reads_76 : decode cd_Model_reads 76 = .ok (.iload 4, 2) := by decide +kernel
theorem dc_Model_reads_78 : decode cd_Model_reads 78 = .ok (.ifCond .ne 8, 3) := by decide +kernel
theorem dc_Model_reads_81 : decode cd_Model_reads 81 = .ok (.iload 5, 2) := by decide +kernel
theorem dc_Model_reads_83 : decode cd_Model_reads 83 = .ok (.ifCond .eq 48, 3) := by decide +kernel
theorem dc_Model_reads_86 : decode cd_Model_reads 86 = .ok (.aload_n 0, 1) := by decide +kernel
theorem dc_Model_reads_87 : decode cd_Model_reads 87 = .ok (.iload 4, 2) := by decide +kernel
theorem dc_Model_reads_89 : decode cd_Model_reads 89 = .ok (.ifCond .eq 8, 3) := by decide +kernel
theorem dc_Model_reads_92 : decode cd_Model_reads 92 = .ok (.bipush 30, 2) := by decide +kernel
theorem dc_Model_reads_94 : decode cd_Model_reads 94 = .ok (.goto 5, 3) := by decide +kernel
theorem dc_Model_reads_97 : decode cd_Model_reads 97 = .ok (.bipush 28, 2) := by decide +kernel
theorem dc_Model_reads_99 : decode cd_Model_reads 99 = .ok (.invokevirtual 248, 3) := by decide +kernel
theorem dc_Model_reads_102 : decode cd_Model_reads 102 = .ok (.iinc 1 1, 3) := by decide +kernel
theorem dc_Model_reads_105 : decode cd_Model_reads 105 = .ok (.aload_n 0, 1) := by decide +kernel
theorem dc_Model_reads_106 : decode cd_Model_reads 106 = .ok (.getfield 71, 3) := by decide +kernel
theorem dc_Model_reads_109 : decode cd_Model_reads 109 = .ok (.iload_n 1, 1) := by decide +kernel
theorem dc_Model_reads_110 : decode cd_Model_reads 110 = .ok (.iload 4, 2) := by decide +kernel
theorem dc_Model_reads_112 : decode cd_Model_reads 112 = .ok (.ifCond .eq 7, 3) := by decide +kernel
theorem dc_Model_reads_115 : decode cd_Model_reads 115 = .ok (.iconst 1, 1) := by decide +kernel
theorem dc_Model_reads_116 : decode cd_Model_reads 116 = .ok (.goto 4, 3) := by decide +kernel
theorem dc_Model_reads_119 : decode cd_Model_reads 119 = .ok (.iconst 2, 1) := by decide +kernel
theorem dc_Model_reads_120 : decode cd_Model_reads 120 = .ok (.iastore, 1) := by decide +kernel
theorem dc_Model_reads_121 : decode cd_Model_reads 121 = .ok (.aload_n 0, 1) := by decide +kernel
theorem dc_Model_reads_122 : decode cd_Model_reads 122 = .ok (.getfield 74, 3) := by decide +kernel
theorem dc_Model_reads_125 : decode cd_Model_reads 125 = .ok (.iload_n 1, 1) := by decide +kernel
theorem dc_Model_reads_126 : decode cd_Model_reads 126 = .ok (.iconst 0, 1) := by decide +kernel
theorem dc_Model_reads_127 : decode cd_Model_reads 127 = .ok (.bastore, 1) := by decide +kernel
theorem dc_Model_reads_128 : decode cd_Model_reads 128 = .ok (.goto 44, 3) := by decide +kernel
theorem dc_Model_reads_131 : decode cd_Model_reads 131 = .ok (.aload_n 0, 1) := by decide +kernel
theorem dc_Model_reads_132 : decode cd_Model_reads 132 = .ok (.iload_n 3, 1) := by decide +kernel
theorem dc_Model_reads_133 : decode cd_Model_reads 133 = .ok (.ifCond .le 7, 3) := by decide +kernel
theorem dc_Model_reads_136 : decode cd_Model_reads 136 = .ok (.iload_n 3, 1) := by decide +kernel
theorem dc_Model_reads_137 : decode cd_Model_reads 137 = .ok (.goto 10, 3) := by decide +kernel
theorem dc_Model_reads_140 : decode cd_Model_reads 140 = .ok (.bipush 100, 2) := by decide +kernel
theorem dc_Model_reads_142 : decode cd_Model_reads 142 = .ok (.aload_n 0, 1) := by decide +kernel
theorem dc_Model_reads_143 : decode cd_Model_reads 143 = .ok (.getfield 205, 3) := by decide +kernel
theorem dc_Model_reads_146 : decode cd_Model_reads 146 = .ok (.iadd, 1) := by decide +kernel
theorem dc_Model_reads_147 : decode cd_Model_reads 147 = .ok (.invokevirtual 248, 3) := by decide +kernel
theorem dc_Model_reads_150 : decode cd_Model_reads 150 = .ok (.iconst 0, 1) := by decide +kernel
theorem dc_Model_reads_151 : decode cd_Model_reads 151 = .ok (.istore_n 2, 1) := by decide +kernel
theorem dc_Model_reads_152 : decode cd_Model_reads 152 = .ok (.iload_n 1, 1) := by decide +kernel
theorem dc_Model_reads_153 : decode cd_Model_reads 153 = .ok (.ifCond .le 19, 3) := by decide +kernel
theorem dc_Model_reads_156 : decode cd_Model_reads 156 = .ok (.aload_n 0, 1) := by decide +kernel
theorem dc_Model_reads_157 : decode cd_Model_reads 157 = .ok (.getfield 71, 3) := by decide +kernel
theorem dc_Model_reads_160 : decode cd_Model_reads 160 = .ok (.iload_n 1, 1) := by decide +kernel
theorem dc_Model_reads_161 : decode cd_Model_reads 161 = .ok (.iaload, 1) := by decide +kernel
theorem dc_Model_reads_162 : decode cd_Model_reads 162 = .ok (.iconst 1, 1) := by decide +kernel
theorem dc_Model_reads_163 : decode cd_Model_reads 163 = .ok (.if_icmp .ne 9, 3) := by decide +kernel
theorem dc_Model_reads_166 : decode cd_Model_reads 166 = .ok (.iinc 1 (-1), 3) := by decide +kernel
theorem dc_Model_reads_169 : decode cd_Model_reads 169 = .ok (.goto (-17), 3) := by decide +kernel
theorem dc_Model_reads_172 : decode cd_Model_reads 172 = .ok (.aload_n 0, 1) := by decide +kernel
theorem dc_Model_reads_173 : decode cd_Model_reads 173 = .ok (.invokevirtual 252, 3) := by decide +kernel
theorem dc_Model_reads_176 : decode cd_Model_reads 176 = .ok (.goto (-165), 3) := by decide +kernel
theorem dc_Model_reads_179 : decode cd_Model_reads 179 = .ok (.aload_n 0, 1) := by decide +kernel
theorem dc_Model_reads_180 : decode cd_Model_reads 180 = .ok (.bipush 43, 2) := by decide +kernel
theorem dc_Model_reads_182 : decode cd_Model_reads 182 = .ok (.invokevirtual 241, 3) := by decide +kernel
theorem dc_Model_reads_185 : decode cd_Model_reads 185 = .ok (.ifCond .ne 21, 3) := by decide +kernel
theorem dc_Model_reads_188 : decode cd_Model_reads 188 = .ok (.aload_n 0, 1) := by decide +kernel
theorem dc_Model_reads_189 : decode cd_Model_reads 189 = .ok (.bipush 45, 2) := by decide +kernel
theorem dc_Model_reads_191 : decode cd_Model_reads 191 = .ok (.invokevirtual 241, 3) := by decide +kernel
theorem dc_Model_reads_194 : decode cd_Model_reads 194 = .ok (.ifCond .ne 12, 3) := by decide +kernel
theorem dc_Model_reads_197 : decode cd_Model_reads 197 = .ok (.aload_n 0, 1) := by decide +kernel
theorem dc_Model_reads_198 : decode cd_Model_reads 198 = .ok (.bipush 42, 2) := by decide +kernel
theorem dc_Model_reads_200 : decode cd_Model_reads 200 = .ok (.invokevirtual 241, 3) := by decide +kernel
theorem dc_Model_reads_203 : decode cd_Model_reads 203 = .ok (.ifCond .eq 42, 3) := by decide +kernel
theorem dc_Model_reads_206 : decode cd_Model_reads 206 = .ok (.aload_n 0, 1) := by decide +kernel
theorem dc_Model_reads_207 : decode cd_Model_reads 207 = .ok (.aload_n 0, 1) := by decide +kernel
theorem dc_Model_reads_208 : decode cd_Model_reads 208 = .ok (.bipush 43, 2) := by decide +kernel
theorem dc_Model_reads_210 : decode cd_Model_reads 210 = .ok (.invokevirtual 241, 3) := by decide +kernel
theorem dc_Model_reads_213 : decode cd_Model_reads 213 = .ok (.ifCond .eq 8, 3) := by decide +kernel
theorem dc_Model_reads_216 : decode cd_Model_reads 216 = .ok (.bipush 20, 2) := by decide +kernel
theorem dc_Model_reads_218 : decode cd_Model_reads 218 = .ok (.goto 19, 3) := by decide +kernel
theorem dc_Model_reads_221 : decode cd_Model_reads 221 = .ok (.aload_n 0, 1) := by decide +kernel
theorem dc_Model_reads_222 : decode cd_Model_reads 222 = .ok (.bipush 45, 2) := by decide +kernel
theorem dc_Model_reads_224 : decode cd_Model_reads 224 = .ok (.invokevirtual 241, 3) := by decide +kernel
theorem dc_Model_reads_227 : decode cd_Model_reads 227 = .ok (.ifCond .eq 8, 3) := by decide +kernel
theorem dc_Model_reads_230 : decode cd_Model_reads 230 = .ok (.bipush 21, 2) := by decide +kernel
theorem dc_Model_reads_232 : decode cd_Model_reads 232 = .ok (.goto 5, 3) := by decide +kernel
theorem dc_Model_reads_235 : decode cd_Model_reads 235 = .ok (.bipush 22, 2) := by decide +kernel
theorem dc_Model_reads_237 : decode cd_Model_reads 237 = .ok (.invokevirtual 248, 3) := by decide +kernel
theorem dc_Model_reads_240 : decode cd_Model_reads 240 = .ok (.iconst 1, 1) := by decide +kernel
theorem dc_Model_reads_241 : decode cd_Model_reads 241 = .ok (.istore_n 2, 1) := by decide +kernel
theorem dc_Model_reads_242 : decode cd_Model_reads 242 = .ok (.goto 182, 3) := by decide +kernel
theorem dc_Model_reads_245 : decode cd_Model_reads 245 = .ok (.aload_n 0, 1) := by decide +kernel
theorem dc_Model_reads_246 : decode cd_Model_reads 246 = .ok (.bipush 60, 2) := by decide +kernel
theorem dc_Model_reads_248 : decode cd_Model_reads 248 = .ok (.invokevirtual 241, 3) := by decide +kernel
theorem dc_Model_reads_251 : decode cd_Model_reads 251 = .ok (.ifCond .ne 12, 3) := by decide +kernel
theorem dc_Model_reads_254 : decode cd_Model_reads 254 = .ok (.aload_n 0, 1) := by decide +kernel
theorem dc_Model_reads_255 : decode cd_Model_reads 255 = .ok (.bipush 61, 2) := by decide +kernel
theorem dc_Model_reads_257 : decode cd_Model_reads 257 = .ok (.invokevirtual 241, 3) := by decide +kernel
theorem dc_Model_reads_260 : decode cd_Model_reads 260 = .ok (.ifCond .eq 44, 3) := by decide +kernel
theorem dc_Model_reads_263 : decode cd_Model_reads 263 = .ok (.aload_n 0, 1) := by decide +kernel
theorem dc_Model_reads_264 : decode cd_Model_reads 264 = .ok (.getfield 74, 3) := by decide +kernel
theorem dc_Model_reads_267 : decode cd_Model_reads 267 = .ok (.iload_n 1, 1) := by decide +kernel
theorem dc_Model_reads_268 : decode cd_Model_reads 268 = .ok (.baload, 1) := by decide +kernel
theorem dc_Model_reads_269 : decode cd_Model_reads 269 = .ok (.ifCond .ne 35, 3) := by decide +kernel
theorem dc_Model_reads_272 : decode cd_Model_reads 272 = .ok (.aload_n 0, 1) := by decide +kernel
theorem dc_Model_reads_273 : decode cd_Model_reads 273 = .ok (.aload_n 0, 1) := by decide +kernel
theorem dc_Model_reads_274 : decode cd_Model_reads 274 = .ok (.bipush 60, 2) := by decide +kernel
theorem dc_Model_reads_276 : decode cd_Model_reads 276 = .ok (.invokevirtual 241, 3) := by decide +kernel
theorem dc_Model_reads_279 : decode cd_Model_reads 279 = .ok (.ifCond .eq 8, 3) := by decide +kernel
theorem dc_Model_reads_282 : decode cd_Model_reads 282 = .ok (.bipush 24, 2) := by decide +kernel
theorem dc_Model_reads_284 : decode cd_Model_reads 284 = .ok (.goto 5, 3) := by decide +kernel
theorem dc_Model_reads_287 : decode cd_Model_reads 287 = .ok (.bipush 25, 2) := by decide +kernel
theorem dc_Model_reads_289 : decode cd_Model_reads 289 = .ok (.invokevirtual 248, 3) := by decide +kernel
theorem dc_Model_reads_292 : decode cd_Model_reads 292 = .ok (.aload_n 0, 1) := by decide +kernel
theorem dc_Model_reads_293 : decode cd_Model_reads 293 = .ok (.getfield 74, 3) := by decide +kernel
theorem dc_Model_reads_296 : decode cd_Model_reads 296 = .ok (.iload_n 1, 1) := by decide +kernel
theorem dc_Model_reads_297 : decode cd_Model_reads 297 = .ok (.iconst 1, 1) := by decide +kernel
theorem dc_Model_reads_298 : decode cd_Model_reads 298 = .ok (.bastore, 1) := by decide +kernel
theorem dc_Model_reads_299 : decode cd_Model_reads 299 = .ok (.iconst 1, 1) := by decide +kernel
theorem dc_Model_reads_300 : decode cd_Model_reads 300 = .ok (.istore_n 2, 1) := by decide +kernel
theorem dc_Model_reads_301 : decode cd_Model_reads 301 = .ok (.goto 123, 3) := by decide +kernel
theorem dc_Model_reads_304 : decode cd_Model_reads 304 = .ok (.aload_n 0, 1) := by decide +kernel
theorem dc_Model_reads_305 : decode cd_Model_reads 305 = .ok (.ldc2_w 255, 3) := by decide +kernel
theorem dc_Model_reads_308 : decode cd_Model_reads 308 = .ok (.invokevirtual 237, 3) := by decide +kernel
theorem dc_Model_reads_311 : decode cd_Model_reads 311 = .ok (.ifCond .ne 13, 3) := by decide +kernel
theorem dc_Model_reads_314 : decode cd_Model_reads 314 = .ok (.aload_n 0, 1) := by decide +kernel
theorem dc_Model_reads_315 : decode cd_Model_reads 315 = .ok (.ldc2_w 257, 3) := by decide +kernel
theorem dc_Model_reads_318 : decode cd_Model_reads 318 = .ok (.invokevirtual 237, 3) := by decide +kernel
theorem dc_Model_reads_321 : decode cd_Model_reads 321 = .ok (.ifCond .eq 36, 3) := by decide +kernel
theorem dc_Model_reads_324 : decode cd_Model_reads 324 = .ok (.aload_n 0, 1) := by decide +kernel
theorem dc_Model_reads_325 : decode cd_Model_reads 325 = .ok (.aload_n 0, 1) := by decide +kernel
theorem dc_Model_reads_326 : decode cd_Model_reads 326 = .ok (.ldc2_w 255, 3) := by decide +kernel
theorem dc_Model_reads_329 : decode cd_Model_reads 329 = .ok (.invokevirtual 237, 3) := by decide +kernel
theorem dc_Model_reads_332 : decode cd_Model_reads 332 = .ok (.ifCond .eq 8, 3) := by decide +kernel
theorem dc_Model_reads_335 : decode cd_Model_reads 335 = .ok (.bipush 26, 2) := by decide +kernel
theorem dc_Model_reads_337 : decode cd_Model_reads 337 = .ok (.goto 5, 3) := by decide +kernel
theorem dc_Model_reads_340 : decode cd_Model_reads 340 = .ok (.bipush 27, 2) := by decide +kernel
theorem dc_Model_reads_342 : decode cd_Model_reads 342 = .ok (.invokevirtual 248, 3) := by decide +kernel
theorem dc_Model_reads_345 : decode cd_Model_reads 345 = .ok (.aload_n 0, 1) := by decide +kernel
theorem dc_Model_reads_346 : decode cd_Model_reads 346 = .ok (.getfield 74, 3) := by decide +kernel
theorem dc_Model_reads_349 : decode cd_Model_reads 349 = .ok (.iload_n 1, 1) := by decide +kernel
theorem dc_Model_reads_350 : decode cd_Model_reads 350 = .ok (.iconst 0, 1) := by decide +kernel
theorem dc_Model_reads_351 : decode cd_Model_reads 351 = .ok (.bastore, 1) := by decide +kernel
theorem dc_Model_reads_352 : decode cd_Model_reads 352 = .ok (.iconst 1, 1) := by decide +kernel
theorem dc_Model_reads_353 : decode cd_Model_reads 353 = .ok (.istore_n 2, 1) := by decide +kernel
theorem dc_Model_reads_354 : decode cd_Model_reads 354 = .ok (.goto 70, 3) := by decide +kernel
theorem dc_Model_reads_357 : decode cd_Model_reads 357 = .ok (.aload_n 0, 1) := by decide +kernel
theorem dc_Model_reads_358 : decode cd_Model_reads 358 = .ok (.bipush 41, 2) := by decide +kernel
theorem dc_Model_reads_360 : decode cd_Model_reads 360 = .ok (.invokevirtual 241, 3) := by decide +kernel
theorem dc_Model_reads_363 : decode cd_Model_reads 363 = .ok (.ifCond .eq 36, 3) := by decide +kernel
theorem dc_Model_reads_366 : decode cd_Model_reads 366 = .ok (.iload_n 1, 1) := by decide +kernel
theorem dc_Model_reads_367 : decode cd_Model_reads 367 = .ok (.ifCond .le 32, 3) := by decide +kernel
theorem dc_Model_reads_370 : decode cd_Model_reads 370 = .ok (.aload_n 0, 1) := by decide +kernel
theorem dc_Model_reads_371 : decode cd_Model_reads 371 = .ok (.bipush 29, 2) := by decide +kernel
theorem dc_Model_reads_373 : decode cd_Model_reads 373 = .ok (.invokevirtual 248, 3) := by decide +kernel
theorem dc_Model_reads_376 : decode cd_Model_reads 376 = .ok (.iinc 1 (-1), 3) := by decide +kernel
theorem dc_Model_reads_379 : decode cd_Model_reads 379 = .ok (.iload_n 1, 1) := by decide +kernel
theorem dc_Model_reads_380 : decode cd_Model_reads 380 = .ok (.ifCond .le 44, 3) := by decide +kernel
theorem dc_Model_reads_383 : decode cd_Model_reads 383 = .ok (.aload_n 0, 1) := by decide +kernel
theorem dc_Model_reads_384 : decode cd_Model_reads 384 = .ok (.getfield 71, 3) := by decide +kernel
theorem dc_Model_reads_387 : decode cd_Model_reads 387 = .ok (.iload_n 1, 1) := by decide +kernel
theorem dc_Model_reads_388 : decode cd_Model_reads 388 = .ok (.iaload, 1) := by decide +kernel
theorem dc_Model_reads_389 : decode cd_Model_reads 389 = .ok (.iconst 1, 1) := by decide +kernel
theorem dc_Model_reads_390 : decode cd_Model_reads 390 = .ok (.if_icmp .ne 34, 3) := by decide +kernel
theorem dc_Model_reads_393 : decode cd_Model_reads 393 = .ok (.iinc 1 (-1), 3) := by decide +kernel
theorem dc_Model_reads_396 : decode cd_Model_reads 396 = .ok (.goto (-17), 3) := by decide +kernel
theorem dc_Model_reads_399 : decode cd_Model_reads 399 = .ok (.iload_n 1, 1) := by decide +kernel
theorem dc_Model_reads_400 : decode cd_Model_reads 400 = .ok (.ifCond .ne 18, 3) := by decide +kernel
theorem dc_Model_reads_403 : decode cd_Model_reads 403 = .ok (.aload_n 0, 1) := by decide +kernel
theorem dc_Model_reads_404 : decode cd_Model_reads 404 = .ok (.bipush 59, 2) := by decide +kernel
theorem dc_Model_reads_406 : decode cd_Model_reads 406 = .ok (.invokevirtual 241, 3) := by decide +kernel
theorem dc_Model_reads_409 : decode cd_Model_reads 409 = .ok (.ifCond .eq 9, 3) := by decide +kernel
theorem dc_Model_reads_412 : decode cd_Model_reads 412 = .ok (.aload_n 0, 1) := by decide +kernel
theorem dc_Model_reads_413 : decode cd_Model_reads 413 = .ok (.invokevirtual 252, 3) := by decide +kernel
theorem dc_Model_reads_416 : decode cd_Model_reads 416 = .ok (.iconst 1, 1) := by decide +kernel
theorem dc_Model_reads_417 : decode cd_Model_reads 417 = .ok (.ireturn, 1) := by decide +kernel
theorem dc_Model_reads_418 : decode cd_Model_reads 418 = .ok (.aload_n 0, 1) := by decide +kernel
theorem dc_Model_reads_419 : decode cd_Model_reads 419 = .ok (.iconst 1, 1) := by decide +kernel
theorem dc_Model_reads_420 : decode cd_Model_reads 420 = .ok (.invokevirtual 245, 3) := by decide +kernel
theorem dc_Model_reads_423 : decode cd_Model_reads 423 = .ok (.ireturn, 1) := by decide +kernel
theorem dc_Model_reads_424 : decode cd_Model_reads 424 = .ok (.aload_n 0, 1) := by decide +kernel
theorem dc_Model_reads_425 : decode cd_Model_reads 425 = .ok (.invokevirtual 252, 3) := by decide +kernel
theorem dc_Model_reads_428 : decode cd_Model_reads 428 = .ok (.goto (-417), 3) := by decide +kernel
theorem dc_Model_worked_0 : decode cd_Model_worked 0 = .ok (.iconst 0, 1) := by decide +kernel
theorem dc_Model_worked_1 : decode cd_Model_worked 1 = .ok (.istore_n 2, 1) := by decide +kernel
theorem dc_Model_worked_2 : decode cd_Model_worked 2 = .ok (.aload_n 0, 1) := by decide +kernel
theorem dc_Model_worked_3 : decode cd_Model_worked 3 = .ok (.iconst 0, 1) := by decide +kernel
theorem dc_Model_worked_4 : decode cd_Model_worked 4 = .ok (.invokevirtual 262, 3) := by decide +kernel
theorem dc_Model_worked_7 : decode cd_Model_worked 7 = .ok (.aload_n 0, 1) := by decide +kernel
theorem dc_Model_worked_8 : decode cd_Model_worked 8 = .ok (.getfield 62, 3) := by decide +kernel
theorem dc_Model_worked_11 : decode cd_Model_worked 11 = .ok (.iload_n 1, 1) := by decide +kernel
theorem dc_Model_worked_12 : decode cd_Model_worked 12 = .ok (.iaload, 1) := by decide +kernel
theorem dc_Model_worked_13 : decode cd_Model_worked 13 = .ok (.istore_n 3, 1) := by decide +kernel
theorem dc_Model_worked_14 : decode cd_Model_worked 14 = .ok (.iload_n 3, 1) := by decide +kernel
theorem dc_Model_worked_15 : decode cd_Model_worked 15 = .ok (.aload_n 0, 1) := by decide +kernel
theorem dc_Model_worked_16 : decode cd_Model_worked 16 = .ok (.getfield 65, 3) := by decide +kernel
theorem dc_Model_worked_19 : decode cd_Model_worked 19 = .ok (.iload_n 1, 1) := by decide +kernel
theorem dc_Model_worked_20 : decode cd_Model_worked 20 = .ok (.iaload, 1) := by decide +kernel
theorem dc_Model_worked_21 : decode cd_Model_worked 21 = .ok (.if_icmp .ge 314, 3) := by decide +kernel
theorem dc_Model_worked_24 : decode cd_Model_worked 24 = .ok (.aload_n 0, 1) := by decide +kernel
theorem dc_Model_worked_25 : decode cd_Model_worked 25 = .ok (.getfield 68, 3) := by decide +kernel
theorem dc_Model_worked_28 : decode cd_Model_worked 28 = .ok (.iload_n 3, 1) := by decide +kernel
theorem dc_Model_worked_29 : decode cd_Model_worked 29 = .ok (.iaload, 1) := by decide +kernel
theorem dc_Model_worked_30 : decode cd_Model_worked 30 = .ok (.istore 4, 2) := by decide +kernel
theorem dc_Model_worked_32 : decode cd_Model_worked 32 = .ok (.iload 4, 2) := by decide +kernel
theorem dc_Model_worked_34 : decode cd_Model_worked 34 = .ok (.bipush 28, 2) := by decide +kernel
theorem dc_Model_worked_36 : decode cd_Model_worked 36 = .ok (.if_icmp .eq 10, 3) := by decide +kernel
theorem dc_Model_worked_39 : decode cd_Model_worked 39 = .ok (.iload 4, 2) := by decide +kernel
theorem dc_Model_worked_41 : decode cd_Model_worked 41 = .ok (.bipush 30, 2) := by decide +kernel
theorem dc_Model_worked_43 : decode cd_Model_worked 43 = .ok (.if_icmp .ne 32, 3) := by decide +kernel
theorem dc_Model_worked_46 : decode cd_Model_worked 46 = .ok (.iinc 2 1, 3) := by decide +kernel
theorem dc_Model_worked_49 : decode cd_Model_worked 49 = .ok (.aload_n 0, 1) := by decide +kernel
theorem dc_Model_worked_50 : decode cd_Model_worked 50 = .ok (.getfield 102, 3) := by decide +kernel
theorem dc_Model_worked_53 : decode cd_Model_worked 53 = .ok (.iload_n 2, 1) := by decide +kernel
theorem dc_Model_worked_54 : decode cd_Model_worked 54 = .ok (.iload 4, 2) := by decide +kernel
theorem dc_Model_worked_56 : decode cd_Model_worked 56 = .ok (.bipush 30, 2) := by decide +kernel
theorem dc_Model_worked_58 : decode cd_Model_worked 58 = .ok (.if_icmp .ne 7, 3) := by decide +kernel
theorem dc_Model_worked_61 : decode cd_Model_worked 61 = .ok (.iconst 1, 1) := by decide +kernel
theorem dc_Model_worked_62 : decode cd_Model_worked 62 = .ok (.goto 4, 3) := by decide +kernel
theorem dc_Model_worked_65 : decode cd_Model_worked 65 = .ok (.iconst 0, 1) := by decide +kernel
theorem dc_Model_worked_66 : decode cd_Model_worked 66 = .ok (.iastore, 1) := by decide +kernel
theorem dc_Model_worked_67 : decode cd_Model_worked 67 = .ok (.aload_n 0, 1) := by decide +kernel
theorem dc_Model_worked_68 : decode cd_Model_worked 68 = .ok (.iload_n 2, 1) := by decide +kernel
theorem dc_Model_worked_69 : decode cd_Model_worked 69 = .ok (.invokevirtual 262, 3) := by decide +kernel
theorem dc_Model_worked_72 : decode cd_Model_worked 72 = .ok (.goto 257, 3) := by decide +kernel
theorem dc_Model_worked_75 : decode cd_Model_worked 75 = .ok (.iload 4, 2) := by decide +kernel
theorem dc_Model_worked_77 : decode cd_Model_worked 77 = .ok (.bipush 20, 2) := by decide +kernel
theorem dc_Model_worked_79 : decode cd_Model_worked 79 = .ok (.if_icmp .eq 10, 3) := by decide +kernel
theorem dc_Model_worked_82 : decode cd_Model_worked 82 = .ok (.iload 4, 2) := by decide +kernel
theorem dc_Model_worked_84 : decode cd_Model_worked 84 = .ok (.bipush 21, 2) := by decide +kernel
theorem dc_Model_worked_86 : decode cd_Model_worked 86 = .ok (.if_icmp .ne 19, 3) := by decide +kernel
theorem dc_Model_worked_89 : decode cd_Model_worked 89 = .ok (.aload_n 0, 1) := by decide +kernel
theorem dc_Model_worked_90 : decode cd_Model_worked 90 = .ok (.iload_n 2, 1) := by decide +kernel
theorem dc_Model_worked_91 : decode cd_Model_worked 91 = .ok (.invokevirtual 259, 3) := by decide +kernel
theorem dc_Model_worked_94 : decode cd_Model_worked 94 = .ok (.aload_n 0, 1) := by decide +kernel
theorem dc_Model_worked_95 : decode cd_Model_worked 95 = .ok (.getfield 93, 3) := by decide +kernel
theorem dc_Model_worked_98 : decode cd_Model_worked 98 = .ok (.iload_n 2, 1) := by decide +kernel
theorem dc_Model_worked_99 : decode cd_Model_worked 99 = .ok (.iload 4, 2) := by decide +kernel
theorem dc_Model_worked_101 : decode cd_Model_worked 101 = .ok (.iastore, 1) := by decide +kernel
theorem dc_Model_worked_102 : decode cd_Model_worked 102 = .ok (.goto 227, 3) := by decide +kernel
theorem dc_Model_worked_105 : decode cd_Model_worked 105 = .ok (.iload 4, 2) := by decide +kernel
theorem dc_Model_worked_107 : decode cd_Model_worked 107 = .ok (.bipush 22, 2) := by decide +kernel
theorem dc_Model_worked_109 : decode cd_Model_worked 109 = .ok (.if_icmp .ne 14, 3) := by decide +kernel
theorem dc_Model_worked_112 : decode cd_Model_worked 112 = .ok (.aload_n 0, 1) := by decide +kernel
theorem dc_Model_worked_113 : decode cd_Model_worked 113 = .ok (.getfield 99, 3) := by decide +kernel
theorem dc_Model_worked_116 : decode cd_Model_worked 116 = .ok (.iload_n 2, 1) := by decide +kernel
theorem dc_Model_worked_117 : decode cd_Model_worked 117 = .ok (.iload 4, 2) := by decide +kernel
theorem dc_Model_worked_119 : decode cd_Model_worked 119 = .ok (.iastore, 1) := by decide +kernel
theorem dc_Model_worked_120 : decode cd_Model_worked 120 = .ok (.goto 209, 3) := by decide +kernel
theorem dc_Model_worked_123 : decode cd_Model_worked 123 = .ok (.iload 4, 2) := by decide +kernel
theorem dc_Model_worked_125 : decode cd_Model_worked 125 = .ok (.bipush 24, 2) := by decide +kernel
theorem dc_Model_worked_127 : decode cd_Model_worked 127 = .ok (.if_icmp .eq 10, 3) := by decide +kernel
theorem dc_Model_worked_130 : decode cd_Model_worked 130 = .ok (.iload 4, 2) := by decide +kernel
theorem dc_Model_worked_132 : decode cd_Model_worked 132 = .ok (.bipush 25, 2) := by decide +kernel
theorem dc_Model_worked_134 : decode cd_Model_worked 134 = .ok (.if_icmp .ne 46, 3) := by decide +kernel
theorem dc_Model_worked_137 : decode cd_Model_worked 137 = .ok (.aload_n 0, 1) := by decide +kernel
theorem dc_Model_worked_138 : decode cd_Model_worked 138 = .ok (.iload_n 2, 1) := by decide +kernel
theorem dc_Model_worked_139 : decode cd_Model_worked 139 = .ok (.invokevirtual 259, 3) := by decide +kernel
theorem dc_Model_worked_142 : decode cd_Model_worked 142 = .ok (.aload_n 0, 1) := by decide +kernel
theorem dc_Model_worked_143 : decode cd_Model_worked 143 = .ok (.getfield 84, 3) := by decide +kernel
theorem dc_Model_worked_146 : decode cd_Model_worked 146 = .ok (.iload_n 2, 1) := by decide +kernel
theorem dc_Model_worked_147 : decode cd_Model_worked 147 = .ok (.aload_n 0, 1) := by decide +kernel
theorem dc_Model_worked_148 : decode cd_Model_worked 148 = .ok (.getfield 90, 3) := by decide +kernel
theorem dc_Model_worked_151 : decode cd_Model_worked 151 = .ok (.iload_n 2, 1) := by decide +kernel
theorem dc_Model_worked_152 : decode cd_Model_worked 152 = .ok (.iaload, 1) := by decide +kernel
theorem dc_Model_worked_153 : decode cd_Model_worked 153 = .ok (.iastore, 1) := by decide +kernel
theorem dc_Model_worked_154 : decode cd_Model_worked 154 = .ok (.aload_n 0, 1) := by decide +kernel
theorem dc_Model_worked_155 : decode cd_Model_worked 155 = .ok (.getfield 87, 3) := by decide +kernel
theorem dc_Model_worked_158 : decode cd_Model_worked 158 = .ok (.iload_n 2, 1) := by decide +kernel
theorem dc_Model_worked_159 : decode cd_Model_worked 159 = .ok (.iload 4, 2) := by decide +kernel
theorem dc_Model_worked_161 : decode cd_Model_worked 161 = .ok (.iastore, 1) := by decide +kernel
theorem dc_Model_worked_162 : decode cd_Model_worked 162 = .ok (.aload_n 0, 1) := by decide +kernel
theorem dc_Model_worked_163 : decode cd_Model_worked 163 = .ok (.getfield 90, 3) := by decide +kernel
theorem dc_Model_worked_166 : decode cd_Model_worked 166 = .ok (.iload_n 2, 1) := by decide +kernel
theorem dc_Model_worked_167 : decode cd_Model_worked 167 = .ok (.iconst 0, 1) := by decide +kernel
theorem dc_Model_worked_168 : decode cd_Model_worked 168 = .ok (.iastore, 1) := by decide +kernel
theorem dc_Model_worked_169 : decode cd_Model_worked 169 = .ok (.aload_n 0, 1) := by decide +kernel
theorem dc_Model_worked_170 : decode cd_Model_worked 170 = .ok (.getfield 93, 3) := by decide +kernel
theorem dc_Model_worked_173 : decode cd_Model_worked 173 = .ok (.iload_n 2, 1) := by decide +kernel
theorem dc_Model_worked_174 : decode cd_Model_worked 174 = .ok (.bipush 20, 2) := by decide +kernel
theorem dc_Model_worked_176 : decode cd_Model_worked 176 = .ok (.iastore, 1) := by decide +kernel
theorem dc_Model_worked_177 : decode cd_Model_worked 177 = .ok (.goto 152, 3) := by decide +kernel
theorem dc_Model_worked_180 : decode cd_Model_worked 180 = .ok (.iload 4, 2) := by decide +kernel
theorem dc_Model_worked_182 : decode cd_Model_worked 182 = .ok (.bipush 26, 2) := by decide +kernel
theorem dc_Model_worked_184 : decode cd_Model_worked 184 = .ok (.if_icmp .eq 10, 3) := by decide +kernel
theorem dc_Model_worked_187 : decode cd_Model_worked 187 = .ok (.iload 4, 2) := by decide +kernel
theorem dc_Model_worked_189 : decode cd_Model_worked 189 = .ok (.bipush 27, 2) := by decide +kernel
theorem dc_Model_worked_191 : decode cd_Model_worked 191 = .ok (.if_icmp .ne 19, 3) := by decide +kernel
theorem dc_Model_worked_194 : decode cd_Model_worked 194 = .ok (.aload_n 0, 1) := by decide +kernel
theorem dc_Model_worked_195 : decode cd_Model_worked 195 = .ok (.iload_n 2, 1) := by decide +kernel
theorem dc_Model_worked_196 : decode cd_Model_worked 196 = .ok (.invokevirtual 265, 3) := by decide +kernel
theorem dc_Model_worked_199 : decode cd_Model_worked 199 = .ok (.aload_n 0, 1) := by decide +kernel
theorem dc_Model_worked_200 : decode cd_Model_worked 200 = .ok (.getfield 81, 3) := by decide +kernel
theorem dc_Model_worked_203 : decode cd_Model_worked 203 = .ok (.iload_n 2, 1) := by decide +kernel
theorem dc_Model_worked_204 : decode cd_Model_worked 204 = .ok (.iload 4, 2) := by decide +kernel
theorem dc_Model_worked_206 : decode cd_Model_worked 206 = .ok (.iastore, 1) := by decide +kernel
theorem dc_Model_worked_207 : decode cd_Model_worked 207 = .ok (.goto 122, 3) := by decide +kernel
theorem dc_Model_worked_210 : decode cd_Model_worked 210 = .ok (.iload 4, 2) := by decide +kernel
theorem dc_Model_worked_212 : decode cd_Model_worked 212 = .ok (.bipush 100, 2) := by decide +kernel
theorem dc_Model_worked_214 : decode cd_Model_worked 214 = .ok (.if_icmp .lt 11, 3) := by decide +kernel
theorem dc_Model_worked_217 : decode cd_Model_worked 217 = .ok (.iload 4, 2) := by decide +kernel
theorem dc_Model_worked_219 : decode cd_Model_worked 219 = .ok (.bipush 100, 2) := by decide +kernel
theorem dc_Model_worked_221 : decode cd_Model_worked 221 = .ok (.isub, 1) := by decide +kernel
theorem dc_Model_worked_222 : decode cd_Model_worked 222 = .ok (.goto 21, 3) := by decide +kernel
theorem dc_Model_worked_225 : decode cd_Model_worked 225 = .ok (.iload 4, 2) := by decide +kernel
theorem dc_Model_worked_227 : decode cd_Model_worked 227 = .ok (.bipush 20, 2) := by decide +kernel
theorem dc_Model_worked_229 : decode cd_Model_worked 229 = .ok (.if_icmp .ge 13, 3) := by decide +kernel
theorem dc_Model_worked_232 : decode cd_Model_worked 232 = .ok (.aload_n 0, 1) := by decide +kernel
theorem dc_Model_worked_233 : decode cd_Model_worked 233 = .ok (.getfield 105, 3) := by decide +kernel
theorem dc_Model_worked_236 : decode cd_Model_worked 236 = .ok (.iload 4, 2) := by decide +kernel
theorem dc_Model_worked_238 : decode cd_Model_worked 238 = .ok (.iaload, 1) := by decide +kernel
theorem dc_Model_worked_239 : decode cd_Model_worked 239 = .ok (.goto 4, 3) := by decide +kernel
theorem dc_Model_worked_242 : decode cd_Model_worked 242 = .ok (.iconst 0, 1) := by decide +kernel
theorem dc_Model_worked_243 : decode cd_Model_worked 243 = .ok (.istore 5, 2) := by decide +kernel
theorem dc_Model_worked_245 : decode cd_Model_worked 245 = .ok (.iload 4, 2) := by decide +kernel
theorem dc_Model_worked_247 : decode cd_Model_worked 247 = .ok (.bipush 29, 2) := by decide +kernel
theorem dc_Model_worked_249 : decode cd_Model_worked 249 = .ok (.if_icmp .ne 19, 3) := by decide +kernel
theorem dc_Model_worked_252 : decode cd_Model_worked 252 = .ok (.aload_n 0, 1) := by decide +kernel
theorem dc_Model_worked_253 : decode cd_Model_worked 253 = .ok (.iload_n 2, 1) := by decide +kernel
theorem dc_Model_worked_254 : decode cd_Model_worked 254 = .ok (.invokevirtual 265, 3) := by decide +kernel
theorem dc_Model_worked_257 : decode cd_Model_worked 257 = .ok (.aload_n 0, 1) := by decide +kernel
theorem dc_Model_worked_258 : decode cd_Model_worked 258 = .ok (.getfield 78, 3) := by decide +kernel
theorem dc_Model_worked_261 : decode cd_Model_worked 261 = .ok (.iload_n 2, 1) := by decide +kernel
theorem dc_Model_worked_262 : decode cd_Model_worked 262 = .ok (.iaload, 1) := by decide +kernel
theorem dc_Model_worked_263 : decode cd_Model_worked 263 = .ok (.istore 5, 2) := by decide +kernel
theorem dc_Model_worked_265 : decode cd_Model_worked 265 = .ok (.iinc 2 (-1), 3) := by decide +kernel
theorem dc_Model_worked_268 : decode cd_Model_worked 268 = .ok (.iload_n 2, 1) := by decide +kernel
theorem dc_Model_worked_269 : decode cd_Model_worked 269 = .ok (.ifCond .le 31, 3) := by decide +kernel
theorem dc_Model_worked_272 : decode cd_Model_worked 272 = .ok (.aload_n 0, 1) := by decide +kernel
theorem dc_Model_worked_273 : decode cd_Model_worked 273 = .ok (.getfield 102, 3) := by decide +kernel
theorem dc_Model_worked_276 : decode cd_Model_worked 276 = .ok (.iload_n 2, 1) := by decide +kernel
theorem dc_Model_worked_277 : decode cd_Model_worked 277 = .ok (.iaload, 1) := by decide +kernel
theorem dc_Model_worked_278 : decode cd_Model_worked 278 = .ok (.iconst 1, 1) := by decide +kernel
theorem dc_Model_worked_279 : decode cd_Model_worked 279 = .ok (.if_icmp .ne 21, 3) := by decide +kernel
theorem dc_Model_worked_282 : decode cd_Model_worked 282 = .ok (.iload 5, 2) := by decide +kernel
theorem dc_Model_worked_284 : decode cd_Model_worked 284 = .ok (.ifCond .ne 7, 3) := by decide +kernel
theorem dc_Model_worked_287 : decode cd_Model_worked 287 = .ok (.iconst 1, 1) := by decide +kernel
theorem dc_Model_worked_288 : decode cd_Model_worked 288 = .ok (.goto 4, 3) := by decide +kernel
theorem dc_Model_worked_291 : decode cd_Model_worked 291 = .ok (.iconst 0, 1) := by decide +kernel
theorem dc_Model_worked_292 : decode cd_Model_worked 292 = .ok (.istore 5, 2) := by decide +kernel
theorem dc_Model_worked_294 : decode cd_Model_worked 294 = .ok (.iinc 2 (-1), 3) := by decide +kernel
theorem dc_Model_worked_297 : decode cd_Model_worked 297 = .ok (.goto (-29), 3) := by decide +kernel
theorem dc_Model_worked_300 : decode cd_Model_worked 300 = .ok (.aload_n 0, 1) := by decide +kernel
theorem dc_Model_worked_301 : decode cd_Model_worked 301 = .ok (.getfield 96, 3) := by decide +kernel
theorem dc_Model_worked_304 : decode cd_Model_worked 304 = .ok (.iload_n 2, 1) := by decide +kernel
theorem dc_Model_worked_305 : decode cd_Model_worked 305 = .ok (.aload_n 0, 1) := by decide +kernel
theorem dc_Model_worked_306 : decode cd_Model_worked 306 = .ok (.getfield 99, 3) := by decide +kernel
theorem dc_Model_worked_309 : decode cd_Model_worked 309 = .ok (.iload_n 2, 1) := by decide +kernel
theorem dc_Model_worked_310 : decode cd_Model_worked 310 = .ok (.iaload, 1) := by decide +kernel
theorem dc_Model_worked_311 : decode cd_Model_worked 311 = .ok (.ifCond .ne 8, 3) := by decide +kernel
theorem dc_Model_worked_314 : decode cd_Model_worked 314 = .ok (.iload 5, 2) := by decide +kernel
theorem dc_Model_worked_316 : decode cd_Model_worked 316 = .ok (.goto 12, 3) := by decide +kernel
theorem dc_Model_worked_319 : decode cd_Model_worked 319 = .ok (.aload_n 0, 1) := by decide +kernel
theorem dc_Model_worked_320 : decode cd_Model_worked 320 = .ok (.getfield 96, 3) := by decide +kernel
theorem dc_Model_worked_323 : decode cd_Model_worked 323 = .ok (.iload_n 2, 1) := by decide +kernel
theorem dc_Model_worked_324 : decode cd_Model_worked 324 = .ok (.iaload, 1) := by decide +kernel
theorem dc_Model_worked_325 : decode cd_Model_worked 325 = .ok (.iload 5, 2) := by decide +kernel
theorem dc_Model_worked_327 : decode cd_Model_worked 327 = .ok (.imul, 1) := by decide +kernel
theorem dc_Model_worked_328 : decode cd_Model_worked 328 = .ok (.iastore, 1) := by decide +kernel
theorem dc_Model_worked_329 : decode cd_Model_worked 329 = .ok (.iinc 3 1, 3) := by decide +kernel
theorem dc_Model_worked_332 : decode cd_Model_worked 332 = .ok (.goto (-318), 3) := by decide +kernel
theorem dc_Model_worked_335 : decode cd_Model_worked 335 = .ok (.aload_n 0, 1) := by decide +kernel
theorem dc_Model_worked_336 : decode cd_Model_worked 336 = .ok (.iconst 0, 1) := by decide +kernel
theorem dc_Model_worked_337 : decode cd_Model_worked 337 = .ok (.invokevirtual 265, 3) := by decide +kernel
theorem dc_Model_worked_340 : decode cd_Model_worked 340 = .ok (.aload_n 0, 1) := by decide +kernel
theorem dc_Model_worked_341 : decode cd_Model_worked 341 = .ok (.getfield 78, 3) := by decide +kernel
theorem dc_Model_worked_344 : decode cd_Model_worked 344 = .ok (.iconst 0, 1) := by decide +kernel
theorem dc_Model_worked_345 : decode cd_Model_worked 345 = .ok (.iaload, 1) := by decide +kernel
theorem dc_Model_worked_346 : decode cd_Model_worked 346 = .ok (.ireturn, 1) := by decide +kernel
theorem dc_Model_needsNumber_0 : decode cd_Model_needsNumber 0 = .ok (.aload_n 0, 1) := by decide +kernel
theorem dc_Model_needsNumber_1 : decode cd_Model_needsNumber 1 = .ok (.getfield 208, 3) := by decide +kernel
theorem dc_Model_needsNumber_4 : decode cd_Model_needsNumber 4 = .ok (.iconst 2, 1) := by decide +kernel
theorem dc_Model_needsNumber_5 : decode cd_Model_needsNumber 5 = .ok (.if_icmp .eq 9, 3) := by decide +kernel
theorem dc_Model_needsNumber_8 : decode cd_Model_needsNumber 8 = .ok (.aload_n 0, 1) := by decide +kernel
theorem dc_Model_needsNumber_9 : decode cd_Model_needsNumber 9 = .ok (.iconst 1, 1) := by decide +kernel
theorem dc_Model_needsNumber_10 : decode cd_Model_needsNumber 10 = .ok (.invokevirtual 245, 3) := by decide +kernel
theorem dc_Model_needsNumber_13 : decode cd_Model_needsNumber 13 = .ok (.ireturn, 1) := by decide +kernel
theorem dc_Model_needsNumber_14 : decode cd_Model_needsNumber 14 = .ok (.aload_n 0, 1) := by decide +kernel
theorem dc_Model_needsNumber_15 : decode cd_Model_needsNumber 15 = .ok (.getfield 205, 3) := by decide +kernel
theorem dc_Model_needsNumber_18 : decode cd_Model_needsNumber 18 = .ok (.iload_n 1, 1) := by decide +kernel
theorem dc_Model_needsNumber_19 : decode cd_Model_needsNumber 19 = .ok (.iload_n 2, 1) := by decide +kernel
theorem dc_Model_needsNumber_20 : decode cd_Model_needsNumber 20 = .ok (.invokestatic 318, 3) := by decide +kernel
theorem dc_Model_needsNumber_23 : decode cd_Model_needsNumber 23 = .ok (.ifCond .ne 9, 3) := by decide +kernel
theorem dc_Model_needsNumber_26 : decode cd_Model_needsNumber 26 = .ok (.aload_n 0, 1) := by decide +kernel
theorem dc_Model_needsNumber_27 : decode cd_Model_needsNumber 27 = .ok (.iconst 4, 1) := by decide +kernel
theorem dc_Model_needsNumber_28 : decode cd_Model_needsNumber 28 = .ok (.invokevirtual 245, 3) := by decide +kernel
theorem dc_Model_needsNumber_31 : decode cd_Model_needsNumber 31 = .ok (.ireturn, 1) := by decide +kernel
theorem dc_Model_needsNumber_32 : decode cd_Model_needsNumber 32 = .ok (.aload_n 0, 1) := by decide +kernel
theorem dc_Model_needsNumber_33 : decode cd_Model_needsNumber 33 = .ok (.aload_n 0, 1) := by decide +kernel
theorem dc_Model_needsNumber_34 : decode cd_Model_needsNumber 34 = .ok (.getfield 205, 3) := by decide +kernel
theorem dc_Model_needsNumber_37 : decode cd_Model_needsNumber 37 = .ok (.putfield 322, 3) := by decide +kernel
theorem dc_Model_needsNumber_40 : decode cd_Model_needsNumber 40 = .ok (.aload_n 0, 1) := by decide +kernel
theorem dc_Model_needsNumber_41 : decode cd_Model_needsNumber 41 = .ok (.invokevirtual 252, 3) := by decide +kernel
theorem dc_Model_needsNumber_44 : decode cd_Model_needsNumber 44 = .ok (.iconst 1, 1) := by decide +kernel
theorem dc_Model_needsNumber_45 : decode cd_Model_needsNumber 45 = .ok (.ireturn, 1) := by decide +kernel
theorem dc_Model_needsWord_0 : decode cd_Model_needsWord 0 = .ok (.aload_n 0, 1) := by decide +kernel
theorem dc_Model_needsWord_1 : decode cd_Model_needsWord 1 = .ok (.lload_n 1, 1) := by decide +kernel
theorem dc_Model_needsWord_2 : decode cd_Model_needsWord 2 = .ok (.invokevirtual 237, 3) := by decide +kernel
theorem dc_Model_needsWord_5 : decode cd_Model_needsWord 5 = .ok (.ifCond .ne 9, 3) := by decide +kernel
theorem dc_Model_needsWord_8 : decode cd_Model_needsWord 8 = .ok (.aload_n 0, 1) := by decide +kernel
theorem dc_Model_needsWord_9 : decode cd_Model_needsWord 9 = .ok (.iconst 1, 1) := by decide +kernel
theorem dc_Model_needsWord_10 : decode cd_Model_needsWord 10 = .ok (.invokevirtual 245, 3) := by decide +kernel
theorem dc_Model_needsWord_13 : decode cd_Model_needsWord 13 = .ok (.ireturn, 1) := by decide +kernel
theorem dc_Model_needsWord_14 : decode cd_Model_needsWord 14 = .ok (.aload_n 0, 1) := by decide +kernel
theorem dc_Model_needsWord_15 : decode cd_Model_needsWord 15 = .ok (.invokevirtual 252, 3) := by decide +kernel
theorem dc_Model_needsWord_18 : decode cd_Model_needsWord 18 = .ok (.iconst 1, 1) := by decide +kernel
theorem dc_Model_needsWord_19 : decode cd_Model_needsWord 19 = .ok (.ireturn, 1) := by decide +kernel
theorem dc_Model_closes_0 : decode cd_Model_closes 0 = .ok (.aload_n 0, 1) := by decide +kernel
theorem dc_Model_closes_1 : decode cd_Model_closes 1 = .ok (.bipush 59, 2) := by decide +kernel
theorem dc_Model_closes_3 : decode cd_Model_closes 3 = .ok (.invokevirtual 241, 3) := by decide +kernel
theorem dc_Model_closes_6 : decode cd_Model_closes 6 = .ok (.ifCond .ne 9, 3) := by decide +kernel
theorem dc_Model_closes_9 : decode cd_Model_closes 9 = .ok (.aload_n 0, 1) := by decide +kernel
theorem dc_Model_closes_10 : decode cd_Model_closes 10 = .ok (.iconst 1, 1) := by decide +kernel
theorem dc_Model_closes_11 : decode cd_Model_closes 11 = .ok (.invokevirtual 245, 3) := by decide +kernel
theorem dc_Model_closes_14 : decode cd_Model_closes 14 = .ok (.ireturn, 1) := by decide +kernel
theorem dc_Model_closes_15 : decode cd_Model_closes 15 = .ok (.aload_n 0, 1) := by decide +kernel
theorem dc_Model_closes_16 : decode cd_Model_closes 16 = .ok (.invokevirtual 252, 3) := by decide +kernel
theorem dc_Model_closes_19 : decode cd_Model_closes 19 = .ok (.iconst 1, 1) := by decide +kernel
theorem dc_Model_closes_20 : decode cd_Model_closes 20 = .ok (.ireturn, 1) := by decide +kernel
theorem dc_Model_needsNew_0 : decode cd_Model_needsNew 0 = .ok (.aload_n 0, 1) := by decide +kernel
theorem dc_Model_needsNew_1 : decode cd_Model_needsNew 1 = .ok (.invokevirtual 332, 3) := by decide +kernel
theorem dc_Model_needsNew_4 : decode cd_Model_needsNew 4 = .ok (.ifCond .eq 9, 3) := by decide +kernel
theorem dc_Model_needsNew_7 : decode cd_Model_needsNew 7 = .ok (.aload_n 0, 1) := by decide +kernel
theorem dc_Model_needsNew_8 : decode cd_Model_needsNew 8 = .ok (.iconst 1, 1) := by decide +kernel
theorem dc_Model_needsNew_9 : decode cd_Model_needsNew 9 = .ok (.invokevirtual 245, 3) := by decide +kernel
theorem dc_Model_needsNew_12 : decode cd_Model_needsNew 12 = .ok (.ireturn, 1) := by decide +kernel
theorem dc_Model_needsNew_13 : decode cd_Model_needsNew 13 = .ok (.aload_n 0, 1) := by decide +kernel
theorem dc_Model_needsNew_14 : decode cd_Model_needsNew 14 = .ok (.iconst 1, 1) := by decide +kernel
theorem dc_Model_needsNew_15 : decode cd_Model_needsNew 15 = .ok (.invokevirtual 336, 3) := by decide +kernel
theorem dc_Model_needsNew_18 : decode cd_Model_needsNew 18 = .ok (.ifCond .ge 19, 3) := by decide +kernel
theorem dc_Model_needsNew_21 : decode cd_Model_needsNew 21 = .ok (.aload_n 0, 1) := by decide +kernel
theorem dc_Model_needsNew_22 : decode cd_Model_needsNew 22 = .ok (.iconst 1, 1) := by decide +kernel
theorem dc_Model_needsNew_23 : decode cd_Model_needsNew 23 = .ok (.invokevirtual 339, 3) := by decide +kernel
theorem dc_Model_needsNew_26 : decode cd_Model_needsNew 26 = .ok (.ifCond .ge 11, 3) := by decide +kernel
theorem dc_Model_needsNew_29 : decode cd_Model_needsNew 29 = .ok (.aload_n 0, 1) := by decide +kernel
theorem dc_Model_needsNew_30 : decode cd_Model_needsNew 30 = .ok (.iconst 1, 1) := by decide +kernel
theorem dc_Model_needsNew_31 : decode cd_Model_needsNew 31 = .ok (.invokevirtual 342, 3) := by decide +kernel
theorem dc_Model_needsNew_34 : decode cd_Model_needsNew 34 = .ok (.ifCond .lt 9, 3) := by decide +kernel
theorem dc_Model_needsNew_37 : decode cd_Model_needsNew 37 = .ok (.aload_n 0, 1) := by decide +kernel
theorem dc_Model_needsNew_38 : decode cd_Model_needsNew 38 = .ok (.iconst 3, 1) := by decide +kernel
theorem dc_Model_needsNew_39 : decode cd_Model_needsNew 39 = .ok (.invokevirtual 245, 3) := by decide +kernel
theorem dc_Model_needsNew_42 : decode cd_Model_needsNew 42 = .ok (.ireturn, 1) := by decide +kernel
theorem dc_Model_needsNew_43 : decode cd_Model_needsNew 43 = .ok (.aload_n 0, 1) := by decide +kernel
theorem dc_Model_needsNew_44 : decode cd_Model_needsNew 44 = .ok (.aload_n 0, 1) := by decide +kernel
theorem dc_Model_needsNew_45 : decode cd_Model_needsNew 45 = .ok (.getfield 201, 3) := by decide +kernel
theorem dc_Model_needsNew_48 : decode cd_Model_needsNew 48 = .ok (.putfield 345, 3) := by decide +kernel
theorem dc_Model_needsNew_51 : decode cd_Model_needsNew 51 = .ok (.aload_n 0, 1) := by decide +kernel
theorem dc_Model_needsNew_52 : decode cd_Model_needsNew 52 = .ok (.invokevirtual 252, 3) := by decide +kernel
theorem dc_Model_needsNew_55 : decode cd_Model_needsNew 55 = .ok (.iconst 1, 1) := by decide +kernel
theorem dc_Model_needsNew_56 : decode cd_Model_needsNew 56 = .ok (.ireturn, 1) := by decide +kernel
theorem dc_Model_needsPlace_0 : decode cd_Model_needsPlace 0 = .ok (.aload_n 0, 1) := by decide +kernel
theorem dc_Model_needsPlace_1 : decode cd_Model_needsPlace 1 = .ok (.invokevirtual 332, 3) := by decide +kernel
theorem dc_Model_needsPlace_4 : decode cd_Model_needsPlace 4 = .ok (.ifCond .eq 9, 3) := by decide +kernel
theorem dc_Model_needsPlace_7 : decode cd_Model_needsPlace 7 = .ok (.aload_n 0, 1) := by decide +kernel
theorem dc_Model_needsPlace_8 : decode cd_Model_needsPlace 8 = .ok (.iconst 1, 1) := by decide +kernel
theorem dc_Model_needsPlace_9 : decode cd_Model_needsPlace 9 = .ok (.invokevirtual 245, 3) := by decide +kernel
theorem dc_Model_needsPlace_12 : decode cd_Model_needsPlace 12 = .ok (.ireturn, 1) := by decide +kernel
theorem dc_Model_needsPlace_13 : decode cd_Model_needsPlace 13 = .ok (.aload_n 0, 1) := by decide +kernel
theorem dc_Model_needsPlace_14 : decode cd_Model_needsPlace 14 = .ok (.aload_n 0, 1) := by decide +kernel
theorem dc_Model_needsPlace_15 : decode cd_Model_needsPlace 15 = .ok (.iload_n 1, 1) := by decide +kernel
theorem dc_Model_needsPlace_16 : decode cd_Model_needsPlace 16 = .ok (.invokevirtual 336, 3) := by decide +kernel
theorem dc_Model_needsPlace_19 : decode cd_Model_needsPlace 19 = .ok (.putfield 322, 3) := by decide +kernel
theorem dc_Model_needsPlace_22 : decode cd_Model_needsPlace 22 = .ok (.aload_n 0, 1) := by decide +kernel
theorem dc_Model_needsPlace_23 : decode cd_Model_needsPlace 23 = .ok (.getfield 322, 3) := by decide +kernel
theorem dc_Model_needsPlace_26 : decode cd_Model_needsPlace 26 = .ok (.ifCond .ge 11, 3) := by decide +kernel
theorem dc_Model_needsPlace_29 : decode cd_Model_needsPlace 29 = .ok (.aload_n 0, 1) := by decide +kernel
theorem dc_Model_needsPlace_30 : decode cd_Model_needsPlace 30 = .ok (.iconst 2, 1) := by decide +kernel
theorem dc_Model_needsPlace_31 : decode cd_Model_needsPlace 31 = .ok (.invokevirtual 245, 3) := by decide +kernel
theorem dc_Model_needsPlace_34 : decode cd_Model_needsPlace 34 = .ok (.ifCond .eq 7, 3) := by decide +kernel
theorem dc_Model_needsPlace_37 : decode cd_Model_needsPlace 37 = .ok (.iconst 1, 1) := by decide +kernel
theorem dc_Model_needsPlace_38 : decode cd_Model_needsPlace 38 = .ok (.goto 4, 3) := by decide +kernel
theorem dc_Model_needsPlace_41 : decode cd_Model_needsPlace 41 = .ok (.iconst 0, 1) := by decide +kernel
theorem dc_Model_needsPlace_42 : decode cd_Model_needsPlace 42 = .ok (.ireturn, 1) := by decide +kernel
theorem dc_Model_needsWalker_0 : decode cd_Model_needsWalker 0 = .ok (.aload_n 0, 1) := by decide +kernel
theorem dc_Model_needsWalker_1 : decode cd_Model_needsWalker 1 = .ok (.invokevirtual 332, 3) := by decide +kernel
theorem dc_Model_needsWalker_4 : decode cd_Model_needsWalker 4 = .ok (.ifCond .eq 9, 3) := by decide +kernel
theorem dc_Model_needsWalker_7 : decode cd_Model_needsWalker 7 = .ok (.aload_n 0, 1) := by decide +kernel
theorem dc_Model_needsWalker_8 : decode cd_Model_needsWalker 8 = .ok (.iconst 1, 1) := by decide +kernel
theorem dc_Model_needsWalker_9 : decode cd_Model_needsWalker 9 = .ok (.invokevirtual 245, 3) := by decide +kernel
theorem dc_Model_needsWalker_12 : decode cd_Model_needsWalker 12 = .ok (.ireturn, 1) := by decide +kernel
theorem dc_Model_needsWalker_13 : decode cd_Model_needsWalker 13 = .ok (.aload_n 0, 1) := by decide +kernel
theorem dc_Model_needsWalker_14 : decode cd_Model_needsWalker 14 = .ok (.aload_n 0, 1) := by decide +kernel
theorem dc_Model_needsWalker_15 : decode cd_Model_needsWalker 15 = .ok (.iload_n 1, 1) := by decide +kernel
theorem dc_Model_needsWalker_16 : decode cd_Model_needsWalker 16 = .ok (.invokevirtual 339, 3) := by decide +kernel
theorem dc_Model_needsWalker_19 : decode cd_Model_needsWalker 19 = .ok (.putfield 322, 3) := by decide +kernel
theorem dc_Model_needsWalker_22 : decode cd_Model_needsWalker 22 = .ok (.aload_n 0, 1) := by decide +kernel
theorem dc_Model_needsWalker_23 : decode cd_Model_needsWalker 23 = .ok (.getfield 322, 3) := by decide +kernel
theorem dc_Model_needsWalker_26 : decode cd_Model_needsWalker 26 = .ok (.ifCond .ge 11, 3) := by decide +kernel
theorem dc_Model_needsWalker_29 : decode cd_Model_needsWalker 29 = .ok (.aload_n 0, 1) := by decide +kernel
theorem dc_Model_needsWalker_30 : decode cd_Model_needsWalker 30 = .ok (.iconst 2, 1) := by decide +kernel
theorem dc_Model_needsWalker_31 : decode cd_Model_needsWalker 31 = .ok (.invokevirtual 245, 3) := by decide +kernel
theorem dc_Model_needsWalker_34 : decode cd_Model_needsWalker 34 = .ok (.ifCond .eq 7, 3) := by decide +kernel
theorem dc_Model_needsWalker_37 : decode cd_Model_needsWalker 37 = .ok (.iconst 1, 1) := by decide +kernel
theorem dc_Model_needsWalker_38 : decode cd_Model_needsWalker 38 = .ok (.goto 4, 3) := by decide +kernel
theorem dc_Model_needsWalker_41 : decode cd_Model_needsWalker 41 = .ok (.iconst 0, 1) := by decide +kernel
theorem dc_Model_needsWalker_42 : decode cd_Model_needsWalker 42 = .ok (.ireturn, 1) := by decide +kernel
theorem dc_Model_begins_0 : decode cd_Model_begins 0 = .ok (.aload_n 0, 1) := by decide +kernel
theorem dc_Model_begins_1 : decode cd_Model_begins 1 = .ok (.aload_n 0, 1) := by decide +kernel
theorem dc_Model_begins_2 : decode cd_Model_begins 2 = .ok (.getfield 189, 3) := by decide +kernel
theorem dc_Model_begins_5 : decode cd_Model_begins 5 = .ok (.putfield 192, 3) := by decide +kernel
theorem dc_Model_begins_8 : decode cd_Model_begins 8 = .ok (.aload_n 0, 1) := by decide +kernel
theorem dc_Model_begins_9 : decode cd_Model_begins 9 = .ok (.iconst 0, 1) := by decide +kernel
theorem dc_Model_begins_10 : decode cd_Model_begins 10 = .ok (.putfield 189, 3) := by decide +kernel
theorem dc_Model_begins_13 : decode cd_Model_begins 13 = .ok (.aload_n 0, 1) := by decide +kernel
theorem dc_Model_begins_14 : decode cd_Model_begins 14 = .ok (.iconst 0, 1) := by decide +kernel
theorem dc_Model_begins_15 : decode cd_Model_begins 15 = .ok (.putfield 195, 3) := by decide +kernel
theorem dc_Model_begins_18 : decode cd_Model_begins 18 = .ok (.aload_n 0, 1) := by decide +kernel
theorem dc_Model_begins_19 : decode cd_Model_begins 19 = .ok (.invokevirtual 252, 3) := by decide +kernel
theorem dc_Model_begins_22 : decode cd_Model_begins 22 = .ok (.return_, 1) := by decide +kernel
theorem dc_Model_goesOn_0 : decode cd_Model_goesOn 0 = .ok (.aload_n 0, 1) := by decide +kernel
theorem dc_Model_goesOn_1 : decode cd_Model_goesOn 1 = .ok (.getfield 156, 3) := by decide +kernel
theorem dc_Model_goesOn_4 : decode cd_Model_goesOn 4 = .ok (.iload_n 1, 1) := by decide +kernel
theorem dc_Model_goesOn_5 : decode cd_Model_goesOn 5 = .ok (.iaload, 1) := by decide +kernel
theorem dc_Model_goesOn_6 : decode cd_Model_goesOn 6 = .ok (.iconst 1, 1) := by decide +kernel
theorem dc_Model_goesOn_7 : decode cd_Model_goesOn 7 = .ok (.iadd, 1) := by decide +kernel
theorem dc_Model_goesOn_8 : decode cd_Model_goesOn 8 = .ok (.aload_n 0, 1) := by decide +kernel
theorem dc_Model_goesOn_9 : decode cd_Model_goesOn 9 = .ok (.getfield 44, 3) := by decide +kernel
theorem dc_Model_goesOn_12 : decode cd_Model_goesOn 12 = .ok (.iload_n 1, 1) := by decide +kernel
theorem dc_Model_goesOn_13 : decode cd_Model_goesOn 13 = .ok (.iaload, 1) := by decide +kernel
theorem dc_Model_goesOn_14 : decode cd_Model_goesOn 14 = .ok (.if_icmp .ne 4, 3) := by decide +kernel
theorem dc_Model_goesOn_17 : decode cd_Model_goesOn 17 = .ok (.return_, 1) := by decide +kernel
theorem dc_Model_goesOn_18 : decode cd_Model_goesOn 18 = .ok (.aload_n 0, 1) := by decide +kernel
theorem dc_Model_goesOn_19 : decode cd_Model_goesOn 19 = .ok (.getfield 41, 3) := by decide +kernel
theorem dc_Model_goesOn_22 : decode cd_Model_goesOn 22 = .ok (.iconst 4, 1) := by decide +kernel
theorem dc_Model_goesOn_23 : decode cd_Model_goesOn 23 = .ok (.iload_n 1, 1) := by decide +kernel
theorem dc_Model_goesOn_24 : decode cd_Model_goesOn 24 = .ok (.imul, 1) := by decide +kernel
theorem dc_Model_goesOn_25 : decode cd_Model_goesOn 25 = .ok (.aload_n 0, 1) := by decide +kernel
theorem dc_Model_goesOn_26 : decode cd_Model_goesOn 26 = .ok (.getfield 156, 3) := by decide +kernel
theorem dc_Model_goesOn_29 : decode cd_Model_goesOn 29 = .ok (.iload_n 1, 1) := by decide +kernel
theorem dc_Model_goesOn_30 : decode cd_Model_goesOn 30 = .ok (.iaload, 1) := by decide +kernel
theorem dc_Model_goesOn_31 : decode cd_Model_goesOn 31 = .ok (.iadd, 1) := by decide +kernel
theorem dc_Model_goesOn_32 : decode cd_Model_goesOn 32 = .ok (.iconst 1, 1) := by decide +kernel
theorem dc_Model_goesOn_33 : decode cd_Model_goesOn 33 = .ok (.iadd, 1) := by decide +kernel
theorem dc_Model_goesOn_34 : decode cd_Model_goesOn 34 = .ok (.iaload, 1) := by decide +kernel
theorem dc_Model_goesOn_35 : decode cd_Model_goesOn 35 = .ok (.istore_n 3, 1) := by decide +kernel
theorem dc_Model_goesOn_36 : decode cd_Model_goesOn 36 = .ok (.aload_n 0, 1) := by decide +kernel
theorem dc_Model_goesOn_37 : decode cd_Model_goesOn 37 = .ok (.getfield 150, 3) := by decide +kernel
theorem dc_Model_goesOn_40 : decode cd_Model_goesOn 40 = .ok (.bipush 6, 2) := by decide +kernel
theorem dc_Model_goesOn_42 : decode cd_Model_goesOn 42 = .ok (.aload_n 0, 1) := by decide +kernel
theorem dc_Model_goesOn_43 : decode cd_Model_goesOn 43 = .ok (.iload_n 1, 1) := by decide +kernel
theorem dc_Model_goesOn_44 : decode cd_Model_goesOn 44 = .ok (.invokevirtual 436, 3) := by decide +kernel
theorem dc_Model_goesOn_47 : decode cd_Model_goesOn 47 = .ok (.imul, 1) := by decide +kernel
theorem dc_Model_goesOn_48 : decode cd_Model_goesOn 48 = .ok (.iload_n 3, 1) := by decide +kernel
theorem dc_Model_goesOn_49 : decode cd_Model_goesOn 49 = .ok (.iadd, 1) := by decide +kernel
theorem dc_Model_goesOn_50 : decode cd_Model_goesOn 50 = .ok (.iaload, 1) := by decide +kernel
theorem dc_Model_goesOn_51 : decode cd_Model_goesOn 51 = .ok (.ldc_w 426, 3) := by decide +kernel
theorem dc_Model_goesOn_54 : decode cd_Model_goesOn 54 = .ok (.if_icmp .lt 4, 3) := by decide +kernel
theorem dc_Model_goesOn_57 : decode cd_Model_goesOn 57 = .ok (.return_, 1) := by decide +kernel
theorem dc_Model_goesOn_58 : decode cd_Model_goesOn 58 = .ok (.aload_n 0, 1) := by decide +kernel
theorem dc_Model_goesOn_59 : decode cd_Model_goesOn 59 = .ok (.getfield 159, 3) := by decide +kernel
theorem dc_Model_goesOn_62 : decode cd_Model_goesOn 62 = .ok (.iload_n 1, 1) := by decide +kernel
theorem dc_Model_goesOn_63 : decode cd_Model_goesOn 63 = .ok (.iload_n 2, 1) := by decide +kernel
theorem dc_Model_goesOn_64 : decode cd_Model_goesOn 64 = .ok (.aload_n 0, 1) := by decide +kernel
theorem dc_Model_goesOn_65 : decode cd_Model_goesOn 65 = .ok (.iload_n 1, 1) := by decide +kernel
theorem dc_Model_goesOn_66 : decode cd_Model_goesOn 66 = .ok (.iload_n 3, 1) := by decide +kernel
theorem dc_Model_goesOn_67 : decode cd_Model_goesOn 67 = .ok (.invokevirtual 439, 3) := by decide +kernel
theorem dc_Model_goesOn_70 : decode cd_Model_goesOn 70 = .ok (.iadd, 1) := by decide +kernel
theorem dc_Model_goesOn_71 : decode cd_Model_goesOn 71 = .ok (.iastore, 1) := by decide +kernel
theorem dc_Model_goesOn_72 : decode cd_Model_goesOn 72 = .ok (.aload_n 0, 1) := by decide +kernel
theorem dc_Model_goesOn_73 : decode cd_Model_goesOn 73 = .ok (.getfield 156, 3) := by decide +kernel
theorem dc_Model_goesOn_76 : decode cd_Model_goesOn 76 = .ok (.iload_n 1, 1) := by decide +kernel
theorem dc_Model_goesOn_77 : decode cd_Model_goesOn 77 = .ok (.dup2, 1) := by decide +kernel
theorem dc_Model_goesOn_78 : decode cd_Model_goesOn 78 = .ok (.iaload, 1) := by decide +kernel
theorem dc_Model_goesOn_79 : decode cd_Model_goesOn 79 = .ok (.iconst 1, 1) := by decide +kernel
theorem dc_Model_goesOn_80 : decode cd_Model_goesOn 80 = .ok (.iadd, 1) := by decide +kernel
theorem dc_Model_goesOn_81 : decode cd_Model_goesOn 81 = .ok (.iastore, 1) := by decide +kernel
theorem dc_Model_goesOn_82 : decode cd_Model_goesOn 82 = .ok (.aload_n 0, 1) := by decide +kernel
theorem dc_Model_goesOn_83 : decode cd_Model_goesOn 83 = .ok (.getfield 162, 3) := by decide +kernel
theorem dc_Model_goesOn_86 : decode cd_Model_goesOn 86 = .ok (.iload_n 1, 1) := by decide +kernel
theorem dc_Model_goesOn_87 : decode cd_Model_goesOn 87 = .ok (.iconst 0, 1) := by decide +kernel
theorem dc_Model_goesOn_88 : decode cd_Model_goesOn 88 = .ok (.bastore, 1) := by decide +kernel
theorem dc_Model_goesOn_89 : decode cd_Model_goesOn 89 = .ok (.return_, 1) := by decide +kernel
theorem dc_Model_lies_0 : decode cd_Model_lies 0 = .ok (.aload_n 0, 1) := by decide +kernel
theorem dc_Model_lies_1 : decode cd_Model_lies 1 = .ok (.invokevirtual 486, 3) := by decide +kernel
theorem dc_Model_lies_4 : decode cd_Model_lies 4 = .ok (.aload_n 0, 1) := by decide +kernel
theorem dc_Model_lies_5 : decode cd_Model_lies 5 = .ok (.getfield 135, 3) := by decide +kernel
theorem dc_Model_lies_8 : decode cd_Model_lies 8 = .ok (.iload_n 1, 1) := by decide +kernel
theorem dc_Model_lies_9 : decode cd_Model_lies 9 = .ok (.iload_n 2, 1) := by decide +kernel
theorem dc_Model_lies_10 : decode cd_Model_lies 10 = .ok (.iastore, 1) := by decide +kernel
theorem dc_Model_lies_11 : decode cd_Model_lies 11 = .ok (.iconst 1, 1) := by decide +kernel
theorem dc_Model_lies_12 : decode cd_Model_lies 12 = .ok (.ireturn, 1) := by decide +kernel
theorem dc_Model_rests_0 : decode cd_Model_rests 0 = .ok (.aload_n 0, 1) := by decide +kernel
theorem dc_Model_rests_1 : decode cd_Model_rests 1 = .ok (.iload_n 1, 1) := by decide +kernel
theorem dc_Model_rests_2 : decode cd_Model_rests 2 = .ok (.iconst 0, 1) := by decide +kernel
theorem dc_Model_rests_3 : decode cd_Model_rests 3 = .ok (.bipush 9, 2) := by decide +kernel
theorem dc_Model_rests_5 : decode cd_Model_rests 5 = .ok (.invokestatic 318, 3) := by decide +kernel
theorem dc_Model_rests_8 : decode cd_Model_rests 8 = .ok (.ifCond .eq 33, 3) := by decide +kernel
theorem dc_Model_rests_11 : decode cd_Model_rests 11 = .ok (.iload_n 2, 1) := by decide +kernel
theorem dc_Model_rests_12 : decode cd_Model_rests 12 = .ok (.iconst 0, 1) := by decide +kernel
theorem dc_Model_rests_13 : decode cd_Model_rests 13 = .ok (.bipush 9, 2) := by decide +kernel
theorem dc_Model_rests_15 : decode cd_Model_rests 15 = .ok (.invokestatic 318, 3) := by decide +kernel
theorem dc_Model_rests_18 : decode cd_Model_rests 18 = .ok (.ifCond .eq 23, 3) := by decide +kernel
theorem dc_Model_rests_21 : decode cd_Model_rests 21 = .ok (.iload_n 3, 1) := by decide +kernel
theorem dc_Model_rests_22 : decode cd_Model_rests 22 = .ok (.iconst 0, 1) := by decide +kernel
theorem dc_Model_rests_23 : decode cd_Model_rests 23 = .ok (.bipush 20, 2) := by decide +kernel
theorem dc_Model_rests_25 : decode cd_Model_rests 25 = .ok (.invokestatic 318, 3) := by decide +kernel
theorem dc_Model_rests_28 : decode cd_Model_rests 28 = .ok (.ifCond .eq 13, 3) := by decide +kernel
theorem dc_Model_rests_31 : decode cd_Model_rests 31 = .ok (.iload 4, 2) := by decide +kernel
theorem dc_Model_rests_33 : decode cd_Model_rests 33 = .ok (.iconst (-1), 1) := by decide +kernel
theorem dc_Model_rests_34 : decode cd_Model_rests 34 = .ok (.if_icmp .lt 7, 3) := by decide +kernel
theorem dc_Model_rests_37 : decode cd_Model_rests 37 = .ok (.iconst 0, 1) := by decide +kernel
theorem dc_Model_rests_38 : decode cd_Model_rests 38 = .ok (.goto 4, 3) := by decide +kernel
theorem dc_Model_rests_41 : decode cd_Model_rests 41 = .ok (.iconst 1, 1) := by decide +kernel
theorem dc_Model_rests_42 : decode cd_Model_rests 42 = .ok (.putfield 183, 3) := by decide +kernel
theorem dc_Model_rests_45 : decode cd_Model_rests 45 = .ok (.aload_n 0, 1) := by decide +kernel
theorem dc_Model_rests_46 : decode cd_Model_rests 46 = .ok (.getfield 183, 3) := by decide +kernel
theorem dc_Model_rests_49 : decode cd_Model_rests 49 = .ok (.iconst 1, 1) := by decide +kernel
theorem dc_Model_rests_50 : decode cd_Model_rests 50 = .ok (.if_icmp .ne 5, 3) := by decide +kernel
theorem dc_Model_rests_53 : decode cd_Model_rests 53 = .ok (.iconst 0, 1) := by decide +kernel
theorem dc_Model_rests_54 : decode cd_Model_rests 54 = .ok (.ireturn, 1) := by decide +kernel
theorem dc_Model_rests_55 : decode cd_Model_rests 55 = .ok (.iconst 0, 1) := by decide +kernel
theorem dc_Model_rests_56 : decode cd_Model_rests 56 = .ok (.istore 5, 2) := by decide +kernel
theorem dc_Model_rests_58 : decode cd_Model_rests 58 = .ok (.iconst 0, 1) := by decide +kernel
theorem dc_Model_rests_59 : decode cd_Model_rests 59 = .ok (.istore 6, 2) := by decide +kernel
theorem dc_Model_rests_61 : decode cd_Model_rests 61 = .ok (.iload 6, 2) := by decide +kernel
theorem dc_Model_rests_63 : decode cd_Model_rests 63 = .ok (.bipush 100, 2) := by decide +kernel
theorem dc_Model_rests_65 : decode cd_Model_rests 65 = .ok (.if_icmp .ge 44, 3) := by decide +kernel
theorem dc_Model_rests_68 : decode cd_Model_rests 68 = .ok (.iload_n 1, 1) := by decide +kernel
theorem dc_Model_rests_69 : decode cd_Model_rests 69 = .ok (.iload_n 2, 1) := by decide +kernel
theorem dc_Model_rests_70 : decode cd_Model_rests 70 = .ok (.iload_n 3, 1) := by decide +kernel
theorem dc_Model_rests_71 : decode cd_Model_rests 71 = .ok (.iload 6, 2) := by decide +kernel
theorem dc_Model_rests_73 : decode cd_Model_rests 73 = .ok (.bipush 10, 2) := by decide +kernel
theorem dc_Model_rests_75 : decode cd_Model_rests 75 = .ok (.idiv, 1) := by decide +kernel
theorem dc_Model_rests_76 : decode cd_Model_rests 76 = .ok (.iload 6, 2) := by decide +kernel
theorem dc_Model_rests_78 : decode cd_Model_rests 78 = .ok (.bipush 10, 2) := by decide +kernel
theorem dc_Model_rests_80 : decode cd_Model_rests 80 = .ok (.irem, 1) := by decide +kernel
theorem dc_Model_rests_81 : decode cd_Model_rests 81 = .ok (.invokestatic 549, 3) := by decide +kernel
theorem dc_Model_rests_84 : decode cd_Model_rests 84 = .ok (.ifCond .ne 6, 3) := by decide +kernel
theorem dc_Model_rests_87 : decode cd_Model_rests 87 = .ok (.goto 16, 3) := by decide +kernel
theorem dc_Model_rests_90 : decode cd_Model_rests 90 = .ok (.iload 5, 2) := by decide +kernel
theorem dc_Model_rests_92 : decode cd_Model_rests 92 = .ok (.iload 4, 2) := by decide +kernel
theorem dc_Model_rests_94 : decode cd_Model_rests 94 = .ok (.if_icmp .ne 6, 3) := by decide +kernel
theorem dc_Model_rests_97 : decode cd_Model_rests 97 = .ok (.iload 6, 2) := by decide +kernel
theorem dc_Model_rests_99 : decode cd_Model_rests 99 = .ok (.ireturn, 1) := by decide +kernel
theorem dc_Model_rests_100 : decode cd_Model_rests 100 = .ok (.iinc 5 1, 3) := by decide +kernel
theorem dc_Model_rests_103 : decode cd_Model_rests 103 = .ok (.iinc 6 1, 3) := by decide +kernel
theorem dc_Model_rests_106 : decode cd_Model_rests 106 = .ok (.goto (-45), 3) := by decide +kernel
theorem dc_Model_rests_109 : decode cd_Model_rests 109 = .ok (.aload_n 0, 1) := by decide +kernel
theorem dc_Model_rests_110 : decode cd_Model_rests 110 = .ok (.iload 4, 2) := by decide +kernel
theorem dc_Model_rests_112 : decode cd_Model_rests 112 = .ok (.iconst (-1), 1) := by decide +kernel
theorem dc_Model_rests_113 : decode cd_Model_rests 113 = .ok (.if_icmp .ne 7, 3) := by decide +kernel
theorem dc_Model_rests_116 : decode cd_Model_rests 116 = .ok (.iconst 0, 1) := by decide +kernel
theorem dc_Model_rests_117 : decode cd_Model_rests 117 = .ok (.goto 4, 3) := by decide +kernel
theorem dc_Model_rests_120 : decode cd_Model_rests 120 = .ok (.iconst 1, 1) := by decide +kernel
theorem dc_Model_rests_121 : decode cd_Model_rests 121 = .ok (.putfield 183, 3) := by decide +kernel
theorem dc_Model_rests_124 : decode cd_Model_rests 124 = .ok (.iload 4, 2) := by decide +kernel
theorem dc_Model_rests_126 : decode cd_Model_rests 126 = .ok (.iconst (-1), 1) := by decide +kernel
theorem dc_Model_rests_127 : decode cd_Model_rests 127 = .ok (.if_icmp .ne 8, 3) := by decide +kernel
theorem dc_Model_rests_130 : decode cd_Model_rests 130 = .ok (.iload 5, 2) := by decide +kernel
theorem dc_Model_rests_132 : decode cd_Model_rests 132 = .ok (.goto 4, 3) := by decide +kernel
theorem dc_Model_rests_135 : decode cd_Model_rests 135 = .ok (.iconst 0, 1) := by decide +kernel
theorem dc_Model_rests_136 : decode cd_Model_rests 136 = .ok (.ireturn, 1) := by decide +kernel
theorem dc_Model_needsBoth_0 : decode cd_Model_needsBoth 0 = .ok (.aload_n 0, 1) := by decide +kernel
theorem dc_Model_needsBoth_1 : decode cd_Model_needsBoth 1 = .ok (.lload_n 1, 1) := by decide +kernel
theorem dc_Model_needsBoth_2 : decode cd_Model_needsBoth 2 = .ok (.invokevirtual 325, 3) := by decide +kernel
theorem dc_Model_needsBoth_5 : decode cd_Model_needsBoth 5 = .ok (.ifCond .eq 17, 3) := by decide +kernel
theorem dc_Model_needsBoth_8 : decode cd_Model_needsBoth 8 = .ok (.aload_n 0, 1) := by decide +kernel
theorem dc_Model_needsBoth_9 : decode cd_Model_needsBoth 9 = .ok (.iload_n 3, 1) := by decide +kernel
theorem dc_Model_needsBoth_10 : decode cd_Model_needsBoth 10 = .ok (.iload 4, 2) := by decide +kernel
theorem dc_Model_needsBoth_12 : decode cd_Model_needsBoth 12 = .ok (.invokevirtual 328, 3) := by decide +kernel
theorem dc_Model_needsBoth_15 : decode cd_Model_needsBoth 15 = .ok (.ifCond .eq 7, 3) := by decide +kernel
theorem dc_Model_needsBoth_18 : decode cd_Model_needsBoth 18 = .ok (.iconst 1, 1) := by decide +kernel
theorem dc_Model_needsBoth_19 : decode cd_Model_needsBoth 19 = .ok (.goto 4, 3) := by decide +kernel
theorem dc_Model_needsBoth_22 : decode cd_Model_needsBoth 22 = .ok (.iconst 0, 1) := by decide +kernel
theorem dc_Model_needsBoth_23 : decode cd_Model_needsBoth 23 = .ok (.ireturn, 1) := by decide +kernel
theorem dc_Model_readsPlace_0 : decode cd_Model_readsPlace 0 = .ok (.bipush 6, 2) := by decide +kernel
theorem dc_Model_readsPlace_2 : decode cd_Model_readsPlace 2 = .ok (.aload_n 0, 1) := by decide +kernel
theorem dc_Model_readsPlace_3 : decode cd_Model_readsPlace 3 = .ok (.getfield 13, 3) := by decide +kernel
theorem dc_Model_readsPlace_6 : decode cd_Model_readsPlace 6 = .ok (.iconst 5, 1) := by decide +kernel
theorem dc_Model_readsPlace_7 : decode cd_Model_readsPlace 7 = .ok (.iaload, 1) := by decide +kernel
theorem dc_Model_readsPlace_8 : decode cd_Model_readsPlace 8 = .ok (.iadd, 1) := by decide +kernel
theorem dc_Model_readsPlace_9 : decode cd_Model_readsPlace 9 = .ok (.istore_n 1, 1) := by decide +kernel
theorem dc_Model_readsPlace_10 : decode cd_Model_readsPlace 10 = .ok (.iload_n 1, 1) := by decide +kernel
theorem dc_Model_readsPlace_11 : decode cd_Model_readsPlace 11 = .ok (.bipush 12, 2) := by decide +kernel
theorem dc_Model_readsPlace_13 : decode cd_Model_readsPlace 13 = .ok (.if_icmp .ne 9, 3) := by decide +kernel
theorem dc_Model_readsPlace_16 : decode cd_Model_readsPlace 16 = .ok (.aload_n 0, 1) := by decide +kernel
theorem dc_Model_readsPlace_17 : decode cd_Model_readsPlace 17 = .ok (.iconst 5, 1) := by decide +kernel
theorem dc_Model_readsPlace_18 : decode cd_Model_readsPlace 18 = .ok (.invokevirtual 245, 3) := by decide +kernel
theorem dc_Model_readsPlace_21 : decode cd_Model_readsPlace 21 = .ok (.ireturn, 1) := by decide +kernel
theorem dc_Model_readsPlace_22 : decode cd_Model_readsPlace 22 = .ok (.aload_n 0, 1) := by decide +kernel
theorem dc_Model_readsPlace_23 : decode cd_Model_readsPlace 23 = .ok (.invokevirtual 252, 3) := by decide +kernel
theorem dc_Model_readsPlace_26 : decode cd_Model_readsPlace 26 = .ok (.aload_n 0, 1) := by decide +kernel
theorem dc_Model_readsPlace_27 : decode cd_Model_readsPlace 27 = .ok (.invokevirtual 348, 3) := by decide +kernel
theorem dc_Model_readsPlace_30 : decode cd_Model_readsPlace 30 = .ok (.ifCond .ne 5, 3) := by decide +kernel
theorem dc_Model_readsPlace_33 : decode cd_Model_readsPlace 33 = .ok (.iconst 0, 1) := by decide +kernel
theorem dc_Model_readsPlace_34 : decode cd_Model_readsPlace 34 = .ok (.ireturn, 1) := by decide +kernel
theorem dc_Model_readsPlace_35 : decode cd_Model_readsPlace 35 = .ok (.aload_n 0, 1) := by decide +kernel
theorem dc_Model_readsPlace_36 : decode cd_Model_readsPlace 36 = .ok (.getfield 16, 3) := by decide +kernel
theorem dc_Model_readsPlace_39 : decode cd_Model_readsPlace 39 = .ok (.iload_n 1, 1) := by decide +kernel
theorem dc_Model_readsPlace_40 : decode cd_Model_readsPlace 40 = .ok (.aload_n 0, 1) := by decide +kernel
theorem dc_Model_readsPlace_41 : decode cd_Model_readsPlace 41 = .ok (.getfield 345, 3) := by decide +kernel
theorem dc_Model_readsPlace_44 : decode cd_Model_readsPlace 44 = .ok (.lastore, 1) := by decide +kernel
theorem dc_Model_readsPlace_45 : decode cd_Model_readsPlace 45 = .ok (.aload_n 0, 1) := by decide +kernel
theorem dc_Model_readsPlace_46 : decode cd_Model_readsPlace 46 = .ok (.getfield 13, 3) := by decide +kernel
theorem dc_Model_readsPlace_49 : decode cd_Model_readsPlace 49 = .ok (.iconst 5, 1) := by decide +kernel
theorem dc_Model_readsPlace_50 : decode cd_Model_readsPlace 50 = .ok (.dup2, 1) := by decide +kernel
theorem dc_Model_readsPlace_51 : decode cd_Model_readsPlace 51 = .ok (.iaload, 1) := by decide +kernel
theorem dc_Model_readsPlace_52 : decode cd_Model_readsPlace 52 = .ok (.iconst 1, 1) := by decide +kernel
theorem dc_Model_readsPlace_53 : decode cd_Model_readsPlace 53 = .ok (.iadd, 1) := by decide +kernel
theorem dc_Model_readsPlace_54 : decode cd_Model_readsPlace 54 = .ok (.iastore, 1) := by decide +kernel
theorem dc_Model_readsPlace_55 : decode cd_Model_readsPlace 55 = .ok (.aload_n 0, 1) := by decide +kernel
theorem dc_Model_readsPlace_56 : decode cd_Model_readsPlace 56 = .ok (.invokevirtual 351, 3) := by decide +kernel
theorem dc_Model_readsPlace_59 : decode cd_Model_readsPlace 59 = .ok (.ireturn, 1) := by decide +kernel
theorem dc_Model_readsPath_0 : decode cd_Model_readsPath 0 = .ok (.aload_n 0, 1) := by decide +kernel
theorem dc_Model_readsPath_1 : decode cd_Model_readsPath 1 = .ok (.invokevirtual 252, 3) := by decide +kernel
theorem dc_Model_readsPath_4 : decode cd_Model_readsPath 4 = .ok (.aload_n 0, 1) := by decide +kernel
theorem dc_Model_readsPath_5 : decode cd_Model_readsPath 5 = .ok (.iconst 1, 1) := by decide +kernel
theorem dc_Model_readsPath_6 : decode cd_Model_readsPath 6 = .ok (.invokevirtual 354, 3) := by decide +kernel
theorem dc_Model_readsPath_9 : decode cd_Model_readsPath 9 = .ok (.ifCond .ne 5, 3) := by decide +kernel
theorem dc_Model_readsPath_12 : decode cd_Model_readsPath 12 = .ok (.iconst 0, 1) := by decide +kernel
theorem dc_Model_readsPath_13 : decode cd_Model_readsPath 13 = .ok (.ireturn, 1) := by decide +kernel
