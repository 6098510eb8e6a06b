theorem dc_HillsReader_readHour_24 : decode cd_HillsReader_readHour 24 = .ok (.getfield 9, 3) := by decide +kernel
theorem dc_HillsReader_readHour_27 : decode cd_HillsReader_readHour 27 = .ok (.getstatic 237, 3) := by decide +kernel
theorem dc_HillsReader_readHour_30 : decode cd_HillsReader_readHour 30 = .ok (.invokevirtual 60, 3) := by decide +kernel
theorem dc_HillsReader_readHour_33 : decode cd_HillsReader_readHour 33 = .ok (.ifCond .ne 5, 3) := by decide +kernel
theorem dc_HillsReader_readHour_36 : decode cd_HillsReader_readHour 36 = .ok (.iconst 0, 1) := by decide +kernel
theorem dc_HillsReader_readHour_37 : decode cd_HillsReader_readHour 37 = .ok (.ireturn, 1) := by decide +kernel
theorem dc_HillsReader_readHour_38 : decode cd_HillsReader_readHour 38 = .ok (.aload_n 0, 1) := by decide +kernel
theorem dc_HillsReader_readHour_39 : decode cd_HillsReader_readHour 39 = .ok (.invokevirtual 222, 3) := by decide +kernel
theorem dc_HillsReader_readHour_42 : decode cd_HillsReader_readHour 42 = .ok (.istore_n 2, 1) := by decide +kernel
theorem dc_HillsReader_readHour_43 : decode cd_HillsReader_readHour 43 = .ok (.iload_n 2, 1) := by decide +kernel
theorem dc_HillsReader_readHour_44 : decode cd_HillsReader_readHour 44 = .ok (.iconst (-1), 1) := by decide +kernel
theorem dc_HillsReader_readHour_45 : decode cd_HillsReader_readHour 45 = .ok (.if_icmp .ne 7, 3) := by decide +kernel
theorem dc_HillsReader_readHour_48 : decode cd_HillsReader_readHour 48 = .ok (.iconst (-1), 1) := by decide +kernel
theorem dc_HillsReader_readHour_49 : decode cd_HillsReader_readHour 49 = .ok (.goto 7, 3) := by decide +kernel
theorem dc_HillsReader_readHour_52 : decode cd_HillsReader_readHour 52 = .ok (.aload_n 0, 1) := by decide +kernel
theorem dc_HillsReader_readHour_53 : decode cd_HillsReader_readHour 53 = .ok (.invokevirtual 149, 3) := by decide +kernel
theorem dc_HillsReader_readHour_56 : decode cd_HillsReader_readHour 56 = .ok (.istore_n 3, 1) := by decide +kernel
theorem dc_HillsReader_readHour_57 : decode cd_HillsReader_readHour 57 = .ok (.iload_n 3, 1) := by decide +kernel
theorem dc_HillsReader_readHour_58 : decode cd_HillsReader_readHour 58 = .ok (.iconst (-1), 1) := by decide +kernel
theorem dc_HillsReader_readHour_59 : decode cd_HillsReader_readHour 59 = .ok (.if_icmp .ne 5, 3) := by decide +kernel
theorem dc_HillsReader_readHour_62 : decode cd_HillsReader_readHour 62 = .ok (.iconst 0, 1) := by decide +kernel
theorem dc_HillsReader_readHour_63 : decode cd_HillsReader_readHour 63 = .ok (.ireturn, 1) := by decide +kernel
theorem dc_HillsReader_readHour_64 : decode cd_HillsReader_readHour 64 = .ok (.aload_n 0, 1) := by decide +kernel
theorem dc_HillsReader_readHour_65 : decode cd_HillsReader_readHour 65 = .ok (.getfield 15, 3) := by decide +kernel
theorem dc_HillsReader_readHour_68 : decode cd_HillsReader_readHour 68 = .ok (.getfield 163, 3) := by decide +kernel
theorem dc_HillsReader_readHour_71 : decode cd_HillsReader_readHour 71 = .ok (.iload_n 2, 1) := by decide +kernel
theorem dc_HillsReader_readHour_72 : decode cd_HillsReader_readHour 72 = .ok (.aaload, 1) := by decide +kernel
theorem dc_HillsReader_readHour_73 : decode cd_HillsReader_readHour 73 = .ok (.iload_n 3, 1) := by decide +kernel
theorem dc_HillsReader_readHour_74 : decode cd_HillsReader_readHour 74 = .ok (.invokevirtual 240, 3) := by decide +kernel
theorem dc_HillsReader_readHour_77 : decode cd_HillsReader_readHour 77 = .ok (.ifCond .ne 12, 3) := by decide +kernel
theorem dc_HillsReader_readHour_80 : decode cd_HillsReader_readHour 80 = .ok (.aload_n 0, 1) := by decide +kernel
theorem dc_HillsReader_readHour_81 : decode cd_HillsReader_readHour 81 = .ok (.getfield 9, 3) := by decide +kernel
theorem dc_HillsReader_readHour_84 : decode cd_HillsReader_readHour 84 = .ok (.iconst 4, 1) := by decide +kernel
theorem dc_HillsReader_readHour_85 : decode cd_HillsReader_readHour 85 = .ok (.invokevirtual 100, 3) := by decide +kernel
theorem dc_HillsReader_readHour_88 : decode cd_HillsReader_readHour 88 = .ok (.ireturn, 1) := by decide +kernel
theorem dc_HillsReader_readHour_89 : decode cd_HillsReader_readHour 89 = .ok (.aload_n 0, 1) := by decide +kernel
theorem dc_HillsReader_readHour_90 : decode cd_HillsReader_readHour 90 = .ok (.getfield 9, 3) := by decide +kernel
theorem dc_HillsReader_readHour_93 : decode cd_HillsReader_readHour 93 = .ok (.invokevirtual 110, 3) := by decide +kernel
theorem dc_HillsReader_readHour_96 : decode cd_HillsReader_readHour 96 = .ok (.aload_n 0, 1) := by decide +kernel
theorem dc_HillsReader_readHour_97 : decode cd_HillsReader_readHour 97 = .ok (.getfield 9, 3) := by decide +kernel
theorem dc_HillsReader_readHour_100 : decode cd_HillsReader_readHour 100 = .ok (.getstatic 243, 3) := by decide +kernel
theorem dc_HillsReader_readHour_103 : decode cd_HillsReader_readHour 103 = .ok (.invokevirtual 60, 3) := by decide +kernel
theorem dc_HillsReader_readHour_106 : decode cd_HillsReader_readHour 106 = .ok (.ifCond .eq 17, 3) := by decide +kernel
theorem dc_HillsReader_readHour_109 : decode cd_HillsReader_readHour 109 = .ok (.aload_n 0, 1) := by decide +kernel
theorem dc_HillsReader_readHour_110 : decode cd_HillsReader_readHour 110 = .ok (.getfield 9, 3) := by decide +kernel
theorem dc_HillsReader_readHour_113 : decode cd_HillsReader_readHour 113 = .ok (.iconst 0, 1) := by decide +kernel
theorem dc_HillsReader_readHour_114 : decode cd_HillsReader_readHour 114 = .ok (.sipush 239, 3) := by decide +kernel
theorem dc_HillsReader_readHour_117 : decode cd_HillsReader_readHour 117 = .ok (.invokevirtual 156, 3) := by decide +kernel
theorem dc_HillsReader_readHour_120 : decode cd_HillsReader_readHour 120 = .ok (.goto 4, 3) := by decide +kernel
theorem dc_HillsReader_readHour_123 : decode cd_HillsReader_readHour 123 = .ok (.iconst (-1), 1) := by decide +kernel
theorem dc_HillsReader_readHour_124 : decode cd_HillsReader_readHour 124 = .ok (.istore 4, 2) := by decide +kernel
theorem dc_HillsReader_readHour_126 : decode cd_HillsReader_readHour 126 = .ok (.iload 4, 2) := by decide +kernel
theorem dc_HillsReader_readHour_128 : decode cd_HillsReader_readHour 128 = .ok (.iconst (-1), 1) := by decide +kernel
theorem dc_HillsReader_readHour_129 : decode cd_HillsReader_readHour 129 = .ok (.if_icmp .ne 5, 3) := by decide +kernel
theorem dc_HillsReader_readHour_132 : decode cd_HillsReader_readHour 132 = .ok (.iconst 0, 1) := by decide +kernel
theorem dc_HillsReader_readHour_133 : decode cd_HillsReader_readHour 133 = .ok (.ireturn, 1) := by decide +kernel
theorem dc_HillsReader_readHour_134 : decode cd_HillsReader_readHour 134 = .ok (.aload_n 0, 1) := by decide +kernel
theorem dc_HillsReader_readHour_135 : decode cd_HillsReader_readHour 135 = .ok (.getfield 15, 3) := by decide +kernel
theorem dc_HillsReader_readHour_138 : decode cd_HillsReader_readHour 138 = .ok (.getfield 246, 3) := by decide +kernel
theorem dc_HillsReader_readHour_141 : decode cd_HillsReader_readHour 141 = .ok (.iload_n 1, 1) := by decide +kernel
theorem dc_HillsReader_readHour_142 : decode cd_HillsReader_readHour 142 = .ok (.iload_n 2, 1) := by decide +kernel
theorem dc_HillsReader_readHour_143 : decode cd_HillsReader_readHour 143 = .ok (.iastore, 1) := by decide +kernel
theorem dc_HillsReader_readHour_144 : decode cd_HillsReader_readHour 144 = .ok (.aload_n 0, 1) := by decide +kernel
theorem dc_HillsReader_readHour_145 : decode cd_HillsReader_readHour 145 = .ok (.getfield 15, 3) := by decide +kernel
theorem dc_HillsReader_readHour_148 : decode cd_HillsReader_readHour 148 = .ok (.getfield 249, 3) := by decide +kernel
theorem dc_HillsReader_readHour_151 : decode cd_HillsReader_readHour 151 = .ok (.iload_n 1, 1) := by decide +kernel
theorem dc_HillsReader_readHour_152 : decode cd_HillsReader_readHour 152 = .ok (.iload_n 3, 1) := by decide +kernel
theorem dc_HillsReader_readHour_153 : decode cd_HillsReader_readHour 153 = .ok (.iastore, 1) := by decide +kernel
theorem dc_HillsReader_readHour_154 : decode cd_HillsReader_readHour 154 = .ok (.aload_n 0, 1) := by decide +kernel
theorem dc_HillsReader_readHour_155 : decode cd_HillsReader_readHour 155 = .ok (.getfield 15, 3) := by decide +kernel
theorem dc_HillsReader_readHour_158 : decode cd_HillsReader_readHour 158 = .ok (.getfield 252, 3) := by decide +kernel
theorem dc_HillsReader_readHour_161 : decode cd_HillsReader_readHour 161 = .ok (.iload_n 1, 1) := by decide +kernel
theorem dc_HillsReader_readHour_162 : decode cd_HillsReader_readHour 162 = .ok (.iload 4, 2) := by decide +kernel
theorem dc_HillsReader_readHour_164 : decode cd_HillsReader_readHour 164 = .ok (.iastore, 1) := by decide +kernel
theorem dc_HillsReader_readHour_165 : decode cd_HillsReader_readHour 165 = .ok (.aload_n 0, 1) := by decide +kernel
theorem dc_HillsReader_readHour_166 : decode cd_HillsReader_readHour 166 = .ok (.getfield 15, 3) := by decide +kernel
theorem dc_HillsReader_readHour_169 : decode cd_HillsReader_readHour 169 = .ok (.dup, 1) := by decide +kernel
theorem dc_HillsReader_readHour_170 : decode cd_HillsReader_readHour 170 = .ok (.getfield 88, 3) := by decide +kernel
theorem dc_HillsReader_readHour_173 : decode cd_HillsReader_readHour 173 = .ok (.iconst 1, 1) := by decide +kernel
theorem dc_HillsReader_readHour_174 : decode cd_HillsReader_readHour 174 = .ok (.iadd, 1) := by decide +kernel
theorem dc_HillsReader_readHour_175 : decode cd_HillsReader_readHour 175 = .ok (.putfield 88, 3) := by decide +kernel
theorem dc_HillsReader_readHour_178 : decode cd_HillsReader_readHour 178 = .ok (.aload_n 0, 1) := by decide +kernel
theorem dc_HillsReader_readHour_179 : decode cd_HillsReader_readHour 179 = .ok (.getfield 9, 3) := by decide +kernel
theorem dc_HillsReader_readHour_182 : decode cd_HillsReader_readHour 182 = .ok (.bipush 59, 2) := by decide +kernel
theorem dc_HillsReader_readHour_184 : decode cd_HillsReader_readHour 184 = .ok (.invokevirtual 145, 3) := by decide +kernel
theorem dc_HillsReader_readHour_187 : decode cd_HillsReader_readHour 187 = .ok (.ireturn, 1) := by decide +kernel
theorem dc_Lines_read_0 : decode cd_Lines_read 0 = .ok (.aload_n 0, 1) := by decide +kernel
theorem dc_Lines_read_1 : decode cd_Lines_read 1 = .ok (.iconst 0, 1) := by decide +kernel
theorem dc_Lines_read_2 : decode cd_Lines_read 2 = .ok (.putfield 21, 3) := by decide +kernel
theorem dc_Lines_read_5 : decode cd_Lines_read 5 = .ok (.aload_n 1, 1) := by decide +kernel
theorem dc_Lines_read_6 : decode cd_Lines_read 6 = .ok (.invokevirtual 31, 3) := by decide +kernel
theorem dc_Lines_read_9 : decode cd_Lines_read 9 = .ok (.iconst 1, 1) := by decide +kernel
theorem dc_Lines_read_10 : decode cd_Lines_read 10 = .ok (.istore_n 3, 1) := by decide +kernel
theorem dc_Lines_read_11 : decode cd_Lines_read 11 = .ok (.iconst 0, 1) := by decide +kernel
theorem dc_Lines_read_12 : decode cd_Lines_read 12 = .ok (.istore 4, 2) := by decide +kernel
theorem dc_Lines_read_14 : decode cd_Lines_read 14 = .ok (.iload 4, 2) := by decide +kernel
theorem dc_Lines_read_16 : decode cd_Lines_read 16 = .ok (.sipush 1000, 3) := by decide +kernel
theorem dc_Lines_read_19 : decode cd_Lines_read 19 = .ok (.if_icmp .ge 27, 3) := by decide +kernel
theorem dc_Lines_read_22 : decode cd_Lines_read 22 = .ok (.iload_n 3, 1) := by decide +kernel
theorem dc_Lines_read_23 : decode cd_Lines_read 23 = .ok (.ifCond .eq 23, 3) := by decide +kernel
theorem dc_Lines_read_26 : decode cd_Lines_read 26 = .ok (.aload_n 1, 1) := by decide +kernel
theorem dc_Lines_read_27 : decode cd_Lines_read 27 = .ok (.invokevirtual 36, 3) := by decide +kernel
theorem dc_Lines_read_30 : decode cd_Lines_read 30 = .ok (.ifCond .ne 16, 3) := by decide +kernel
theorem dc_Lines_read_33 : decode cd_Lines_read 33 = .ok (.aload_n 0, 1) := by decide +kernel
theorem dc_Lines_read_34 : decode cd_Lines_read 34 = .ok (.aload_n 1, 1) := by decide +kernel
theorem dc_Lines_read_35 : decode cd_Lines_read 35 = .ok (.aload_n 2, 1) := by decide +kernel
theorem dc_Lines_read_36 : decode cd_Lines_read 36 = .ok (.invokevirtual 40, 3) := by decide +kernel
theorem dc_Lines_read_39 : decode cd_Lines_read 39 = .ok (.istore_n 3, 1) := by decide +kernel
theorem dc_Lines_read_40 : decode cd_Lines_read 40 = .ok (.iinc 4 1, 3) := by decide +kernel
theorem dc_Lines_read_43 : decode cd_Lines_read 43 = .ok (.goto (-29), 3) := by decide +kernel
theorem dc_Lines_read_46 : decode cd_Lines_read 46 = .ok (.aload_n 1, 1) := by decide +kernel
theorem dc_Lines_read_47 : decode cd_Lines_read 47 = .ok (.invokevirtual 44, 3) := by decide +kernel
theorem dc_Lines_read_50 : decode cd_Lines_read 50 = .ok (.ireturn, 1) := by decide +kernel
theorem dc_Clock_days_0 : decode cd_Clock_days 0 = .ok (.aload_n 0, 1) := by decide +kernel
theorem dc_Clock_days_1 : decode cd_Clock_days 1 = .ok (.getfield 38, 3) := by decide +kernel
theorem dc_Clock_days_4 : decode cd_Clock_days 4 = .ok (.aload_n 0, 1) := by decide +kernel
theorem dc_Clock_days_5 : decode cd_Clock_days 5 = .ok (.getfield 10, 3) := by decide +kernel
theorem dc_Clock_days_8 : decode cd_Clock_days 8 = .ok (.aload_n 0, 1) := by decide +kernel
theorem dc_Clock_days_9 : decode cd_Clock_days 9 = .ok (.getfield 28, 3) := by decide +kernel
theorem dc_Clock_days_12 : decode cd_Clock_days 12 = .ok (.invokevirtual 114, 3) := by decide +kernel
theorem dc_Clock_days_15 : decode cd_Clock_days 15 = .ok (.istore_n 1, 1) := by decide +kernel
theorem dc_Clock_days_16 : decode cd_Clock_days 16 = .ok (.iload_n 1, 1) := by decide +kernel
theorem dc_Clock_days_17 : decode cd_Clock_days 17 = .ok (.ifCond .ne 17, 3) := by decide +kernel
theorem dc_Clock_days_20 : decode cd_Clock_days 20 = .ok (.aload_n 0, 1) := by decide +kernel
theorem dc_Clock_days_21 : decode cd_Clock_days 21 = .ok (.getfield 45, 3) := by decide +kernel
theorem dc_Clock_days_24 : decode cd_Clock_days 24 = .ok (.getfield 117, 3) := by decide +kernel
theorem dc_Clock_days_27 : decode cd_Clock_days 27 = .ok (.aload_n 0, 1) := by decide +kernel
theorem dc_Clock_days_28 : decode cd_Clock_days 28 = .ok (.getfield 38, 3) := by decide +kernel
theorem dc_Clock_days_31 : decode cd_Clock_days 31 = .ok (.invokevirtual 120, 3) := by decide +kernel
theorem dc_Clock_days_34 : decode cd_Clock_days 34 = .ok (.iload_n 1, 1) := by decide +kernel
theorem dc_Clock_days_35 : decode cd_Clock_days 35 = .ok (.ireturn, 1) := by decide +kernel
theorem dc_Clock_chooseDeputies_0 : decode cd_Clock_chooseDeputies 0 = .ok (.iload_n 1, 1) := by decide +kernel
theorem dc_Clock_chooseDeputies_1 : decode cd_Clock_chooseDeputies 1 = .ok (.aload_n 0, 1) := by decide +kernel
theorem dc_Clock_chooseDeputies_2 : decode cd_Clock_chooseDeputies 2 = .ok (.getfield 28, 3) := by decide +kernel
theorem dc_Clock_chooseDeputies_5 : decode cd_Clock_chooseDeputies 5 = .ok (.getfield 263, 3) := by decide +kernel
theorem dc_Clock_chooseDeputies_8 : decode cd_Clock_chooseDeputies 8 = .ok (.if_icmp .lt 40, 3) := by decide +kernel
theorem dc_Clock_chooseDeputies_11 : decode cd_Clock_chooseDeputies 11 = .ok (.aload_n 0, 1) := by decide +kernel
theorem dc_Clock_chooseDeputies_12 : decode cd_Clock_chooseDeputies 12 = .ok (.getfield 266, 3) := by decide +kernel
theorem dc_Clock_chooseDeputies_15 : decode cd_Clock_chooseDeputies 15 = .ok (.iconst (-1), 1) := by decide +kernel
theorem dc_Clock_chooseDeputies_16 : decode cd_Clock_chooseDeputies 16 = .ok (.if_icmp .eq 11, 3) := by decide +kernel
theorem dc_Clock_chooseDeputies_19 : decode cd_Clock_chooseDeputies 19 = .ok (.iload_n 3, 1) := by decide +kernel
theorem dc_Clock_chooseDeputies_20 : decode cd_Clock_chooseDeputies 20 = .ok (.aload_n 0, 1) := by decide +kernel
theorem dc_Clock_chooseDeputies_21 : decode cd_Clock_chooseDeputies 21 = .ok (.getfield 266, 3) := by decide +kernel
theorem dc_Clock_chooseDeputies_24 : decode cd_Clock_chooseDeputies 24 = .ok (.if_icmp .ge 23, 3) := by decide +kernel
theorem dc_Clock_chooseDeputies_27 : decode cd_Clock_chooseDeputies 27 = .ok (.aload_n 0, 1) := by decide +kernel
theorem dc_Clock_chooseDeputies_28 : decode cd_Clock_chooseDeputies 28 = .ok (.iload_n 3, 1) := by decide +kernel
theorem dc_Clock_chooseDeputies_29 : decode cd_Clock_chooseDeputies 29 = .ok (.putfield 266, 3) := by decide +kernel
theorem dc_Clock_chooseDeputies_32 : decode cd_Clock_chooseDeputies 32 = .ok (.aload_n 0, 1) := by decide +kernel
theorem dc_Clock_chooseDeputies_33 : decode cd_Clock_chooseDeputies 33 = .ok (.getfield 85, 3) := by decide +kernel
theorem dc_Clock_chooseDeputies_36 : decode cd_Clock_chooseDeputies 36 = .ok (.iconst 0, 1) := by decide +kernel
theorem dc_Clock_chooseDeputies_37 : decode cd_Clock_chooseDeputies 37 = .ok (.aload_n 0, 1) := by decide +kernel
theorem dc_Clock_chooseDeputies_38 : decode cd_Clock_chooseDeputies 38 = .ok (.getfield 88, 3) := by decide +kernel
theorem dc_Clock_chooseDeputies_41 : decode cd_Clock_chooseDeputies 41 = .ok (.iconst 0, 1) := by decide +kernel
theorem dc_Clock_chooseDeputies_42 : decode cd_Clock_chooseDeputies 42 = .ok (.bipush 6, 2) := by decide +kernel
theorem dc_Clock_chooseDeputies_44 : decode cd_Clock_chooseDeputies 44 = .ok (.invokestatic 359, 3) := by decide +kernel
theorem dc_Clock_chooseDeputies_47 : decode cd_Clock_chooseDeputies 47 = .ok (.return_, 1) := by decide +kernel
theorem dc_Clock_chooseDeputies_48 : decode cd_Clock_chooseDeputies 48 = .ok (.aload_n 0, 1) := by decide +kernel
theorem dc_Clock_chooseDeputies_49 : decode cd_Clock_chooseDeputies 49 = .ok (.getfield 45, 3) := by decide +kernel
theorem dc_Clock_chooseDeputies_52 : decode cd_Clock_chooseDeputies 52 = .ok (.getfield 143, 3) := by decide +kernel
theorem dc_Clock_chooseDeputies_55 : decode cd_Clock_chooseDeputies 55 = .ok (.aload_n 0, 1) := by decide +kernel
theorem dc_Clock_chooseDeputies_56 : decode cd_Clock_chooseDeputies 56 = .ok (.getfield 45, 3) := by decide +kernel
theorem dc_Clock_chooseDeputies_59 : decode cd_Clock_chooseDeputies 59 = .ok (.getfield 143, 3) := by decide +kernel
theorem dc_Clock_chooseDeputies_62 : decode cd_Clock_chooseDeputies 62 = .ok (.getfield 172, 3) := by decide +kernel
theorem dc_Clock_chooseDeputies_65 : decode cd_Clock_chooseDeputies 65 = .ok (.iload_n 1, 1) := by decide +kernel
theorem dc_Clock_chooseDeputies_66 : decode cd_Clock_chooseDeputies 66 = .ok (.iaload, 1) := by decide +kernel
theorem dc_Clock_chooseDeputies_67 : decode cd_Clock_chooseDeputies 67 = .ok (.invokevirtual 146, 3) := by decide +kernel
theorem dc_Clock_chooseDeputies_70 : decode cd_Clock_chooseDeputies 70 = .ok (.ifCond .eq 20, 3) := by decide +kernel
theorem dc_Clock_chooseDeputies_73 : decode cd_Clock_chooseDeputies 73 = .ok (.aload_n 0, 1) := by decide +kernel
theorem dc_Clock_chooseDeputies_74 : decode cd_Clock_chooseDeputies 74 = .ok (.getfield 85, 3) := by decide +kernel
theorem dc_Clock_chooseDeputies_77 : decode cd_Clock_chooseDeputies 77 = .ok (.iload_n 1, 1) := by decide +kernel
theorem dc_Clock_chooseDeputies_78 : decode cd_Clock_chooseDeputies 78 = .ok (.iconst (-1), 1) := by decide +kernel
theorem dc_Clock_chooseDeputies_79 : decode cd_Clock_chooseDeputies 79 = .ok (.iastore, 1) := by decide +kernel
theorem dc_Clock_chooseDeputies_80 : decode cd_Clock_chooseDeputies 80 = .ok (.aload_n 0, 1) := by decide +kernel
theorem dc_Clock_chooseDeputies_81 : decode cd_Clock_chooseDeputies 81 = .ok (.iload_n 1, 1) := by decide +kernel
theorem dc_Clock_chooseDeputies_82 : decode cd_Clock_chooseDeputies 82 = .ok (.iconst 1, 1) := by decide +kernel
theorem dc_Clock_chooseDeputies_83 : decode cd_Clock_chooseDeputies 83 = .ok (.iadd, 1) := by decide +kernel
theorem dc_Clock_chooseDeputies_84 : decode cd_Clock_chooseDeputies 84 = .ok (.iload_n 2, 1) := by decide +kernel
theorem dc_Clock_chooseDeputies_85 : decode cd_Clock_chooseDeputies 85 = .ok (.iload_n 3, 1) := by decide +kernel
theorem dc_Clock_chooseDeputies_86 : decode cd_Clock_chooseDeputies 86 = .ok (.invokevirtual 269, 3) := by decide +kernel
theorem dc_Clock_chooseDeputies_89 : decode cd_Clock_chooseDeputies 89 = .ok (.return_, 1) := by decide +kernel
theorem dc_Clock_chooseDeputies_90 : decode cd_Clock_chooseDeputies 90 = .ok (.iconst 0, 1) := by decide +kernel
theorem dc_Clock_chooseDeputies_91 : decode cd_Clock_chooseDeputies 91 = .ok (.istore 4, 2) := by decide +kernel
theorem dc_Clock_chooseDeputies_93 : decode cd_Clock_chooseDeputies 93 = .ok (.iload 4, 2) := by decide +kernel
theorem dc_Clock_chooseDeputies_95 : decode cd_Clock_chooseDeputies 95 = .ok (.aload_n 0, 1) := by decide +kernel
theorem dc_Clock_chooseDeputies_96 : decode cd_Clock_chooseDeputies 96 = .ok (.getfield 28, 3) := by decide +kernel
theorem dc_Clock_chooseDeputies_99 : decode cd_Clock_chooseDeputies 99 = .ok (.getfield 282, 3) := by decide +kernel
theorem dc_Clock_chooseDeputies_102 : decode cd_Clock_chooseDeputies 102 = .ok (.if_icmp .ge 83, 3) := by decide +kernel
theorem dc_Clock_chooseDeputies_105 : decode cd_Clock_chooseDeputies 105 = .ok (.iload_n 2, 1) := by decide +kernel
theorem dc_Clock_chooseDeputies_106 : decode cd_Clock_chooseDeputies 106 = .ok (.iload 4, 2) := by decide +kernel
theorem dc_Clock_chooseDeputies_108 : decode cd_Clock_chooseDeputies 108 = .ok (.ishr, 1) := by decide +kernel
theorem dc_Clock_chooseDeputies_109 : decode cd_Clock_chooseDeputies 109 = .ok (.iconst 1, 1) := by decide +kernel
theorem dc_Clock_chooseDeputies_110 : decode cd_Clock_chooseDeputies 110 = .ok (.iand, 1) := by decide +kernel
theorem dc_Clock_chooseDeputies_111 : decode cd_Clock_chooseDeputies 111 = .ok (.ifCond .ne 7, 3) := by decide +kernel
theorem dc_Clock_chooseDeputies_114 : decode cd_Clock_chooseDeputies 114 = .ok (.iconst 1, 1) := by decide +kernel
theorem dc_Clock_chooseDeputies_115 : decode cd_Clock_chooseDeputies 115 = .ok (.goto 4, 3) := by decide +kernel
theorem dc_Clock_chooseDeputies_118 : decode cd_Clock_chooseDeputies 118 = .ok (.iconst 0, 1) := by decide +kernel
theorem dc_Clock_chooseDeputies_119 : decode cd_Clock_chooseDeputies 119 = .ok (.istore 5, 2) := by decide +kernel
theorem dc_Clock_chooseDeputies_121 : decode cd_Clock_chooseDeputies 121 = .ok (.iload 5, 2) := by decide +kernel
theorem dc_Clock_chooseDeputies_123 : decode cd_Clock_chooseDeputies 123 = .ok (.ifCond .eq 56, 3) := by decide +kernel
theorem dc_Clock_chooseDeputies_126 : decode cd_Clock_chooseDeputies 126 = .ok (.aload_n 0, 1) := by decide +kernel
theorem dc_Clock_chooseDeputies_127 : decode cd_Clock_chooseDeputies 127 = .ok (.getfield 45, 3) := by decide +kernel
theorem dc_Clock_chooseDeputies_130 : decode cd_Clock_chooseDeputies 130 = .ok (.getfield 143, 3) := by decide +kernel
theorem dc_Clock_chooseDeputies_133 : decode cd_Clock_chooseDeputies 133 = .ok (.aload_n 0, 1) := by decide +kernel
theorem dc_Clock_chooseDeputies_134 : decode cd_Clock_chooseDeputies 134 = .ok (.getfield 28, 3) := by decide +kernel
theorem dc_Clock_chooseDeputies_137 : decode cd_Clock_chooseDeputies 137 = .ok (.iload_n 1, 1) := by decide +kernel
theorem dc_Clock_chooseDeputies_138 : decode cd_Clock_chooseDeputies 138 = .ok (.iload 4, 2) := by decide +kernel
theorem dc_Clock_chooseDeputies_140 : decode cd_Clock_chooseDeputies 140 = .ok (.invokevirtual 205, 3) := by decide +kernel
theorem dc_Clock_chooseDeputies_143 : decode cd_Clock_chooseDeputies 143 = .ok (.ifCond .eq 36, 3) := by decide +kernel
theorem dc_Clock_chooseDeputies_146 : decode cd_Clock_chooseDeputies 146 = .ok (.aload_n 0, 1) := by decide +kernel
theorem dc_Clock_chooseDeputies_147 : decode cd_Clock_chooseDeputies 147 = .ok (.getfield 85, 3) := by decide +kernel
theorem dc_Clock_chooseDeputies_150 : decode cd_Clock_chooseDeputies 150 = .ok (.iload_n 1, 1) := by decide +kernel
theorem dc_Clock_chooseDeputies_151 : decode cd_Clock_chooseDeputies 151 = .ok (.iload 4, 2) := by decide +kernel
theorem dc_Clock_chooseDeputies_153 : decode cd_Clock_chooseDeputies 153 = .ok (.iastore, 1) := by decide +kernel
theorem dc_Clock_chooseDeputies_154 : decode cd_Clock_chooseDeputies 154 = .ok (.aload_n 0, 1) := by decide +kernel
theorem dc_Clock_chooseDeputies_155 : decode cd_Clock_chooseDeputies 155 = .ok (.iload_n 1, 1) := by decide +kernel
theorem dc_Clock_chooseDeputies_156 : decode cd_Clock_chooseDeputies 156 = .ok (.iconst 1, 1) := by decide +kernel
theorem dc_Clock_chooseDeputies_157 : decode cd_Clock_chooseDeputies 157 = .ok (.iadd, 1) := by decide +kernel
theorem dc_Clock_chooseDeputies_158 : decode cd_Clock_chooseDeputies 158 = .ok (.iload_n 2, 1) := by decide +kernel
theorem dc_Clock_chooseDeputies_159 : decode cd_Clock_chooseDeputies 159 = .ok (.iconst 1, 1) := by decide +kernel
theorem dc_Clock_chooseDeputies_160 : decode cd_Clock_chooseDeputies 160 = .ok (.iload 4, 2) := by decide +kernel
theorem dc_Clock_chooseDeputies_162 : decode cd_Clock_chooseDeputies 162 = .ok (.ishl, 1) := by decide +kernel
theorem dc_Clock_chooseDeputies_163 : decode cd_Clock_chooseDeputies 163 = .ok (.ior, 1) := by decide +kernel
theorem dc_Clock_chooseDeputies_164 : decode cd_Clock_chooseDeputies 164 = .ok (.iload_n 3, 1) := by decide +kernel
theorem dc_Clock_chooseDeputies_165 : decode cd_Clock_chooseDeputies 165 = .ok (.aload_n 0, 1) := by decide +kernel
theorem dc_Clock_chooseDeputies_166 : decode cd_Clock_chooseDeputies 166 = .ok (.getfield 67, 3) := by decide +kernel
theorem dc_Clock_chooseDeputies_169 : decode cd_Clock_chooseDeputies 169 = .ok (.iload_n 1, 1) := by decide +kernel
theorem dc_Clock_chooseDeputies_170 : decode cd_Clock_chooseDeputies 170 = .ok (.iload 4, 2) := by decide +kernel
theorem dc_Clock_chooseDeputies_172 : decode cd_Clock_chooseDeputies 172 = .ok (.invokevirtual 365, 3) := by decide +kernel
theorem dc_Clock_chooseDeputies_175 : decode cd_Clock_chooseDeputies 175 = .ok (.iadd, 1) := by decide +kernel
theorem dc_Clock_chooseDeputies_176 : decode cd_Clock_chooseDeputies 176 = .ok (.invokevirtual 269, 3) := by decide +kernel
theorem dc_Clock_chooseDeputies_179 : decode cd_Clock_chooseDeputies 179 = .ok (.iinc 4 1, 3) := by decide +kernel
theorem dc_Clock_chooseDeputies_182 : decode cd_Clock_chooseDeputies 182 = .ok (.goto (-89), 3) := by decide +kernel
theorem dc_Clock_chooseDeputies_185 : decode cd_Clock_chooseDeputies 185 = .ok (.return_, 1) := by decide +kernel
theorem dc_Clock_deputies_0 : decode cd_Clock_deputies 0 = .ok (.iload_n 1, 1) := by decide +kernel
theorem dc_Clock_deputies_1 : decode cd_Clock_deputies 1 = .ok (.iconst (-1), 1) := by decide +kernel
theorem dc_Clock_deputies_2 : decode cd_Clock_deputies 2 = .ok (.if_icmp .lt 14, 3) := by decide +kernel
theorem dc_Clock_deputies_5 : decode cd_Clock_deputies 5 = .ok (.iload_n 1, 1) := by decide +kernel
theorem dc_Clock_deputies_6 : decode cd_Clock_deputies 6 = .ok (.aload_n 0, 1) := by decide +kernel
theorem dc_Clock_deputies_7 : decode cd_Clock_deputies 7 = .ok (.getfield 28, 3) := by decide +kernel
theorem dc_Clock_deputies_10 : decode cd_Clock_deputies 10 = .ok (.getfield 263, 3) := by decide +kernel
theorem dc_Clock_deputies_13 : decode cd_Clock_deputies 13 = .ok (.if_icmp .lt 6, 3) := by decide +kernel
theorem dc_Clock_deputies_16 : decode cd_Clock_deputies 16 = .ok (.bipush (-2), 2) := by decide +kernel
theorem dc_Clock_deputies_18 : decode cd_Clock_deputies 18 = .ok (.ireturn, 1) := by decide +kernel
theorem dc_Clock_deputies_19 : decode cd_Clock_deputies 19 = .ok (.aload_n 0, 1) := by decide +kernel
theorem dc_Clock_deputies_20 : decode cd_Clock_deputies 20 = .ok (.getfield 67, 3) := by decide +kernel
theorem dc_Clock_deputies_23 : decode cd_Clock_deputies 23 = .ok (.aload_n 0, 1) := by decide +kernel
theorem dc_Clock_deputies_24 : decode cd_Clock_deputies 24 = .ok (.getfield 28, 3) := by decide +kernel
theorem dc_Clock_deputies_27 : decode cd_Clock_deputies 27 = .ok (.aload_n 0, 1) := by decide +kernel
theorem dc_Clock_deputies_28 : decode cd_Clock_deputies 28 = .ok (.getfield 45, 3) := by decide +kernel
theorem dc_Clock_deputies_31 : decode cd_Clock_deputies 31 = .ok (.getfield 143, 3) := by decide +kernel
theorem dc_Clock_deputies_34 : decode cd_Clock_deputies 34 = .ok (.invokevirtual 161, 3) := by decide +kernel
theorem dc_Clock_deputies_37 : decode cd_Clock_deputies 37 = .ok (.aload_n 0, 1) := by decide +kernel
theorem dc_Clock_deputies_38 : decode cd_Clock_deputies 38 = .ok (.iconst (-1), 1) := by decide +kernel
theorem dc_Clock_deputies_39 : decode cd_Clock_deputies 39 = .ok (.putfield 266, 3) := by decide +kernel
theorem dc_Clock_deputies_42 : decode cd_Clock_deputies 42 = .ok (.aload_n 0, 1) := by decide +kernel
theorem dc_Clock_deputies_43 : decode cd_Clock_deputies 43 = .ok (.iconst 0, 1) := by decide +kernel
theorem dc_Clock_deputies_44 : decode cd_Clock_deputies 44 = .ok (.iconst 0, 1) := by decide +kernel
theorem dc_Clock_deputies_45 : decode cd_Clock_deputies 45 = .ok (.iconst 0, 1) := by decide +kernel
theorem dc_Clock_deputies_46 : decode cd_Clock_deputies 46 = .ok (.invokevirtual 269, 3) := by decide +kernel
theorem dc_Clock_deputies_49 : decode cd_Clock_deputies 49 = .ok (.aload_n 0, 1) := by decide +kernel
theorem dc_Clock_deputies_50 : decode cd_Clock_deputies 50 = .ok (.getfield 266, 3) := by decide +kernel
theorem dc_Clock_deputies_53 : decode cd_Clock_deputies 53 = .ok (.iconst (-1), 1) := by decide +kernel
theorem dc_Clock_deputies_54 : decode cd_Clock_deputies 54 = .ok (.if_icmp .ne 6, 3) := by decide +kernel
theorem dc_Clock_deputies_57 : decode cd_Clock_deputies 57 = .ok (.bipush (-2), 2) := by decide +kernel
theorem dc_Clock_deputies_59 : decode cd_Clock_deputies 59 = .ok (.ireturn, 1) := by decide +kernel
theorem dc_Clock_deputies_60 : decode cd_Clock_deputies 60 = .ok (.iload_n 1, 1) := by decide +kernel
theorem dc_Clock_deputies_61 : decode cd_Clock_deputies 61 = .ok (.iconst (-1), 1) := by decide +kernel
theorem dc_Clock_deputies_62 : decode cd_Clock_deputies 62 = .ok (.if_icmp .ne 10, 3) := by decide +kernel
theorem dc_Clock_deputies_65 : decode cd_Clock_deputies 65 = .ok (.aload_n 0, 1) := by decide +kernel
theorem dc_Clock_deputies_66 : decode cd_Clock_deputies 66 = .ok (.getfield 266, 3) := by decide +kernel
theorem dc_Clock_deputies_69 : decode cd_Clock_deputies 69 = .ok (.goto 9, 3) := by decide +kernel
theorem dc_Clock_deputies_72 : decode cd_Clock_deputies 72 = .ok (.aload_n 0, 1) := by decide +kernel
theorem dc_Clock_deputies_73 : decode cd_Clock_deputies 73 = .ok (.getfield 88, 3) := by decide +kernel
theorem dc_Clock_deputies_76 : decode cd_Clock_deputies 76 = .ok (.iload_n 1, 1) := by decide +kernel
theorem dc_Clock_deputies_77 : decode cd_Clock_deputies 77 = .ok (.iaload, 1) := by decide +kernel
theorem dc_Clock_deputies_78 : decode cd_Clock_deputies 78 = .ok (.ireturn, 1) := by decide +kernel
theorem dc_Law_readLevel_0 : decode cd_Law_readLevel 0 = .ok (.iload_n 2, 1) := by decide +kernel
theorem dc_Law_readLevel_1 : decode cd_Law_readLevel 1 = .ok (.iconst 3, 1) := by decide +kernel
theorem dc_Law_readLevel_2 : decode cd_Law_readLevel 2 = .ok (.if_icmp .le 10, 3) := by decide +kernel
theorem dc_Law_readLevel_5 : decode cd_Law_readLevel 5 = .ok (.aload_n 0, 1) := by decide +kernel
theorem dc_Law_readLevel_6 : decode cd_Law_readLevel 6 = .ok (.aload_n 1, 1) := by decide +kernel
theorem dc_Law_readLevel_7 : decode cd_Law_readLevel 7 = .ok (.iload_n 3, 1) := by decide +kernel
theorem dc_Law_readLevel_8 : decode cd_Law_readLevel 8 = .ok (.invokevirtual 26, 3) := by decide +kernel
theorem dc_Law_readLevel_11 : decode cd_Law_readLevel 11 = .ok (.ireturn, 1) := by decide +kernel
theorem dc_Law_readLevel_12 : decode cd_Law_readLevel 12 = .ok (.aload_n 0, 1) := by decide +kernel
theorem dc_Law_readLevel_13 : decode cd_Law_readLevel 13 = .ok (.aload_n 1, 1) := by decide +kernel
theorem dc_Law_readLevel_14 : decode cd_Law_readLevel 14 = .ok (.iload_n 2, 1) := by decide +kernel
theorem dc_Law_readLevel_15 : decode cd_Law_readLevel 15 = .ok (.iconst 1, 1) := by decide +kernel
theorem dc_Law_readLevel_16 : decode cd_Law_readLevel 16 = .ok (.iadd, 1) := by decide +kernel
theorem dc_Law_readLevel_17 : decode cd_Law_readLevel 17 = .ok (.iload_n 3, 1) := by decide +kernel
theorem dc_Law_readLevel_18 : decode cd_Law_readLevel 18 = .ok (.invokevirtual 30, 3) := by decide +kernel
theorem dc_Law_readLevel_21 : decode cd_Law_readLevel 21 = .ok (.ifCond .ne 5, 3) := by decide +kernel
theorem dc_Law_readLevel_24 : decode cd_Law_readLevel 24 = .ok (.iconst 0, 1) := by decide +kernel
theorem dc_Law_readLevel_25 : decode cd_Law_readLevel 25 = .ok (.ireturn, 1) := by decide +kernel
theorem dc_Law_readLevel_26 : decode cd_Law_readLevel 26 = .ok (.iconst 0, 1) := by decide +kernel
theorem dc_Law_readLevel_27 : decode cd_Law_readLevel 27 = .ok (.istore 4, 2) := by decide +kernel
theorem dc_Law_readLevel_29 : decode cd_Law_readLevel 29 = .ok (.iload 4, 2) := by decide +kernel
theorem dc_Law_readLevel_31 : decode cd_Law_readLevel 31 = .ok (.sipush 1000, 3) := by decide +kernel
theorem dc_Law_readLevel_34 : decode cd_Law_readLevel 34 = .ok (.if_icmp .ge 58, 3) := by decide +kernel
theorem dc_Law_readLevel_37 : decode cd_Law_readLevel 37 = .ok (.aload_n 1, 1) := by decide +kernel
theorem dc_Law_readLevel_38 : decode cd_Law_readLevel 38 = .ok (.iload_n 2, 1) := by decide +kernel
theorem dc_Law_readLevel_39 : decode cd_Law_readLevel 39 = .ok (.invokestatic 34, 3) := by decide +kernel
theorem dc_Law_readLevel_42 : decode cd_Law_readLevel 42 = .ok (.istore 5, 2) := by decide +kernel
theorem dc_Law_readLevel_44 : decode cd_Law_readLevel 44 = .ok (.iload 5, 2) := by decide +kernel
theorem dc_Law_readLevel_46 : decode cd_Law_readLevel 46 = .ok (.iconst (-1), 1) := by decide +kernel
theorem dc_Law_readLevel_47 : decode cd_Law_readLevel 47 = .ok (.if_icmp .eq 13, 3) := by decide +kernel
theorem dc_Law_readLevel_50 : decode cd_Law_readLevel 50 = .ok (.iload_n 2, 1) := by decide +kernel
theorem dc_Law_readLevel_51 : decode cd_Law_readLevel 51 = .ok (.iconst 1, 1) := by decide +kernel
theorem dc_Law_readLevel_52 : decode cd_Law_readLevel 52 = .ok (.if_icmp .ne 10, 3) := by decide +kernel
theorem dc_Law_readLevel_55 : decode cd_Law_readLevel 55 = .ok (.iload 4, 2) := by decide +kernel
theorem dc_Law_readLevel_57 : decode cd_Law_readLevel 57 = .ok (.ifCond .le 5, 3) := by decide +kernel
theorem dc_Law_readLevel_60 : decode cd_Law_readLevel 60 = .ok (.iconst 1, 1) := by decide +kernel
theorem dc_Law_readLevel_61 : decode cd_Law_readLevel 61 = .ok (.ireturn, 1) := by decide +kernel
theorem dc_Law_readLevel_62 : decode cd_Law_readLevel 62 = .ok (.aload_n 1, 1) := by decide +kernel
theorem dc_Law_readLevel_63 : decode cd_Law_readLevel 63 = .ok (.invokevirtual 38, 3) := by decide +kernel
theorem dc_Law_readLevel_66 : decode cd_Law_readLevel 66 = .ok (.aload_n 0, 1) := by decide +kernel
theorem dc_Law_readLevel_67 : decode cd_Law_readLevel 67 = .ok (.aload_n 1, 1) := by decide +kernel
theorem dc_Law_readLevel_68 : decode cd_Law_readLevel 68 = .ok (.iload_n 2, 1) := by decide +kernel
theorem dc_Law_readLevel_69 : decode cd_Law_readLevel 69 = .ok (.iconst 1, 1) := by decide +kernel
theorem dc_Law_readLevel_70 : decode cd_Law_readLevel 70 = .ok (.iadd, 1) := by decide +kernel
theorem dc_Law_readLevel_71 : decode cd_Law_readLevel 71 = .ok (.iload_n 3, 1) := by decide +kernel
theorem dc_Law_readLevel_72 : decode cd_Law_readLevel 72 = .ok (.invokevirtual 30, 3) := by decide +kernel
theorem dc_Law_readLevel_75 : decode cd_Law_readLevel 75 = .ok (.ifCond .ne 5, 3) := by decide +kernel
theorem dc_Law_readLevel_78 : decode cd_Law_readLevel 78 = .ok (.iconst 0, 1) := by decide +kernel
theorem dc_Law_readLevel_79 : decode cd_Law_readLevel 79 = .ok (.ireturn, 1) := by decide +kernel
theorem dc_Law_readLevel_80 : decode cd_Law_readLevel 80 = .ok (.aload_n 0, 1) := by decide +kernel
theorem dc_Law_readLevel_81 : decode cd_Law_readLevel 81 = .ok (.iload 5, 2) := by decide +kernel
theorem dc_Law_readLevel_83 : decode cd_Law_readLevel 83 = .ok (.invokevirtual 22, 3) := by decide +kernel
theorem dc_Law_readLevel_86 : decode cd_Law_readLevel 86 = .ok (.iinc 4 1, 3) := by decide +kernel
theorem dc_Law_readLevel_89 : decode cd_Law_readLevel 89 = .ok (.goto (-60), 3) := by decide +kernel
theorem dc_Law_readLevel_92 : decode cd_Law_readLevel 92 = .ok (.iconst 1, 1) := by decide +kernel
theorem dc_Law_readLevel_93 : decode cd_Law_readLevel 93 = .ok (.ireturn, 1) := by decide +kernel
theorem dc_Law_readPart_0 : decode cd_Law_readPart 0 = .ok (.aload_n 1, 1) := by decide +kernel
theorem dc_Law_readPart_1 : decode cd_Law_readPart 1 = .ok (.bipush 40, 2) := by decide +kernel
theorem dc_Law_readPart_3 : decode cd_Law_readPart 3 = .ok (.invokevirtual 55, 3) := by decide +kernel
theorem dc_Law_readPart_6 : decode cd_Law_readPart 6 = .ok (.istore_n 3, 1) := by decide +kernel
theorem dc_Law_readPart_7 : decode cd_Law_readPart 7 = .ok (.aload_n 1, 1) := by decide +kernel
theorem dc_Law_readPart_8 : decode cd_Law_readPart 8 = .ok (.getfield 43, 3) := by decide +kernel
theorem dc_Law_readPart_11 : decode cd_Law_readPart 11 = .ok (.getstatic 59, 3) := by decide +kernel
theorem dc_Law_readPart_14 : decode cd_Law_readPart 14 = .ok (.if_acmp .ne 7, 3) := by decide +kernel
theorem dc_Law_readPart_17 : decode cd_Law_readPart 17 = .ok (.iconst 1, 1) := by decide +kernel
theorem dc_Law_readPart_18 : decode cd_Law_readPart 18 = .ok (.goto 4, 3) := by decide +kernel
theorem dc_Law_readPart_21 : decode cd_Law_readPart 21 = .ok (.iconst 0, 1) := by decide +kernel
theorem dc_Law_readPart_22 : decode cd_Law_readPart 22 = .ok (.istore 4, 2) := by decide +kernel
theorem dc_Law_readPart_24 : decode cd_Law_readPart 24 = .ok (.aload_n 1, 1) := by decide +kernel
theorem dc_Law_readPart_25 : decode cd_Law_readPart 25 = .ok (.invokestatic 62, 3) := by decide +kernel
theorem dc_Law_readPart_28 : decode cd_Law_readPart 28 = .ok (.istore 5, 2) := by decide +kernel
theorem dc_Law_readPart_30 : decode cd_Law_readPart 30 = .ok (.iload_n 3, 1) := by decide +kernel
theorem dc_Law_readPart_31 : decode cd_Law_readPart 31 = .ok (.ifCond .ne 20, 3) := by decide +kernel
theorem dc_Law_readPart_34 : decode cd_Law_readPart 34 = .ok (.iload 4, 2) := by decide +kernel
theorem dc_Law_readPart_36 : decode cd_Law_readPart 36 = .ok (.ifCond .ne 15, 3) := by decide +kernel
theorem dc_Law_readPart_39 : decode cd_Law_readPart 39 = .ok (.iload 5, 2) := by decide +kernel
theorem dc_Law_readPart_41 : decode cd_Law_readPart 41 = .ok (.iconst (-1), 1) := by decide +kernel
theorem dc_Law_readPart_42 : decode cd_Law_readPart 42 = .ok (.if_icmp .ne 9, 3) := by decide +kernel
theorem dc_Law_readPart_45 : decode cd_Law_readPart 45 = .ok (.aload_n 1, 1) := by decide +kernel
theorem dc_Law_readPart_46 : decode cd_Law_readPart 46 = .ok (.iconst 1, 1) := by decide +kernel
theorem dc_Law_readPart_47 : decode cd_Law_readPart 47 = .ok (.invokevirtual 66, 3) := by decide +kernel
theorem dc_Law_readPart_50 : decode cd_Law_readPart 50 = .ok (.ireturn, 1) := by decide +kernel
theorem dc_Law_readPart_51 : decode cd_Law_readPart 51 = .ok (.iload_n 2, 1) := by decide +kernel
theorem dc_Law_readPart_52 : decode cd_Law_readPart 52 = .ok (.iconst 5, 1) := by decide +kernel
theorem dc_Law_readPart_53 : decode cd_Law_readPart 53 = .ok (.if_icmp .lt 9, 3) := by decide +kernel
theorem dc_Law_readPart_56 : decode cd_Law_readPart 56 = .ok (.aload_n 1, 1) := by decide +kernel
theorem dc_Law_readPart_57 : decode cd_Law_readPart 57 = .ok (.iconst 5, 1) := by decide +kernel
theorem dc_Law_readPart_58 : decode cd_Law_readPart 58 = .ok (.invokevirtual 66, 3) := by decide +kernel
theorem dc_Law_readPart_61 : decode cd_Law_readPart 61 = .ok (.ireturn, 1) := by decide +kernel
theorem dc_Law_readPart_62 : decode cd_Law_readPart 62 = .ok (.aload_n 1, 1) := by decide +kernel
theorem dc_Law_readPart_63 : decode cd_Law_readPart 63 = .ok (.invokevirtual 38, 3) := by decide +kernel
theorem dc_Law_readPart_66 : decode cd_Law_readPart 66 = .ok (.iload_n 3, 1) := by decide +kernel
theorem dc_Law_readPart_67 : decode cd_Law_readPart 67 = .ok (.ifCond .eq 30, 3) := by decide +kernel
theorem dc_Law_readPart_70 : decode cd_Law_readPart 70 = .ok (.aload_n 0, 1) := by decide +kernel
theorem dc_Law_readPart_71 : decode cd_Law_readPart 71 = .ok (.aload_n 1, 1) := by decide +kernel
theorem dc_Law_readPart_72 : decode cd_Law_readPart 72 = .ok (.iconst 0, 1) := by decide +kernel
theorem dc_Law_readPart_73 : decode cd_Law_readPart 73 = .ok (.iload_n 2, 1) := by decide +kernel
theorem dc_Law_readPart_74 : decode cd_Law_readPart 74 = .ok (.iconst 1, 1) := by decide +kernel
theorem dc_Law_readPart_75 : decode cd_Law_readPart 75 = .ok (.iadd, 1) := by decide +kernel
theorem dc_Law_readPart_76 : decode cd_Law_readPart 76 = .ok (.invokevirtual 30, 3) := by decide +kernel
theorem dc_Law_readPart_79 : decode cd_Law_readPart 79 = .ok (.ifCond .eq 16, 3) := by decide +kernel
theorem dc_Law_readPart_82 : decode cd_Law_readPart 82 = .ok (.aload_n 1, 1) := by decide +kernel
theorem dc_Law_readPart_83 : decode cd_Law_readPart 83 = .ok (.bipush 41, 2) := by decide +kernel
theorem dc_Law_readPart_85 : decode cd_Law_readPart 85 = .ok (.invokevirtual 70, 3) := by decide +kernel
theorem dc_Law_readPart_88 : decode cd_Law_readPart 88 = .ok (.ifCond .eq 7, 3) := by decide +kernel
theorem dc_Law_readPart_91 : decode cd_Law_readPart 91 = .ok (.iconst 1, 1) := by decide +kernel
theorem dc_Law_readPart_92 : decode cd_Law_readPart 92 = .ok (.goto 4, 3) := by decide +kernel
theorem dc_Law_readPart_95 : decode cd_Law_readPart 95 = .ok (.iconst 0, 1) := by decide +kernel
theorem dc_Law_readPart_96 : decode cd_Law_readPart 96 = .ok (.ireturn, 1) := by decide +kernel
theorem dc_Law_readPart_97 : decode cd_Law_readPart 97 = .ok (.iload 4, 2) := by decide +kernel
theorem dc_Law_readPart_99 : decode cd_Law_readPart 99 = .ok (.ifCond .eq 16, 3) := by decide +kernel
theorem dc_Law_readPart_102 : decode cd_Law_readPart 102 = .ok (.aload_n 0, 1) := by decide +kernel
theorem dc_Law_readPart_103 : decode cd_Law_readPart 103 = .ok (.aload_n 1, 1) := by decide +kernel
theorem dc_Law_readPart_104 : decode cd_Law_readPart 104 = .ok (.iload_n 2, 1) := by decide +kernel
theorem dc_Law_readPart_105 : decode cd_Law_readPart 105 = .ok (.iconst 1, 1) := by decide +kernel
theorem dc_Law_readPart_106 : decode cd_Law_readPart 106 = .ok (.iadd, 1) := by decide +kernel
theorem dc_Law_readPart_107 : decode cd_Law_readPart 107 = .ok (.invokevirtual 26, 3) := by decide +kernel
theorem dc_Law_readPart_110 : decode cd_Law_readPart 110 = .ok (.ifCond .ne 5, 3) := by decide +kernel
theorem dc_Law_readPart_113 : decode cd_Law_readPart 113 = .ok (.iconst 0, 1) := by decide +kernel
theorem dc_Law_readPart_114 : decode cd_Law_readPart 114 = .ok (.ireturn, 1) := by decide +kernel
theorem dc_Law_readPart_115 : decode cd_Law_readPart 115 = .ok (.aload_n 0, 1) := by decide +kernel
theorem dc_Law_readPart_116 : decode cd_Law_readPart 116 = .ok (.iload 4, 2) := by decide +kernel
theorem dc_Law_readPart_118 : decode cd_Law_readPart 118 = .ok (.ifCond .eq 8, 3) := by decide +kernel
theorem dc_Law_readPart_121 : decode cd_Law_readPart 121 = .ok (.bipush (-5), 2) := by decide +kernel
theorem dc_Law_readPart_123 : decode cd_Law_readPart 123 = .ok (.goto 5, 3) := by decide +kernel
theorem dc_Law_readPart_126 : decode cd_Law_readPart 126 = .ok (.iload 5, 2) := by decide +kernel
theorem dc_Law_readPart_128 : decode cd_Law_readPart 128 = .ok (.invokevirtual 22, 3) := by decide +kernel
theorem dc_Law_readPart_131 : decode cd_Law_readPart 131 = .ok (.iconst 1, 1) := by decide +kernel
theorem dc_Law_readPart_132 : decode cd_Law_readPart 132 = .ok (.ireturn, 1) := by decide +kernel
theorem dc_HillsReader_readMissed_0 : decode cd_HillsReader_readMissed 0 = .ok (.aload_n 0, 1) := by decide +kernel
theorem dc_HillsReader_readMissed_1 : decode cd_HillsReader_readMissed 1 = .ok (.getfield 24, 3) := by decide +kernel
theorem dc_HillsReader_readMissed_4 : decode cd_HillsReader_readMissed 4 = .ok (.ifCond .eq 12, 3) := by decide +kernel
theorem dc_HillsReader_readMissed_7 : decode cd_HillsReader_readMissed 7 = .ok (.aload_n 0, 1) := by decide +kernel
theorem dc_HillsReader_readMissed_8 : decode cd_HillsReader_readMissed 8 = .ok (.getfield 9, 3) := by decide +kernel
theorem dc_HillsReader_readMissed_11 : decode cd_HillsReader_readMissed 11 = .ok (.iconst 3, 1) := by decide +kernel
theorem dc_HillsReader_readMissed_12 : decode cd_HillsReader_readMissed 12 = .ok (.invokevirtual 100, 3) := by decide +kernel
theorem dc_HillsReader_readMissed_15 : decode cd_HillsReader_readMissed 15 = .ok (.ireturn, 1) := by decide +kernel
theorem dc_HillsReader_readMissed_16 : decode cd_HillsReader_readMissed 16 = .ok (.aload_n 0, 1) := by decide +kernel
theorem dc_HillsReader_readMissed_17 : decode cd_HillsReader_readMissed 17 = .ok (.iconst 1, 1) := by decide +kernel
theorem dc_HillsReader_readMissed_18 : decode cd_HillsReader_readMissed 18 = .ok (.putfield 24, 3) := by decide +kernel
theorem dc_HillsReader_readMissed_21 : decode cd_HillsReader_readMissed 21 = .ok (.aload_n 0, 1) := by decide +kernel
theorem dc_HillsReader_readMissed_22 : decode cd_HillsReader_readMissed 22 = .ok (.getfield 9, 3) := by decide +kernel
theorem dc_HillsReader_readMissed_25 : decode cd_HillsReader_readMissed 25 = .ok (.invokevirtual 110, 3) := by decide +kernel
theorem dc_HillsReader_readMissed_28 : decode cd_HillsReader_readMissed 28 = .ok (.aload_n 0, 1) := by decide +kernel
theorem dc_HillsReader_readMissed_29 : decode cd_HillsReader_readMissed 29 = .ok (.getfield 15, 3) := by decide +kernel
theorem dc_HillsReader_readMissed_32 : decode cd_HillsReader_readMissed 32 = .ok (.getfield 255, 3) := by decide +kernel
theorem dc_HillsReader_readMissed_35 : decode cd_HillsReader_readMissed 35 = .ok (.invokevirtual 259, 3) := by decide +kernel
theorem dc_HillsReader_readMissed_38 : decode cd_HillsReader_readMissed 38 = .ok (.aload_n 0, 1) := by decide +kernel
theorem dc_HillsReader_readMissed_39 : decode cd_HillsReader_readMissed 39 = .ok (.getfield 15, 3) := by decide +kernel
theorem dc_HillsReader_readMissed_42 : decode cd_HillsReader_readMissed 42 = .ok (.getfield 255, 3) := by decide +kernel
theorem dc_HillsReader_readMissed_45 : decode cd_HillsReader_readMissed 45 = .ok (.aload_n 0, 1) := by decide +kernel
theorem dc_HillsReader_readMissed_46 : decode cd_HillsReader_readMissed 46 = .ok (.getfield 9, 3) := by decide +kernel
theorem dc_HillsReader_readMissed_49 : decode cd_HillsReader_readMissed 49 = .ok (.iconst 0, 1) := by decide +kernel
theorem dc_HillsReader_readMissed_50 : decode cd_HillsReader_readMissed 50 = .ok (.iconst 0, 1) := by decide +kernel
theorem dc_HillsReader_readMissed_51 : decode cd_HillsReader_readMissed 51 = .ok (.invokevirtual 264, 3) := by decide +kernel
theorem dc_HillsReader_readMissed_54 : decode cd_HillsReader_readMissed 54 = .ok (.ifCond .eq 19, 3) := by decide +kernel
theorem dc_HillsReader_readMissed_57 : decode cd_HillsReader_readMissed 57 = .ok (.aload_n 0, 1) := by decide +kernel
theorem dc_HillsReader_readMissed_58 : decode cd_HillsReader_readMissed 58 = .ok (.getfield 9, 3) := by decide +kernel
theorem dc_HillsReader_readMissed_61 : decode cd_HillsReader_readMissed 61 = .ok (.bipush 59, 2) := by decide +kernel
theorem dc_HillsReader_readMissed_63 : decode cd_HillsReader_readMissed 63 = .ok (.invokevirtual 145, 3) := by decide +kernel
theorem dc_HillsReader_readMissed_66 : decode cd_HillsReader_readMissed 66 = .ok (.ifCond .eq 7, 3) := by decide +kernel
theorem dc_HillsReader_readMissed_69 : decode cd_HillsReader_readMissed 69 = .ok (.iconst 1, 1) := by decide +kernel
theorem dc_HillsReader_readMissed_70 : decode cd_HillsReader_readMissed 70 = .ok (.goto 4, 3) := by decide +kernel
theorem dc_HillsReader_readMissed_73 : decode cd_HillsReader_readMissed 73 = .ok (.iconst 0, 1) := by decide +kernel
theorem dc_HillsReader_readMissed_74 : decode cd_HillsReader_readMissed 74 = .ok (.ireturn, 1) := by decide +kernel
theorem dc_HillsReader_read_0 : decode cd_HillsReader_read 0 = .ok (.aload_n 0, 1) := by decide +kernel
theorem dc_HillsReader_read_1 : decode cd_HillsReader_read 1 = .ok (.aload_n 1, 1) := by decide +kernel
theorem dc_HillsReader_read_2 : decode cd_HillsReader_read 2 = .ok (.putfield 15, 3) := by decide +kernel
theorem dc_HillsReader_read_5 : decode cd_HillsReader_read 5 = .ok (.aload_n 0, 1) := by decide +kernel
theorem dc_HillsReader_read_6 : decode cd_HillsReader_read 6 = .ok (.getfield 15, 3) := by decide +kernel
theorem dc_HillsReader_read_9 : decode cd_HillsReader_read 9 = .ok (.invokevirtual 19, 3) := by decide +kernel
theorem dc_HillsReader_read_12 : decode cd_HillsReader_read 12 = .ok (.aload_n 0, 1) := by decide +kernel
theorem dc_HillsReader_read_13 : decode cd_HillsReader_read 13 = .ok (.iconst 0, 1) := by decide +kernel
theorem dc_HillsReader_read_14 : decode cd_HillsReader_read 14 = .ok (.putfield 24, 3) := by decide +kernel
theorem dc_HillsReader_read_17 : decode cd_HillsReader_read 17 = .ok (.aload_n 0, 1) := by decide +kernel
theorem dc_HillsReader_read_18 : decode cd_HillsReader_read 18 = .ok (.getfield 9, 3) := by decide +kernel
theorem dc_HillsReader_read_21 : decode cd_HillsReader_read 21 = .ok (.invokevirtual 28, 3) := by decide +kernel
theorem dc_HillsReader_read_24 : decode cd_HillsReader_read 24 = .ok (.iconst 1, 1) := by decide +kernel
theorem dc_HillsReader_read_25 : decode cd_HillsReader_read 25 = .ok (.istore_n 2, 1) := by decide +kernel
theorem dc_HillsReader_read_26 : decode cd_HillsReader_read 26 = .ok (.iconst 0, 1) := by decide +kernel
theorem dc_HillsReader_read_27 : decode cd_HillsReader_read 27 = .ok (.istore_n 3, 1) := by decide +kernel
theorem dc_HillsReader_read_28 : decode cd_HillsReader_read 28 = .ok (.iload_n 3, 1) := by decide +kernel
theorem dc_HillsReader_read_29 : decode cd_HillsReader_read 29 = .ok (.sipush 1000, 3) := by decide +kernel
theorem dc_HillsReader_read_32 : decode cd_HillsReader_read 32 = .ok (.if_icmp .ge 244, 3) := by decide +kernel
theorem dc_HillsReader_read_35 : decode cd_HillsReader_read 35 = .ok (.iload_n 2, 1) := by decide +kernel
theorem dc_HillsReader_read_36 : decode cd_HillsReader_read 36 = .ok (.ifCond .eq 240, 3) := by decide +kernel
theorem dc_HillsReader_read_39 : decode cd_HillsReader_read 39 = .ok (.aload_n 0, 1) := by decide +kernel
theorem dc_HillsReader_read_40 : decode cd_HillsReader_read 40 = .ok (.getfield 9, 3) := by decide +kernel
theorem dc_HillsReader_read_43 : decode cd_HillsReader_read 43 = .ok (.invokevirtual 33, 3) := by decide +kernel
theorem dc_HillsReader_read_46 : decode cd_HillsReader_read 46 = .ok (.ifCond .ne 230, 3) := by decide +kernel
theorem dc_HillsReader_read_49 : decode cd_HillsReader_read 49 = .ok (.aload_n 0, 1) := by decide +kernel
theorem dc_HillsReader_read_50 : decode cd_HillsReader_read 50 = .ok (.getfield 9, 3) := by decide +kernel
theorem dc_HillsReader_read_53 : decode cd_HillsReader_read 53 = .ok (.getfield 37, 3) := by decide +kernel
theorem dc_HillsReader_read_56 : decode cd_HillsReader_read 56 = .ok (.astore 4, 2) := by decide +kernel
theorem dc_HillsReader_read_58 : decode cd_HillsReader_read 58 = .ok (.aload 4, 2) := by decide +kernel
theorem dc_HillsReader_read_60 : decode cd_HillsReader_read 60 = .ok (.getstatic 41, 3) := by decide +kernel
theorem dc_HillsReader_read_63 : decode cd_HillsReader_read 63 = .ok (.if_acmp .ne 33, 3) := by decide +kernel
theorem dc_HillsReader_read_66 : decode cd_HillsReader_read 66 = .ok (.aload_n 0, 1) := by decide +kernel
theorem dc_HillsReader_read_67 : decode cd_HillsReader_read 67 = .ok (.aload_n 0, 1) := by decide +kernel
theorem dc_HillsReader_read_68 : decode cd_HillsReader_read 68 = .ok (.getfield 15, 3) := by decide +kernel
theorem dc_HillsReader_read_71 : decode cd_HillsReader_read 71 = .ok (.getfield 46, 3) := by decide +kernel
theorem dc_HillsReader_read_74 : decode cd_HillsReader_read 74 = .ok (.invokevirtual 50, 3) := by decide +kernel
theorem dc_HillsReader_read_77 : decode cd_HillsReader_read 77 = .ok (.ifCond .eq 14, 3) := by decide +kernel
theorem dc_HillsReader_read_80 : decode cd_HillsReader_read 80 = .ok (.aload_n 0, 1) := by decide +kernel
theorem dc_HillsReader_read_81 : decode cd_HillsReader_read 81 = .ok (.invokevirtual 54, 3) := by decide +kernel
theorem dc_HillsReader_read_84 : decode cd_HillsReader_read 84 = .ok (.ifCond .eq 7, 3) := by decide +kernel
theorem dc_HillsReader_read_87 : decode cd_HillsReader_read 87 = .ok (.iconst 1, 1) := by decide +kernel
theorem dc_HillsReader_read_88 : decode cd_HillsReader_read 88 = .ok (.goto 4, 3) := by decide +kernel
theorem dc_HillsReader_read_91 : decode cd_HillsReader_read 91 = .ok (.iconst 0, 1) := by decide +kernel
theorem dc_HillsReader_read_92 : decode cd_HillsReader_read 92 = .ok (.istore_n 2, 1) := by decide +kernel
theorem dc_HillsReader_read_93 : decode cd_HillsReader_read 93 = .ok (.goto 177, 3) := by decide +kernel
theorem dc_HillsReader_read_96 : decode cd_HillsReader_read 96 = .ok (.aload 4, 2) := by decide +kernel
theorem dc_HillsReader_read_98 : decode cd_HillsReader_read 98 = .ok (.getstatic 57, 3) := by decide +kernel
theorem dc_HillsReader_read_101 : decode cd_HillsReader_read 101 = .ok (.if_acmp .ne 31, 3) := by decide +kernel
theorem dc_HillsReader_read_104 : decode cd_HillsReader_read 104 = .ok (.aload_n 0, 1) := by decide +kernel
theorem dc_HillsReader_read_105 : decode cd_HillsReader_read 105 = .ok (.getfield 9, 3) := by decide +kernel
theorem dc_HillsReader_read_108 : decode cd_HillsReader_read 108 = .ok (.aload 4, 2) := by decide +kernel
theorem dc_HillsReader_read_110 : decode cd_HillsReader_read 110 = .ok (.invokevirtual 60, 3) := by decide +kernel
theorem dc_HillsReader_read_113 : decode cd_HillsReader_read 113 = .ok (.ifCond .eq 14, 3) := by decide +kernel
theorem dc_HillsReader_read_116 : decode cd_HillsReader_read 116 = .ok (.aload_n 0, 1) := by decide +kernel
theorem dc_HillsReader_read_117 : decode cd_HillsReader_read 117 = .ok (.invokevirtual 64, 3) := by decide +kernel
theorem dc_HillsReader_read_120 : decode cd_HillsReader_read 120 = .ok (.ifCond .eq 7, 3) := by decide +kernel
theorem dc_HillsReader_read_123 : decode cd_HillsReader_read 123 = .ok (.iconst 1, 1) := by decide +kernel
theorem dc_HillsReader_read_124 : decode cd_HillsReader_read 124 = .ok (.goto 4, 3) := by decide +kernel
theorem dc_HillsReader_read_127 : decode cd_HillsReader_read 127 = .ok (.iconst 0, 1) := by decide +kernel
theorem dc_HillsReader_read_128 : decode cd_HillsReader_read 128 = .ok (.istore_n 2, 1) := by decide +kernel
theorem dc_HillsReader_read_129 : decode cd_HillsReader_read 129 = .ok (.goto 141, 3) := by decide +kernel
theorem dc_HillsReader_read_132 : decode cd_HillsReader_read 132 = .ok (.aload 4, 2) := by decide +kernel
theorem dc_HillsReader_read_134 : decode cd_HillsReader_read 134 = .ok (.getstatic 67, 3) := by decide +kernel
theorem dc_HillsReader_read_137 : decode cd_HillsReader_read 137 = .ok (.if_acmp .ne 33, 3) := by decide +kernel
theorem dc_HillsReader_read_140 : decode cd_HillsReader_read 140 = .ok (.aload_n 0, 1) := by decide +kernel
theorem dc_HillsReader_read_141 : decode cd_HillsReader_read 141 = .ok (.aload_n 0, 1) := by decide +kernel
theorem dc_HillsReader_read_142 : decode cd_HillsReader_read 142 = .ok (.getfield 15, 3) := by decide +kernel
theorem dc_HillsReader_read_145 : decode cd_HillsReader_read 145 = .ok (.getfield 70, 3) := by decide +kernel
theorem dc_HillsReader_read_148 : decode cd_HillsReader_read 148 = .ok (.invokevirtual 50, 3) := by decide +kernel
theorem dc_HillsReader_read_151 : decode cd_HillsReader_read 151 = .ok (.ifCond .eq 14, 3) := by decide +kernel
theorem dc_HillsReader_read_154 : decode cd_HillsReader_read 154 = .ok (.aload_n 0, 1) := by decide +kernel
theorem dc_HillsReader_read_155 : decode cd_HillsReader_read 155 = .ok (.invokevirtual 73, 3) := by decide +kernel
theorem dc_HillsReader_read_158 : decode cd_HillsReader_read 158 = .ok (.ifCond .eq 7, 3) := by decide +kernel
theorem dc_HillsReader_read_161 : decode cd_HillsReader_read 161 = .ok (.iconst 1, 1) := by decide +kernel
theorem dc_HillsReader_read_162 : decode cd_HillsReader_read 162 = .ok (.goto 4, 3) := by decide +kernel
theorem dc_HillsReader_read_165 : decode cd_HillsReader_read 165 = .ok (.iconst 0, 1) := by decide +kernel
theorem dc_HillsReader_read_166 : decode cd_HillsReader_read 166 = .ok (.istore_n 2, 1) := by decide +kernel
theorem dc_HillsReader_read_167 : decode cd_HillsReader_read 167 = .ok (.goto 103, 3) := by decide +kernel
theorem dc_HillsReader_read_170 : decode cd_HillsReader_read 170 = .ok (.aload 4, 2) := by decide +kernel
theorem dc_HillsReader_read_172 : decode cd_HillsReader_read 172 = .ok (.getstatic 76, 3) := by decide +kernel
theorem dc_HillsReader_read_175 : decode cd_HillsReader_read 175 = .ok (.if_acmp .ne 33, 3) := by decide +kernel
theorem dc_HillsReader_read_178 : decode cd_HillsReader_read 178 = .ok (.aload_n 0, 1) := by decide +kernel
theorem dc_HillsReader_read_179 : decode cd_HillsReader_read 179 = .ok (.aload_n 0, 1) := by decide +kernel
theorem dc_HillsReader_read_180 : decode cd_HillsReader_read 180 = .ok (.getfield 15, 3) := by decide +kernel
theorem dc_HillsReader_read_183 : decode cd_HillsReader_read 183 = .ok (.getfield 79, 3) := by decide +kernel
theorem dc_HillsReader_read_186 : decode cd_HillsReader_read 186 = .ok (.invokevirtual 50, 3) := by decide +kernel
theorem dc_HillsReader_read_189 : decode cd_HillsReader_read 189 = .ok (.ifCond .eq 14, 3) := by decide +kernel
theorem dc_HillsReader_read_192 : decode cd_HillsReader_read 192 = .ok (.aload_n 0, 1) := by decide +kernel
theorem dc_HillsReader_read_193 : decode cd_HillsReader_read 193 = .ok (.invokevirtual 82, 3) := by decide +kernel
theorem dc_HillsReader_read_196 : decode cd_HillsReader_read 196 = .ok (.ifCond .eq 7, 3) := by decide +kernel
theorem dc_HillsReader_read_199 : decode cd_HillsReader_read 199 = .ok (.iconst 1, 1) := by decide +kernel
theorem dc_HillsReader_read_200 : decode cd_HillsReader_read 200 = .ok (.goto 4, 3) := by decide +kernel
theorem dc_HillsReader_read_203 : decode cd_HillsReader_read 203 = .ok (.iconst 0, 1) := by decide +kernel
theorem dc_HillsReader_read_204 : decode cd_HillsReader_read 204 = .ok (.istore_n 2, 1) := by decide +kernel
theorem dc_HillsReader_read_205 : decode cd_HillsReader_read 205 = .ok (.goto 65, 3) := by decide +kernel
theorem dc_HillsReader_read_208 : decode cd_HillsReader_read 208 = .ok (.aload 4, 2) := by decide +kernel
theorem dc_HillsReader_read_210 : decode cd_HillsReader_read 210 = .ok (.getstatic 85, 3) := by decide +kernel
theorem dc_HillsReader_read_213 : decode cd_HillsReader_read 213 = .ok (.if_acmp .ne 33, 3) := by decide +kernel
theorem dc_HillsReader_read_216 : decode cd_HillsReader_read 216 = .ok (.aload_n 0, 1) := by decide +kernel
theorem dc_HillsReader_read_217 : decode cd_HillsReader_read 217 = .ok (.aload_n 0, 1) := by decide +kernel
theorem dc_HillsReader_read_218 : decode cd_HillsReader_read 218 = .ok (.getfield 15, 3) := by decide +kernel
theorem dc_HillsReader_read_221 : decode cd_HillsReader_read 221 = .ok (.getfield 88, 3) := by decide +kernel
theorem dc_HillsReader_read_224 : decode cd_HillsReader_read 224 = .ok (.invokevirtual 50, 3) := by decide +kernel
theorem dc_HillsReader_read_227 : decode cd_HillsReader_read 227 = .ok (.ifCond .eq 14, 3) := by decide +kernel
theorem dc_HillsReader_read_230 : decode cd_HillsReader_read 230 = .ok (.aload_n 0, 1) := by decide +kernel
theorem dc_HillsReader_read_231 : decode cd_HillsReader_read 231 = .ok (.invokevirtual 91, 3) := by decide +kernel
theorem dc_HillsReader_read_234 : decode cd_HillsReader_read 234 = .ok (.ifCond .eq 7, 3) := by decide +kernel
theorem dc_HillsReader_read_237 : decode cd_HillsReader_read 237 = .ok (.iconst 1, 1) := by decide +kernel
theorem dc_HillsReader_read_238 : decode cd_HillsReader_read 238 = .ok (.goto 4, 3) := by decide +kernel
theorem dc_HillsReader_read_241 : decode cd_HillsReader_read 241 = .ok (.iconst 0, 1) := by decide +kernel
theorem dc_HillsReader_read_242 : decode cd_HillsReader_read 242 = .ok (.istore_n 2, 1) := by decide +kernel
theorem dc_HillsReader_read_243 : decode cd_HillsReader_read 243 = .ok (.goto 27, 3) := by decide +kernel
theorem dc_HillsReader_read_246 : decode cd_HillsReader_read 246 = .ok (.aload 4, 2) := by decide +kernel
theorem dc_HillsReader_read_248 : decode cd_HillsReader_read 248 = .ok (.getstatic 94, 3) := by decide +kernel
theorem dc_HillsReader_read_251 : decode cd_HillsReader_read 251 = .ok (.if_acmp .ne 10, 3) := by decide +kernel
theorem dc_HillsReader_read_254 : decode cd_HillsReader_read 254 = .ok (.aload_n 0, 1) := by decide +kernel
theorem dc_HillsReader_read_255 : decode cd_HillsReader_read 255 = .ok (.invokevirtual 97, 3) := by decide +kernel
theorem dc_HillsReader_read_258 : decode cd_HillsReader_read 258 = .ok (.goto 11, 3) := by decide +kernel
theorem dc_HillsReader_read_261 : decode cd_HillsReader_read 261 = .ok (.aload_n 0, 1) := by decide +kernel
theorem dc_HillsReader_read_262 : decode cd_HillsReader_read 262 = .ok (.getfield 9, 3) := by decide +kernel
theorem dc_HillsReader_read_265 : decode cd_HillsReader_read 265 = .ok (.iconst 1, 1) := by decide +kernel
theorem dc_HillsReader_read_266 : decode cd_HillsReader_read 266 = .ok (.invokevirtual 100, 3) := by decide +kernel
theorem dc_HillsReader_read_269 : decode cd_HillsReader_read 269 = .ok (.istore_n 2, 1) := by decide +kernel
theorem dc_HillsReader_read_270 : decode cd_HillsReader_read 270 = .ok (.iinc 3 1, 3) := by decide +kernel
theorem dc_HillsReader_read_273 : decode cd_HillsReader_read 273 = .ok (.goto (-245), 3) := by decide +kernel
theorem dc_HillsReader_read_276 : decode cd_HillsReader_read 276 = .ok (.aload_n 0, 1) := by decide +kernel
theorem dc_HillsReader_read_277 : decode cd_HillsReader_read 277 = .ok (.getfield 15, 3) := by decide +kernel
theorem dc_HillsReader_read_280 : decode cd_HillsReader_read 280 = .ok (.invokevirtual 103, 3) := by decide +kernel
theorem dc_HillsReader_read_283 : decode cd_HillsReader_read 283 = .ok (.aload_n 0, 1) := by decide +kernel
theorem dc_HillsReader_read_284 : decode cd_HillsReader_read 284 = .ok (.getfield 9, 3) := by decide +kernel
theorem dc_HillsReader_read_287 : decode cd_HillsReader_read 287 = .ok (.invokevirtual 106, 3) := by decide +kernel
theorem dc_HillsReader_read_290 : decode cd_HillsReader_read 290 = .ok (.ireturn, 1) := by decide +kernel
theorem dc_Clock_hills_0 : decode cd_Clock_hills 0 = .ok (.aload_n 0, 1) := by decide +kernel
theorem dc_Clock_hills_1 : decode cd_Clock_hills 1 = .ok (.getfield 21, 3) := by decide +kernel
theorem dc_Clock_hills_4 : decode cd_Clock_hills 4 = .ok (.aload_n 0, 1) := by decide +kernel
theorem dc_Clock_hills_5 : decode cd_Clock_hills 5 = .ok (.getfield 32, 3) := by decide +kernel
theorem dc_Clock_hills_8 : decode cd_Clock_hills 8 = .ok (.invokevirtual 99, 3) := by decide +kernel
theorem dc_Clock_hills_11 : decode cd_Clock_hills 11 = .ok (.istore_n 1, 1) := by decide +kernel
theorem dc_Clock_hills_12 : decode cd_Clock_hills 12 = .ok (.iload_n 1, 1) := by decide +kernel
theorem dc_Clock_hills_13 : decode cd_Clock_hills 13 = .ok (.ifCond .ne 60, 3) := by decide +kernel
theorem dc_Clock_hills_16 : decode cd_Clock_hills 16 = .ok (.aload_n 0, 1) := by decide +kernel
theorem dc_Clock_hills_17 : decode cd_Clock_hills 17 = .ok (.getfield 32, 3) := by decide +kernel
theorem dc_Clock_hills_20 : decode cd_Clock_hills 20 = .ok (.astore_n 2, 1) := by decide +kernel
theorem dc_Clock_hills_21 : decode cd_Clock_hills 21 = .ok (.aload_n 0, 1) := by decide +kernel
theorem dc_Clock_hills_22 : decode cd_Clock_hills 22 = .ok (.aload_n 0, 1) := by decide +kernel
theorem dc_Clock_hills_23 : decode cd_Clock_hills 23 = .ok (.getfield 28, 3) := by decide +kernel
theorem dc_Clock_hills_26 : decode cd_Clock_hills 26 = .ok (.putfield 32, 3) := by decide +kernel
theorem dc_Clock_hills_29 : decode cd_Clock_hills 29 = .ok (.aload_n 0, 1) := by decide +kernel
theorem dc_Clock_hills_30 : decode cd_Clock_hills 30 = .ok (.aload_n 2, 1) := by decide +kernel
theorem dc_Clock_hills_31 : decode cd_Clock_hills 31 = .ok (.putfield 28, 3) := by decide +kernel
theorem dc_Clock_hills_34 : decode cd_Clock_hills 34 = .ok (.aload_n 0, 1) := by decide +kernel
theorem dc_Clock_hills_35 : decode cd_Clock_hills 35 = .ok (.getfield 45, 3) := by decide +kernel
theorem dc_Clock_hills_38 : decode cd_Clock_hills 38 = .ok (.aload_n 0, 1) := by decide +kernel
theorem dc_Clock_hills_39 : decode cd_Clock_hills 39 = .ok (.getfield 28, 3) := by decide +kernel
theorem dc_Clock_hills_42 : decode cd_Clock_hills 42 = .ok (.invokevirtual 103, 3) := by decide +kernel
theorem dc_Clock_hills_45 : decode cd_Clock_hills 45 = .ok (.aload_n 0, 1) := by decide +kernel
theorem dc_Clock_hills_46 : decode cd_Clock_hills 46 = .ok (.iconst 0, 1) := by decide +kernel
theorem dc_Clock_hills_47 : decode cd_Clock_hills 47 = .ok (.putfield 107, 3) := by decide +kernel
theorem dc_Clock_hills_50 : decode cd_Clock_hills 50 = .ok (.iconst 0, 1) := by decide +kernel
theorem dc_Clock_hills_51 : decode cd_Clock_hills 51 = .ok (.istore_n 3, 1) := by decide +kernel
theorem dc_Clock_hills_52 : decode cd_Clock_hills 52 = .ok (.iload_n 3, 1) := by decide +kernel
theorem dc_Clock_hills_53 : decode cd_Clock_hills 53 = .ok (.iconst 4, 1) := by decide +kernel
theorem dc_Clock_hills_54 : decode cd_Clock_hills 54 = .ok (.if_icmp .ge 19, 3) := by decide +kernel
theorem dc_Clock_hills_57 : decode cd_Clock_hills 57 = .ok (.aload_n 0, 1) := by decide +kernel
theorem dc_Clock_hills_58 : decode cd_Clock_hills 58 = .ok (.getfield 49, 3) := by decide +kernel
theorem dc_Clock_hills_61 : decode cd_Clock_hills 61 = .ok (.iload_n 3, 1) := by decide +kernel
theorem dc_Clock_hills_62 : decode cd_Clock_hills 62 = .ok (.aaload, 1) := by decide +kernel
theorem dc_Clock_hills_63 : decode cd_Clock_hills 63 = .ok (.iconst 0, 1) := by decide +kernel
theorem dc_Clock_hills_64 : decode cd_Clock_hills 64 = .ok (.putfield 110, 3) := by decide +kernel
theorem dc_Clock_hills_67 : decode cd_Clock_hills 67 = .ok (.iinc 3 1, 3) := by decide +kernel
theorem dc_Clock_hills_70 : decode cd_Clock_hills 70 = .ok (.goto (-18), 3) := by decide +kernel
theorem dc_Clock_hills_73 : decode cd_Clock_hills 73 = .ok (.iload_n 1, 1) := by decide +kernel
theorem dc_Clock_hills_74 : decode cd_Clock_hills 74 = .ok (.ireturn, 1) := by decide +kernel
